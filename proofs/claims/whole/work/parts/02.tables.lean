/-! methods, calls, fields, constants and throw sites of the class, the reference and the law, as lists: by program out of the printed names and the tables -/
abbrev xME : Type := Nat × MethodName × ByteArray × Nat × Option FieldType × Nat × Bool × List (Nat × Nat × Nat × Nat)
def xm0 : List xME := [
  (9, yX9_init, cX9_init, 2, none, 0, true, []),
  (5, yX5_init, cX5_init, 2, none, 0, true, []),
  (1, yX1_init, cX1_init, 1, none, 0, true, []),
  (6, yX6_init, cX6_init, 1, none, 0, true, []),
  (7, yX7_init, cX7_init, 1, none, 0, true, []),
  (0, yX0_init, cX0_init, 1, none, 0, true, []),
  (8, yX8_init, cX8_init, 1, none, 0, true, []),
  (3, yX3_init, cX3_init, 1, none, 0, true, []),
  (4, yX4_init, cX4_init, 1, none, 0, true, []),
  (2, yX2_init, cX2_init, 1, none, 0, true, []),
  (9, yX9_records, cX9_records, 1, some .int, 0, true, []),
  (9, yX9_clearText, cX9_clearText, 2, some .int, 0, true, []),
  (9, yX9_tables, cX9_tables, 3, some .int, 0, true, []),
  (9, yX9_freeBytes, cX9_freeBytes, 4, some .int, 1, true, []),
  (9, yX9_freeFrom, cX9_freeFrom, 5, some .int, 1, true, []),
  (13, yJ9_max_7cf53, cJ9_max_7cf53, 2, some .int, 2, false, []),
  (13, yJ9_min_7cf53, cJ9_min_7cf53, 2, some .int, 2, false, []),
  (9, yX9_compact, cX9_compact, 6, some .int, 0, true, []),
  (9, yX9_save, cX9_save, 1, none, 0, true, []),
  (5, yX5_copyFrom, cX5_copyFrom, 3, none, 1, true, []),
  (1, yX1_copyFrom, cX1_copyFrom, 3, none, 1, true, []),
  (1, yX1_add, cX1_add, 4, none, 3, true, []),
  (6, yX6_copyFrom, cX6_copyFrom, 2, none, 1, true, []),
  (9, yX9_firstTableFrom, cX9_firstTableFrom, 5, some (.object "RecordLayouts$Table"), 1, true, []),
  (9, yX9_roundUp, cX9_roundUp, 2, some .int, 2, false, []),
  (9, yX9_copyMemory, cX9_copyMemory, 5, none, 3, true, []),
  (9, yX9_digest, cX9_digest, 5, some .long, 0, true, []),
  (9, yX9_hashRecord, cX9_hashRecord, 8, some .long, 2, true, []),
  (9, yX9_recordNumber, cX9_recordNumber, 4, some .int, 2, true, []),
  (4, yX4_size, cX4_size, 1, some .int, 0, true, []),
  (9, yX9_isInUse, cX9_isInUse, 3, some .boolean, 1, true, []),
  (1, yX1_hasType, cX1_hasType, 3, some .boolean, 1, true, []),
  (9, yX9_fieldNumber, cX9_fieldNumber, 6, some .int, 3, true, []),
  (9, yX9_tableNumber, cX9_tableNumber, 4, some .int, 2, true, []),
  (11, yL_newRecord, cL_newRecord, 4, some .int, 3, false, [(0, 9, 12, 13), (0, 9, 15, 15)]),
  (9, yX9_newRecord, cX9_newRecord, 3, some .int, 1, true, []),
  (9, yX9_checkPack, cX9_checkPack, 1, none, 1, false, []),
  (9, yX9_checkRecordRoom, cX9_checkRecordRoom, 1, none, 0, true, []),
  (1, yX1_start, cX1_start, 2, none, 1, true, []),
  (9, yX9_buildShape, cX9_buildShape, 3, none, 1, true, [])]
def xm1 : List xME := [
  (4, yX4_clear, cX4_clear, 1, none, 0, true, []),
  (9, yX9_placeField, cX9_placeField, 4, none, 2, true, []),
  (9, yX9_shapeOfType, cX9_shapeOfType, 3, some (.object "RecordLayouts$Shape"), 1, true, []),
  (4, yX4_place, cX4_place, 7, none, 3, true, []),
  (9, yX9_bytesOfType, cX9_bytesOfType, 1, some .int, 1, false, []),
  (9, yX9_isPlain, cX9_isPlain, 1, some .boolean, 1, false, []),
  (9, yX9_isBits, cX9_isBits, 1, some .boolean, 1, false, []),
  (4, yX4_placeBits, cX4_placeBits, 3, none, 2, true, []),
  (4, yX4_placeElements, cX4_placeElements, 3, none, 2, true, []),
  (9, yX9_pathOf, cX9_pathOf, 6, some .long, 4, false, []),
  (2, yX2_add, cX2_add, 7, none, 5, true, []),
  (4, yX4_addInnerLeaves, cX4_addInnerLeaves, 7, none, 4, true, []),
  (11, yL_addField, cL_addField, 7, some .int, 6, false, [(0, 14, 17, 21), (0, 14, 21, 13), (0, 14, 25, 15)]),
  (9, yX9_addField, cX9_addField, 7, some .int, 4, true, []),
  (9, yX9_checkRecord, cX9_checkRecord, 2, none, 1, true, []),
  (1, yX1_hasName, cX1_hasName, 3, some .boolean, 1, true, []),
  (9, yX9_canBeTypeIn, cX9_canBeTypeIn, 4, some .boolean, 2, true, []),
  (9, yX9_leavesOfType, cX9_leavesOfType, 3, some .int, 1, true, []),
  (11, yL_recordInfo, cL_recordInfo, 5, some .int, 4, false, [(0, 10, 13, 21), (0, 10, 17, 13)]),
  (9, yX9_recordInfo, cX9_recordInfo, 3, some .int, 2, true, []),
  (9, yX9_checkWhat, cX9_checkWhat, 2, none, 2, false, []),
  (11, yL_fieldInfo, cL_fieldInfo, 6, some .int, 5, false, [(0, 12, 15, 21), (0, 12, 19, 13)]),
  (9, yX9_fieldInfo, cX9_fieldInfo, 4, some .int, 3, true, []),
  (11, yL_leafInfo, cL_leafInfo, 6, some .int, 5, false, [(0, 12, 15, 21), (0, 12, 19, 13)]),
  (9, yX9_leafInfo, cX9_leafInfo, 5, some .int, 3, true, []),
  (9, yX9_checkLeafOfRecord, cX9_checkLeafOfRecord, 3, none, 2, true, []),
  (11, yL_pathByte, cL_pathByte, 6, some .int, 5, false, [(0, 12, 15, 21)]),
  (9, yX9_pathByte, cX9_pathByte, 4, some .int, 3, true, []),
  (9, yX9_signOfPath, cX9_signOfPath, 9, some .int, 2, false, []),
  (9, yX9_signOfLevel, cX9_signOfLevel, 2, some .int, 2, false, []),
  (11, yL_findLeaf, cL_findLeaf, 4, some .int, 3, false, [(0, 9, 12, 21)]),
  (9, yX9_findLeaf, cX9_findLeaf, 4, some .int, 1, true, []),
  (9, yX9_isText, cX9_isText, 4, some .boolean, 1, true, []),
  (7, yX7_signAt, cX7_signAt, 2, some .int, 1, true, []),
  (11, yL_bestSize, cL_bestSize, 4, some .int, 3, false, [(0, 9, 12, 21)]),
  (9, yX9_bestSize, cX9_bestSize, 2, some .int, 1, true, []),
  (9, yX9_searchBest, cX9_searchBest, 2, none, 1, true, []),
  (0, yX0_search, cX0_search, 4, none, 2, true, []),
  (0, yX0_fillNeeds, cX0_fillNeeds, 4, none, 0, true, []),
  (0, yX0_hasBits, cX0_hasBits, 3, some .boolean, 1, true, [])]
def xm2 : List xME := [
  (0, yX0_leastNeed, cX0_leastNeed, 6, some .int, 2, true, []),
  (0, yX0_needAfter, cX0_needAfter, 4, some .int, 3, true, []),
  (0, yX0_leftAfter, cX0_leftAfter, 3, some .int, 2, true, []),
  (0, yX0_fits, cX0_fits, 3, some .boolean, 2, true, []),
  (0, yX0_choose, cX0_choose, 7, none, 0, true, []),
  (11, yL_bestOrder, cL_bestOrder, 5, some .int, 4, false, [(0, 10, 13, 21)]),
  (9, yX9_bestOrder, cX9_bestOrder, 3, some .int, 2, true, []),
  (11, yL_append, cL_append, 4, some .int, 3, false, [(0, 9, 12, 13), (0, 9, 15, 15)]),
  (9, yX9_append, cX9_append, 2, some .int, 1, true, []),
  (7, yX7_add, cX7_add, 2, none, 1, true, []),
  (11, yL_define, cL_define, 4, some .int, 3, false, [(0, 9, 12, 13), (0, 9, 15, 15)]),
  (9, yX9_define, cX9_define, 4, some .int, 1, true, []),
  (7, yX7_readDefinition, cX7_readDefinition, 4, some .int, 2, true, []),
  (7, yX7_readField, cX7_readField, 6, some .boolean, 2, true, []),
  (7, yX7_takes, cX7_takes, 2, some .boolean, 1, true, []),
  (7, yX7_readType, cX7_readType, 3, some .int, 2, true, []),
  (7, yX7_readSize, cX7_readSize, 3, some .int, 1, true, []),
  (7, yX7_readRecord, cX7_readRecord, 4, some .int, 2, true, []),
  (7, yX7_digit, cX7_digit, 2, some .int, 0, true, []),
  (7, yX7_readWidth, cX7_readWidth, 3, some .int, 0, true, []),
  (7, yX7_readCount, cX7_readCount, 3, some .int, 1, true, []),
  (11, yL_newTable, cL_newTable, 7, some .int, 6, false, [(0, 14, 17, 21), (0, 14, 21, 13), (0, 14, 25, 15)]),
  (9, yX9_newTable, cX9_newTable, 8, some .int, 4, true, []),
  (9, yX9_checkLayout, cX9_checkLayout, 1, none, 1, false, []),
  (9, yX9_checkOrder, cX9_checkOrder, 1, none, 1, false, []),
  (9, yX9_checkHasFields, cX9_checkHasFields, 2, none, 1, true, []),
  (9, yX9_firstFreeTable, cX9_firstFreeTable, 2, some .int, 0, true, []),
  (8, yX8_layOut, cX8_layOut, 6, none, 3, true, []),
  (9, yX9_findRoom, cX9_findRoom, 3, some .int, 1, true, []),
  (9, yX9_clearMemory, cX9_clearMemory, 5, none, 2, true, []),
  (11, yL_removeTable, cL_removeTable, 4, some .int, 3, false, [(0, 9, 12, 21)]),
  (9, yX9_removeTable, cX9_removeTable, 2, some .int, 1, true, []),
  (9, yX9_checkTable, cX9_checkTable, 2, none, 1, true, []),
  (11, yL_tableInfo, cL_tableInfo, 5, some .int, 4, false, [(0, 10, 13, 21), (0, 10, 17, 13)]),
  (9, yX9_tableInfo, cX9_tableInfo, 3, some .int, 2, true, []),
  (11, yL_address, cL_address, 6, some .int, 5, false, [(0, 12, 15, 21)]),
  (9, yX9_address, cX9_address, 4, some .int, 3, true, []),
  (9, yX9_checkPlace, cX9_checkPlace, 4, none, 3, true, []),
  (9, yX9_checkRow, cX9_checkRow, 3, none, 2, true, []),
  (9, yX9_checkLeafOfTable, cX9_checkLeafOfTable, 3, none, 2, true, [])]
def xm3 : List xME := [
  (9, yX9_openView, cX9_openView, 3, none, 1, true, []),
  (8, yX8_moveTo, cX8_moveTo, 3, none, 2, true, []),
  (8, yX8_placeOf, cX8_placeOf, 3, some .int, 2, true, []),
  (8, yX8_hasLeaf, cX8_hasLeaf, 2, some .boolean, 1, true, []),
  (11, yL_get, cL_get, 6, some .int, 5, false, [(0, 11, 14, 21)]),
  (9, yX9_get, cX9_get, 4, some .long, 3, true, []),
  (8, yX8_read, cX8_read, 7, some .long, 3, true, []),
  (8, yX8_rawAt, cX8_rawAt, 8, some .long, 3, true, []),
  (8, yX8_maskOf, cX8_maskOf, 1, some .long, 1, false, []),
  (11, yL_set, cL_set, 8, some .int, 6, false, [(0, 13, 16, 21)]),
  (9, yX9_set, cX9_set, 8, some .long, 4, true, []),
  (8, yX8_write, cX8_write, 12, none, 4, true, []),
  (8, yX8_putRaw, cX8_putRaw, 8, none, 4, true, []),
  (11, yL_memory, cL_memory, 4, some .int, 3, false, [(0, 9, 12, 21)]),
  (9, yX9_memory, cX9_memory, 2, some .int, 1, true, []),
  (9, yX9_checkAddress, cX9_checkAddress, 1, none, 1, false, []),
  (11, yL_poke, cL_poke, 5, some .int, 4, false, [(0, 10, 13, 21), (0, 10, 17, 13)]),
  (9, yX9_poke, cX9_poke, 4, some .int, 2, true, []),
  (11, yL_convert, cL_convert, 6, some .int, 5, false, [(0, 12, 15, 21), (0, 12, 19, 13), (0, 12, 23, 15)]),
  (9, yX9_convert, cX9_convert, 4, some .int, 3, true, []),
  (9, yX9_rewrite, cX9_rewrite, 8, some .int, 4, true, []),
  (9, yX9_copyLeaves, cX9_copyLeaves, 7, some .int, 2, true, []),
  (2, yX2_withPath, cX2_withPath, 4, some .int, 1, true, []),
  (11, yL_migrate, cL_migrate, 6, some .int, 5, false, [(0, 12, 15, 21), (0, 12, 19, 13), (0, 12, 23, 15)]),
  (9, yX9_migrate, cX9_migrate, 4, some .int, 3, true, []),
  (11, yL_sort, cL_sort, 6, some .int, 5, false, [(0, 12, 15, 21)]),
  (9, yX9_sort, cX9_sort, 6, some .int, 3, true, []),
  (9, yX9_orderRows, cX9_orderRows, 7, none, 2, true, []),
  (9, yX9_reorderColumn, cX9_reorderColumn, 3, none, 1, true, []),
  (11, yL_fill, cL_fill, 9, some .int, 6, false, [(0, 14, 17, 21)]),
  (9, yX9_fill, cX9_fill, 8, some .int, 4, true, []),
  (11, yL_copyRow, cL_copyRow, 6, some .int, 5, false, [(0, 12, 15, 21)]),
  (9, yX9_copyRow, cX9_copyRow, 8, some .int, 3, true, []),
  (11, yL_count, cL_count, 8, some .int, 6, false, [(0, 14, 17, 21), (0, 14, 21, 13)]),
  (9, yX9_count, cX9_count, 11, some .int, 4, true, []),
  (11, yL_findRow, cL_findRow, 8, some .int, 6, false, [(0, 14, 17, 21)]),
  (9, yX9_findRow, cX9_findRow, 7, some .int, 4, true, []),
  (11, yL_sum, cL_sum, 5, some .int, 4, false, [(0, 9, 12, 21)]),
  (9, yX9_sum, cX9_sum, 6, some .long, 2, true, []),
  (11, yL_lines, cL_lines, 9, some .int, 7, false, [(0, 17, 20, 21), (0, 17, 24, 13)])]
def xm4 : List xME := [
  (9, yX9_lines, cX9_lines, 7, some .int, 5, true, []),
  (9, yX9_checkRows, cX9_checkRows, 4, none, 3, true, []),
  (9, yX9_checkLine, cX9_checkLine, 1, none, 1, false, []),
  (8, yX8_markScan, cX8_markScan, 11, none, 5, true, []),
  (3, yX3_clear, cX3_clear, 1, none, 0, true, []),
  (14, yJ7_fill_d0a16, cJ7_fill_d0a16, 5, none, 2, false, []),
  (3, yX3_mark, cX3_mark, 2, none, 1, true, []),
  (3, yX3_total, cX3_total, 3, some .int, 0, true, []),
  (12, yJ13_bitCount_95d88, cJ13_bitCount_95d88, 2, some .int, 1, false, []),
  (11, yL_runs, cL_runs, 8, some .int, 6, false, [(0, 15, 18, 21), (0, 15, 22, 13)]),
  (9, yX9_runs, cX9_runs, 6, some .int, 4, true, []),
  (3, yX3_sequences, cX3_sequences, 5, some .int, 0, true, []),
  (11, yL_bestLayout, cL_bestLayout, 7, some .int, 5, false, [(0, 13, 16, 21), (0, 13, 20, 13)]),
  (9, yX9_bestLayout, cX9_bestLayout, 9, some .int, 3, true, []),
  (11, yL_undo, cL_undo, 3, some .int, 2, false, [(0, 8, 11, 15)]),
  (9, yX9_undo, cX9_undo, 2, some .int, 0, true, []),
  (10, yX10_init, cX10_init, 2, none, 0, true, []),
  (10, yX10_thrown, cX10_thrown, 1, some .int, 0, true, []),
  (10, yX10_undo, cX10_undo, 2, some .int, 0, true, []),
  (10, yX10_refused, cX10_refused, 2, some .boolean, 1, true, []),
  (10, yX10_newRecord, cX10_newRecord, 2, some .int, 1, true, []),
  (10, yX10_isPack, cX10_isPack, 1, some .boolean, 1, false, []),
  (10, yX10_saves, cX10_saves, 2, none, 0, true, []),
  (10, yX10_creates, cX10_creates, 2, none, 1, true, []),
  (10, yX10_record, cX10_record, 1, some .int, 1, false, []),
  (10, yX10_addField, cX10_addField, 8, some .int, 4, true, []),
  (10, yX10_isRecord, cX10_isRecord, 2, some .boolean, 1, true, []),
  (10, yX10_within, cX10_within, 3, some .boolean, 3, false, []),
  (10, yX10_hasName, cX10_hasName, 5, some .boolean, 2, true, []),
  (10, yX10_fieldsOf, cX10_fieldsOf, 2, some .int, 1, true, []),
  (10, yX10_field, cX10_field, 2, some .int, 2, false, []),
  (10, yX10_isTypeOf, cX10_isTypeOf, 3, some .boolean, 2, true, []),
  (10, yX10_isBits, cX10_isBits, 1, some .boolean, 1, false, []),
  (10, yX10_lays, cX10_lays, 4, none, 0, true, []),
  (10, yX10_inOrder, cX10_inOrder, 2, none, 0, true, []),
  (10, yX10_places, cX10_places, 13, some .int, 1, true, []),
  (10, yX10_naturalAlign, cX10_naturalAlign, 2, some .int, 1, true, []),
  (10, yX10_bytesOf, cX10_bytesOf, 1, some .int, 1, false, []),
  (10, yX10_up, cX10_up, 2, some .int, 2, false, []),
  (10, yX10_elementSize, cX10_elementSize, 2, some .int, 1, true, [])]
def xm5 : List xME := [
  (10, yX10_addsLeaves, cX10_addsLeaves, 11, none, 3, true, []),
  (10, yX10_adds, cX10_adds, 4, none, 2, true, []),
  (10, yX10_isUsed, cX10_isUsed, 5, some .boolean, 1, true, []),
  (10, yX10_appends, cX10_appends, 6, none, 4, true, []),
  (10, yX10_records, cX10_records, 1, some .int, 0, true, []),
  (10, yX10_recordInfo, cX10_recordInfo, 3, some .int, 2, true, []),
  (10, yX10_recordBy, cX10_recordBy, 3, some .int, 2, true, []),
  (10, yX10_filled, cX10_filled, 5, some .int, 1, true, []),
  (10, yX10_fieldInfo, cX10_fieldInfo, 5, some .int, 3, true, []),
  (10, yX10_fieldBy, cX10_fieldBy, 4, some .int, 3, true, []),
  (10, yX10_leafInfo, cX10_leafInfo, 6, some .int, 3, true, []),
  (10, yX10_isLeaf, cX10_isLeaf, 3, some .boolean, 2, true, []),
  (10, yX10_pathByte, cX10_pathByte, 5, some .int, 3, true, []),
  (10, yX10_need, cX10_need, 2, some .int, 1, true, []),
  (10, yX10_findLeaf, cX10_findLeaf, 6, some .int, 1, true, []),
  (10, yX10_bestSize, cX10_bestSize, 2, some .int, 1, true, []),
  (10, yX10_laysBest, cX10_laysBest, 6, some .int, 1, true, []),
  (10, yX10_turns, cX10_turns, 6, some .boolean, 1, true, []),
  (10, yX10_swaps, cX10_swaps, 4, none, 2, true, []),
  (10, yX10_bestOrder, cX10_bestOrder, 3, some .int, 2, true, []),
  (10, yX10_append, cX10_append, 2, some .int, 1, true, []),
  (10, yX10_clearText, cX10_clearText, 2, some .int, 0, true, []),
  (10, yX10_define, cX10_define, 4, some .int, 1, true, []),
  (10, yX10_reads, cX10_reads, 3, some .int, 0, true, []),
  (10, yX10_readsField, cX10_readsField, 9, some .int, 1, true, []),
  (10, yX10_letter, cX10_letter, 2, some .int, 1, true, []),
  (10, yX10_readsType, cX10_readsType, 6, some .int, 1, true, []),
  (10, yX10_plain, cX10_plain, 3, some .int, 2, true, []),
  (10, yX10_newTable, cX10_newTable, 9, some .int, 4, true, []),
  (10, yX10_isTable, cX10_isTable, 2, some .boolean, 1, true, []),
  (10, yX10_bytesFor, cX10_bytesFor, 4, some .int, 3, true, []),
  (10, yX10_block, cX10_block, 3, some .int, 2, true, []),
  (10, yX10_column, cX10_column, 7, some .int, 3, true, []),
  (10, yX10_room, cX10_room, 3, some .int, 1, true, []),
  (10, yX10_freeFrom, cX10_freeFrom, 3, some .int, 1, true, []),
  (10, yX10_isTaken, cX10_isTaken, 4, some .boolean, 1, true, []),
  (10, yX10_of, cX10_of, 3, some .int, 2, true, []),
  (10, yX10_stands, cX10_stands, 9, none, 6, true, []),
  (10, yX10_removeTable, cX10_removeTable, 2, some .int, 1, true, []),
  (10, yX10_tables, cX10_tables, 1, some .int, 0, true, [])]
def xm6 : List xME := [
  (10, yX10_tableSet, cX10_tableSet, 3, some .int, 0, true, []),
  (10, yX10_tableInfo, cX10_tableInfo, 3, some .int, 2, true, []),
  (10, yX10_address, cX10_address, 4, some .int, 3, true, []),
  (10, yX10_hasLeaf, cX10_hasLeaf, 3, some .boolean, 2, true, []),
  (10, yX10_isRow, cX10_isRow, 3, some .boolean, 2, true, []),
  (10, yX10_addressOf, cX10_addressOf, 4, some .int, 3, true, []),
  (10, yX10_distance, cX10_distance, 7, some .int, 5, true, []),
  (10, yX10_get, cX10_get, 4, some .long, 3, true, []),
  (10, yX10_value, cX10_value, 7, some .long, 3, true, []),
  (10, yX10_taken, cX10_taken, 8, some .long, 3, true, []),
  (10, yX10_lowest, cX10_lowest, 3, some .int, 2, true, []),
  (10, yX10_set, cX10_set, 8, some .long, 4, true, []),
  (10, yX10_writes, cX10_writes, 13, none, 4, true, []),
  (10, yX10_puts, cX10_puts, 8, none, 4, true, []),
  (10, yX10_memory, cX10_memory, 2, some .int, 1, true, []),
  (10, yX10_poke, cX10_poke, 4, some .int, 2, true, []),
  (10, yX10_freeBytes, cX10_freeBytes, 5, some .int, 1, true, []),
  (10, yX10_convert, cX10_convert, 9, some .int, 3, true, []),
  (10, yX10_takes, cX10_takes, 4, none, 1, true, []),
  (10, yX10_migrate, cX10_migrate, 12, some .int, 3, true, []),
  (10, yX10_samePath, cX10_samePath, 9, some .int, 3, true, []),
  (10, yX10_compact, cX10_compact, 9, some .int, 0, true, []),
  (10, yX10_sort, cX10_sort, 12, some .int, 3, true, []),
  (10, yX10_fill, cX10_fill, 8, some .int, 4, true, []),
  (10, yX10_copyRow, cX10_copyRow, 6, some .int, 3, true, []),
  (10, yX10_count, cX10_count, 10, some .int, 4, true, []),
  (10, yX10_findRow, cX10_findRow, 7, some .int, 4, true, []),
  (10, yX10_sum, cX10_sum, 6, some .long, 2, true, []),
  (10, yX10_lines, cX10_lines, 8, some .int, 5, true, []),
  (10, yX10_isLine, cX10_isLine, 1, some .boolean, 1, false, []),
  (10, yX10_marksScan, cX10_marksScan, 13, some .int, 7, true, []),
  (10, yX10_marked, cX10_marked, 6, some .int, 1, true, []),
  (10, yX10_runs, cX10_runs, 10, some .int, 4, true, []),
  (10, yX10_bestLayout, cX10_bestLayout, 9, some .int, 3, true, []),
  (10, yX10_digest, cX10_digest, 4, some .long, 0, true, []),
  (10, yX10_mix, cX10_mix, 3, none, 1, true, []),
  (11, yL_law, cL_law, 8, some .boolean, 1, false, [])]
def xme (mi : Nat) : Option xME := if mi < 40 then xm0[mi - 0]? else if mi < 80 then xm1[mi - 40]? else if mi < 120 then xm2[mi - 80]? else if mi < 160 then xm3[mi - 120]? else if mi < 200 then xm4[mi - 160]? else if mi < 240 then xm5[mi - 200]? else if mi < 280 then xm6[mi - 240]? else none
def xclsN (o : Nat) : String := match o with
  | 0 => RX0
  | 1 => RX1
  | 2 => RX2
  | 3 => RX3
  | 4 => RX4
  | 5 => RX5
  | 6 => RX6
  | 7 => RX7
  | 8 => RX8
  | 9 => RX9
  | 10 => RX10
  | 11 => RL
  | 12 => RJ13
  | 13 => RJ9
  | 14 => RJ7
  | _ => ""
/-- calls: pool index, kind (0 virtual, 1 static, 2 <init>, 4 static of a nest mate, 5 <init> of a nest mate), the method, where its words stand -/
def xct (o : Nat) : List (Nat × Nat × Nat × List Nat) := match o with
  | 0 => [(46, 4, 46, [850, 708, 109, 709]), (50, 0, 78, [851, 853, 23, 114, 854]), (56, 4, 24, [876, 531, 109, 532]), (63, 0, 84, [878, 880, 29, 114, 881]), (66, 0, 79, [855, 857, 24, 114, 858]), (69, 0, 80, [859, 861, 25, 114, 862]), (73, 0, 81, [864, 866, 26, 114, 867]), (77, 0, 83, [872, 874, 28, 114, 875]), (81, 1, 16, [877, 497, 126, 498]), (86, 0, 82, [868, 870, 27, 114, 871])]
  | 1 => [(28, 0, 21, [515, 516, 517, 111, 518])]
  | 3 => [(15, 1, 165, [1206, 1207, 128, 1208]), (21, 1, 168, [1217, 1218, 129, 1219])]
  | 4 => [(26, 5, 9, [355, 356, 118, 357]), (47, 4, 24, [555, 531, 109, 532]), (59, 4, 44, [696, 697, 109, 698]), (63, 0, 29, [704, 552, 553, 117, 554]), (70, 1, 16, [705, 497, 126, 498]), (75, 1, 15, [706, 494, 126, 495]), (78, 4, 46, [707, 708, 109, 709]), (82, 0, 47, [710, 712, 14, 117, 713]), (86, 0, 48, [714, 716, 15, 117, 717]), (92, 4, 49, [718, 719, 109, 720]), (96, 0, 50, [721, 722, 723, 118, 724]), (100, 0, 51, [725, 727, 16, 117, 728])]
  | 5 => [(27, 5, 2, [149, 150, 111, 151]), (28, 5, 3, [185, 186, 112, 187]), (33, 0, 20, [511, 512, 513, 111, 514]), (37, 0, 22, [519, 520, 521, 112, 522])]
  | 7 => [(11, 5, 2, [245, 150, 111, 151]), (32, 0, 38, [914, 673, 674, 111, 675]), (36, 0, 93, [915, 917, 30, 113, 918]), (40, 0, 73, [919, 832, 833, 113, 834]), (44, 0, 55, [920, 758, 759, 111, 760]), (51, 0, 94, [921, 923, 31, 113, 924]), (55, 0, 95, [925, 927, 32, 113, 928]), (59, 0, 100, [945, 947, 37, 113, 948]), (70, 0, 21, [950, 516, 517, 111, 518]), (74, 0, 96, [929, 931, 33, 113, 932]), (78, 0, 97, [933, 935, 34, 113, 936]), (81, 0, 99, [941, 943, 36, 113, 944]), (85, 0, 98, [937, 939, 35, 113, 940]), (88, 4, 46, [949, 708, 109, 709])]
  | 8 => [(44, 1, 15, [982, 494, 126, 495]), (51, 4, 44, [983, 697, 109, 698]), (58, 4, 24, [984, 531, 109, 532]), (62, 0, 29, [985, 552, 553, 117, 554]), (78, 0, 123, [1046, 1048, 47, 115, 1049]), (82, 0, 122, [1061, 1043, 1044, 115, 1045]), (85, 0, 127, [1062, 1064, 48, 115, 1065]), (89, 4, 46, [1066, 708, 109, 709]), (92, 1, 128, [1067, 1068, 115, 1069]), (98, 0, 132, [1082, 1084, 49, 115, 1085]), (102, 0, 164, [1202, 1203, 1204, 116, 1205]), (107, 0, 166, [1209, 1210, 1211, 116, 1212])]
  | 9 => [(9, 2, 1, [140, 141, 110, 142]), (28, 5, 4, [240, 241, 113, 242]), (35, 5, 5, [266, 267, 114, 268]), (46, 5, 6, [296, 297, 115, 298]), (56, 5, 7, [339, 340, 116, 341]), (69, 5, 8, [349, 350, 117, 351]), (70, 1, 36, [582, 583, 109, 584]), (74, 0, 37, [652, 654, 10, 109, 655]), (77, 0, 18, [503, 505, 1, 109, 506]), (87, 0, 38, [672, 673, 674, 111, 675]), (92, 0, 39, [676, 678, 11, 109, 679]), (95, 0, 54, [737, 739, 17, 109, 740]), (98, 0, 55, [757, 758, 759, 111, 760]), (109, 0, 56, [762, 764, 18, 109, 765]), (115, 1, 46, [766, 708, 109, 709]), (129, 0, 57, [769, 771, 19, 109, 772]), (134, 0, 30, [556, 558, 6, 109, 559]), (142, 0, 21, [774, 516, 517, 111, 518]), (146, 0, 41, [684, 686, 12, 109, 687]), (150, 1, 60, [782, 783, 109, 784]), (153, 0, 28, [547, 549, 5, 109, 550]), (162, 0, 32, [564, 566, 7, 109, 567]), (166, 0, 65, [801, 803, 20, 109, 804]), (184, 1, 68, [813, 814, 109, 815]), (188, 0, 72, [827, 829, 21, 109, 830]), (192, 0, 76, [842, 844, 22, 109, 845]), (210, 0, 89, [899, 900, 901, 113, 902]), (212, 0, 92, [910, 911, 912, 113, 913]), (220, 0, 20, [951, 512, 513, 111, 514]), (229, 1, 103, [960, 961, 109, 962]), (232, 1, 104, [964, 965, 109, 966]), (235, 0, 105, [968, 970, 38, 109, 971]), (238, 0, 106, [973, 975, 39, 109, 976]), (244, 0, 107, [978, 979, 980, 115, 981]), (251, 0, 108, [986, 988, 40, 109, 989]), (281, 0, 109, [991, 993, 41, 109, 994]), (284, 0, 112, [1002, 1004, 42, 109, 1005]), (287, 0, 33, [569, 571, 8, 109, 572]), (290, 0, 117, [1021, 1023, 43, 109, 1024]), (293, 0, 120, [1034, 1036, 46, 109, 1037]), (296, 0, 122, [1042, 1043, 1044, 115, 1045]), (303, 0, 126, [1057, 1058, 1059, 115, 1060]), (307, 0, 131, [1077, 1078, 1079, 115, 1080]), (311, 1, 135, [1093, 1094, 109, 1095]), (316, 0, 14, [489, 491, 0, 109, 492]), (319, 1, 15, [493, 494, 126, 495]), (324, 0, 140, [1112, 1114, 50, 109, 1115]), (328, 0, 23, [526, 528, 2, 109, 529]), (332, 1, 24, [530, 531, 109, 532]), (335, 0, 25, [533, 535, 3, 109, 536]), (338, 0, 119, [1030, 1032, 45, 109, 1033]), (341, 0, 147, [1138, 1140, 52, 109, 1141]), (347, 0, 148, [1142, 1144, 53, 109, 1145]), (351, 0, 118, [1025, 1027, 44, 109, 1028]), (356, 0, 161, [1189, 1191, 54, 109, 1192]), (359, 1, 162, [1194, 1195, 109, 1196]), (362, 0, 163, [1198, 1199, 1200, 115, 1201]), (366, 0, 167, [1213, 1214, 1215, 116, 1216]), (368, 0, 171, [1230, 1231, 1232, 116, 1233]), (371, 0, 121, [1038, 1039, 1040, 115, 1041]), (382, 0, 19, [507, 508, 509, 110, 510]), (387, 0, 27, [542, 544, 4, 109, 545]), (393, 0, 12, [568, 482, 483, 109, 484]), (421, 1, 45, [699, 700, 109, 701]), (427, 0, 42, [688, 690, 13, 109, 691]), (431, 0, 31, [560, 561, 562, 111, 563]), (434, 0, 40, [680, 681, 682, 117, 683]), (438, 0, 43, [692, 693, 694, 117, 695]), (442, 0, 77, [846, 847, 848, 114, 849]), (446, 0, 29, [551, 552, 553, 117, 554]), (466, 1, 69, [817, 818, 109, 819]), (469, 0, 73, [831, 832, 833, 113, 834]), (472, 1, 16, [496, 497, 126, 498]), (475, 0, 141, [1116, 1118, 51, 109, 1119]), (479, 0, 142, [1120, 1121, 1122, 118, 1123])]
  | 10 => [(84, 0, 179, [1355, 1357, 55, 119, 1358]), (88, 1, 187, [1385, 1386, 119, 1387]), (92, 1, 184, [1374, 1375, 119, 1376]), (96, 1, 197, [1422, 1423, 119, 1424]), (99, 0, 189, [1392, 1394, 60, 119, 1395]), (102, 1, 190, [1396, 1397, 119, 1398]), (106, 0, 196, [1418, 1420, 65, 119, 1421]), (109, 1, 192, [1403, 1404, 119, 1405]), (112, 1, 198, [1425, 1426, 119, 1427]), (115, 0, 199, [1428, 1430, 66, 119, 1431]), (118, 0, 201, [1436, 1438, 68, 119, 1439]), (122, 0, 194, [1410, 1412, 63, 119, 1413]), (125, 0, 195, [1414, 1416, 64, 119, 1417]), (128, 0, 200, [1432, 1434, 67, 119, 1435]), (132, 1, 181, [1363, 1364, 119, 1365]), (135, 0, 182, [1366, 1368, 56, 119, 1369]), (138, 0, 183, [1370, 1372, 57, 119, 1373]), (142, 0, 186, [1381, 1383, 58, 119, 1384]), (145, 0, 188, [1388, 1390, 59, 119, 1391]), (149, 0, 191, [1399, 1401, 61, 119, 1402]), (152, 0, 193, [1406, 1408, 62, 119, 1409]), (155, 0, 202, [1440, 1442, 69, 119, 1443]), (158, 0, 203, [1444, 1446, 70, 119, 1447]), (162, 0, 207, [1460, 1462, 72, 119, 1463]), (165, 0, 206, [1456, 1458, 71, 119, 1459]), (168, 0, 209, [1468, 1470, 73, 119, 1471]), (172, 0, 211, [1476, 1478, 74, 119, 1479]), (175, 0, 213, [1484, 1486, 75, 119, 1487]), (182, 0, 218, [1504, 1506, 78, 119, 1507]), (185, 0, 217, [1500, 1502, 77, 119, 1503]), (188, 0, 216, [1496, 1498, 76, 119, 1499]), (197, 0, 225, [1532, 1534, 81, 119, 1535]), (200, 0, 227, [1540, 1542, 83, 119, 1543]), (206, 0, 226, [1536, 1538, 82, 119, 1539]), (212, 0, 224, [1528, 1530, 80, 119, 1531]), (215, 0, 223, [1524, 1526, 79, 119, 1527]), (219, 0, 232, [1560, 1562, 87, 119, 1563]), (222, 0, 231, [1556, 1558, 86, 119, 1559]), (225, 0, 229, [1548, 1550, 84, 119, 1551]), (228, 0, 236, [1576, 1578, 91, 119, 1579]), (231, 0, 235, [1572, 1574, 90, 119, 1575]), (234, 0, 234, [1568, 1570, 89, 119, 1571]), (237, 0, 230, [1552, 1554, 85, 119, 1555]), (240, 0, 233, [1564, 1566, 88, 119, 1567]), (243, 0, 237, [1580, 1582, 92, 119, 1583]), (247, 0, 240, [1592, 1594, 93, 119, 1595]), (250, 0, 246, [1616, 1618, 97, 119, 1619]), (254, 0, 243, [1604, 1606, 94, 119, 1607]), (257, 0, 244, [1608, 1610, 95, 119, 1611]), (260, 0, 245, [1612, 1614, 96, 119, 1615]), (265, 0, 249, [1628, 1630, 99, 119, 1631]), (269, 0, 250, [1632, 1634, 100, 119, 1635]), (274, 0, 253, [1645, 1647, 102, 119, 1648]), (278, 0, 248, [1624, 1626, 98, 119, 1627]), (281, 0, 252, [1640, 1642, 101, 119, 1643]), (284, 0, 258, [1666, 1668, 103, 119, 1669]), (287, 0, 260, [1674, 1676, 104, 119, 1677]), (290, 1, 269, [1710, 1711, 119, 1712]), (293, 0, 270, [1713, 1715, 105, 119, 1716]), (297, 0, 271, [1717, 1719, 106, 119, 1720]), (308, 0, 275, [1734, 1736, 107, 119, 1737])]
  | 11 => [(7, 0, 35, [578, 579, 580, 109, 581]), (17, 0, 53, [733, 734, 735, 109, 736]), (23, 0, 59, [778, 779, 780, 109, 781]), (27, 0, 62, [789, 790, 791, 109, 792]), (31, 0, 64, [797, 798, 799, 109, 800]), (34, 0, 67, [809, 810, 811, 109, 812]), (37, 0, 71, [823, 824, 825, 109, 826]), (40, 0, 75, [838, 839, 840, 109, 841]), (43, 0, 86, [885, 886, 887, 109, 888]), (46, 0, 88, [893, 894, 895, 109, 896]), (49, 0, 91, [906, 907, 908, 109, 909]), (52, 0, 102, [955, 956, 957, 109, 958]), (55, 0, 111, [998, 999, 1000, 109, 1001]), (58, 0, 114, [1010, 1011, 1012, 109, 1013]), (61, 0, 116, [1017, 1018, 1019, 109, 1020]), (64, 0, 125, [1053, 1054, 1055, 109, 1056]), (68, 0, 130, [1073, 1074, 1075, 109, 1076]), (72, 0, 134, [1089, 1090, 1091, 109, 1092]), (75, 0, 137, [1100, 1101, 1102, 109, 1103]), (78, 0, 139, [1108, 1109, 1110, 109, 1111]), (81, 0, 144, [1127, 1128, 1129, 109, 1130]), (84, 0, 146, [1134, 1135, 1136, 109, 1137]), (88, 0, 150, [1149, 1150, 1151, 109, 1152]), (92, 0, 152, [1156, 1157, 1158, 109, 1159]), (95, 0, 154, [1163, 1164, 1165, 109, 1166]), (99, 0, 156, [1171, 1172, 1173, 109, 1174]), (103, 0, 158, [1178, 1179, 1180, 109, 1181]), (107, 0, 160, [1185, 1186, 1187, 109, 1188]), (111, 0, 170, [1226, 1227, 1228, 109, 1229]), (115, 0, 173, [1238, 1239, 1240, 109, 1241]), (119, 0, 175, [1245, 1246, 1247, 109, 1248]), (123, 2, 0, [132, 133, 109, 134]), (126, 2, 176, [1252, 1253, 119, 1254]), (127, 1, 34, [573, 574, 108, 575]), (132, 0, 180, [1359, 1360, 1361, 119, 1362]), (133, 0, 177, [1347, 1348, 1349, 119, 1350]), (136, 1, 52, [729, 730, 108, 731]), (139, 0, 185, [1377, 1378, 1379, 119, 1380]), (140, 0, 10, [473, 474, 475, 109, 476]), (143, 0, 204, [1448, 1449, 1450, 119, 1451]), (144, 1, 58, [775, 776, 108, 777]), (147, 0, 205, [1452, 1453, 1454, 119, 1455]), (148, 1, 61, [786, 787, 108, 788]), (151, 0, 208, [1464, 1465, 1466, 119, 1467]), (152, 1, 63, [794, 795, 108, 796]), (154, 0, 210, [1472, 1473, 1474, 119, 1475]), (155, 1, 66, [806, 807, 108, 808]), (157, 0, 212, [1480, 1481, 1482, 119, 1483]), (158, 1, 70, [820, 821, 108, 822]), (160, 0, 214, [1488, 1489, 1490, 119, 1491]), (161, 1, 74, [835, 836, 108, 837]), (163, 0, 215, [1492, 1493, 1494, 119, 1495]), (164, 1, 85, [882, 883, 108, 884]), (166, 0, 219, [1508, 1509, 1510, 119, 1511]), (167, 1, 87, [890, 891, 108, 892]), (169, 0, 220, [1512, 1513, 1514, 119, 1515]), (170, 0, 11, [477, 478, 479, 109, 480]), (173, 0, 221, [1516, 1517, 1518, 119, 1519]), (174, 1, 90, [903, 904, 108, 905]), (176, 0, 222, [1520, 1521, 1522, 119, 1523]), (177, 1, 101, [952, 953, 108, 954]), (179, 0, 228, [1544, 1545, 1546, 119, 1547]), (180, 1, 110, [995, 996, 108, 997]), (182, 0, 238, [1584, 1585, 1586, 119, 1587]), (183, 0, 12, [481, 482, 483, 109, 484]), (186, 0, 239, [1588, 1589, 1590, 119, 1591]), (187, 1, 113, [1007, 1008, 108, 1009]), (189, 0, 241, [1596, 1597, 1598, 119, 1599]), (190, 1, 115, [1014, 1015, 108, 1016]), (192, 0, 242, [1600, 1601, 1602, 119, 1603]), (193, 1, 124, [1050, 1051, 108, 1052]), (195, 0, 247, [1620, 1621, 1622, 119, 1623]), (198, 1, 129, [1070, 1071, 108, 1072]), (201, 0, 251, [1636, 1637, 1638, 119, 1639]), (202, 1, 133, [1086, 1087, 108, 1088]), (204, 0, 254, [1650, 1651, 1652, 119, 1653]), (205, 1, 136, [1097, 1098, 108, 1099]), (207, 0, 255, [1654, 1655, 1656, 119, 1657]), (208, 0, 13, [485, 486, 487, 109, 488]), (212, 0, 256, [1658, 1659, 1660, 119, 1661]), (213, 1, 138, [1105, 1106, 108, 1107]), (215, 0, 257, [1662, 1663, 1664, 119, 1665]), (216, 1, 143, [1124, 1125, 108, 1126]), (218, 0, 259, [1670, 1671, 1672, 119, 1673]), (219, 0, 17, [499, 500, 501, 109, 502]), (222, 0, 261, [1678, 1679, 1680, 119, 1681]), (223, 1, 145, [1131, 1132, 108, 1133]), (226, 0, 262, [1682, 1683, 1684, 119, 1685]), (227, 1, 149, [1146, 1147, 108, 1148]), (230, 0, 263, [1686, 1687, 1688, 119, 1689]), (231, 1, 151, [1153, 1154, 108, 1155]), (233, 0, 264, [1690, 1691, 1692, 119, 1693]), (234, 1, 153, [1160, 1161, 108, 1162]), (236, 0, 265, [1694, 1695, 1696, 119, 1697]), (237, 1, 155, [1168, 1169, 108, 1170]), (240, 0, 266, [1698, 1699, 1700, 119, 1701]), (241, 1, 157, [1175, 1176, 108, 1177]), (243, 0, 267, [1702, 1703, 1704, 119, 1705]), (244, 1, 159, [1182, 1183, 108, 1184]), (247, 0, 268, [1706, 1707, 1708, 119, 1709]), (248, 1, 169, [1223, 1224, 108, 1225]), (251, 0, 272, [1721, 1722, 1723, 119, 1724]), (252, 1, 172, [1235, 1236, 108, 1237]), (255, 0, 273, [1725, 1726, 1727, 119, 1728]), (256, 1, 174, [1242, 1243, 108, 1244]), (259, 0, 178, [1351, 1352, 1353, 119, 1354]), (260, 0, 26, [537, 538, 539, 109, 540]), (264, 0, 274, [1729, 1730, 1731, 119, 1732])]
  | _ => []
/-- fields: pool index, class, field, where its word stands -/
def xft (o : Nat) : List (Nat × Nat × Nat × Nat) := match o with
  | 0 => [(9, 0, 1, 272), (15, 0, 3, 275), (18, 0, 4, 276), (21, 0, 5, 277), (24, 0, 6, 278), (27, 1, 1, 156), (33, 0, 2, 274), (34, 1, 4, 168), (37, 4, 2, 399), (42, 4, 3, 402), (43, 1, 3, 164), (53, 4, 5, 408), (60, 0, 0, 270)]
  | 1 => [(9, 1, 0, 153), (15, 1, 2, 160), (19, 1, 3, 163), (22, 1, 4, 167), (25, 1, 1, 157)]
  | 2 => [(9, 2, 1, 364), (15, 2, 2, 368), (18, 2, 3, 372), (21, 2, 4, 376), (24, 2, 5, 378), (28, 2, 0, 359)]
  | 3 => [(11, 3, 0, 343)]
  | 4 => [(9, 4, 0, 394), (15, 4, 1, 396), (18, 4, 2, 398), (21, 4, 3, 401), (27, 4, 4, 403), (31, 4, 5, 407), (35, 2, 0, 360), (38, 4, 6, 410), (41, 4, 7, 412), (44, 4, 8, 413), (51, 1, 3, 165), (56, 1, 4, 169), (67, 1, 0, 154), (89, 1, 2, 161), (104, 2, 1, 366), (105, 2, 2, 370), (106, 2, 3, 374), (107, 2, 5, 379)]
  | 5 => [(11, 5, 1, 220), (19, 5, 2, 222), (23, 5, 3, 224), (29, 5, 0, 218)]
  | 6 => [(7, 6, 0, 189), (13, 6, 1, 191), (17, 6, 2, 193), (20, 6, 3, 195), (23, 6, 4, 197), (26, 6, 5, 199), (29, 6, 6, 201)]
  | 7 => [(12, 7, 1, 248), (18, 7, 2, 250), (22, 7, 0, 246), (26, 7, 3, 251), (29, 7, 4, 252), (48, 1, 1, 159), (62, 4, 4, 406), (67, 2, 0, 363)]
  | 8 => [(9, 8, 5, 308), (15, 8, 7, 310), (19, 8, 8, 311), (22, 8, 9, 312), (25, 8, 10, 313), (28, 8, 2, 302), (31, 4, 4, 404), (37, 2, 0, 361), (42, 8, 3, 304), (50, 2, 1, 365), (55, 2, 2, 369), (61, 2, 3, 373), (66, 8, 6, 309), (69, 8, 4, 306), (72, 8, 0, 300), (75, 8, 1, 301)]
  | 9 => [(10, 9, 0, 433), (18, 9, 1, 434), (22, 9, 2, 435), (29, 9, 5, 438), (36, 9, 6, 439), (40, 9, 7, 440), (47, 9, 8, 441), (51, 9, 9, 442), (57, 9, 10, 443), (61, 9, 11, 444), (65, 9, 12, 445), (80, 5, 0, 219), (83, 5, 1, 221), (120, 4, 4, 405), (124, 2, 0, 362), (133, 1, 1, 158), (169, 2, 1, 367), (172, 2, 2, 371), (175, 2, 3, 375), (178, 2, 4, 377), (181, 2, 5, 380), (195, 0, 0, 271), (200, 0, 1, 273), (205, 7, 0, 247), (216, 7, 1, 249), (224, 1, 0, 155), (248, 8, 4, 307), (256, 5, 2, 223), (260, 6, 0, 190), (266, 6, 1, 192), (269, 6, 2, 194), (272, 6, 3, 196), (275, 6, 4, 198), (277, 6, 5, 200), (280, 6, 6, 202), (299, 5, 3, 225), (345, 8, 3, 305), (350, 8, 2, 303), (374, 9, 4, 437), (379, 9, 3, 436), (437, 1, 3, 166), (448, 4, 5, 409), (451, 4, 6, 411), (454, 1, 2, 162), (457, 1, 4, 170), (460, 4, 0, 395), (461, 4, 1, 397), (462, 4, 2, 400)]
  | 10 => [(7, 10, 0, 1256), (13, 10, 1, 1257), (16, 10, 4, 1260), (19, 10, 6, 1262), (22, 10, 7, 1263), (25, 10, 8, 1264), (28, 10, 9, 1265), (31, 10, 10, 1266), (34, 10, 11, 1267), (37, 10, 12, 1268), (40, 10, 13, 1269), (43, 10, 14, 1270), (46, 10, 15, 1271), (49, 10, 16, 1272), (52, 10, 17, 1273), (55, 10, 18, 1274), (58, 10, 21, 1277), (61, 10, 22, 1278), (64, 10, 23, 1279), (67, 10, 26, 1282), (71, 10, 27, 1283), (74, 10, 28, 1284), (77, 10, 3, 1259), (81, 10, 2, 1258), (179, 10, 5, 1261), (191, 10, 19, 1275), (194, 10, 20, 1276), (203, 10, 24, 1280), (209, 10, 25, 1281), (302, 10, 29, 1285)]
  | _ => []
def xfk (c : Nat) : List Nat := match c with
  | 0 => [0, 3, 0, 3, 3, 3, 3]
  | 1 => [0, 0, 3, 3, 3]
  | 2 => [0, 3, 3, 3, 3, 3]
  | 3 => [3]
  | 4 => [3, 3, 3, 3, 3, 0, 0, 0, 0]
  | 5 => [0, 3, 3, 3]
  | 6 => [1, 0, 0, 0, 0, 0, 0]
  | 7 => [0, 3, 3, 0, 0]
  | 8 => [0, 0, 0, 0, 0, 0, 0, 3, 3, 3, 3]
  | 9 => [3, 3, 3, 0, 0, 3, 3, 0, 3, 3, 3, 3, 3]
  | 10 => [3, 3, 0, 0, 3, 0, 3, 3, 3, 3, 3, 3, 3, 3, 3, 3, 3, 3, 3, 0, 0, 3, 3, 3, 0, 0, 3, 3, 3, 2]
  | _ => []
def xoi (o : Nat) : Option (Nat × Nat × Nat × Nat) := match o with
  | 0 => some (3, 269, 136, 137)
  | 1 => some (3, 152, 136, 137)
  | 2 => some (3, 358, 136, 137)
  | 3 => some (3, 342, 136, 137)
  | 4 => some (3, 352, 136, 137)
  | 5 => some (3, 143, 136, 137)
  | 6 => some (1, 188, 136, 137)
  | 7 => some (3, 243, 136, 137)
  | 8 => some (3, 299, 136, 137)
  | 9 => some (1, 135, 136, 137)
  | 10 => some (1, 1255, 136, 137)
  | _ => none
/-- new: pool index, class, its words -/
def xnw (o : Nat) : List (Nat × Nat × Nat × Nat × Nat) := match o with
  | 4 => [(24, 2, 353, 354, 118)]
  | 5 => [(9, 1, 144, 148, 111), (17, 6, 146, 184, 112)]
  | 7 => [(9, 1, 244, 148, 111)]
  | 9 => [(7, 5, 138, 139, 110), (16, 4, 235, 348, 117), (26, 7, 238, 239, 113), (33, 0, 264, 265, 114), (44, 8, 294, 295, 115), (54, 3, 337, 338, 116)]
  | 11 => [(8, 9, 130, 131, 109), (124, 10, 1250, 1251, 119)]
  | _ => []
/-- anewarray: pool index, class, its words -/
def xna (o : Nat) : List (Nat × Nat × Nat × Nat) := match o with
  | 5 => [(9, 1, 144, 145), (17, 6, 146, 147)]
  | 9 => [(7, 5, 138, 237), (16, 4, 235, 236)]
  | _ => []
/-- long constants -/
def xkl (o : Nat) : List (Nat × Int64 × Nat) := match o with
  | 3 => [(27, -1, 1234)]
  | 8 => [(96, -1, 1081)]
  | 9 => [(385, 53723, 541), (391, 31, 546), (464, 255, 816)]
  | 10 => [(263, 255, 1649), (272, -1, 1644), (300, 31, 1738), (306, 1733, 1733)]
  | 11 => [(196, 4294967295, 1739)]
  | 12 => [(314, 6148914691236517205, 1220), (316, 3689348814741910323, 1221), (318, 1085102592571150095, 1222)]
  | _ => []
/-- int constants -/
def xki (o : Nat) : List (Nat × Int32 × Nat) := match o with
  | 0 => [(72, 1048576, 863)]
  | _ => []
/-- throw sites: method, pc, exception, length of the ldc, pool indices of the class, the text, the constructor; the text -/
def xth : List (Nat × Nat × Nat × Nat × Nat × Nat × Nat × String) := [
  (36, 21, 0, 3, 102, 395, 106, "there is no such pack"),
  (37, 12, 1, 3, 137, 397, 141, "there are all records already"),
  (53, 37, 0, 2, 102, 104, 106, "the name is out of range or taken"),
  (53, 56, 0, 2, 102, 113, 106, "no field of the record can have this type"),
  (53, 89, 0, 2, 102, 118, 106, "the count is out of range"),
  (53, 147, 1, 2, 137, 139, 141, "the record can take no such field"),
  (54, 15, 2, 3, 157, 399, 161, "there is no such record"),
  (60, 9, 0, 3, 102, 405, 106, "there is no such information"),
  (62, 25, 2, 2, 157, 159, 161, "there is no such field"),
  (65, 25, 2, 3, 157, 401, 161, "there is no such leaf"),
  (86, 25, 2, 2, 157, 198, 161, "there is no such position"),
  (88, 10, 0, 2, 102, 203, 106, "the value is no byte of a text"),
  (88, 32, 1, 2, 137, 208, 141, "the text is full"),
  (102, 16, 0, 2, 102, 227, 106, "the number of rows is out of range"),
  (102, 52, 1, 2, 137, 242, 141, "there are all tables already"),
  (102, 96, 1, 2, 137, 254, 141, "there is no room"),
  (103, 10, 0, 3, 102, 407, 106, "there is no such layout"),
  (104, 9, 0, 3, 102, 409, 106, "there is no such byte order"),
  (105, 16, 1, 3, 137, 403, 141, "the record has no fields"),
  (112, 24, 2, 3, 157, 411, 161, "there is no such table"),
  (118, 25, 2, 3, 157, 413, 161, "there is no such row"),
  (135, 11, 2, 3, 157, 419, 161, "there is no such address"),
  (137, 15, 0, 3, 102, 314, 106, "the value is no byte"),
  (140, 54, 1, 2, 137, 254, 141, "there is no room"),
  (154, 15, 0, 3, 102, 354, 106, "there is no such relation"),
  (161, 17, 0, 3, 102, 415, 106, "the first row is behind the last one"),
  (162, 18, 0, 3, 102, 417, 106, "there is no such size of a line"),
  (175, 8, 1, 3, 137, 377, 141, "no state is saved")]
def xen (k : Nat) : String := match k with
  | 0 => "java/lang/IllegalArgumentException"
  | 1 => "java/lang/IllegalStateException"
  | 2 => "java/lang/IndexOutOfBoundsException"
  | _ => ""
/-- classes that the law catches: pool index, exception, where its word stands -/
def xcc : List (Nat × Nat × Nat) := [(13, 0, 576), (15, 1, 577), (21, 2, 732)]
