/-! methods, calls, fields, constants and throw sites of the class, the reference and the law, as lists: by program out of the printed names and the tables -/
abbrev xME : Type := Nat × MethodName × ByteArray × Nat × Option FieldType × Nat × Bool × List (Nat × Nat × Nat × Nat)
def xm0 : List xME := [
  (9, yX9_init, cX9_init, 2, none, 0, true, []),
  (5, yX5_init, cX5_init, 2, none, 0, true, []),
  (1, yX1_init, cX1_init, 1, none, 0, true, []),
  (6, yX6_init, cX6_init, 1, none, 0, true, []),
  (7, yX7_init, cX7_init, 1, none, 0, true, []),
  (0, yX0_init, cX0_init, 1, none, 0, true, []),
  (8, yX8_init, cX8_init, 1, none, 0, true, []),
  (3, yX3_init, cX3_init, 1, none, 0, true, []),
  (4, yX4_init, cX4_init, 1, none, 0, true, []),
  (2, yX2_init, cX2_init, 1, none, 0, true, []),
  (9, yX9_records, cX9_records, 1, some .int, 0, true, []),
  (9, yX9_clearText, cX9_clearText, 2, some .int, 0, true, []),
  (9, yX9_tables, cX9_tables, 3, some .int, 0, true, []),
  (9, yX9_freeBytes, cX9_freeBytes, 4, some .int, 1, true, []),
  (9, yX9_freeFrom, cX9_freeFrom, 5, some .int, 1, true, []),
  (13, yJ9_max_7cf53, cJ9_max_7cf53, 2, some .int, 2, false, []),
  (13, yJ9_min_7cf53, cJ9_min_7cf53, 2, some .int, 2, false, []),
  (9, yX9_compact, cX9_compact, 6, some .int, 0, true, []),
  (9, yX9_save, cX9_save, 1, none, 0, true, []),
  (5, yX5_copyFrom, cX5_copyFrom, 3, none, 1, true, []),
  (1, yX1_copyFrom, cX1_copyFrom, 3, none, 1, true, []),
  (1, yX1_add, cX1_add, 4, none, 3, true, []),
  (6, yX6_copyFrom, cX6_copyFrom, 2, none, 1, true, []),
  (9, yX9_firstTableFrom, cX9_firstTableFrom, 5, some (.object "RecordLayouts$Table"), 1, true, []),
  (9, yX9_roundUp, cX9_roundUp, 2, some .int, 2, false, []),
  (9, yX9_copyMemory, cX9_copyMemory, 5, none, 3, true, []),
  (9, yX9_digest, cX9_digest, 5, some .long, 0, true, []),
  (9, yX9_hashRecord, cX9_hashRecord, 8, some .long, 2, true, []),
  (9, yX9_recordNumber, cX9_recordNumber, 4, some .int, 2, true, []),
  (4, yX4_size, cX4_size, 1, some .int, 0, true, []),
  (9, yX9_isInUse, cX9_isInUse, 3, some .boolean, 1, true, []),
  (1, yX1_hasType, cX1_hasType, 3, some .boolean, 1, true, []),
  (9, yX9_fieldNumber, cX9_fieldNumber, 6, some .int, 3, true, []),
  (9, yX9_tableNumber, cX9_tableNumber, 4, some .int, 2, true, []),
  (11, yL_newRecord, cL_newRecord, 4, some .int, 3, false, [(0, 9, 12, 13), (0, 9, 15, 15)]),
  (9, yX9_newRecord, cX9_newRecord, 3, some .int, 1, true, []),
  (9, yX9_checkPack, cX9_checkPack, 1, none, 1, false, []),
  (9, yX9_checkRecordRoom, cX9_checkRecordRoom, 1, none, 0, true, []),
  (1, yX1_start, cX1_start, 2, none, 1, true, []),
  (9, yX9_buildShape, cX9_buildShape, 3, none, 1, true, [])]
def xm1 : List xME := [
  (4, yX4_clear, cX4_clear, 1, none, 0, true, []),
  (9, yX9_placeField, cX9_placeField, 4, none, 2, true, []),
  (9, yX9_shapeOfType, cX9_shapeOfType, 3, some (.object "RecordLayouts$Shape"), 1, true, []),
  (4, yX4_place, cX4_place, 7, none, 3, true, []),
  (9, yX9_bytesOfType, cX9_bytesOfType, 1, some .int, 1, false, []),
  (9, yX9_isPlain, cX9_isPlain, 1, some .boolean, 1, false, []),
  (9, yX9_isBits, cX9_isBits, 1, some .boolean, 1, false, []),
  (4, yX4_placeBits, cX4_placeBits, 3, none, 2, true, []),
  (4, yX4_placeElements, cX4_placeElements, 3, none, 2, true, []),
  (9, yX9_pathOf, cX9_pathOf, 6, some .long, 4, false, []),
  (2, yX2_add, cX2_add, 7, none, 5, true, []),
  (4, yX4_addInnerLeaves, cX4_addInnerLeaves, 7, none, 4, true, []),
  (11, yL_addField, cL_addField, 7, some .int, 6, false, [(0, 14, 17, 21), (0, 14, 21, 13), (0, 14, 25, 15)]),
  (9, yX9_addField, cX9_addField, 7, some .int, 4, true, []),
  (9, yX9_checkRecord, cX9_checkRecord, 2, none, 1, true, []),
  (1, yX1_hasName, cX1_hasName, 3, some .boolean, 1, true, []),
  (9, yX9_canBeTypeIn, cX9_canBeTypeIn, 4, some .boolean, 2, true, []),
  (9, yX9_leavesOfType, cX9_leavesOfType, 3, some .int, 1, true, []),
  (11, yL_recordInfo, cL_recordInfo, 5, some .int, 4, false, [(0, 10, 13, 21), (0, 10, 17, 13)]),
  (9, yX9_recordInfo, cX9_recordInfo, 3, some .int, 2, true, []),
  (9, yX9_checkWhat, cX9_checkWhat, 2, none, 2, false, []),
  (11, yL_fieldInfo, cL_fieldInfo, 6, some .int, 5, false, [(0, 12, 15, 21), (0, 12, 19, 13)]),
  (9, yX9_fieldInfo, cX9_fieldInfo, 4, some .int, 3, true, []),
  (11, yL_leafInfo, cL_leafInfo, 6, some .int, 5, false, [(0, 12, 15, 21), (0, 12, 19, 13)]),
  (9, yX9_leafInfo, cX9_leafInfo, 5, some .int, 3, true, []),
  (9, yX9_checkLeafOfRecord, cX9_checkLeafOfRecord, 3, none, 2, true, []),
  (11, yL_pathByte, cL_pathByte, 6, some .int, 5, false, [(0, 12, 15, 21)]),
  (9, yX9_pathByte, cX9_pathByte, 4, some .int, 3, true, []),
  (9, yX9_signOfPath, cX9_signOfPath, 9, some .int, 2, false, []),
  (9, yX9_signOfLevel, cX9_signOfLevel, 2, some .int, 2, false, []),
  (11, yL_findLeaf, cL_findLeaf, 4, some .int, 3, false, [(0, 9, 12, 21)]),
  (9, yX9_findLeaf, cX9_findLeaf, 4, some .int, 1, true, []),
  (9, yX9_isText, cX9_isText, 4, some .boolean, 1, true, []),
  (7, yX7_signAt, cX7_signAt, 2, some .int, 1, true, []),
  (11, yL_bestSize, cL_bestSize, 4, some .int, 3, false, [(0, 9, 12, 21)]),
  (9, yX9_bestSize, cX9_bestSize, 2, some .int, 1, true, []),
  (9, yX9_searchBest, cX9_searchBest, 2, none, 1, true, []),
  (0, yX0_search, cX0_search, 4, none, 2, true, []),
  (0, yX0_fillNeeds, cX0_fillNeeds, 4, none, 0, true, []),
  (0, yX0_hasBits, cX0_hasBits, 3, some .boolean, 1, true, [])]
def xm2 : List xME := [
  (0, yX0_leastNeed, cX0_leastNeed, 6, some .int, 2, true, []),
  (0, yX0_needAfter, cX0_needAfter, 4, some .int, 3, true, []),
  (0, yX0_leftAfter, cX0_leftAfter, 3, some .int, 2, true, []),
  (0, yX0_fits, cX0_fits, 3, some .boolean, 2, true, []),
  (0, yX0_choose, cX0_choose, 7, none, 0, true, []),
  (11, yL_bestOrder, cL_bestOrder, 5, some .int, 4, false, [(0, 10, 13, 21)]),
  (9, yX9_bestOrder, cX9_bestOrder, 3, some .int, 2, true, []),
  (11, yL_append, cL_append, 4, some .int, 3, false, [(0, 9, 12, 13), (0, 9, 15, 15)]),
  (9, yX9_append, cX9_append, 2, some .int, 1, true, []),
  (7, yX7_add, cX7_add, 2, none, 1, true, []),
  (11, yL_define, cL_define, 4, some .int, 3, false, [(0, 9, 12, 13), (0, 9, 15, 15)]),
  (9, yX9_define, cX9_define, 4, some .int, 1, true, []),
  (7, yX7_readDefinition, cX7_readDefinition, 4, some .int, 2, true, []),
  (7, yX7_readField, cX7_readField, 6, some .boolean, 2, true, []),
  (7, yX7_takes, cX7_takes, 2, some .boolean, 1, true, []),
  (7, yX7_readType, cX7_readType, 3, some .int, 2, true, []),
  (7, yX7_readSize, cX7_readSize, 3, some .int, 1, true, []),
  (7, yX7_readRecord, cX7_readRecord, 4, some .int, 2, true, []),
  (7, yX7_digit, cX7_digit, 2, some .int, 0, true, []),
  (7, yX7_readWidth, cX7_readWidth, 3, some .int, 0, true, []),
  (7, yX7_readCount, cX7_readCount, 3, some .int, 1, true, []),
  (11, yL_newTable, cL_newTable, 7, some .int, 6, false, [(0, 14, 17, 21), (0, 14, 21, 13), (0, 14, 25, 15)]),
  (9, yX9_newTable, cX9_newTable, 8, some .int, 4, true, []),
  (9, yX9_checkLayout, cX9_checkLayout, 1, none, 1, false, []),
  (9, yX9_checkOrder, cX9_checkOrder, 1, none, 1, false, []),
  (9, yX9_checkHasFields, cX9_checkHasFields, 2, none, 1, true, []),
  (9, yX9_firstFreeTable, cX9_firstFreeTable, 2, some .int, 0, true, []),
  (8, yX8_layOut, cX8_layOut, 6, none, 3, true, []),
  (9, yX9_findRoom, cX9_findRoom, 3, some .int, 1, true, []),
  (9, yX9_clearMemory, cX9_clearMemory, 5, none, 2, true, []),
  (11, yL_removeTable, cL_removeTable, 4, some .int, 3, false, [(0, 9, 12, 21)]),
  (9, yX9_removeTable, cX9_removeTable, 2, some .int, 1, true, []),
  (9, yX9_checkTable, cX9_checkTable, 2, none, 1, true, []),
  (11, yL_tableInfo, cL_tableInfo, 5, some .int, 4, false, [(0, 10, 13, 21), (0, 10, 17, 13)]),
  (9, yX9_tableInfo, cX9_tableInfo, 3, some .int, 2, true, []),
  (11, yL_address, cL_address, 6, some .int, 5, false, [(0, 12, 15, 21)]),
  (9, yX9_address, cX9_address, 4, some .int, 3, true, []),
  (9, yX9_checkPlace, cX9_checkPlace, 4, none, 3, true, []),
  (9, yX9_checkRow, cX9_checkRow, 3, none, 2, true, []),
  (9, yX9_checkLeafOfTable, cX9_checkLeafOfTable, 3, none, 2, true, [])]
def xm3 : List xME := [
  (9, yX9_openView, cX9_openView, 3, none, 1, true, []),
  (8, yX8_moveTo, cX8_moveTo, 3, none, 2, true, []),
  (8, yX8_placeOf, cX8_placeOf, 3, some .int, 2, true, []),
  (8, yX8_hasLeaf, cX8_hasLeaf, 2, some .boolean, 1, true, []),
  (11, yL_get, cL_get, 6, some .int, 5, false, [(0, 11, 14, 21)]),
  (9, yX9_get, cX9_get, 4, some .long, 3, true, []),
  (8, yX8_read, cX8_read, 7, some .long, 3, true, []),
  (8, yX8_rawAt, cX8_rawAt, 8, some .long, 3, true, []),
  (8, yX8_maskOf, cX8_maskOf, 1, some .long, 1, false, []),
  (11, yL_set, cL_set, 8, some .int, 6, false, [(0, 13, 16, 21)]),
  (9, yX9_set, cX9_set, 8, some .long, 4, true, []),
  (8, yX8_write, cX8_write, 12, none, 4, true, []),
  (8, yX8_putRaw, cX8_putRaw, 8, none, 4, true, []),
  (11, yL_memory, cL_memory, 4, some .int, 3, false, [(0, 9, 12, 21)]),
  (9, yX9_memory, cX9_memory, 2, some .int, 1, true, []),
  (9, yX9_checkAddress, cX9_checkAddress, 1, none, 1, false, []),
  (11, yL_poke, cL_poke, 5, some .int, 4, false, [(0, 10, 13, 21), (0, 10, 17, 13)]),
  (9, yX9_poke, cX9_poke, 4, some .int, 2, true, []),
  (11, yL_convert, cL_convert, 6, some .int, 5, false, [(0, 12, 15, 21), (0, 12, 19, 13), (0, 12, 23, 15)]),
  (9, yX9_convert, cX9_convert, 4, some .int, 3, true, []),
  (9, yX9_rewrite, cX9_rewrite, 8, some .int, 4, true, []),
  (9, yX9_copyLeaves, cX9_copyLeaves, 7, some .int, 2, true, []),
  (2, yX2_withPath, cX2_withPath, 4, some .int, 1, true, []),
  (11, yL_migrate, cL_migrate, 6, some .int, 5, false, [(0, 12, 15, 21), (0, 12, 19, 13), (0, 12, 23, 15)]),
  (9, yX9_migrate, cX9_migrate, 4, some .int, 3, true, []),
  (11, yL_sort, cL_sort, 6, some .int, 5, false, [(0, 12, 15, 21)]),
  (9, yX9_sort, cX9_sort, 6, some .int, 3, true, []),
  (9, yX9_orderRows, cX9_orderRows, 7, none, 2, true, []),
  (9, yX9_reorderColumn, cX9_reorderColumn, 3, none, 1, true, []),
  (11, yL_fill, cL_fill, 9, some .int, 6, false, [(0, 14, 17, 21)]),
  (9, yX9_fill, cX9_fill, 8, some .int, 4, true, []),
  (11, yL_copyRow, cL_copyRow, 6, some .int, 5, false, [(0, 12, 15, 21)]),
  (9, yX9_copyRow, cX9_copyRow, 8, some .int, 3, true, []),
  (11, yL_count, cL_count, 8, some .int, 6, false, [(0, 14, 17, 21), (0, 14, 21, 13)]),
  (9, yX9_count, cX9_count, 11, some .int, 4, true, []),
  (11, yL_findRow, cL_findRow, 8, some .int, 6, false, [(0, 14, 17, 21)]),
  (9, yX9_findRow, cX9_findRow, 7, some .int, 4, true, []),
  (11, yL_sum, cL_sum, 5, some .int, 4, false, [(0, 9, 12, 21)]),
  (9, yX9_sum, cX9_sum, 6, some .long, 2, true, []),
  (11, yL_lines, cL_lines, 9, some .int, 7, false, [(0, 17, 20, 21), (0, 17, 24, 13)])]
def xm4 : List xME := [
  (9, yX9_lines, cX9_lines, 7, some .int, 5, true, []),
  (9, yX9_checkRows, cX9_checkRows, 4, none, 3, true, []),
  (9, yX9_checkLine, cX9_checkLine, 1, none, 1, false, []),
  (8, yX8_markScan, cX8_markScan, 11, none, 5, true, []),
  (3, yX3_clear, cX3_clear, 1, none, 0, true, []),
  (14, yJ7_fill_d0a16, cJ7_fill_d0a16, 5, none, 2, false, []),
  (3, yX3_mark, cX3_mark, 2, none, 1, true, []),
  (3, yX3_total, cX3_total, 3, some .int, 0, true, []),
  (12, yJ13_bitCount_95d88, cJ13_bitCount_95d88, 2, some .int, 1, false, []),
  (11, yL_runs, cL_runs, 8, some .int, 6, false, [(0, 15, 18, 21), (0, 15, 22, 13)]),
  (9, yX9_runs, cX9_runs, 6, some .int, 4, true, []),
  (3, yX3_sequences, cX3_sequences, 5, some .int, 0, true, []),
  (11, yL_bestLayout, cL_bestLayout, 7, some .int, 5, false, [(0, 13, 16, 21), (0, 13, 20, 13)]),
  (9, yX9_bestLayout, cX9_bestLayout, 9, some .int, 3, true, []),
  (11, yL_undo, cL_undo, 3, some .int, 2, false, [(0, 8, 11, 15)]),
  (9, yX9_undo, cX9_undo, 2, some .int, 0, true, []),
  (10, yX10_init, cX10_init, 2, none, 0, true, []),
  (10, yX10_thrown, cX10_thrown, 1, some .int, 0, true, []),
  (10, yX10_undo, cX10_undo, 2, some .int, 0, true, []),
  (10, yX10_refused, cX10_refused, 2, some .boolean, 1, true, []),
  (10, yX10_newRecord, cX10_newRecord, 2, some .int, 1, true, []),
  (10, yX10_isPack, cX10_isPack, 1, some .boolean, 1, false, []),
  (10, yX10_saves, cX10_saves, 2, none, 0, true, []),
  (10, yX10_creates, cX10_creates, 2, none, 1, true, []),
  (10, yX10_record, cX10_record, 1, some .int, 1, false, []),
  (10, yX10_addField, cX10_addField, 8, some .int, 4, true, []),
  (10, yX10_isRecord, cX10_isRecord, 2, some .boolean, 1, true, []),
  (10, yX10_within, cX10_within, 3, some .boolean, 3, false, []),
  (10, yX10_hasName, cX10_hasName, 5, some .boolean, 2, true, []),
  (10, yX10_fieldsOf, cX10_fieldsOf, 2, some .int, 1, true, []),
  (10, yX10_field, cX10_field, 2, some .int, 2, false, []),
  (10, yX10_isTypeOf, cX10_isTypeOf, 3, some .boolean, 2, true, []),
  (10, yX10_isBits, cX10_isBits, 1, some .boolean, 1, false, []),
  (10, yX10_lays, cX10_lays, 4, none, 0, true, []),
  (10, yX10_inOrder, cX10_inOrder, 2, none, 0, true, []),
  (10, yX10_places, cX10_places, 13, some .int, 1, true, []),
  (10, yX10_naturalAlign, cX10_naturalAlign, 2, some .int, 1, true, []),
  (10, yX10_bytesOf, cX10_bytesOf, 1, some .int, 1, false, []),
  (10, yX10_up, cX10_up, 2, some .int, 2, false, []),
  (10, yX10_elementSize, cX10_elementSize, 2, some .int, 1, true, [])]
def xm5 : List xME := [
  (10, yX10_addsLeaves, cX10_addsLeaves, 11, none, 3, true, []),
  (10, yX10_adds, cX10_adds, 4, none, 2, true, []),
  (10, yX10_isUsed, cX10_isUsed, 5, some .boolean, 1, true, []),
  (10, yX10_appends, cX10_appends, 6, none, 4, true, []),
  (10, yX10_records, cX10_records, 1, some .int, 0, true, []),
  (10, yX10_recordInfo, cX10_recordInfo, 3, some .int, 2, true, []),
  (10, yX10_recordBy, cX10_recordBy, 3, some .int, 2, true, []),
  (10, yX10_filled, cX10_filled, 5, some .int, 1, true, []),
  (10, yX10_fieldInfo, cX10_fieldInfo, 5, some .int, 3, true, []),
  (10, yX10_fieldBy, cX10_fieldBy, 4, some .int, 3, true, []),
  (10, yX10_leafInfo, cX10_leafInfo, 6, some .int, 3, true, []),
  (10, yX10_isLeaf, cX10_isLeaf, 3, some .boolean, 2, true, []),
  (10, yX10_pathByte, cX10_pathByte, 5, some .int, 3, true, []),
  (10, yX10_need, cX10_need, 2, some .int, 1, true, []),
  (10, yX10_findLeaf, cX10_findLeaf, 6, some .int, 1, true, []),
  (10, yX10_bestSize, cX10_bestSize, 2, some .int, 1, true, []),
  (10, yX10_laysBest, cX10_laysBest, 6, some .int, 1, true, []),
  (10, yX10_turns, cX10_turns, 6, some .boolean, 1, true, []),
  (10, yX10_swaps, cX10_swaps, 4, none, 2, true, []),
  (10, yX10_bestOrder, cX10_bestOrder, 3, some .int, 2, true, []),
  (10, yX10_append, cX10_append, 2, some .int, 1, true, []),
  (10, yX10_clearText, cX10_clearText, 2, some .int, 0, true, []),
  (10, yX10_define, cX10_define, 4, some .int, 1, true, []),
  (10, yX10_reads, cX10_reads, 3, some .int, 0, true, []),
  (10, yX10_readsField, cX10_readsField, 9, some .int, 1, true, []),
  (10, yX10_letter, cX10_letter, 2, some .int, 1, true, []),
  (10, yX10_readsType, cX10_readsType, 6, some .int, 1, true, []),
  (10, yX10_plain, cX10_plain, 3, some .int, 2, true, []),
  (10, yX10_newTable, cX10_newTable, 9, some .int, 4, true, []),
  (10, yX10_isTable, cX10_isTable, 2, some .boolean, 1, true, []),
  (10, yX10_bytesFor, cX10_bytesFor, 4, some .int, 3, true, []),
  (10, yX10_block, cX10_block, 3, some .int, 2, true, []),
  (10, yX10_column, cX10_column, 7, some .int, 3, true, []),
  (10, yX10_room, cX10_room, 3, some .int, 1, true, []),
  (10, yX10_freeFrom, cX10_freeFrom, 3, some .int, 1, true, []),
  (10, yX10_isTaken, cX10_isTaken, 4, some .boolean, 1, true, []),
  (10, yX10_of, cX10_of, 3, some .int, 2, true, []),
  (10, yX10_stands, cX10_stands, 9, none, 6, true, []),
  (10, yX10_removeTable, cX10_removeTable, 2, some .int, 1, true, []),
  (10, yX10_tables, cX10_tables, 1, some .int, 0, true, [])]
def xm6 : List xME := [
  (10, yX10_tableSet, cX10_tableSet, 3, some .int, 0, true, []),
  (10, yX10_tableInfo, cX10_tableInfo, 3, some .int, 2, true, []),
  (10, yX10_address, cX10_address, 4, some .int, 3, true, []),
  (10, yX10_hasLeaf, cX10_hasLeaf, 3, some .boolean, 2, true, []),
  (10, yX10_isRow, cX10_isRow, 3, some .boolean, 2, true, []),
  (10, yX10_addressOf, cX10_addressOf, 4, some .int, 3, true, []),
  (10, yX10_distance, cX10_distance, 7, some .int, 5, true, []),
  (10, yX10_get, cX10_get, 4, some .long, 3, true, []),
  (10, yX10_value, cX10_value, 7, some .long, 3, true, []),
  (10, yX10_taken, cX10_taken, 8, some .long, 3, true, []),
  (10, yX10_lowest, cX10_lowest, 3, some .int, 2, true, []),
  (10, yX10_set, cX10_set, 8, some .long, 4, true, []),
  (10, yX10_writes, cX10_writes, 13, none, 4, true, []),
  (10, yX10_puts, cX10_puts, 8, none, 4, true, []),
  (10, yX10_memory, cX10_memory, 2, some .int, 1, true, []),
  (10, yX10_poke, cX10_poke, 4, some .int, 2, true, []),
  (10, yX10_freeBytes, cX10_freeBytes, 5, some .int, 1, true, []),
  (10, yX10_convert, cX10_convert, 9, some .int, 3, true, []),
  (10, yX10_takes, cX10_takes, 4, none, 1, true, []),
  (10, yX10_migrate, cX10_migrate, 12, some .int, 3, true, []),
  (10, yX10_samePath, cX10_samePath, 9, some .int, 3, true, []),
  (10, yX10_compact, cX10_compact, 9, some .int, 0, true, []),
  (10, yX10_sort, cX10_sort, 12, some .int, 3, true, []),
  (10, yX10_fill, cX10_fill, 8, some .int, 4, true, []),
  (10, yX10_copyRow, cX10_copyRow, 6, some .int, 3, true, []),
  (10, yX10_count, cX10_count, 10, some .int, 4, true, []),
  (10, yX10_findRow, cX10_findRow, 7, some .int, 4, true, []),
  (10, yX10_sum, cX10_sum, 6, some .long, 2, true, []),
  (10, yX10_lines, cX10_lines, 8, some .int, 5, true, []),
  (10, yX10_isLine, cX10_isLine, 1, some .boolean, 1, false, []),
  (10, yX10_marksScan, cX10_marksScan, 13, some .int, 7, true, []),
  (10, yX10_marked, cX10_marked, 6, some .int, 1, true, []),
  (10, yX10_runs, cX10_runs, 10, some .int, 4, true, []),
  (10, yX10_bestLayout, cX10_bestLayout, 9, some .int, 3, true, []),
  (10, yX10_digest, cX10_digest, 4, some .long, 0, true, []),
  (10, yX10_mix, cX10_mix, 3, none, 1, true, []),
  (11, yL_law, cL_law, 8, some .boolean, 1, false, [])]
def xme (mi : Nat) : Option xME := if mi < 40 then xm0[mi - 0]? else if mi < 80 then xm1[mi - 40]? else if mi < 120 then xm2[mi - 80]? else if mi < 160 then xm3[mi - 120]? else if mi < 200 then xm4[mi - 160]? else if mi < 240 then xm5[mi - 200]? else if mi < 280 then xm6[mi - 240]? else none
def xclsN (o : Nat) : String := match o with
  | 0 => RX0
  | 1 => RX1
  | 2 => RX2
  | 3 => RX3
  | 4 => RX4
  | 5 => RX5
  | 6 => RX6
  | 7 => RX7
  | 8 => RX8
  | 9 => RX9
  | 10 => RX10
  | 11 => RL
  | 12 => RJ13
  | 13 => RJ9
  | 14 => RJ7
  | _ => ""
/-- calls: pool index, kind (0 virtual, 1 static, 2 <init>, 4 static of a nest mate, 5 <init> of a nest mate), the method, where its words stand -/
def xct (o : Nat) : List (Nat × Nat × Nat × Nat) := match o with
  | 0 => [(46, 4, 46, 2070), (50, 0, 78, 2071), (56, 4, 24, 2096), (63, 0, 84, 2098), (66, 0, 79, 2075), (69, 0, 80, 2079), (73, 0, 81, 2084), (77, 0, 83, 2092), (81, 1, 16, 2097), (86, 0, 82, 2088)]
  | 1 => [(28, 0, 21, 1191)]
  | 3 => [(15, 1, 165, 2698), (21, 1, 168, 2709)]
  | 4 => [(26, 5, 9, 1031), (47, 4, 24, 1231), (59, 4, 44, 1644), (63, 0, 29, 1652), (70, 1, 16, 1653), (75, 1, 15, 1654), (78, 4, 46, 1655), (82, 0, 47, 1658), (86, 0, 48, 1662), (92, 4, 49, 1666), (96, 0, 50, 1669), (100, 0, 51, 1673)]
  | 5 => [(27, 5, 2, 553), (28, 5, 3, 589), (33, 0, 20, 1187), (37, 0, 22, 1195)]
  | 7 => [(11, 5, 2, 649), (32, 0, 38, 2134), (36, 0, 93, 2135), (40, 0, 73, 2139), (44, 0, 55, 2140), (51, 0, 94, 2141), (55, 0, 95, 2145), (59, 0, 100, 2165), (70, 0, 21, 2170), (74, 0, 96, 2149), (78, 0, 97, 2153), (81, 0, 99, 2161), (85, 0, 98, 2157), (88, 4, 46, 2169)]
  | 8 => [(44, 1, 15, 2202), (51, 4, 44, 2203), (58, 4, 24, 2204), (62, 0, 29, 2205), (78, 0, 123, 2266), (82, 0, 122, 2281), (85, 0, 127, 2282), (89, 4, 46, 2286), (92, 1, 128, 2287), (98, 0, 132, 2574), (102, 0, 164, 2694), (107, 0, 166, 2701)]
  | 9 => [(9, 2, 1, 544), (28, 5, 4, 644), (35, 5, 5, 670), (46, 5, 6, 700), (56, 5, 7, 743), (69, 5, 8, 1025), (70, 1, 36, 1258), (74, 0, 37, 1600), (77, 0, 18, 1179), (87, 0, 38, 1620), (92, 0, 39, 1624), (95, 0, 54, 1685), (98, 0, 55, 1705), (109, 0, 56, 1710), (115, 1, 46, 1714), (129, 0, 57, 1717), (134, 0, 30, 1232), (142, 0, 21, 1722), (146, 0, 41, 1632), (150, 1, 60, 1730), (153, 0, 28, 1223), (162, 0, 32, 1240), (166, 0, 65, 1749), (184, 1, 68, 1761), (188, 0, 72, 1775), (192, 0, 76, 2062), (210, 0, 89, 2119), (212, 0, 92, 2130), (220, 0, 20, 2171), (229, 1, 103, 2180), (232, 1, 104, 2184), (235, 0, 105, 2188), (238, 0, 106, 2193), (244, 0, 107, 2198), (251, 0, 108, 2206), (281, 0, 109, 2211), (284, 0, 112, 2222), (287, 0, 33, 1245), (290, 0, 117, 2241), (293, 0, 120, 2254), (296, 0, 122, 2262), (303, 0, 126, 2277), (307, 0, 131, 2569), (311, 1, 135, 2585), (316, 0, 14, 1165), (319, 1, 15, 1169), (324, 0, 140, 2604), (328, 0, 23, 1202), (332, 1, 24, 1206), (335, 0, 25, 1209), (338, 0, 119, 2250), (341, 0, 147, 2630), (347, 0, 148, 2634), (351, 0, 118, 2245), (356, 0, 161, 2681), (359, 1, 162, 2686), (362, 0, 163, 2690), (366, 0, 167, 2705), (368, 0, 171, 2722), (371, 0, 121, 2258), (382, 0, 19, 1183), (387, 0, 27, 1218), (393, 0, 12, 1244), (421, 1, 45, 1647), (427, 0, 42, 1636), (431, 0, 31, 1236), (434, 0, 40, 1628), (438, 0, 43, 1640), (442, 0, 77, 2066), (446, 0, 29, 1227), (466, 1, 69, 1765), (469, 0, 73, 2051), (472, 1, 16, 1172), (475, 0, 141, 2608), (479, 0, 142, 2612)]
  | 10 => [(84, 0, 179, 3119), (88, 1, 187, 3149), (92, 1, 184, 3138), (96, 1, 197, 3186), (99, 0, 189, 3156), (102, 1, 190, 3160), (106, 0, 196, 3182), (109, 1, 192, 3167), (112, 1, 198, 3189), (115, 0, 199, 3192), (118, 0, 201, 3200), (122, 0, 194, 3174), (125, 0, 195, 3178), (128, 0, 200, 3196), (132, 1, 181, 3127), (135, 0, 182, 3130), (138, 0, 183, 3134), (142, 0, 186, 3145), (145, 0, 188, 3152), (149, 0, 191, 3163), (152, 0, 193, 3170), (155, 0, 202, 3204), (158, 0, 203, 3208), (162, 0, 207, 3224), (165, 0, 206, 3220), (168, 0, 209, 3232), (172, 0, 211, 3240), (175, 0, 213, 3248), (182, 0, 218, 3268), (185, 0, 217, 3264), (188, 0, 216, 3260), (197, 0, 225, 3296), (200, 0, 227, 3304), (206, 0, 226, 3300), (212, 0, 224, 3292), (215, 0, 223, 3288), (219, 0, 232, 3596), (222, 0, 231, 3592), (225, 0, 229, 3584), (228, 0, 236, 3612), (231, 0, 235, 3608), (234, 0, 234, 3604), (237, 0, 230, 3588), (240, 0, 233, 3600), (243, 0, 237, 3616), (247, 0, 240, 3628), (250, 0, 246, 3652), (254, 0, 243, 3640), (257, 0, 244, 3644), (260, 0, 245, 3648), (265, 0, 249, 3664), (269, 0, 250, 3668), (274, 0, 253, 3681), (278, 0, 248, 3660), (281, 0, 252, 3676), (284, 0, 258, 3702), (287, 0, 260, 3710), (290, 1, 269, 3746), (293, 0, 270, 3749), (297, 0, 271, 3753), (308, 0, 275, 3770)]
  | 11 => [(7, 0, 35, 1254), (17, 0, 53, 1681), (23, 0, 59, 1726), (27, 0, 62, 1737), (31, 0, 64, 1745), (34, 0, 67, 1757), (37, 0, 71, 1771), (40, 0, 75, 2058), (43, 0, 86, 2105), (46, 0, 88, 2113), (49, 0, 91, 2126), (52, 0, 102, 2175), (55, 0, 111, 2218), (58, 0, 114, 2230), (61, 0, 116, 2237), (64, 0, 125, 2273), (68, 0, 130, 2565), (72, 0, 134, 2581), (75, 0, 137, 2592), (78, 0, 139, 2600), (81, 0, 144, 2619), (84, 0, 146, 2626), (88, 0, 150, 2641), (92, 0, 152, 2648), (95, 0, 154, 2655), (99, 0, 156, 2663), (103, 0, 158, 2670), (107, 0, 160, 2677), (111, 0, 170, 2718), (115, 0, 173, 2730), (119, 0, 175, 2737), (123, 2, 0, 536), (126, 2, 176, 2744), (127, 1, 34, 1249), (132, 0, 180, 3123), (133, 0, 177, 3111), (136, 1, 52, 1677), (139, 0, 185, 3141), (140, 0, 10, 1149), (143, 0, 204, 3212), (144, 1, 58, 1723), (147, 0, 205, 3216), (148, 1, 61, 1734), (151, 0, 208, 3228), (152, 1, 63, 1742), (154, 0, 210, 3236), (155, 1, 66, 1754), (157, 0, 212, 3244), (158, 1, 70, 1768), (160, 0, 214, 3252), (161, 1, 74, 2055), (163, 0, 215, 3256), (164, 1, 85, 2102), (166, 0, 219, 3272), (167, 1, 87, 2110), (169, 0, 220, 3276), (170, 0, 11, 1153), (173, 0, 221, 3280), (174, 1, 90, 2123), (176, 0, 222, 3284), (177, 1, 101, 2172), (179, 0, 228, 3308), (180, 1, 110, 2215), (182, 0, 238, 3620), (183, 0, 12, 1157), (186, 0, 239, 3624), (187, 1, 113, 2227), (189, 0, 241, 3632), (190, 1, 115, 2234), (192, 0, 242, 3636), (193, 1, 124, 2270), (195, 0, 247, 3656), (198, 1, 129, 2562), (201, 0, 251, 3672), (202, 1, 133, 2578), (204, 0, 254, 3686), (205, 1, 136, 2589), (207, 0, 255, 3690), (208, 0, 13, 1161), (212, 0, 256, 3694), (213, 1, 138, 2597), (215, 0, 257, 3698), (216, 1, 143, 2616), (218, 0, 259, 3706), (219, 0, 17, 1175), (222, 0, 261, 3714), (223, 1, 145, 2623), (226, 0, 262, 3718), (227, 1, 149, 2638), (230, 0, 263, 3722), (231, 1, 151, 2645), (233, 0, 264, 3726), (234, 1, 153, 2652), (236, 0, 265, 3730), (237, 1, 155, 2660), (240, 0, 266, 3734), (241, 1, 157, 2667), (243, 0, 267, 3738), (244, 1, 159, 2674), (247, 0, 268, 3742), (248, 1, 169, 2715), (251, 0, 272, 3757), (252, 1, 172, 2727), (255, 0, 273, 3761), (256, 1, 174, 2734), (259, 0, 178, 3115), (260, 0, 26, 1213), (264, 0, 274, 3765)]
  | _ => []
/-- fields: pool index, class, field, where its word stands -/
def xft (o : Nat) : List (Nat × Nat × Nat × Nat) := match o with
  | 0 => [(9, 0, 1, 676), (15, 0, 3, 679), (18, 0, 4, 680), (21, 0, 5, 681), (24, 0, 6, 682), (27, 1, 1, 560), (33, 0, 2, 678), (34, 1, 4, 572), (37, 4, 2, 1075), (42, 4, 3, 1078), (43, 1, 3, 568), (53, 4, 5, 1084), (60, 0, 0, 674)]
  | 1 => [(9, 1, 0, 557), (15, 1, 2, 564), (19, 1, 3, 567), (22, 1, 4, 571), (25, 1, 1, 561)]
  | 2 => [(9, 2, 1, 1040), (15, 2, 2, 1044), (18, 2, 3, 1048), (21, 2, 4, 1052), (24, 2, 5, 1054), (28, 2, 0, 1035)]
  | 3 => [(11, 3, 0, 747)]
  | 4 => [(9, 4, 0, 1070), (15, 4, 1, 1072), (18, 4, 2, 1074), (21, 4, 3, 1077), (27, 4, 4, 1079), (31, 4, 5, 1083), (35, 2, 0, 1036), (38, 4, 6, 1086), (41, 4, 7, 1088), (44, 4, 8, 1089), (51, 1, 3, 569), (56, 1, 4, 573), (67, 1, 0, 558), (89, 1, 2, 565), (104, 2, 1, 1042), (105, 2, 2, 1046), (106, 2, 3, 1050), (107, 2, 5, 1055)]
  | 5 => [(11, 5, 1, 624), (19, 5, 2, 626), (23, 5, 3, 628), (29, 5, 0, 622)]
  | 6 => [(7, 6, 0, 593), (13, 6, 1, 595), (17, 6, 2, 597), (20, 6, 3, 599), (23, 6, 4, 601), (26, 6, 5, 603), (29, 6, 6, 605)]
  | 7 => [(12, 7, 1, 652), (18, 7, 2, 654), (22, 7, 0, 650), (26, 7, 3, 655), (29, 7, 4, 656), (48, 1, 1, 563), (62, 4, 4, 1082), (67, 2, 0, 1039)]
  | 8 => [(9, 8, 5, 712), (15, 8, 7, 714), (19, 8, 8, 715), (22, 8, 9, 716), (25, 8, 10, 717), (28, 8, 2, 706), (31, 4, 4, 1080), (37, 2, 0, 1037), (42, 8, 3, 708), (50, 2, 1, 1041), (55, 2, 2, 1045), (61, 2, 3, 1049), (66, 8, 6, 713), (69, 8, 4, 710), (72, 8, 0, 704), (75, 8, 1, 705)]
  | 9 => [(10, 9, 0, 1109), (18, 9, 1, 1110), (22, 9, 2, 1111), (29, 9, 5, 1114), (36, 9, 6, 1115), (40, 9, 7, 1116), (47, 9, 8, 1117), (51, 9, 9, 1118), (57, 9, 10, 1119), (61, 9, 11, 1120), (65, 9, 12, 1121), (80, 5, 0, 623), (83, 5, 1, 625), (120, 4, 4, 1081), (124, 2, 0, 1038), (133, 1, 1, 562), (169, 2, 1, 1043), (172, 2, 2, 1047), (175, 2, 3, 1051), (178, 2, 4, 1053), (181, 2, 5, 1056), (195, 0, 0, 675), (200, 0, 1, 677), (205, 7, 0, 651), (216, 7, 1, 653), (224, 1, 0, 559), (248, 8, 4, 711), (256, 5, 2, 627), (260, 6, 0, 594), (266, 6, 1, 596), (269, 6, 2, 598), (272, 6, 3, 600), (275, 6, 4, 602), (277, 6, 5, 604), (280, 6, 6, 606), (299, 5, 3, 629), (345, 8, 3, 709), (350, 8, 2, 707), (374, 9, 4, 1113), (379, 9, 3, 1112), (437, 1, 3, 570), (448, 4, 5, 1085), (451, 4, 6, 1087), (454, 1, 2, 566), (457, 1, 4, 574), (460, 4, 0, 1071), (461, 4, 1, 1073), (462, 4, 2, 1076)]
  | 10 => [(7, 10, 0, 2748), (13, 10, 1, 2749), (16, 10, 4, 2752), (19, 10, 6, 2754), (22, 10, 7, 2755), (25, 10, 8, 2756), (28, 10, 9, 2757), (31, 10, 10, 2758), (34, 10, 11, 2759), (37, 10, 12, 2760), (40, 10, 13, 2761), (43, 10, 14, 2762), (46, 10, 15, 2763), (49, 10, 16, 2764), (52, 10, 17, 2765), (55, 10, 18, 2766), (58, 10, 21, 2769), (61, 10, 22, 2770), (64, 10, 23, 2771), (67, 10, 26, 2774), (71, 10, 27, 2775), (74, 10, 28, 2776), (77, 10, 3, 2751), (81, 10, 2, 2750), (179, 10, 5, 2753), (191, 10, 19, 2767), (194, 10, 20, 2768), (203, 10, 24, 2772), (209, 10, 25, 2773), (302, 10, 29, 2777)]
  | _ => []
def xfk (c : Nat) : List Nat := match c with
  | 0 => [0, 3, 0, 3, 3, 3, 3]
  | 1 => [0, 0, 3, 3, 3]
  | 2 => [0, 3, 3, 3, 3, 3]
  | 3 => [3]
  | 4 => [3, 3, 3, 3, 3, 0, 0, 0, 0]
  | 5 => [0, 3, 3, 3]
  | 6 => [1, 0, 0, 0, 0, 0, 0]
  | 7 => [0, 3, 3, 0, 0]
  | 8 => [0, 0, 0, 0, 0, 0, 0, 3, 3, 3, 3]
  | 9 => [3, 3, 3, 0, 0, 3, 3, 0, 3, 3, 3, 3, 3]
  | 10 => [3, 3, 0, 0, 3, 0, 3, 3, 3, 3, 3, 3, 3, 3, 3, 3, 3, 3, 3, 0, 0, 3, 3, 3, 0, 0, 3, 3, 3, 2]
  | _ => []
def xoi (o : Nat) : Option (Nat × Nat × Nat × Nat) := match o with
  | 0 => some (3, 673, 540, 541)
  | 1 => some (3, 556, 540, 541)
  | 2 => some (3, 1034, 540, 541)
  | 3 => some (3, 746, 540, 541)
  | 4 => some (3, 1028, 540, 541)
  | 5 => some (3, 547, 540, 541)
  | 6 => some (1, 592, 540, 541)
  | 7 => some (3, 647, 540, 541)
  | 8 => some (3, 703, 540, 541)
  | 9 => some (1, 539, 540, 541)
  | 10 => some (1, 2747, 540, 541)
  | _ => none
/-- new: pool index, class, its words -/
def xnw (o : Nat) : List (Nat × Nat × Nat × Nat × Nat) := match o with
  | 4 => [(24, 2, 1029, 1030, 522)]
  | 5 => [(9, 1, 548, 552, 515), (17, 6, 550, 588, 516)]
  | 7 => [(9, 1, 648, 552, 515)]
  | 9 => [(7, 5, 542, 543, 514), (16, 4, 639, 1024, 521), (26, 7, 642, 643, 517), (33, 0, 668, 669, 518), (44, 8, 698, 699, 519), (54, 3, 741, 742, 520)]
  | 11 => [(8, 9, 534, 535, 513), (124, 10, 2742, 2743, 523)]
  | _ => []
/-- anewarray: pool index, class, its words -/
def xna (o : Nat) : List (Nat × Nat × Nat × Nat) := match o with
  | 5 => [(9, 1, 548, 549), (17, 6, 550, 551)]
  | 9 => [(7, 5, 542, 641), (16, 4, 639, 640)]
  | _ => []
/-- long constants -/
def xkl (o : Nat) : List (Nat × Int64 × Nat) := match o with
  | 3 => [(27, -1, 2726)]
  | 8 => [(96, -1, 2573)]
  | 9 => [(385, 53723, 1217), (391, 31, 1222), (464, 255, 1764)]
  | 10 => [(263, 255, 3685), (272, -1, 3680), (300, 31, 3774), (306, 1733, 3769)]
  | 11 => [(196, 4294967295, 3775)]
  | 12 => [(314, 6148914691236517205, 2712), (316, 3689348814741910323, 2713), (318, 1085102592571150095, 2714)]
  | _ => []
/-- int constants -/
def xki (o : Nat) : List (Nat × Int32 × Nat) := match o with
  | 0 => [(72, 1048576, 2083)]
  | _ => []
/-- throw sites: method, pc, exception, length of the ldc, pool indices of the class, the text, the constructor; the text -/
def xth : List (Nat × Nat × Nat × Nat × Nat × Nat × Nat × String) := [
  (36, 21, 0, 3, 102, 395, 106, "there is no such pack"),
  (37, 12, 1, 3, 137, 397, 141, "there are all records already"),
  (53, 37, 0, 2, 102, 104, 106, "the name is out of range or taken"),
  (53, 56, 0, 2, 102, 113, 106, "no field of the record can have this type"),
  (53, 89, 0, 2, 102, 118, 106, "the count is out of range"),
  (53, 147, 1, 2, 137, 139, 141, "the record can take no such field"),
  (54, 15, 2, 3, 157, 399, 161, "there is no such record"),
  (60, 9, 0, 3, 102, 405, 106, "there is no such information"),
  (62, 25, 2, 2, 157, 159, 161, "there is no such field"),
  (65, 25, 2, 3, 157, 401, 161, "there is no such leaf"),
  (86, 25, 2, 2, 157, 198, 161, "there is no such position"),
  (88, 10, 0, 2, 102, 203, 106, "the value is no byte of a text"),
  (88, 32, 1, 2, 137, 208, 141, "the text is full"),
  (102, 16, 0, 2, 102, 227, 106, "the number of rows is out of range"),
  (102, 52, 1, 2, 137, 242, 141, "there are all tables already"),
  (102, 96, 1, 2, 137, 254, 141, "there is no room"),
  (103, 10, 0, 3, 102, 407, 106, "there is no such layout"),
  (104, 9, 0, 3, 102, 409, 106, "there is no such byte order"),
  (105, 16, 1, 3, 137, 403, 141, "the record has no fields"),
  (112, 24, 2, 3, 157, 411, 161, "there is no such table"),
  (118, 25, 2, 3, 157, 413, 161, "there is no such row"),
  (135, 11, 2, 3, 157, 419, 161, "there is no such address"),
  (137, 15, 0, 3, 102, 314, 106, "the value is no byte"),
  (140, 54, 1, 2, 137, 254, 141, "there is no room"),
  (154, 15, 0, 3, 102, 354, 106, "there is no such relation"),
  (161, 17, 0, 3, 102, 415, 106, "the first row is behind the last one"),
  (162, 18, 0, 3, 102, 417, 106, "there is no such size of a line"),
  (175, 8, 1, 3, 137, 377, 141, "no state is saved")]
def xen (k : Nat) : String := match k with
  | 0 => "java/lang/IllegalArgumentException"
  | 1 => "java/lang/IllegalStateException"
  | 2 => "java/lang/IndexOutOfBoundsException"
  | _ => ""
/-- classes that the law catches: pool index, exception, where its word stands -/
def xcc : List (Nat × Nat × Nat) := [(13, 0, 1252), (15, 1, 1253), (21, 2, 1680)]
