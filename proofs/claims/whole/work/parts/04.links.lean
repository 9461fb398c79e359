abbrev mX0_isDown : MD := (yX0_isDown, cX0_isDown, 1, (some .boolean), RX0, { frames := 0, cells := 0, slots := 0, locals := 0 })
abbrev mX0_setLoss : MD := (yX0_setLoss, cX0_setLoss, 2, none, RX0, { frames := 0, cells := 0, slots := 0, locals := 0 })
abbrev mX0_powerUp : MD := (yX0_powerUp, cX0_powerUp, 1, none, RX0, { frames := 0, cells := 0, slots := 0, locals := 0 })
abbrev mX0_put : MD := (yX0_put, cX0_put, 3, (some .boolean), RX0, { frames := 0, cells := 0, slots := 0, locals := 0 })
abbrev mX0_noteWrite : MD := (yX0_noteWrite, cX0_noteWrite, 1, none, RX0, { frames := 0, cells := 0, slots := 0, locals := 0 })
abbrev mX0_noteCheckpoint : MD := (yX0_noteCheckpoint, cX0_noteCheckpoint, 2, none, RX0, { frames := 0, cells := 0, slots := 0, locals := 0 })
abbrev mX0_writesSinceCheckpoint : MD := (yX0_writesSinceCheckpoint, cX0_writesSinceCheckpoint, 1, (some .int), RX0, { frames := 0, cells := 0, slots := 0, locals := 0 })
abbrev mX0_countOf : MD := (yX0_countOf, cX0_countOf, 2, (some .int), RX0, { frames := 0, cells := 0, slots := 0, locals := 0 })
abbrev mX1_begin : MD := (yX1_begin, cX1_begin, 2, none, RX1, { frames := 0, cells := 0, slots := 0, locals := 0 })
abbrev mX1_makeNode : MD := (yX1_makeNode, cX1_makeNode, 5, (some .boolean), RX1, { frames := 2, cells := 0, slots := 0, locals := 48 })
abbrev mX2_clear : MD := (yX2_clear, cX2_clear, 1, none, RX2, { frames := 0, cells := 0, slots := 0, locals := 0 })
abbrev mX2_count : MD := (yX2_count, cX2_count, 1, (some .int), RX2, { frames := 0, cells := 0, slots := 0, locals := 0 })
abbrev mX2_append : MD := (yX2_append, cX2_append, 5, (some .boolean), RX2, { frames := 0, cells := 0, slots := 0, locals := 0 })
abbrev mX2_firstEntry : MD := (yX2_firstEntry, cX2_firstEntry, 1, (some .long), RX2, { frames := 0, cells := 0, slots := 0, locals := 0 })
abbrev mX2_firstComes : MD := (yX2_firstComes, cX2_firstComes, 1, (some .boolean), RX2, { frames := 0, cells := 0, slots := 0, locals := 0 })
abbrev mX2_takeFirst : MD := (yX2_takeFirst, cX2_takeFirst, 1, none, RX2, { frames := 0, cells := 0, slots := 0, locals := 0 })
abbrev mX3_clear : MD := (yX3_clear, cX3_clear, 1, none, RX3, { frames := 0, cells := 0, slots := 0, locals := 0 })
abbrev mX3_count : MD := (yX3_count, cX3_count, 1, (some .int), RX3, { frames := 0, cells := 0, slots := 0, locals := 0 })
abbrev mX3_pickedCount : MD := (yX3_pickedCount, cX3_pickedCount, 1, (some .int), RX3, { frames := 0, cells := 0, slots := 0, locals := 0 })
abbrev mX3_total : MD := (yX3_total, cX3_total, 1, (some .int), RX3, { frames := 0, cells := 0, slots := 0, locals := 0 })
abbrev mX3_entryAt : MD := (yX3_entryAt, cX3_entryAt, 2, (some .long), RX3, { frames := 0, cells := 0, slots := 0, locals := 0 })
abbrev mX3_pick : MD := (yX3_pick, cX3_pick, 4, none, RX3, { frames := 0, cells := 0, slots := 0, locals := 0 })
abbrev mX3_closeRun : MD := (yX3_closeRun, cX3_closeRun, 1, none, RX3, { frames := 1, cells := 0, slots := 0, locals := 26 })
abbrev mX3_mergeFirstTwo : MD := (yX3_mergeFirstTwo, cX3_mergeFirstTwo, 3, (some .int), RX3, { frames := 1, cells := 0, slots := 0, locals := 26 })
abbrev mX3_mergeInto : MD := (yX3_mergeInto, cX3_mergeInto, 6, none, RX3, { frames := 0, cells := 0, slots := 0, locals := 0 })
abbrev mX4_count : MD := (yX4_count, cX4_count, 1, (some .int), RX4, { frames := 0, cells := 0, slots := 0, locals := 0 })
abbrev mX4_has : MD := (yX4_has, cX4_has, 2, (some .boolean), RX4, { frames := 0, cells := 0, slots := 0, locals := 0 })
abbrev mX4_keyAt : MD := (yX4_keyAt, cX4_keyAt, 2, (some .int), RX4, { frames := 1, cells := 0, slots := 0, locals := 21 })
abbrev mX4_valueAt : MD := (yX4_valueAt, cX4_valueAt, 2, (some .int), RX4, { frames := 1, cells := 0, slots := 0, locals := 21 })
abbrev mX4_firstFree : MD := (yX4_firstFree, cX4_firstFree, 2, (some .int), RX4, { frames := 0, cells := 0, slots := 0, locals := 0 })
abbrev mX4_hasKeyBeside : MD := (yX4_hasKeyBeside, cX4_hasKeyBeside, 4, (some .boolean), RX4, { frames := 0, cells := 0, slots := 0, locals := 0 })
abbrev mX4_put : MD := (yX4_put, cX4_put, 4, none, RX4, { frames := 0, cells := 0, slots := 0, locals := 0 })
abbrev mX4_clearPlace : MD := (yX4_clearPlace, cX4_clearPlace, 2, none, RX4, { frames := 1, cells := 0, slots := 0, locals := 21 })
abbrev mX4_tell : MD := (yX4_tell, cX4_tell, 6, (some .int), RX4, { frames := 0, cells := 0, slots := 0, locals := 0 })
abbrev mX4_touchedPages : MD := (yX4_touchedPages, cX4_touchedPages, 3, (some .int), RX4, { frames := 0, cells := 0, slots := 0, locals := 0 })
abbrev mX4_untouch : MD := (yX4_untouch, cX4_untouch, 2, none, RX4, { frames := 0, cells := 0, slots := 0, locals := 0 })
abbrev mX5_clear : MD := (yX5_clear, cX5_clear, 2, none, RX5, { frames := 0, cells := 0, slots := 0, locals := 0 })
abbrev mX5_nodeCount : MD := (yX5_nodeCount, cX5_nodeCount, 1, (some .int), RX5, { frames := 0, cells := 0, slots := 0, locals := 0 })
abbrev mX5_entryCount : MD := (yX5_entryCount, cX5_entryCount, 1, (some .int), RX5, { frames := 0, cells := 0, slots := 0, locals := 0 })
abbrev mX5_touchedCount : MD := (yX5_touchedCount, cX5_touchedCount, 3, (some .int), RX5, { frames := 0, cells := 0, slots := 0, locals := 0 })
abbrev mX5_untouch : MD := (yX5_untouch, cX5_untouch, 2, none, RX5, { frames := 0, cells := 0, slots := 0, locals := 0 })
abbrev mX5_newNode : MD := (yX5_newNode, cX5_newNode, 3, (some .int), RX5, { frames := 0, cells := 0, slots := 0, locals := 0 })
abbrev mX5_freeNode : MD := (yX5_freeNode, cX5_freeNode, 2, none, RX5, { frames := 0, cells := 0, slots := 0, locals := 0 })
abbrev mX5_append : MD := (yX5_append, cX5_append, 4, none, RX5, { frames := 1, cells := 0, slots := 0, locals := 25 })
abbrev mX5_finishLoad : MD := (yX5_finishLoad, cX5_finishLoad, 3, none, RX5, { frames := 0, cells := 0, slots := 0, locals := 0 })
abbrev mX5_putIn : MD := (yX5_putIn, cX5_putIn, 6, none, RX5, { frames := 0, cells := 0, slots := 0, locals := 0 })
abbrev mX5_takeOut : MD := (yX5_takeOut, cX5_takeOut, 4, none, RX5, { frames := 0, cells := 0, slots := 0, locals := 0 })
abbrev mX5_kidOf : MD := (yX5_kidOf, cX5_kidOf, 5, (some .int), RX5, { frames := 0, cells := 0, slots := 0, locals := 0 })
abbrev mX5_leastOf : MD := (yX5_leastOf, cX5_leastOf, 4, (some .long), RX5, { frames := 1, cells := 0, slots := 0, locals := 24 })
abbrev mX5_goDown : MD := (yX5_goDown, cX5_goDown, 5, none, RX5, { frames := 2, cells := 0, slots := 0, locals := 47 })
abbrev mX5_letCome : MD := (yX5_letCome, cX5_letCome, 6, (some .boolean), RX5, { frames := 3, cells := 0, slots := 0, locals := 72 })
abbrev mX5_newNodesOnWay : MD := (yX5_newNodesOnWay, cX5_newNodesOnWay, 3, (some .int), RX5, { frames := 0, cells := 0, slots := 0, locals := 0 })
abbrev mX5_divide : MD := (yX5_divide, cX5_divide, 5, none, RX5, { frames := 2, cells := 0, slots := 0, locals := 48 })
abbrev mX5_putRootOver : MD := (yX5_putRootOver, cX5_putRootOver, 4, none, RX5, { frames := 1, cells := 0, slots := 0, locals := 25 })
abbrev mX5_letGo : MD := (yX5_letGo, cX5_letGo, 7, none, RX5, { frames := 3, cells := 0, slots := 0, locals := 71 })
abbrev mX5_levels : MD := (yX5_levels, cX5_levels, 3, (some .int), RX5, { frames := 1, cells := 0, slots := 0, locals := 24 })
abbrev mX5_listLeaves : MD := (yX5_listLeaves, cX5_listLeaves, 3, (some .int), RX5, { frames := 2, cells := 0, slots := 0, locals := 51 })
abbrev mX5_listRowBelow : MD := (yX5_listRowBelow, cX5_listRowBelow, 6, (some .int), RX5, { frames := 1, cells := 0, slots := 0, locals := 26 })
abbrev mX5_entryAt : MD := (yX5_entryAt, cX5_entryAt, 6, (some .long), RX5, { frames := 3, cells := 0, slots := 0, locals := 73 })
abbrev mX5_sizeOfLeafAt : MD := (yX5_sizeOfLeafAt, cX5_sizeOfLeafAt, 6, (some .int), RX5, { frames := 3, cells := 0, slots := 0, locals := 73 })
abbrev mX5_firstTwin : MD := (yX5_firstTwin, cX5_firstTwin, 10, (some .int), RX5, { frames := 3, cells := 0, slots := 0, locals := 73 })
abbrev mX5_tell : MD := (yX5_tell, cX5_tell, 10, (some .int), RX5, { frames := 3, cells := 0, slots := 0, locals := 73 })
abbrev mX5_costOf : MD := (yX5_costOf, cX5_costOf, 9, (some .int), RX5, { frames := 3, cells := 0, slots := 0, locals := 73 })
abbrev mX5_hasJustTheRowsOf : MD := (yX5_hasJustTheRowsOf, cX5_hasJustTheRowsOf, 12, (some .boolean), RX5, { frames := 3, cells := 0, slots := 0, locals := 73 })
abbrev mX5_sizesAreRight : MD := (yX5_sizesAreRight, cX5_sizesAreRight, 3, (some .boolean), RX5, { frames := 0, cells := 0, slots := 0, locals := 0 })
abbrev mX5_leavesAreInOneRow : MD := (yX5_leavesAreInOneRow, cX5_leavesAreInOneRow, 4, (some .boolean), RX5, { frames := 2, cells := 0, slots := 0, locals := 51 })
abbrev mX6_add : MD := (yX6_add, cX6_add, 4, (some .int), RX6, { frames := 6, cells := 0, slots := 0, locals := 143 })
abbrev mX6_change : MD := (yX6_change, cX6_change, 5, (some .int), RX6, { frames := 6, cells := 0, slots := 0, locals := 143 })
abbrev mX6_remove : MD := (yX6_remove, cX6_remove, 3, (some .int), RX6, { frames := 6, cells := 0, slots := 0, locals := 143 })
abbrev mX6_rows : MD := (yX6_rows, cX6_rows, 1, (some .int), RX6, { frames := 1, cells := 0, slots := 0, locals := 20 })
abbrev mX6_cut : MD := (yX6_cut, cX6_cut, 3, (some .int), RX6, { frames := 1, cells := 0, slots := 0, locals := 21 })
abbrev mX6_start : MD := (yX6_start, cX6_start, 1, (some .int), RX6, { frames := 1, cells := 0, slots := 0, locals := 20 })
abbrev mX6_blocks : MD := (yX6_blocks, cX6_blocks, 2, (some .int), RX6, { frames := 1, cells := 0, slots := 0, locals := 21 })
abbrev mX6_build : MD := (yX6_build, cX6_build, 2, (some .int), RX6, { frames := 3, cells := 0, slots := 0, locals := 60 })
abbrev mX6_drop : MD := (yX6_drop, cX6_drop, 2, (some .int), RX6, { frames := 5, cells := 0, slots := 0, locals := 103 })
abbrev mX6_step : MD := (yX6_step, cX6_step, 4, (some .int), RX6, { frames := 6, cells := 0, slots := 0, locals := 143 })
abbrev mX6_info : MD := (yX6_info, cX6_info, 2, (some .int), RX6, { frames := 2, cells := 0, slots := 0, locals := 46 })
abbrev mX6_leaf : MD := (yX6_leaf, cX6_leaf, 2, (some .int), RX6, { frames := 4, cells := 0, slots := 0, locals := 98 })
abbrev mX6_audit : MD := (yX6_audit, cX6_audit, 2, (some .int), RX6, { frames := 4, cells := 0, slots := 0, locals := 104 })
abbrev mX6_ask : MD := (yX6_ask, cX6_ask, 3, (some .int), RX6, { frames := 4, cells := 0, slots := 0, locals := 102 })
abbrev mX6_answer : MD := (yX6_answer, cX6_answer, 2, (some .int), RX6, { frames := 0, cells := 0, slots := 0, locals := 0 })
abbrev mX6_cost : MD := (yX6_cost, cX6_cost, 1, (some .int), RX6, { frames := 0, cells := 0, slots := 0, locals := 0 })
abbrev mX6_entryOf : MD := (yX6_entryOf, cX6_entryOf, 2, (some .long), RX6, { frames := 0, cells := 0, slots := 0, locals := 0 })
abbrev mX6_keyOf : MD := (yX6_keyOf, cX6_keyOf, 2, (some .int), RX6, { frames := 0, cells := 0, slots := 0, locals := 0 })
abbrev mX6_placeOf : MD := (yX6_placeOf, cX6_placeOf, 2, (some .int), RX6, { frames := 0, cells := 0, slots := 0, locals := 0 })
abbrev mX6_wouldRepeat : MD := (yX6_wouldRepeat, cX6_wouldRepeat, 3, (some .boolean), RX6, { frames := 1, cells := 0, slots := 0, locals := 23 })
abbrev mX6_writeDown : MD := (yX6_writeDown, cX6_writeDown, 2, (some .boolean), RX6, { frames := 5, cells := 0, slots := 0, locals := 103 })
abbrev mX6_makeCheckpoint : MD := (yX6_makeCheckpoint, cX6_makeCheckpoint, 3, (some .boolean), RX6, { frames := 4, cells := 0, slots := 0, locals := 81 })
abbrev mX6_putBlocks : MD := (yX6_putBlocks, cX6_putBlocks, 2, (some .boolean), RX6, { frames := 3, cells := 0, slots := 0, locals := 60 })
abbrev mX6_follow : MD := (yX6_follow, cX6_follow, 4, none, RX6, { frames := 5, cells := 0, slots := 0, locals := 120 })
abbrev mX6_bringToTree : MD := (yX6_bringToTree, cX6_bringToTree, 4, none, RX6, { frames := 4, cells := 0, slots := 0, locals := 97 })
abbrev mX6_isBuilding : MD := (yX6_isBuilding, cX6_isBuilding, 1, (some .boolean), RX6, { frames := 0, cells := 0, slots := 0, locals := 0 })
abbrev mX6_hasTree : MD := (yX6_hasTree, cX6_hasTree, 1, (some .boolean), RX6, { frames := 0, cells := 0, slots := 0, locals := 0 })
abbrev mX6_isEntryOfTree : MD := (yX6_isEntryOfTree, cX6_isEntryOfTree, 2, (some .boolean), RX6, { frames := 1, cells := 0, slots := 0, locals := 20 })
abbrev mX6_forgetIndex : MD := (yX6_forgetIndex, cX6_forgetIndex, 1, none, RX6, { frames := 2, cells := 0, slots := 0, locals := 40 })
abbrev mX6_forgetBuilding : MD := (yX6_forgetBuilding, cX6_forgetBuilding, 1, none, RX6, { frames := 1, cells := 0, slots := 0, locals := 20 })
abbrev mX6_stopBuilding : MD := (yX6_stopBuilding, cX6_stopBuilding, 2, none, RX6, { frames := 2, cells := 0, slots := 0, locals := 40 })
abbrev mX6_scanPage : MD := (yX6_scanPage, cX6_scanPage, 4, (some .boolean), RX6, { frames := 4, cells := 0, slots := 0, locals := 81 })
abbrev mX6_mergeRuns : MD := (yX6_mergeRuns, cX6_mergeRuns, 1, (some .boolean), RX6, { frames := 4, cells := 0, slots := 0, locals := 81 })
abbrev mX6_blocksFor : MD := (yX6_blocksFor, cX6_blocksFor, 1, (some .int), RX6, { frames := 0, cells := 0, slots := 0, locals := 0 })
abbrev mX6_loadNode : MD := (yX6_loadNode, cX6_loadNode, 1, (some .boolean), RX6, { frames := 4, cells := 0, slots := 0, locals := 81 })
abbrev mX6_catchUp : MD := (yX6_catchUp, cX6_catchUp, 4, (some .boolean), RX6, { frames := 5, cells := 0, slots := 0, locals := 120 })
abbrev mX7_thrown : MD := (yX7_thrown, cX7_thrown, 1, (some .int), RX7, { frames := 0, cells := 0, slots := 0, locals := 0 })
abbrev mX7_in : MD := (yX7_in, cX7_in, 3, (some .boolean), RX7, { frames := 0, cells := 0, slots := 0, locals := 0 })
abbrev mX7_block : MD := (yX7_block, cX7_block, 1, (some .boolean), RX7, { frames := 1, cells := 0, slots := 0, locals := 21 })
abbrev mX7_writeBlocks : MD := (yX7_writeBlocks, cX7_writeBlocks, 4, (some .boolean), RX7, { frames := 2, cells := 0, slots := 0, locals := 41 })
abbrev mX7_checkpoint : MD := (yX7_checkpoint, cX7_checkpoint, 4, (some .boolean), RX7, { frames := 3, cells := 0, slots := 0, locals := 64 })
abbrev mX7_dirtyNodes : MD := (yX7_dirtyNodes, cX7_dirtyNodes, 3, (some .int), RX7, { frames := 0, cells := 0, slots := 0, locals := 0 })
abbrev mX7_writeDown : MD := (yX7_writeDown, cX7_writeDown, 1, (some .boolean), RX7, { frames := 4, cells := 0, slots := 0, locals := 87 })
abbrev mX7_forget : MD := (yX7_forget, cX7_forget, 2, none, RX7, { frames := 0, cells := 0, slots := 0, locals := 0 })
abbrev mX7_stop : MD := (yX7_stop, cX7_stop, 3, none, RX7, { frames := 1, cells := 0, slots := 0, locals := 21 })
abbrev mX7_newNode : MD := (yX7_newNode, cX7_newNode, 3, (some .int), RX7, { frames := 0, cells := 0, slots := 0, locals := 0 })
abbrev mX7_giveBack : MD := (yX7_giveBack, cX7_giveBack, 2, none, RX7, { frames := 0, cells := 0, slots := 0, locals := 0 })
abbrev mX7_isBefore : MD := (yX7_isBefore, cX7_isBefore, 4, (some .boolean), RX7, { frames := 0, cells := 0, slots := 0, locals := 0 })
abbrev mX7_firstLeaf : MD := (yX7_firstLeaf, cX7_firstLeaf, 3, (some .int), RX7, { frames := 0, cells := 0, slots := 0, locals := 0 })
abbrev mX7_descend : MD := (yX7_descend, cX7_descend, 7, none, RX7, { frames := 1, cells := 0, slots := 0, locals := 23 })
abbrev mX7_copySlot : MD := (yX7_copySlot, cX7_copySlot, 3, none, RX7, { frames := 0, cells := 0, slots := 0, locals := 0 })
abbrev mX7_openSlot : MD := (yX7_openSlot, cX7_openSlot, 4, none, RX7, { frames := 1, cells := 0, slots := 0, locals := 22 })
abbrev mX7_closeSlot : MD := (yX7_closeSlot, cX7_closeSlot, 4, none, RX7, { frames := 1, cells := 0, slots := 0, locals := 22 })
abbrev mX7_comes : MD := (yX7_comes, cX7_comes, 7, none, RX7, { frames := 2, cells := 0, slots := 0, locals := 49 })
abbrev mX7_goes : MD := (yX7_goes, cX7_goes, 6, none, RX7, { frames := 2, cells := 0, slots := 0, locals := 49 })
abbrev mX7_note : MD := (yX7_note, cX7_note, 4, none, RX7, { frames := 3, cells := 0, slots := 0, locals := 75 })
abbrev mX7_clashes : MD := (yX7_clashes, cX7_clashes, 5, (some .boolean), RX7, { frames := 0, cells := 0, slots := 0, locals := 0 })
abbrev mX7_add : MD := (yX7_add, cX7_add, 4, (some .int), RX7, { frames := 5, cells := 0, slots := 0, locals := 107 })
abbrev mX7_isRow : MD := (yX7_isRow, cX7_isRow, 2, (some .boolean), RX7, { frames := 1, cells := 0, slots := 0, locals := 22 })
abbrev mX7_change : MD := (yX7_change, cX7_change, 5, (some .int), RX7, { frames := 5, cells := 0, slots := 0, locals := 107 })
abbrev mX7_remove : MD := (yX7_remove, cX7_remove, 2, (some .int), RX7, { frames := 5, cells := 0, slots := 0, locals := 107 })
abbrev mX7_row : MD := (yX7_row, cX7_row, 3, (some .int), RX7, { frames := 2, cells := 0, slots := 0, locals := 43 })
abbrev mX7_cut : MD := (yX7_cut, cX7_cut, 3, (some .int), RX7, { frames := 1, cells := 0, slots := 0, locals := 22 })
abbrev mX7_start : MD := (yX7_start, cX7_start, 1, (some .int), RX7, { frames := 1, cells := 0, slots := 0, locals := 22 })
abbrev mX7_rowCount : MD := (yX7_rowCount, cX7_rowCount, 3, (some .int), RX7, { frames := 0, cells := 0, slots := 0, locals := 0 })
abbrev mX7_build : MD := (yX7_build, cX7_build, 2, (some .int), RX7, { frames := 1, cells := 0, slots := 0, locals := 22 })
abbrev mX7_drop : MD := (yX7_drop, cX7_drop, 2, (some .int), RX7, { frames := 4, cells := 0, slots := 0, locals := 87 })
abbrev mX7_runFrom : MD := (yX7_runFrom, cX7_runFrom, 2, (some .int), RX7, { frames := 0, cells := 0, slots := 0, locals := 0 })
abbrev mX7_sort : MD := (yX7_sort, cX7_sort, 7, none, RX7, { frames := 1, cells := 0, slots := 0, locals := 23 })
abbrev mX7_scanStep : MD := (yX7_scanStep, cX7_scanStep, 2, (some .boolean), RX7, { frames := 3, cells := 0, slots := 0, locals := 64 })
abbrev mX7_mergeStep : MD := (yX7_mergeStep, cX7_mergeStep, 4, (some .boolean), RX7, { frames := 3, cells := 0, slots := 0, locals := 64 })
abbrev mX7_loadStep : MD := (yX7_loadStep, cX7_loadStep, 4, (some .boolean), RX7, { frames := 2, cells := 0, slots := 0, locals := 43 })
abbrev mX7_catchStep : MD := (yX7_catchStep, cX7_catchStep, 5, (some .boolean), RX7, { frames := 4, cells := 0, slots := 0, locals := 87 })
abbrev mX7_findClash : MD := (yX7_findClash, cX7_findClash, 5, (some .boolean), RX7, { frames := 2, cells := 0, slots := 0, locals := 43 })
abbrev mX7_step : MD := (yX7_step, cX7_step, 4, (some .int), RX7, { frames := 5, cells := 0, slots := 0, locals := 111 })
abbrev mX7_height : MD := (yX7_height, cX7_height, 3, (some .int), RX7, { frames := 0, cells := 0, slots := 0, locals := 0 })
abbrev mX7_goThrough : MD := (yX7_goThrough, cX7_goThrough, 3, none, RX7, { frames := 0, cells := 0, slots := 0, locals := 0 })
abbrev mX7_entries : MD := (yX7_entries, cX7_entries, 3, (some .int), RX7, { frames := 1, cells := 0, slots := 0, locals := 22 })
abbrev mX7_info : MD := (yX7_info, cX7_info, 4, (some .int), RX7, { frames := 2, cells := 0, slots := 0, locals := 44 })
abbrev mX7_slotOf : MD := (yX7_slotOf, cX7_slotOf, 5, (some .int), RX7, { frames := 1, cells := 0, slots := 0, locals := 22 })
abbrev mX7_entry : MD := (yX7_entry, cX7_entry, 4, (some .int), RX7, { frames := 2, cells := 0, slots := 0, locals := 46 })
abbrev mX7_leaf : MD := (yX7_leaf, cX7_leaf, 3, (some .int), RX7, { frames := 2, cells := 0, slots := 0, locals := 46 })
abbrev mX7_ask : MD := (yX7_ask, cX7_ask, 8, (some .int), RX7, { frames := 2, cells := 0, slots := 0, locals := 49 })
abbrev mX7_answer : MD := (yX7_answer, cX7_answer, 2, (some .int), RX7, { frames := 1, cells := 0, slots := 0, locals := 22 })
abbrev mX7_cost : MD := (yX7_cost, cX7_cost, 1, (some .int), RX7, { frames := 0, cells := 0, slots := 0, locals := 0 })
abbrev mX7_blocks : MD := (yX7_blocks, cX7_blocks, 2, (some .int), RX7, { frames := 0, cells := 0, slots := 0, locals := 0 })
abbrev mX7_rows : MD := (yX7_rows, cX7_rows, 1, (some .int), RX7, { frames := 1, cells := 0, slots := 0, locals := 22 })
abbrev mX7_audit : MD := (yX7_audit, cX7_audit, 1, (some .int), RX7, { frames := 2, cells := 0, slots := 0, locals := 44 })
theorem flX0_9 : FL RX0 9 0 0 := ⟨RX0, TX0, 6, rfl, by decide, inlX0, by decide +kernel⟩
theorem flX0_15 : FL RX0 15 0 1 := ⟨RX0, TX0, 6, rfl, by decide, inlX0, by decide +kernel⟩
theorem flX0_19 : FL RX0 19 0 2 := ⟨RX0, TX0, 6, rfl, by decide, inlX0, by decide +kernel⟩
theorem flX0_22 : FL RX0 22 0 3 := ⟨RX0, TX0, 6, rfl, by decide, inlX0, by decide +kernel⟩
theorem flX0_25 : FL RX0 25 0 4 := ⟨RX0, TX0, 6, rfl, by decide, inlX0, by decide +kernel⟩
theorem flX0_28 : FL RX0 28 0 5 := ⟨RX0, TX0, 6, rfl, by decide, inlX0, by decide +kernel⟩
theorem flX1_9 : FL RX1 9 1 0 := ⟨RX1, TX1, 4, rfl, by decide, inlX1, by decide +kernel⟩
theorem flX1_15 : FL RX1 15 1 1 := ⟨RX1, TX1, 4, rfl, by decide, inlX1, by decide +kernel⟩
theorem flX1_19 : FL RX1 19 1 2 := ⟨RX1, TX1, 4, rfl, by decide, inlX1, by decide +kernel⟩
theorem flX1_22 : FL RX1 22 1 3 := ⟨RX1, TX1, 4, rfl, by decide, inlX1, by decide +kernel⟩
theorem flX2_9 : FL RX2 9 2 0 := ⟨RX2, TX2, 4, rfl, by decide, inlX2, by decide +kernel⟩
theorem flX2_15 : FL RX2 15 2 1 := ⟨RX2, TX2, 4, rfl, by decide, inlX2, by decide +kernel⟩
theorem flX2_19 : FL RX2 19 2 2 := ⟨RX2, TX2, 4, rfl, by decide, inlX2, by decide +kernel⟩
theorem flX2_23 : FL RX2 23 2 3 := ⟨RX2, TX2, 4, rfl, by decide, inlX2, by decide +kernel⟩
theorem flX3_9 : FL RX3 9 3 0 := ⟨RX3, TX3, 7, rfl, by decide, inlX3, by decide +kernel⟩
theorem flX3_15 : FL RX3 15 3 1 := ⟨RX3, TX3, 7, rfl, by decide, inlX3, by decide +kernel⟩
theorem flX3_19 : FL RX3 19 3 2 := ⟨RX3, TX3, 7, rfl, by decide, inlX3, by decide +kernel⟩
theorem flX3_22 : FL RX3 22 3 3 := ⟨RX3, TX3, 7, rfl, by decide, inlX3, by decide +kernel⟩
theorem flX3_25 : FL RX3 25 3 4 := ⟨RX3, TX3, 7, rfl, by decide, inlX3, by decide +kernel⟩
theorem flX3_28 : FL RX3 28 3 5 := ⟨RX3, TX3, 7, rfl, by decide, inlX3, by decide +kernel⟩
theorem flX3_32 : FL RX3 32 3 6 := ⟨RX3, TX3, 7, rfl, by decide, inlX3, by decide +kernel⟩
theorem flX4_9 : FL RX4 9 4 0 := ⟨RX4, TX4, 5, rfl, by decide, inlX4, by decide +kernel⟩
theorem flX4_15 : FL RX4 15 4 1 := ⟨RX4, TX4, 5, rfl, by decide, inlX4, by decide +kernel⟩
theorem flX4_18 : FL RX4 18 4 2 := ⟨RX4, TX4, 5, rfl, by decide, inlX4, by decide +kernel⟩
theorem flX4_22 : FL RX4 22 4 3 := ⟨RX4, TX4, 5, rfl, by decide, inlX4, by decide +kernel⟩
theorem flX4_25 : FL RX4 25 4 4 := ⟨RX4, TX4, 5, rfl, by decide, inlX4, by decide +kernel⟩
theorem flX5_11 : FL RX5 11 5 0 := ⟨RX5, TX5, 13, rfl, by decide, inlX5, by decide +kernel⟩
theorem flX5_16 : FL RX5 16 5 1 := ⟨RX5, TX5, 13, rfl, by decide, inlX5, by decide +kernel⟩
theorem flX5_20 : FL RX5 20 5 2 := ⟨RX5, TX5, 13, rfl, by decide, inlX5, by decide +kernel⟩
theorem flX5_24 : FL RX5 24 5 3 := ⟨RX5, TX5, 13, rfl, by decide, inlX5, by decide +kernel⟩
theorem flX5_27 : FL RX5 27 5 4 := ⟨RX5, TX5, 13, rfl, by decide, inlX5, by decide +kernel⟩
theorem flX5_30 : FL RX5 30 5 5 := ⟨RX5, TX5, 13, rfl, by decide, inlX5, by decide +kernel⟩
theorem flX5_34 : FL RX5 34 5 6 := ⟨RX5, TX5, 13, rfl, by decide, inlX5, by decide +kernel⟩
theorem flX5_37 : FL RX5 37 5 7 := ⟨RX5, TX5, 13, rfl, by decide, inlX5, by decide +kernel⟩
theorem flX5_40 : FL RX5 40 5 8 := ⟨RX5, TX5, 13, rfl, by decide, inlX5, by decide +kernel⟩
theorem flX5_43 : FL RX5 43 5 9 := ⟨RX5, TX5, 13, rfl, by decide, inlX5, by decide +kernel⟩
theorem flX5_46 : FL RX5 46 5 10 := ⟨RX5, TX5, 13, rfl, by decide, inlX5, by decide +kernel⟩
theorem flX5_49 : FL RX5 49 5 11 := ⟨RX5, TX5, 13, rfl, by decide, inlX5, by decide +kernel⟩
theorem flX5_52 : FL RX5 52 5 12 := ⟨RX5, TX5, 13, rfl, by decide, inlX5, by decide +kernel⟩
theorem flX6_10 : FL RX6 10 6 0 := ⟨RX6, TX6, 15, rfl, by decide, inlX6, by decide +kernel⟩
theorem flX6_19 : FL RX6 19 6 1 := ⟨RX6, TX6, 15, rfl, by decide, inlX6, by decide +kernel⟩
theorem flX6_23 : FL RX6 23 6 2 := ⟨RX6, TX6, 15, rfl, by decide, inlX6, by decide +kernel⟩
theorem flX6_27 : FL RX6 27 6 3 := ⟨RX6, TX6, 15, rfl, by decide, inlX6, by decide +kernel⟩
theorem flX6_31 : FL RX6 31 6 4 := ⟨RX6, TX6, 15, rfl, by decide, inlX6, by decide +kernel⟩
theorem flX6_34 : FL RX6 34 6 5 := ⟨RX6, TX6, 15, rfl, by decide, inlX6, by decide +kernel⟩
theorem flX6_37 : FL RX6 37 6 6 := ⟨RX6, TX6, 15, rfl, by decide, inlX6, by decide +kernel⟩
theorem flX6_40 : FL RX6 40 6 7 := ⟨RX6, TX6, 15, rfl, by decide, inlX6, by decide +kernel⟩
theorem flX6_46 : FL RX6 46 6 8 := ⟨RX6, TX6, 15, rfl, by decide, inlX6, by decide +kernel⟩
theorem flX6_53 : FL RX6 53 6 9 := ⟨RX6, TX6, 15, rfl, by decide, inlX6, by decide +kernel⟩
theorem flX6_60 : FL RX6 60 6 10 := ⟨RX6, TX6, 15, rfl, by decide, inlX6, by decide +kernel⟩
theorem flX6_67 : FL RX6 67 6 11 := ⟨RX6, TX6, 15, rfl, by decide, inlX6, by decide +kernel⟩
theorem flX6_71 : FL RX6 71 6 12 := ⟨RX6, TX6, 15, rfl, by decide, inlX6, by decide +kernel⟩
theorem flX6_75 : FL RX6 75 6 13 := ⟨RX6, TX6, 15, rfl, by decide, inlX6, by decide +kernel⟩
theorem flX6_78 : FL RX6 78 6 14 := ⟨RX6, TX6, 15, rfl, by decide, inlX6, by decide +kernel⟩
theorem flX7_7 : FL RX7 7 7 1 := ⟨RX7, TX7, 52, rfl, by decide, inlX7, by decide +kernel⟩
theorem flX7_13 : FL RX7 13 7 2 := ⟨RX7, TX7, 52, rfl, by decide, inlX7, by decide +kernel⟩
theorem flX7_17 : FL RX7 17 7 3 := ⟨RX7, TX7, 52, rfl, by decide, inlX7, by decide +kernel⟩
theorem flX7_20 : FL RX7 20 7 5 := ⟨RX7, TX7, 52, rfl, by decide, inlX7, by decide +kernel⟩
theorem flX7_24 : FL RX7 24 7 10 := ⟨RX7, TX7, 52, rfl, by decide, inlX7, by decide +kernel⟩
theorem flX7_27 : FL RX7 27 7 14 := ⟨RX7, TX7, 52, rfl, by decide, inlX7, by decide +kernel⟩
theorem flX7_30 : FL RX7 30 7 15 := ⟨RX7, TX7, 52, rfl, by decide, inlX7, by decide +kernel⟩
theorem flX7_33 : FL RX7 33 7 18 := ⟨RX7, TX7, 52, rfl, by decide, inlX7, by decide +kernel⟩
theorem flX7_36 : FL RX7 36 7 19 := ⟨RX7, TX7, 52, rfl, by decide, inlX7, by decide +kernel⟩
theorem flX7_39 : FL RX7 39 7 21 := ⟨RX7, TX7, 52, rfl, by decide, inlX7, by decide +kernel⟩
theorem flX7_42 : FL RX7 42 7 23 := ⟨RX7, TX7, 52, rfl, by decide, inlX7, by decide +kernel⟩
theorem flX7_45 : FL RX7 45 7 24 := ⟨RX7, TX7, 52, rfl, by decide, inlX7, by decide +kernel⟩
theorem flX7_48 : FL RX7 48 7 25 := ⟨RX7, TX7, 52, rfl, by decide, inlX7, by decide +kernel⟩
theorem flX7_51 : FL RX7 51 7 29 := ⟨RX7, TX7, 52, rfl, by decide, inlX7, by decide +kernel⟩
theorem flX7_54 : FL RX7 54 7 32 := ⟨RX7, TX7, 52, rfl, by decide, inlX7, by decide +kernel⟩
theorem flX7_57 : FL RX7 57 7 35 := ⟨RX7, TX7, 52, rfl, by decide, inlX7, by decide +kernel⟩
theorem flX7_60 : FL RX7 60 7 36 := ⟨RX7, TX7, 52, rfl, by decide, inlX7, by decide +kernel⟩
theorem flX7_63 : FL RX7 63 7 37 := ⟨RX7, TX7, 52, rfl, by decide, inlX7, by decide +kernel⟩
theorem flX7_66 : FL RX7 66 7 38 := ⟨RX7, TX7, 52, rfl, by decide, inlX7, by decide +kernel⟩
theorem flX7_69 : FL RX7 69 7 39 := ⟨RX7, TX7, 52, rfl, by decide, inlX7, by decide +kernel⟩
theorem flX7_72 : FL RX7 72 7 40 := ⟨RX7, TX7, 52, rfl, by decide, inlX7, by decide +kernel⟩
theorem flX7_75 : FL RX7 75 7 41 := ⟨RX7, TX7, 52, rfl, by decide, inlX7, by decide +kernel⟩
theorem flX7_78 : FL RX7 78 7 43 := ⟨RX7, TX7, 52, rfl, by decide, inlX7, by decide +kernel⟩
theorem flX7_81 : FL RX7 81 7 46 := ⟨RX7, TX7, 52, rfl, by decide, inlX7, by decide +kernel⟩
theorem flX7_84 : FL RX7 84 7 47 := ⟨RX7, TX7, 52, rfl, by decide, inlX7, by decide +kernel⟩
theorem flX7_87 : FL RX7 87 7 48 := ⟨RX7, TX7, 52, rfl, by decide, inlX7, by decide +kernel⟩
theorem flX7_90 : FL RX7 90 7 49 := ⟨RX7, TX7, 52, rfl, by decide, inlX7, by decide +kernel⟩
theorem flX7_93 : FL RX7 93 7 51 := ⟨RX7, TX7, 52, rfl, by decide, inlX7, by decide +kernel⟩
theorem flX7_96 : FL RX7 96 7 0 := ⟨RX7, TX7, 52, rfl, by decide, inlX7, by decide +kernel⟩
theorem flX7_99 : FL RX7 99 7 6 := ⟨RX7, TX7, 52, rfl, by decide, inlX7, by decide +kernel⟩
theorem flX7_102 : FL RX7 102 7 4 := ⟨RX7, TX7, 52, rfl, by decide, inlX7, by decide +kernel⟩
theorem flX7_106 : FL RX7 106 7 11 := ⟨RX7, TX7, 52, rfl, by decide, inlX7, by decide +kernel⟩
theorem flX7_120 : FL RX7 120 7 7 := ⟨RX7, TX7, 52, rfl, by decide, inlX7, by decide +kernel⟩
theorem flX7_123 : FL RX7 123 7 8 := ⟨RX7, TX7, 52, rfl, by decide, inlX7, by decide +kernel⟩
theorem flX7_126 : FL RX7 126 7 9 := ⟨RX7, TX7, 52, rfl, by decide, inlX7, by decide +kernel⟩
theorem flX7_136 : FL RX7 136 7 13 := ⟨RX7, TX7, 52, rfl, by decide, inlX7, by decide +kernel⟩
theorem flX7_139 : FL RX7 139 7 16 := ⟨RX7, TX7, 52, rfl, by decide, inlX7, by decide +kernel⟩
theorem flX7_142 : FL RX7 142 7 17 := ⟨RX7, TX7, 52, rfl, by decide, inlX7, by decide +kernel⟩
theorem flX7_145 : FL RX7 145 7 20 := ⟨RX7, TX7, 52, rfl, by decide, inlX7, by decide +kernel⟩
theorem flX7_148 : FL RX7 148 7 22 := ⟨RX7, TX7, 52, rfl, by decide, inlX7, by decide +kernel⟩
theorem flX7_151 : FL RX7 151 7 33 := ⟨RX7, TX7, 52, rfl, by decide, inlX7, by decide +kernel⟩
theorem flX7_154 : FL RX7 154 7 12 := ⟨RX7, TX7, 52, rfl, by decide, inlX7, by decide +kernel⟩
theorem flX7_157 : FL RX7 157 7 45 := ⟨RX7, TX7, 52, rfl, by decide, inlX7, by decide +kernel⟩
theorem flX7_160 : FL RX7 160 7 34 := ⟨RX7, TX7, 52, rfl, by decide, inlX7, by decide +kernel⟩
theorem flX7_222 : FL RX7 222 7 26 := ⟨RX7, TX7, 52, rfl, by decide, inlX7, by decide +kernel⟩
theorem flX7_225 : FL RX7 225 7 27 := ⟨RX7, TX7, 52, rfl, by decide, inlX7, by decide +kernel⟩
theorem flX7_228 : FL RX7 228 7 31 := ⟨RX7, TX7, 52, rfl, by decide, inlX7, by decide +kernel⟩
theorem flX7_231 : FL RX7 231 7 28 := ⟨RX7, TX7, 52, rfl, by decide, inlX7, by decide +kernel⟩
theorem flX7_234 : FL RX7 234 7 30 := ⟨RX7, TX7, 52, rfl, by decide, inlX7, by decide +kernel⟩
theorem flX7_258 : FL RX7 258 7 50 := ⟨RX7, TX7, 52, rfl, by decide, inlX7, by decide +kernel⟩
theorem flX7_273 : FL RX7 273 7 42 := ⟨RX7, TX7, 52, rfl, by decide, inlX7, by decide +kernel⟩
theorem flX7_276 : FL RX7 276 7 44 := ⟨RX7, TX7, 52, rfl, by decide, inlX7, by decide +kernel⟩
theorem fpX0_9 : FP RX0 9 0 0 .boolean := ⟨RX0, TX0, 6, tyX0, rfl, by decide, inlX0, by decide +kernel, tyX0_ok, nmX0, rfl, by decide +kernel⟩
theorem fpX0_15 : FP RX0 15 0 1 .int := ⟨RX0, TX0, 6, tyX0, rfl, by decide, inlX0, by decide +kernel, tyX0_ok, nmX0, rfl, by decide +kernel⟩
theorem fpX0_19 : FP RX0 19 0 2 .int := ⟨RX0, TX0, 6, tyX0, rfl, by decide, inlX0, by decide +kernel, tyX0_ok, nmX0, rfl, by decide +kernel⟩
theorem fpX0_22 : FP RX0 22 0 3 .int := ⟨RX0, TX0, 6, tyX0, rfl, by decide, inlX0, by decide +kernel, tyX0_ok, nmX0, rfl, by decide +kernel⟩
theorem fpX0_25 : FP RX0 25 0 4 .int := ⟨RX0, TX0, 6, tyX0, rfl, by decide, inlX0, by decide +kernel, tyX0_ok, nmX0, rfl, by decide +kernel⟩
theorem fpX0_28 : FP RX0 28 0 5 .int := ⟨RX0, TX0, 6, tyX0, rfl, by decide, inlX0, by decide +kernel, tyX0_ok, nmX0, rfl, by decide +kernel⟩
theorem fpX1_9 : FP RX1 9 1 0 .boolean := ⟨RX1, TX1, 4, tyX1, rfl, by decide, inlX1, by decide +kernel, tyX1_ok, nmX1, rfl, by decide +kernel⟩
theorem fpX1_15 : FP RX1 15 1 1 .int := ⟨RX1, TX1, 4, tyX1, rfl, by decide, inlX1, by decide +kernel, tyX1_ok, nmX1, rfl, by decide +kernel⟩
theorem fpX1_19 : FP RX1 19 1 2 .int := ⟨RX1, TX1, 4, tyX1, rfl, by decide, inlX1, by decide +kernel, tyX1_ok, nmX1, rfl, by decide +kernel⟩
theorem fpX1_22 : FP RX1 22 1 3 .int := ⟨RX1, TX1, 4, tyX1, rfl, by decide, inlX1, by decide +kernel, tyX1_ok, nmX1, rfl, by decide +kernel⟩
theorem fpX2_19 : FP RX2 19 2 2 .int := ⟨RX2, TX2, 4, tyX2, rfl, by decide, inlX2, by decide +kernel, tyX2_ok, nmX2, rfl, by decide +kernel⟩
theorem fpX2_23 : FP RX2 23 2 3 .int := ⟨RX2, TX2, 4, tyX2, rfl, by decide, inlX2, by decide +kernel, tyX2_ok, nmX2, rfl, by decide +kernel⟩
theorem fpX3_15 : FP RX3 15 3 1 .int := ⟨RX3, TX3, 7, tyX3, rfl, by decide, inlX3, by decide +kernel, tyX3_ok, nmX3, rfl, by decide +kernel⟩
theorem fpX3_25 : FP RX3 25 3 4 .int := ⟨RX3, TX3, 7, tyX3, rfl, by decide, inlX3, by decide +kernel, tyX3_ok, nmX3, rfl, by decide +kernel⟩
theorem fpX3_32 : FP RX3 32 3 6 .int := ⟨RX3, TX3, 7, tyX3, rfl, by decide, inlX3, by decide +kernel, tyX3_ok, nmX3, rfl, by decide +kernel⟩
theorem fpX4_25 : FP RX4 25 4 4 .int := ⟨RX4, TX4, 5, tyX4, rfl, by decide, inlX4, by decide +kernel, tyX4_ok, nmX4, rfl, by decide +kernel⟩
theorem fpX5_30 : FP RX5 30 5 5 .int := ⟨RX5, TX5, 13, tyX5, rfl, by decide, inlX5, by decide +kernel, tyX5_ok, nmX5, rfl, by decide +kernel⟩
theorem fpX5_34 : FP RX5 34 5 6 .int := ⟨RX5, TX5, 13, tyX5, rfl, by decide, inlX5, by decide +kernel, tyX5_ok, nmX5, rfl, by decide +kernel⟩
theorem fpX5_37 : FP RX5 37 5 7 .int := ⟨RX5, TX5, 13, tyX5, rfl, by decide, inlX5, by decide +kernel, tyX5_ok, nmX5, rfl, by decide +kernel⟩
theorem fpX5_46 : FP RX5 46 5 10 .int := ⟨RX5, TX5, 13, tyX5, rfl, by decide, inlX5, by decide +kernel, tyX5_ok, nmX5, rfl, by decide +kernel⟩
theorem fpX6_23 : FP RX6 23 6 2 .int := ⟨RX6, TX6, 15, tyX6, rfl, by decide, inlX6, by decide +kernel, tyX6_ok, nmX6, rfl, by decide +kernel⟩
theorem fpX6_27 : FP RX6 27 6 3 .boolean := ⟨RX6, TX6, 15, tyX6, rfl, by decide, inlX6, by decide +kernel, tyX6_ok, nmX6, rfl, by decide +kernel⟩
theorem fpX6_31 : FP RX6 31 6 4 .int := ⟨RX6, TX6, 15, tyX6, rfl, by decide, inlX6, by decide +kernel, tyX6_ok, nmX6, rfl, by decide +kernel⟩
theorem fpX6_34 : FP RX6 34 6 5 .int := ⟨RX6, TX6, 15, tyX6, rfl, by decide, inlX6, by decide +kernel, tyX6_ok, nmX6, rfl, by decide +kernel⟩
theorem fpX6_37 : FP RX6 37 6 6 .int := ⟨RX6, TX6, 15, tyX6, rfl, by decide, inlX6, by decide +kernel, tyX6_ok, nmX6, rfl, by decide +kernel⟩
theorem fpX6_40 : FP RX6 40 6 7 .int := ⟨RX6, TX6, 15, tyX6, rfl, by decide, inlX6, by decide +kernel, tyX6_ok, nmX6, rfl, by decide +kernel⟩
theorem fpX6_75 : FP RX6 75 6 13 .int := ⟨RX6, TX6, 15, tyX6, rfl, by decide, inlX6, by decide +kernel, tyX6_ok, nmX6, rfl, by decide +kernel⟩
theorem fpX6_78 : FP RX6 78 6 14 .int := ⟨RX6, TX6, 15, tyX6, rfl, by decide, inlX6, by decide +kernel, tyX6_ok, nmX6, rfl, by decide +kernel⟩
theorem fpX7_20 : FP RX7 20 7 5 .int := ⟨RX7, TX7, 52, tyX7, rfl, by decide, inlX7, by decide +kernel, tyX7_ok, nmX7, rfl, by decide +kernel⟩
theorem fpX7_27 : FP RX7 27 7 14 .int := ⟨RX7, TX7, 52, tyX7, rfl, by decide, inlX7, by decide +kernel, tyX7_ok, nmX7, rfl, by decide +kernel⟩
theorem fpX7_30 : FP RX7 30 7 15 .int := ⟨RX7, TX7, 52, tyX7, rfl, by decide, inlX7, by decide +kernel, tyX7_ok, nmX7, rfl, by decide +kernel⟩
theorem fpX7_96 : FP RX7 96 7 0 .int := ⟨RX7, TX7, 52, tyX7, rfl, by decide, inlX7, by decide +kernel, tyX7_ok, nmX7, rfl, by decide +kernel⟩
theorem fpX7_99 : FP RX7 99 7 6 .int := ⟨RX7, TX7, 52, tyX7, rfl, by decide, inlX7, by decide +kernel, tyX7_ok, nmX7, rfl, by decide +kernel⟩
theorem fpX7_102 : FP RX7 102 7 4 .boolean := ⟨RX7, TX7, 52, tyX7, rfl, by decide, inlX7, by decide +kernel, tyX7_ok, nmX7, rfl, by decide +kernel⟩
theorem fpX7_106 : FP RX7 106 7 11 .int := ⟨RX7, TX7, 52, tyX7, rfl, by decide, inlX7, by decide +kernel, tyX7_ok, nmX7, rfl, by decide +kernel⟩
theorem fpX7_120 : FP RX7 120 7 7 .int := ⟨RX7, TX7, 52, tyX7, rfl, by decide, inlX7, by decide +kernel, tyX7_ok, nmX7, rfl, by decide +kernel⟩
theorem fpX7_123 : FP RX7 123 7 8 .int := ⟨RX7, TX7, 52, tyX7, rfl, by decide, inlX7, by decide +kernel, tyX7_ok, nmX7, rfl, by decide +kernel⟩
theorem fpX7_126 : FP RX7 126 7 9 .int := ⟨RX7, TX7, 52, tyX7, rfl, by decide, inlX7, by decide +kernel, tyX7_ok, nmX7, rfl, by decide +kernel⟩
theorem fpX7_136 : FP RX7 136 7 13 .int := ⟨RX7, TX7, 52, tyX7, rfl, by decide, inlX7, by decide +kernel, tyX7_ok, nmX7, rfl, by decide +kernel⟩
theorem fpX7_139 : FP RX7 139 7 16 .int := ⟨RX7, TX7, 52, tyX7, rfl, by decide, inlX7, by decide +kernel, tyX7_ok, nmX7, rfl, by decide +kernel⟩
theorem fpX7_142 : FP RX7 142 7 17 .int := ⟨RX7, TX7, 52, tyX7, rfl, by decide, inlX7, by decide +kernel, tyX7_ok, nmX7, rfl, by decide +kernel⟩
theorem fpX7_145 : FP RX7 145 7 20 .int := ⟨RX7, TX7, 52, tyX7, rfl, by decide, inlX7, by decide +kernel, tyX7_ok, nmX7, rfl, by decide +kernel⟩
theorem fpX7_148 : FP RX7 148 7 22 .int := ⟨RX7, TX7, 52, tyX7, rfl, by decide, inlX7, by decide +kernel, tyX7_ok, nmX7, rfl, by decide +kernel⟩
theorem fpX7_151 : FP RX7 151 7 33 .int := ⟨RX7, TX7, 52, tyX7, rfl, by decide, inlX7, by decide +kernel, tyX7_ok, nmX7, rfl, by decide +kernel⟩
theorem fpX7_154 : FP RX7 154 7 12 .boolean := ⟨RX7, TX7, 52, tyX7, rfl, by decide, inlX7, by decide +kernel, tyX7_ok, nmX7, rfl, by decide +kernel⟩
theorem fpX7_157 : FP RX7 157 7 45 .int := ⟨RX7, TX7, 52, tyX7, rfl, by decide, inlX7, by decide +kernel, tyX7_ok, nmX7, rfl, by decide +kernel⟩
theorem fpX7_160 : FP RX7 160 7 34 .int := ⟨RX7, TX7, 52, tyX7, rfl, by decide, inlX7, by decide +kernel, tyX7_ok, nmX7, rfl, by decide +kernel⟩
theorem fpX7_222 : FP RX7 222 7 26 .int := ⟨RX7, TX7, 52, tyX7, rfl, by decide, inlX7, by decide +kernel, tyX7_ok, nmX7, rfl, by decide +kernel⟩
theorem fpX7_225 : FP RX7 225 7 27 .boolean := ⟨RX7, TX7, 52, tyX7, rfl, by decide, inlX7, by decide +kernel, tyX7_ok, nmX7, rfl, by decide +kernel⟩
theorem fpX7_228 : FP RX7 228 7 31 .int := ⟨RX7, TX7, 52, tyX7, rfl, by decide, inlX7, by decide +kernel, tyX7_ok, nmX7, rfl, by decide +kernel⟩
theorem fpX7_231 : FP RX7 231 7 28 .int := ⟨RX7, TX7, 52, tyX7, rfl, by decide, inlX7, by decide +kernel, tyX7_ok, nmX7, rfl, by decide +kernel⟩
theorem fpX7_234 : FP RX7 234 7 30 .int := ⟨RX7, TX7, 52, tyX7, rfl, by decide, inlX7, by decide +kernel, tyX7_ok, nmX7, rfl, by decide +kernel⟩
theorem fpX7_258 : FP RX7 258 7 50 .int := ⟨RX7, TX7, 52, tyX7, rfl, by decide, inlX7, by decide +kernel, tyX7_ok, nmX7, rfl, by decide +kernel⟩
theorem fpX7_273 : FP RX7 273 7 42 .int := ⟨RX7, TX7, 52, tyX7, rfl, by decide, inlX7, by decide +kernel, tyX7_ok, nmX7, rfl, by decide +kernel⟩
theorem fpX7_276 : FP RX7 276 7 44 .int := ⟨RX7, TX7, 52, tyX7, rfl, by decide, inlX7, by decide +kernel, tyX7_ok, nmX7, rfl, by decide +kernel⟩
theorem mlX1_25 : MLv RX1 25 mX5_newNode 1 := mlv_of (by decide +kernel) ⟨by decide +kernel, by decide +kernel, by decide +kernel⟩
theorem mlX1_31 : MLv RX1 31 mX3_entryAt 1 := mlv_of (by decide +kernel) ⟨by decide +kernel, by decide +kernel, by decide +kernel⟩
theorem mlX1_37 : MLv RX1 37 mX5_append 2 := mlv_of (by decide +kernel) ⟨by decide +kernel, by decide +kernel, by decide +kernel⟩
theorem mlX1_41 : MLv RX1 41 mX3_total 0 := mlv_of (by decide +kernel) ⟨by decide +kernel, by decide +kernel, by decide +kernel⟩
theorem mlX1_45 : MLv RX1 45 mX5_finishLoad 2 := mlv_of (by decide +kernel) ⟨by decide +kernel, by decide +kernel, by decide +kernel⟩
theorem mlX3_41 : MLv RX3 41 mX3_mergeInto 2 := mlv_of (by decide +kernel) ⟨by decide +kernel, by decide +kernel, by decide +kernel⟩
theorem mlX4_29 : MLv RX4 29 mX4_has 1 := mlv_of (by decide +kernel) ⟨by decide +kernel, by decide +kernel, by decide +kernel⟩
theorem mlX5_55 : MLv RX5 55 mX5_putIn 3 := mlv_of (by decide +kernel) ⟨by decide +kernel, by decide +kernel, by decide +kernel⟩
theorem mlX5_61 : MLv RX5 61 mX5_kidOf 2 := mlv_of (by decide +kernel) ⟨by decide +kernel, by decide +kernel, by decide +kernel⟩
theorem mlX5_65 : MLv RX5 65 mX5_leastOf 1 := mlv_of (by decide +kernel) ⟨by decide +kernel, by decide +kernel, by decide +kernel⟩
theorem mlX5_69 : MLv RX5 69 mX5_goDown 1 := mlv_of (by decide +kernel) ⟨by decide +kernel, by decide +kernel, by decide +kernel⟩
theorem mlX5_73 : MLv RX5 73 mX5_newNodesOnWay 0 := mlv_of (by decide +kernel) ⟨by decide +kernel, by decide +kernel, by decide +kernel⟩
theorem mlX5_77 : MLv RX5 77 mX5_divide 1 := mlv_of (by decide +kernel) ⟨by decide +kernel, by decide +kernel, by decide +kernel⟩
theorem mlX5_81 : MLv RX5 81 mX5_newNode 1 := mlv_of (by decide +kernel) ⟨by decide +kernel, by decide +kernel, by decide +kernel⟩
theorem mlX5_85 : MLv RX5 85 mX5_putRootOver 2 := mlv_of (by decide +kernel) ⟨by decide +kernel, by decide +kernel, by decide +kernel⟩
theorem mlX5_89 : MLv RX5 89 mX5_takeOut 2 := mlv_of (by decide +kernel) ⟨by decide +kernel, by decide +kernel, by decide +kernel⟩
theorem mlX5_92 : MLv RX5 92 mX5_freeNode 1 := mlv_of (by decide +kernel) ⟨by decide +kernel, by decide +kernel, by decide +kernel⟩
theorem mlX5_95 : MLv RX5 95 mX5_listRowBelow 1 := mlv_of (by decide +kernel) ⟨by decide +kernel, by decide +kernel, by decide +kernel⟩
theorem mlX5_105 : MLv RX5 105 mX5_listLeaves 0 := mlv_of (by decide +kernel) ⟨by decide +kernel, by decide +kernel, by decide +kernel⟩
theorem mlX5_108 : MLn RX5 108 mX6_keyOf 1 := ⟨good_M (by decide +kernel), by decide +kernel, by decide +kernel, by decide +kernel, by decide +kernel, by decide +kernel, by decide +kernel⟩
theorem mlX5_112 : MLn RX5 112 mX6_placeOf 1 := ⟨good_M (by decide +kernel), by decide +kernel, by decide +kernel, by decide +kernel, by decide +kernel, by decide +kernel, by decide +kernel⟩
theorem mlX5_115 : MLn RX5 115 mX6_entryOf 2 := ⟨good_M (by decide +kernel), by decide +kernel, by decide +kernel, by decide +kernel, by decide +kernel, by decide +kernel, by decide +kernel⟩
theorem mlX5_119 : MLv RX5 119 mX4_has 1 := mlv_of (by decide +kernel) ⟨by decide +kernel, by decide +kernel, by decide +kernel⟩
theorem mlX5_125 : MLv RX5 125 mX4_keyAt 1 := mlv_of (by decide +kernel) ⟨by decide +kernel, by decide +kernel, by decide +kernel⟩
theorem mlX5_128 : MLv RX5 128 mX4_count 0 := mlv_of (by decide +kernel) ⟨by decide +kernel, by decide +kernel, by decide +kernel⟩
theorem mlX6_81 : MLv RX6 81 mX0_isDown 0 := mlv_of (by decide +kernel) ⟨by decide +kernel, by decide +kernel, by decide +kernel⟩
theorem mlX6_85 : MLv RX6 85 mX4_firstFree 0 := mlv_of (by decide +kernel) ⟨by decide +kernel, by decide +kernel, by decide +kernel⟩
theorem mlX6_89 : MLv RX6 89 mX6_wouldRepeat 2 := mlv_of (by decide +kernel) ⟨by decide +kernel, by decide +kernel, by decide +kernel⟩
theorem mlX6_93 : MLv RX6 93 mX6_writeDown 0 := mlv_of (by decide +kernel) ⟨by decide +kernel, by decide +kernel, by decide +kernel⟩
theorem mlX6_96 : MLv RX6 96 mX4_put 3 := mlv_of (by decide +kernel) ⟨by decide +kernel, by decide +kernel, by decide +kernel⟩
theorem mlX6_100 : MLs RX6 100 mX6_entryOf 2 := mls_of (by decide +kernel) ⟨rfl, by decide +kernel, by decide +kernel, by decide +kernel⟩
theorem mlX6_104 : MLv RX6 104 mX6_follow 2 := mlv_of (by decide +kernel) ⟨by decide +kernel, by decide +kernel, by decide +kernel⟩
theorem mlX6_108 : MLv RX6 108 mX4_has 1 := mlv_of (by decide +kernel) ⟨by decide +kernel, by decide +kernel, by decide +kernel⟩
theorem mlX6_112 : MLv RX6 112 mX4_keyAt 1 := mlv_of (by decide +kernel) ⟨by decide +kernel, by decide +kernel, by decide +kernel⟩
theorem mlX6_116 : MLv RX6 116 mX4_clearPlace 1 := mlv_of (by decide +kernel) ⟨by decide +kernel, by decide +kernel, by decide +kernel⟩
theorem mlX6_135 : MLv RX6 135 mX4_count 0 := mlv_of (by decide +kernel) ⟨by decide +kernel, by decide +kernel, by decide +kernel⟩
theorem mlX6_138 : MLv RX6 138 mX0_setLoss 1 := mlv_of (by decide +kernel) ⟨by decide +kernel, by decide +kernel, by decide +kernel⟩
theorem mlX6_141 : MLv RX6 141 mX0_powerUp 0 := mlv_of (by decide +kernel) ⟨by decide +kernel, by decide +kernel, by decide +kernel⟩
theorem mlX6_144 : MLv RX6 144 mX0_countOf 1 := mlv_of (by decide +kernel) ⟨by decide +kernel, by decide +kernel, by decide +kernel⟩
theorem mlX6_147 : MLv RX6 147 mX6_forgetIndex 0 := mlv_of (by decide +kernel) ⟨by decide +kernel, by decide +kernel, by decide +kernel⟩
theorem mlX6_150 : MLv RX6 150 mX6_makeCheckpoint 1 := mlv_of (by decide +kernel) ⟨by decide +kernel, by decide +kernel, by decide +kernel⟩
theorem mlX6_153 : MLv RX6 153 mX6_isBuilding 0 := mlv_of (by decide +kernel) ⟨by decide +kernel, by decide +kernel, by decide +kernel⟩
theorem mlX6_156 : MLv RX6 156 mX6_scanPage 0 := mlv_of (by decide +kernel) ⟨by decide +kernel, by decide +kernel, by decide +kernel⟩
theorem mlX6_159 : MLv RX6 159 mX6_mergeRuns 0 := mlv_of (by decide +kernel) ⟨by decide +kernel, by decide +kernel, by decide +kernel⟩
theorem mlX6_162 : MLv RX6 162 mX6_loadNode 0 := mlv_of (by decide +kernel) ⟨by decide +kernel, by decide +kernel, by decide +kernel⟩
theorem mlX6_165 : MLv RX6 165 mX6_catchUp 0 := mlv_of (by decide +kernel) ⟨by decide +kernel, by decide +kernel, by decide +kernel⟩
theorem mlX6_168 : MLv RX6 168 mX3_count 0 := mlv_of (by decide +kernel) ⟨by decide +kernel, by decide +kernel, by decide +kernel⟩
theorem mlX6_169 : MLv RX6 169 mX3_pickedCount 0 := mlv_of (by decide +kernel) ⟨by decide +kernel, by decide +kernel, by decide +kernel⟩
theorem mlX6_172 : MLv RX6 172 mX2_count 0 := mlv_of (by decide +kernel) ⟨by decide +kernel, by decide +kernel, by decide +kernel⟩
theorem mlX6_173 : MLv RX6 173 mX5_nodeCount 0 := mlv_of (by decide +kernel) ⟨by decide +kernel, by decide +kernel, by decide +kernel⟩
theorem mlX6_176 : MLv RX6 176 mX6_hasTree 0 := mlv_of (by decide +kernel) ⟨by decide +kernel, by decide +kernel, by decide +kernel⟩
theorem mlX6_179 : MLv RX6 179 mX5_levels 0 := mlv_of (by decide +kernel) ⟨by decide +kernel, by decide +kernel, by decide +kernel⟩
theorem mlX6_182 : MLv RX6 182 mX5_entryCount 0 := mlv_of (by decide +kernel) ⟨by decide +kernel, by decide +kernel, by decide +kernel⟩
theorem mlX6_185 : MLv RX6 185 mX6_isEntryOfTree 1 := mlv_of (by decide +kernel) ⟨by decide +kernel, by decide +kernel, by decide +kernel⟩
theorem mlX6_190 : MLv RX6 190 mX5_entryAt 1 := mlv_of (by decide +kernel) ⟨by decide +kernel, by decide +kernel, by decide +kernel⟩
theorem mlX6_194 : MLs RX6 194 mX6_placeOf 1 := mls_of (by decide +kernel) ⟨rfl, by decide +kernel, by decide +kernel, by decide +kernel⟩
theorem mlX6_201 : MLv RX6 201 mX5_sizeOfLeafAt 1 := mlv_of (by decide +kernel) ⟨by decide +kernel, by decide +kernel, by decide +kernel⟩
theorem mlX6_204 : MLv RX6 204 mX5_hasJustTheRowsOf 1 := mlv_of (by decide +kernel) ⟨by decide +kernel, by decide +kernel, by decide +kernel⟩
theorem mlX6_208 : MLv RX6 208 mX5_sizesAreRight 0 := mlv_of (by decide +kernel) ⟨by decide +kernel, by decide +kernel, by decide +kernel⟩
theorem mlX6_211 : MLv RX6 211 mX5_leavesAreInOneRow 0 := mlv_of (by decide +kernel) ⟨by decide +kernel, by decide +kernel, by decide +kernel⟩
theorem mlX6_214 : MLv RX6 214 mX5_costOf 2 := mlv_of (by decide +kernel) ⟨by decide +kernel, by decide +kernel, by decide +kernel⟩
theorem mlX6_218 : MLv RX6 218 mX5_tell 3 := mlv_of (by decide +kernel) ⟨by decide +kernel, by decide +kernel, by decide +kernel⟩
theorem mlX6_222 : MLv RX6 222 mX4_tell 3 := mlv_of (by decide +kernel) ⟨by decide +kernel, by decide +kernel, by decide +kernel⟩
theorem mlX6_225 : MLv RX6 225 mX4_hasKeyBeside 2 := mlv_of (by decide +kernel) ⟨by decide +kernel, by decide +kernel, by decide +kernel⟩
theorem mlX6_228 : MLv RX6 228 mX0_writesSinceCheckpoint 0 := mlv_of (by decide +kernel) ⟨by decide +kernel, by decide +kernel, by decide +kernel⟩
theorem mlX6_231 : MLv RX6 231 mX5_touchedCount 0 := mlv_of (by decide +kernel) ⟨by decide +kernel, by decide +kernel, by decide +kernel⟩
theorem mlX6_234 : MLv RX6 234 mX6_putBlocks 1 := mlv_of (by decide +kernel) ⟨by decide +kernel, by decide +kernel, by decide +kernel⟩
theorem mlX6_237 : MLv RX6 237 mX0_noteWrite 0 := mlv_of (by decide +kernel) ⟨by decide +kernel, by decide +kernel, by decide +kernel⟩
theorem mlX6_240 : MLv RX6 240 mX4_touchedPages 0 := mlv_of (by decide +kernel) ⟨by decide +kernel, by decide +kernel, by decide +kernel⟩
theorem mlX6_243 : MLv RX6 243 mX0_noteCheckpoint 1 := mlv_of (by decide +kernel) ⟨by decide +kernel, by decide +kernel, by decide +kernel⟩
theorem mlX6_246 : MLv RX6 246 mX4_untouch 0 := mlv_of (by decide +kernel) ⟨by decide +kernel, by decide +kernel, by decide +kernel⟩
theorem mlX6_249 : MLv RX6 249 mX5_untouch 0 := mlv_of (by decide +kernel) ⟨by decide +kernel, by decide +kernel, by decide +kernel⟩
theorem mlX6_250 : MLv RX6 250 mX0_put 1 := mlv_of (by decide +kernel) ⟨by decide +kernel, by decide +kernel, by decide +kernel⟩
theorem mlX6_252 : MLv RX6 252 mX6_bringToTree 2 := mlv_of (by decide +kernel) ⟨by decide +kernel, by decide +kernel, by decide +kernel⟩
theorem mlX6_255 : MLv RX6 255 mX2_append 2 := mlv_of (by decide +kernel) ⟨by decide +kernel, by decide +kernel, by decide +kernel⟩
theorem mlX6_259 : MLv RX6 259 mX6_stopBuilding 1 := mlv_of (by decide +kernel) ⟨by decide +kernel, by decide +kernel, by decide +kernel⟩
theorem mlX6_262 : MLv RX6 262 mX5_letGo 1 := mlv_of (by decide +kernel) ⟨by decide +kernel, by decide +kernel, by decide +kernel⟩
theorem mlX6_266 : MLv RX6 266 mX5_letCome 1 := mlv_of (by decide +kernel) ⟨by decide +kernel, by decide +kernel, by decide +kernel⟩
theorem mlX6_270 : MLv RX6 270 mX6_forgetBuilding 0 := mlv_of (by decide +kernel) ⟨by decide +kernel, by decide +kernel, by decide +kernel⟩
theorem mlX6_273 : MLv RX6 273 mX5_clear 0 := mlv_of (by decide +kernel) ⟨by decide +kernel, by decide +kernel, by decide +kernel⟩
theorem mlX6_276 : MLv RX6 276 mX3_clear 0 := mlv_of (by decide +kernel) ⟨by decide +kernel, by decide +kernel, by decide +kernel⟩
theorem mlX6_277 : MLv RX6 277 mX2_clear 0 := mlv_of (by decide +kernel) ⟨by decide +kernel, by decide +kernel, by decide +kernel⟩
theorem mlX6_278 : MLv RX6 278 mX3_pick 1 := mlv_of (by decide +kernel) ⟨by decide +kernel, by decide +kernel, by decide +kernel⟩
theorem mlX6_281 : MLv RX6 281 mX3_closeRun 0 := mlv_of (by decide +kernel) ⟨by decide +kernel, by decide +kernel, by decide +kernel⟩
theorem mlX6_284 : MLs RX6 284 mX6_blocksFor 1 := mls_of (by decide +kernel) ⟨rfl, by decide +kernel, by decide +kernel, by decide +kernel⟩
theorem mlX6_287 : MLv RX6 287 mX3_mergeFirstTwo 0 := mlv_of (by decide +kernel) ⟨by decide +kernel, by decide +kernel, by decide +kernel⟩
theorem mlX6_290 : MLv RX6 290 mX3_total 0 := mlv_of (by decide +kernel) ⟨by decide +kernel, by decide +kernel, by decide +kernel⟩
theorem mlX6_293 : MLv RX6 293 mX1_begin 1 := mlv_of (by decide +kernel) ⟨by decide +kernel, by decide +kernel, by decide +kernel⟩
theorem mlX6_296 : MLv RX6 296 mX1_makeNode 2 := mlv_of (by decide +kernel) ⟨by decide +kernel, by decide +kernel, by decide +kernel⟩
theorem mlX6_300 : MLv RX6 300 mX2_firstEntry 0 := mlv_of (by decide +kernel) ⟨by decide +kernel, by decide +kernel, by decide +kernel⟩
theorem mlX6_304 : MLv RX6 304 mX2_firstComes 0 := mlv_of (by decide +kernel) ⟨by decide +kernel, by decide +kernel, by decide +kernel⟩
theorem mlX6_307 : MLv RX6 307 mX2_takeFirst 0 := mlv_of (by decide +kernel) ⟨by decide +kernel, by decide +kernel, by decide +kernel⟩
theorem mlX6_310 : MLv RX6 310 mX5_firstTwin 0 := mlv_of (by decide +kernel) ⟨by decide +kernel, by decide +kernel, by decide +kernel⟩
theorem mlX7_109 : MLv RX7 109 mX7_forget 0 := mlv_of (by decide +kernel) ⟨by decide +kernel, by decide +kernel, by decide +kernel⟩
theorem mlX7_112 : MLv RX7 112 mX7_block 0 := mlv_of (by decide +kernel) ⟨by decide +kernel, by decide +kernel, by decide +kernel⟩
theorem mlX7_116 : MLv RX7 116 mX7_writeBlocks 1 := mlv_of (by decide +kernel) ⟨by decide +kernel, by decide +kernel, by decide +kernel⟩
theorem mlX7_129 : MLv RX7 129 mX7_dirtyNodes 0 := mlv_of (by decide +kernel) ⟨by decide +kernel, by decide +kernel, by decide +kernel⟩
theorem mlX7_133 : MLv RX7 133 mX7_checkpoint 1 := mlv_of (by decide +kernel) ⟨by decide +kernel, by decide +kernel, by decide +kernel⟩
theorem mlX7_163 : MLv RX7 163 mX7_firstLeaf 1 := mlv_of (by decide +kernel) ⟨by decide +kernel, by decide +kernel, by decide +kernel⟩
theorem mlX7_167 : MLs RX7 167 mX7_isBefore 4 := mls_of (by decide +kernel) ⟨rfl, by decide +kernel, by decide +kernel, by decide +kernel⟩
theorem mlX7_171 : MLv RX7 171 mX7_copySlot 2 := mlv_of (by decide +kernel) ⟨by decide +kernel, by decide +kernel, by decide +kernel⟩
theorem mlX7_175 : MLv RX7 175 mX7_descend 2 := mlv_of (by decide +kernel) ⟨by decide +kernel, by decide +kernel, by decide +kernel⟩
theorem mlX7_178 : MLv RX7 178 mX7_openSlot 2 := mlv_of (by decide +kernel) ⟨by decide +kernel, by decide +kernel, by decide +kernel⟩
theorem mlX7_181 : MLv RX7 181 mX7_newNode 1 := mlv_of (by decide +kernel) ⟨by decide +kernel, by decide +kernel, by decide +kernel⟩
theorem mlX7_185 : MLv RX7 185 mX7_closeSlot 2 := mlv_of (by decide +kernel) ⟨by decide +kernel, by decide +kernel, by decide +kernel⟩
theorem mlX7_188 : MLv RX7 188 mX7_giveBack 1 := mlv_of (by decide +kernel) ⟨by decide +kernel, by decide +kernel, by decide +kernel⟩
theorem mlX7_192 : MLv RX7 192 mX7_comes 2 := mlv_of (by decide +kernel) ⟨by decide +kernel, by decide +kernel, by decide +kernel⟩
theorem mlX7_195 : MLv RX7 195 mX7_goes 2 := mlv_of (by decide +kernel) ⟨by decide +kernel, by decide +kernel, by decide +kernel⟩
theorem mlX7_198 : MLv RX7 198 mX7_stop 1 := mlv_of (by decide +kernel) ⟨by decide +kernel, by decide +kernel, by decide +kernel⟩
theorem mlX7_201 : MLs RX7 201 mX7_in 3 := mls_of (by decide +kernel) ⟨rfl, by decide +kernel, by decide +kernel, by decide +kernel⟩
theorem mlX7_205 : MLv RX7 205 mX7_clashes 2 := mlv_of (by decide +kernel) ⟨by decide +kernel, by decide +kernel, by decide +kernel⟩
theorem mlX7_209 : MLv RX7 209 mX7_writeDown 0 := mlv_of (by decide +kernel) ⟨by decide +kernel, by decide +kernel, by decide +kernel⟩
theorem mlX7_212 : MLv RX7 212 mX7_note 3 := mlv_of (by decide +kernel) ⟨by decide +kernel, by decide +kernel, by decide +kernel⟩
theorem mlX7_216 : MLv RX7 216 mX7_isRow 1 := mlv_of (by decide +kernel) ⟨by decide +kernel, by decide +kernel, by decide +kernel⟩
theorem mlX7_219 : MLv RX7 219 mX7_rowCount 0 := mlv_of (by decide +kernel) ⟨by decide +kernel, by decide +kernel, by decide +kernel⟩
theorem mlX7_237 : MLv RX7 237 mX7_runFrom 1 := mlv_of (by decide +kernel) ⟨by decide +kernel, by decide +kernel, by decide +kernel⟩
theorem mlX7_240 : MLv RX7 240 mX7_sort 2 := mlv_of (by decide +kernel) ⟨by decide +kernel, by decide +kernel, by decide +kernel⟩
theorem mlX7_243 : MLv RX7 243 mX7_findClash 0 := mlv_of (by decide +kernel) ⟨by decide +kernel, by decide +kernel, by decide +kernel⟩
theorem mlX7_246 : MLv RX7 246 mX7_scanStep 0 := mlv_of (by decide +kernel) ⟨by decide +kernel, by decide +kernel, by decide +kernel⟩
theorem mlX7_249 : MLv RX7 249 mX7_mergeStep 0 := mlv_of (by decide +kernel) ⟨by decide +kernel, by decide +kernel, by decide +kernel⟩
theorem mlX7_252 : MLv RX7 252 mX7_loadStep 0 := mlv_of (by decide +kernel) ⟨by decide +kernel, by decide +kernel, by decide +kernel⟩
theorem mlX7_255 : MLv RX7 255 mX7_catchStep 0 := mlv_of (by decide +kernel) ⟨by decide +kernel, by decide +kernel, by decide +kernel⟩
theorem mlX7_261 : MLv RX7 261 mX7_goThrough 0 := mlv_of (by decide +kernel) ⟨by decide +kernel, by decide +kernel, by decide +kernel⟩
theorem mlX7_264 : MLv RX7 264 mX7_height 0 := mlv_of (by decide +kernel) ⟨by decide +kernel, by decide +kernel, by decide +kernel⟩
theorem mlX7_267 : MLv RX7 267 mX7_entries 0 := mlv_of (by decide +kernel) ⟨by decide +kernel, by decide +kernel, by decide +kernel⟩
theorem mlX7_270 : MLv RX7 270 mX7_slotOf 1 := mlv_of (by decide +kernel) ⟨by decide +kernel, by decide +kernel, by decide +kernel⟩
theorem mcX3_35 : MLc RX3 35 := ⟨by decide +kernel, by decide +kernel, by decide +kernel, by decide +kernel⟩
theorem mcX5_99 : MLc RX5 99 := ⟨by decide +kernel, by decide +kernel, by decide +kernel, by decide +kernel⟩
theorem lcX5_59 : Cond.constantLong RX5 59 (64) ∈ wsL_law0 := by decide +kernel
theorem lcX6_223 : Cond.constantLong RX6 223 (255) ∈ wsL_law0 := by decide +kernel
theorem rm_mX1_makeNode_mX3_entryAt : Rm mX1_makeNode mX3_entryAt := ⟨rfl, rfl, by decide, by decide⟩
theorem rm_mX1_makeNode_mX3_total : Rm mX1_makeNode mX3_total := ⟨rfl, rfl, by decide, by decide⟩
theorem rm_mX1_makeNode_mX5_append : Rm mX1_makeNode mX5_append := ⟨rfl, rfl, by decide, by decide⟩
theorem rm_mX1_makeNode_mX5_finishLoad : Rm mX1_makeNode mX5_finishLoad := ⟨rfl, rfl, by decide, by decide⟩
theorem rm_mX1_makeNode_mX5_newNode : Rm mX1_makeNode mX5_newNode := ⟨rfl, rfl, by decide, by decide⟩
theorem rm_mX3_mergeFirstTwo_mX3_mergeInto : Rm mX3_mergeFirstTwo mX3_mergeInto := ⟨rfl, rfl, by decide, by decide⟩
theorem rm_mX4_clearPlace_mX4_has : Rm mX4_clearPlace mX4_has := ⟨rfl, rfl, by decide, by decide⟩
theorem rm_mX4_keyAt_mX4_has : Rm mX4_keyAt mX4_has := ⟨rfl, rfl, by decide, by decide⟩
theorem rm_mX4_valueAt_mX4_has : Rm mX4_valueAt mX4_has := ⟨rfl, rfl, by decide, by decide⟩
theorem rm_mX5_append_mX5_putIn : Rm mX5_append mX5_putIn := ⟨rfl, rfl, by decide, by decide⟩
theorem rm_mX5_costOf_mX5_goDown : Rm mX5_costOf mX5_goDown := ⟨rfl, rfl, by decide, by decide⟩
theorem rm_mX5_costOf_mX5_listLeaves : Rm mX5_costOf mX5_listLeaves := ⟨rfl, rfl, by decide, by decide⟩
theorem rm_mX5_costOf_mX6_entryOf : Rm mX5_costOf mX6_entryOf := ⟨rfl, rfl, by decide, by decide⟩
theorem rm_mX5_costOf_mX6_keyOf : Rm mX5_costOf mX6_keyOf := ⟨rfl, rfl, by decide, by decide⟩
theorem rm_mX5_divide_mX5_newNode : Rm mX5_divide mX5_newNode := ⟨rfl, rfl, by decide, by decide⟩
theorem rm_mX5_divide_mX5_putIn : Rm mX5_divide mX5_putIn := ⟨rfl, rfl, by decide, by decide⟩
theorem rm_mX5_divide_mX5_putRootOver : Rm mX5_divide mX5_putRootOver := ⟨rfl, rfl, by decide, by decide⟩
theorem rm_mX5_entryAt_mX5_leastOf : Rm mX5_entryAt mX5_leastOf := ⟨rfl, rfl, by decide, by decide⟩
theorem rm_mX5_entryAt_mX5_listLeaves : Rm mX5_entryAt mX5_listLeaves := ⟨rfl, rfl, by decide, by decide⟩
theorem rm_mX5_firstTwin_mX5_listLeaves : Rm mX5_firstTwin mX5_listLeaves := ⟨rfl, rfl, by decide, by decide⟩
theorem rm_mX5_firstTwin_mX6_keyOf : Rm mX5_firstTwin mX6_keyOf := ⟨rfl, rfl, by decide, by decide⟩
theorem rm_mX5_goDown_mX5_kidOf : Rm mX5_goDown mX5_kidOf := ⟨rfl, rfl, by decide, by decide⟩
theorem rm_mX5_goDown_mX5_leastOf : Rm mX5_goDown mX5_leastOf := ⟨rfl, rfl, by decide, by decide⟩
theorem rm_mX5_hasJustTheRowsOf_mX4_count : Rm mX5_hasJustTheRowsOf mX4_count := ⟨rfl, rfl, by decide, by decide⟩
theorem rm_mX5_hasJustTheRowsOf_mX4_has : Rm mX5_hasJustTheRowsOf mX4_has := ⟨rfl, rfl, by decide, by decide⟩
theorem rm_mX5_hasJustTheRowsOf_mX4_keyAt : Rm mX5_hasJustTheRowsOf mX4_keyAt := ⟨rfl, rfl, by decide, by decide⟩
theorem rm_mX5_hasJustTheRowsOf_mX5_listLeaves : Rm mX5_hasJustTheRowsOf mX5_listLeaves := ⟨rfl, rfl, by decide, by decide⟩
theorem rm_mX5_hasJustTheRowsOf_mX6_keyOf : Rm mX5_hasJustTheRowsOf mX6_keyOf := ⟨rfl, rfl, by decide, by decide⟩
theorem rm_mX5_hasJustTheRowsOf_mX6_placeOf : Rm mX5_hasJustTheRowsOf mX6_placeOf := ⟨rfl, rfl, by decide, by decide⟩
theorem rm_mX5_leastOf_mX5_kidOf : Rm mX5_leastOf mX5_kidOf := ⟨rfl, rfl, by decide, by decide⟩
theorem rm_mX5_leavesAreInOneRow_mX5_listRowBelow : Rm mX5_leavesAreInOneRow mX5_listRowBelow := ⟨rfl, rfl, by decide, by decide⟩
theorem rm_mX5_letCome_mX5_divide : Rm mX5_letCome mX5_divide := ⟨rfl, rfl, by decide, by decide⟩
theorem rm_mX5_letCome_mX5_goDown : Rm mX5_letCome mX5_goDown := ⟨rfl, rfl, by decide, by decide⟩
theorem rm_mX5_letCome_mX5_newNodesOnWay : Rm mX5_letCome mX5_newNodesOnWay := ⟨rfl, rfl, by decide, by decide⟩
theorem rm_mX5_letCome_mX5_putIn : Rm mX5_letCome mX5_putIn := ⟨rfl, rfl, by decide, by decide⟩
theorem rm_mX5_letGo_mX5_freeNode : Rm mX5_letGo mX5_freeNode := ⟨rfl, rfl, by decide, by decide⟩
theorem rm_mX5_letGo_mX5_goDown : Rm mX5_letGo mX5_goDown := ⟨rfl, rfl, by decide, by decide⟩
theorem rm_mX5_letGo_mX5_kidOf : Rm mX5_letGo mX5_kidOf := ⟨rfl, rfl, by decide, by decide⟩
theorem rm_mX5_letGo_mX5_takeOut : Rm mX5_letGo mX5_takeOut := ⟨rfl, rfl, by decide, by decide⟩
theorem rm_mX5_levels_mX5_kidOf : Rm mX5_levels mX5_kidOf := ⟨rfl, rfl, by decide, by decide⟩
theorem rm_mX5_listLeaves_mX5_listRowBelow : Rm mX5_listLeaves mX5_listRowBelow := ⟨rfl, rfl, by decide, by decide⟩
theorem rm_mX5_listRowBelow_mX5_kidOf : Rm mX5_listRowBelow mX5_kidOf := ⟨rfl, rfl, by decide, by decide⟩
theorem rm_mX5_putRootOver_mX5_newNode : Rm mX5_putRootOver mX5_newNode := ⟨rfl, rfl, by decide, by decide⟩
theorem rm_mX5_putRootOver_mX5_putIn : Rm mX5_putRootOver mX5_putIn := ⟨rfl, rfl, by decide, by decide⟩
theorem rm_mX5_sizeOfLeafAt_mX5_listLeaves : Rm mX5_sizeOfLeafAt mX5_listLeaves := ⟨rfl, rfl, by decide, by decide⟩
theorem rm_mX5_tell_mX5_listLeaves : Rm mX5_tell mX5_listLeaves := ⟨rfl, rfl, by decide, by decide⟩
theorem rm_mX5_tell_mX6_keyOf : Rm mX5_tell mX6_keyOf := ⟨rfl, rfl, by decide, by decide⟩
theorem rm_mX5_tell_mX6_placeOf : Rm mX5_tell mX6_placeOf := ⟨rfl, rfl, by decide, by decide⟩
theorem rm_mX6_add_mX0_isDown : Rm mX6_add mX0_isDown := ⟨rfl, rfl, by decide, by decide⟩
theorem rm_mX6_add_mX4_firstFree : Rm mX6_add mX4_firstFree := ⟨rfl, rfl, by decide, by decide⟩
theorem rm_mX6_add_mX4_put : Rm mX6_add mX4_put := ⟨rfl, rfl, by decide, by decide⟩
theorem rm_mX6_add_mX6_entryOf : Rm mX6_add mX6_entryOf := ⟨rfl, rfl, by decide, by decide⟩
theorem rm_mX6_add_mX6_follow : Rm mX6_add mX6_follow := ⟨rfl, rfl, by decide, by decide⟩
theorem rm_mX6_add_mX6_wouldRepeat : Rm mX6_add mX6_wouldRepeat := ⟨rfl, rfl, by decide, by decide⟩
theorem rm_mX6_add_mX6_writeDown : Rm mX6_add mX6_writeDown := ⟨rfl, rfl, by decide, by decide⟩
theorem rm_mX6_ask_mX0_isDown : Rm mX6_ask mX0_isDown := ⟨rfl, rfl, by decide, by decide⟩
theorem rm_mX6_ask_mX4_tell : Rm mX6_ask mX4_tell := ⟨rfl, rfl, by decide, by decide⟩
theorem rm_mX6_ask_mX5_costOf : Rm mX6_ask mX5_costOf := ⟨rfl, rfl, by decide, by decide⟩
theorem rm_mX6_ask_mX5_tell : Rm mX6_ask mX5_tell := ⟨rfl, rfl, by decide, by decide⟩
theorem rm_mX6_audit_mX0_isDown : Rm mX6_audit mX0_isDown := ⟨rfl, rfl, by decide, by decide⟩
theorem rm_mX6_audit_mX5_hasJustTheRowsOf : Rm mX6_audit mX5_hasJustTheRowsOf := ⟨rfl, rfl, by decide, by decide⟩
theorem rm_mX6_audit_mX5_leavesAreInOneRow : Rm mX6_audit mX5_leavesAreInOneRow := ⟨rfl, rfl, by decide, by decide⟩
theorem rm_mX6_audit_mX5_sizesAreRight : Rm mX6_audit mX5_sizesAreRight := ⟨rfl, rfl, by decide, by decide⟩
theorem rm_mX6_audit_mX6_hasTree : Rm mX6_audit mX6_hasTree := ⟨rfl, rfl, by decide, by decide⟩
theorem rm_mX6_blocks_mX0_countOf : Rm mX6_blocks mX0_countOf := ⟨rfl, rfl, by decide, by decide⟩
theorem rm_mX6_bringToTree_mX5_letCome : Rm mX6_bringToTree mX5_letCome := ⟨rfl, rfl, by decide, by decide⟩
theorem rm_mX6_bringToTree_mX5_letGo : Rm mX6_bringToTree mX5_letGo := ⟨rfl, rfl, by decide, by decide⟩
theorem rm_mX6_bringToTree_mX6_stopBuilding : Rm mX6_bringToTree mX6_stopBuilding := ⟨rfl, rfl, by decide, by decide⟩
theorem rm_mX6_build_mX0_isDown : Rm mX6_build mX0_isDown := ⟨rfl, rfl, by decide, by decide⟩
theorem rm_mX6_build_mX6_forgetIndex : Rm mX6_build mX6_forgetIndex := ⟨rfl, rfl, by decide, by decide⟩
theorem rm_mX6_catchUp_mX2_count : Rm mX6_catchUp mX2_count := ⟨rfl, rfl, by decide, by decide⟩
theorem rm_mX6_catchUp_mX2_firstComes : Rm mX6_catchUp mX2_firstComes := ⟨rfl, rfl, by decide, by decide⟩
theorem rm_mX6_catchUp_mX2_firstEntry : Rm mX6_catchUp mX2_firstEntry := ⟨rfl, rfl, by decide, by decide⟩
theorem rm_mX6_catchUp_mX2_takeFirst : Rm mX6_catchUp mX2_takeFirst := ⟨rfl, rfl, by decide, by decide⟩
theorem rm_mX6_catchUp_mX5_entryAt : Rm mX6_catchUp mX5_entryAt := ⟨rfl, rfl, by decide, by decide⟩
theorem rm_mX6_catchUp_mX5_firstTwin : Rm mX6_catchUp mX5_firstTwin := ⟨rfl, rfl, by decide, by decide⟩
theorem rm_mX6_catchUp_mX5_nodeCount : Rm mX6_catchUp mX5_nodeCount := ⟨rfl, rfl, by decide, by decide⟩
theorem rm_mX6_catchUp_mX6_bringToTree : Rm mX6_catchUp mX6_bringToTree := ⟨rfl, rfl, by decide, by decide⟩
theorem rm_mX6_catchUp_mX6_forgetBuilding : Rm mX6_catchUp mX6_forgetBuilding := ⟨rfl, rfl, by decide, by decide⟩
theorem rm_mX6_catchUp_mX6_makeCheckpoint : Rm mX6_catchUp mX6_makeCheckpoint := ⟨rfl, rfl, by decide, by decide⟩
theorem rm_mX6_catchUp_mX6_placeOf : Rm mX6_catchUp mX6_placeOf := ⟨rfl, rfl, by decide, by decide⟩
theorem rm_mX6_catchUp_mX6_stopBuilding : Rm mX6_catchUp mX6_stopBuilding := ⟨rfl, rfl, by decide, by decide⟩
theorem rm_mX6_change_mX0_isDown : Rm mX6_change mX0_isDown := ⟨rfl, rfl, by decide, by decide⟩
theorem rm_mX6_change_mX4_has : Rm mX6_change mX4_has := ⟨rfl, rfl, by decide, by decide⟩
theorem rm_mX6_change_mX4_keyAt : Rm mX6_change mX4_keyAt := ⟨rfl, rfl, by decide, by decide⟩
theorem rm_mX6_change_mX4_put : Rm mX6_change mX4_put := ⟨rfl, rfl, by decide, by decide⟩
theorem rm_mX6_change_mX6_entryOf : Rm mX6_change mX6_entryOf := ⟨rfl, rfl, by decide, by decide⟩
theorem rm_mX6_change_mX6_follow : Rm mX6_change mX6_follow := ⟨rfl, rfl, by decide, by decide⟩
theorem rm_mX6_change_mX6_wouldRepeat : Rm mX6_change mX6_wouldRepeat := ⟨rfl, rfl, by decide, by decide⟩
theorem rm_mX6_change_mX6_writeDown : Rm mX6_change mX6_writeDown := ⟨rfl, rfl, by decide, by decide⟩
theorem rm_mX6_cut_mX0_isDown : Rm mX6_cut mX0_isDown := ⟨rfl, rfl, by decide, by decide⟩
theorem rm_mX6_cut_mX0_setLoss : Rm mX6_cut mX0_setLoss := ⟨rfl, rfl, by decide, by decide⟩
theorem rm_mX6_drop_mX0_isDown : Rm mX6_drop mX0_isDown := ⟨rfl, rfl, by decide, by decide⟩
theorem rm_mX6_drop_mX6_forgetIndex : Rm mX6_drop mX6_forgetIndex := ⟨rfl, rfl, by decide, by decide⟩
theorem rm_mX6_drop_mX6_makeCheckpoint : Rm mX6_drop mX6_makeCheckpoint := ⟨rfl, rfl, by decide, by decide⟩
theorem rm_mX6_follow_mX2_append : Rm mX6_follow mX2_append := ⟨rfl, rfl, by decide, by decide⟩
theorem rm_mX6_follow_mX6_bringToTree : Rm mX6_follow mX6_bringToTree := ⟨rfl, rfl, by decide, by decide⟩
theorem rm_mX6_follow_mX6_isBuilding : Rm mX6_follow mX6_isBuilding := ⟨rfl, rfl, by decide, by decide⟩
theorem rm_mX6_follow_mX6_placeOf : Rm mX6_follow mX6_placeOf := ⟨rfl, rfl, by decide, by decide⟩
theorem rm_mX6_follow_mX6_stopBuilding : Rm mX6_follow mX6_stopBuilding := ⟨rfl, rfl, by decide, by decide⟩
theorem rm_mX6_forgetBuilding_mX2_clear : Rm mX6_forgetBuilding mX2_clear := ⟨rfl, rfl, by decide, by decide⟩
theorem rm_mX6_forgetBuilding_mX3_clear : Rm mX6_forgetBuilding mX3_clear := ⟨rfl, rfl, by decide, by decide⟩
theorem rm_mX6_forgetIndex_mX5_clear : Rm mX6_forgetIndex mX5_clear := ⟨rfl, rfl, by decide, by decide⟩
theorem rm_mX6_forgetIndex_mX6_forgetBuilding : Rm mX6_forgetIndex mX6_forgetBuilding := ⟨rfl, rfl, by decide, by decide⟩
theorem rm_mX6_info_mX0_isDown : Rm mX6_info mX0_isDown := ⟨rfl, rfl, by decide, by decide⟩
theorem rm_mX6_info_mX2_count : Rm mX6_info mX2_count := ⟨rfl, rfl, by decide, by decide⟩
theorem rm_mX6_info_mX3_count : Rm mX6_info mX3_count := ⟨rfl, rfl, by decide, by decide⟩
theorem rm_mX6_info_mX3_pickedCount : Rm mX6_info mX3_pickedCount := ⟨rfl, rfl, by decide, by decide⟩
theorem rm_mX6_info_mX5_entryCount : Rm mX6_info mX5_entryCount := ⟨rfl, rfl, by decide, by decide⟩
theorem rm_mX6_info_mX5_levels : Rm mX6_info mX5_levels := ⟨rfl, rfl, by decide, by decide⟩
theorem rm_mX6_info_mX5_nodeCount : Rm mX6_info mX5_nodeCount := ⟨rfl, rfl, by decide, by decide⟩
theorem rm_mX6_info_mX6_hasTree : Rm mX6_info mX6_hasTree := ⟨rfl, rfl, by decide, by decide⟩
theorem rm_mX6_isEntryOfTree_mX5_entryCount : Rm mX6_isEntryOfTree mX5_entryCount := ⟨rfl, rfl, by decide, by decide⟩
theorem rm_mX6_isEntryOfTree_mX6_hasTree : Rm mX6_isEntryOfTree mX6_hasTree := ⟨rfl, rfl, by decide, by decide⟩
theorem rm_mX6_leaf_mX0_isDown : Rm mX6_leaf mX0_isDown := ⟨rfl, rfl, by decide, by decide⟩
theorem rm_mX6_leaf_mX5_sizeOfLeafAt : Rm mX6_leaf mX5_sizeOfLeafAt := ⟨rfl, rfl, by decide, by decide⟩
theorem rm_mX6_leaf_mX6_isEntryOfTree : Rm mX6_leaf mX6_isEntryOfTree := ⟨rfl, rfl, by decide, by decide⟩
theorem rm_mX6_loadNode_mX1_makeNode : Rm mX6_loadNode mX1_makeNode := ⟨rfl, rfl, by decide, by decide⟩
theorem rm_mX6_loadNode_mX5_nodeCount : Rm mX6_loadNode mX5_nodeCount := ⟨rfl, rfl, by decide, by decide⟩
theorem rm_mX6_loadNode_mX6_putBlocks : Rm mX6_loadNode mX6_putBlocks := ⟨rfl, rfl, by decide, by decide⟩
theorem rm_mX6_loadNode_mX6_stopBuilding : Rm mX6_loadNode mX6_stopBuilding := ⟨rfl, rfl, by decide, by decide⟩
theorem rm_mX6_makeCheckpoint_mX0_noteCheckpoint : Rm mX6_makeCheckpoint mX0_noteCheckpoint := ⟨rfl, rfl, by decide, by decide⟩
theorem rm_mX6_makeCheckpoint_mX4_touchedPages : Rm mX6_makeCheckpoint mX4_touchedPages := ⟨rfl, rfl, by decide, by decide⟩
theorem rm_mX6_makeCheckpoint_mX4_untouch : Rm mX6_makeCheckpoint mX4_untouch := ⟨rfl, rfl, by decide, by decide⟩
theorem rm_mX6_makeCheckpoint_mX5_untouch : Rm mX6_makeCheckpoint mX5_untouch := ⟨rfl, rfl, by decide, by decide⟩
theorem rm_mX6_makeCheckpoint_mX6_putBlocks : Rm mX6_makeCheckpoint mX6_putBlocks := ⟨rfl, rfl, by decide, by decide⟩
theorem rm_mX6_mergeRuns_mX1_begin : Rm mX6_mergeRuns mX1_begin := ⟨rfl, rfl, by decide, by decide⟩
theorem rm_mX6_mergeRuns_mX3_count : Rm mX6_mergeRuns mX3_count := ⟨rfl, rfl, by decide, by decide⟩
theorem rm_mX6_mergeRuns_mX3_mergeFirstTwo : Rm mX6_mergeRuns mX3_mergeFirstTwo := ⟨rfl, rfl, by decide, by decide⟩
theorem rm_mX6_mergeRuns_mX3_total : Rm mX6_mergeRuns mX3_total := ⟨rfl, rfl, by decide, by decide⟩
theorem rm_mX6_mergeRuns_mX6_blocksFor : Rm mX6_mergeRuns mX6_blocksFor := ⟨rfl, rfl, by decide, by decide⟩
theorem rm_mX6_mergeRuns_mX6_putBlocks : Rm mX6_mergeRuns mX6_putBlocks := ⟨rfl, rfl, by decide, by decide⟩
theorem rm_mX6_putBlocks_mX0_put : Rm mX6_putBlocks mX0_put := ⟨rfl, rfl, by decide, by decide⟩
theorem rm_mX6_putBlocks_mX6_forgetIndex : Rm mX6_putBlocks mX6_forgetIndex := ⟨rfl, rfl, by decide, by decide⟩
theorem rm_mX6_remove_mX0_isDown : Rm mX6_remove mX0_isDown := ⟨rfl, rfl, by decide, by decide⟩
theorem rm_mX6_remove_mX4_clearPlace : Rm mX6_remove mX4_clearPlace := ⟨rfl, rfl, by decide, by decide⟩
theorem rm_mX6_remove_mX4_has : Rm mX6_remove mX4_has := ⟨rfl, rfl, by decide, by decide⟩
theorem rm_mX6_remove_mX4_keyAt : Rm mX6_remove mX4_keyAt := ⟨rfl, rfl, by decide, by decide⟩
theorem rm_mX6_remove_mX6_entryOf : Rm mX6_remove mX6_entryOf := ⟨rfl, rfl, by decide, by decide⟩
theorem rm_mX6_remove_mX6_follow : Rm mX6_remove mX6_follow := ⟨rfl, rfl, by decide, by decide⟩
theorem rm_mX6_remove_mX6_writeDown : Rm mX6_remove mX6_writeDown := ⟨rfl, rfl, by decide, by decide⟩
theorem rm_mX6_rows_mX0_isDown : Rm mX6_rows mX0_isDown := ⟨rfl, rfl, by decide, by decide⟩
theorem rm_mX6_rows_mX4_count : Rm mX6_rows mX4_count := ⟨rfl, rfl, by decide, by decide⟩
theorem rm_mX6_scanPage_mX3_closeRun : Rm mX6_scanPage mX3_closeRun := ⟨rfl, rfl, by decide, by decide⟩
theorem rm_mX6_scanPage_mX3_pick : Rm mX6_scanPage mX3_pick := ⟨rfl, rfl, by decide, by decide⟩
theorem rm_mX6_scanPage_mX3_pickedCount : Rm mX6_scanPage mX3_pickedCount := ⟨rfl, rfl, by decide, by decide⟩
theorem rm_mX6_scanPage_mX4_has : Rm mX6_scanPage mX4_has := ⟨rfl, rfl, by decide, by decide⟩
theorem rm_mX6_scanPage_mX4_keyAt : Rm mX6_scanPage mX4_keyAt := ⟨rfl, rfl, by decide, by decide⟩
theorem rm_mX6_scanPage_mX6_blocksFor : Rm mX6_scanPage mX6_blocksFor := ⟨rfl, rfl, by decide, by decide⟩
theorem rm_mX6_scanPage_mX6_entryOf : Rm mX6_scanPage mX6_entryOf := ⟨rfl, rfl, by decide, by decide⟩
theorem rm_mX6_scanPage_mX6_putBlocks : Rm mX6_scanPage mX6_putBlocks := ⟨rfl, rfl, by decide, by decide⟩
theorem rm_mX6_start_mX0_isDown : Rm mX6_start mX0_isDown := ⟨rfl, rfl, by decide, by decide⟩
theorem rm_mX6_start_mX0_powerUp : Rm mX6_start mX0_powerUp := ⟨rfl, rfl, by decide, by decide⟩
theorem rm_mX6_start_mX4_count : Rm mX6_start mX4_count := ⟨rfl, rfl, by decide, by decide⟩
theorem rm_mX6_step_mX0_isDown : Rm mX6_step mX0_isDown := ⟨rfl, rfl, by decide, by decide⟩
theorem rm_mX6_step_mX6_catchUp : Rm mX6_step mX6_catchUp := ⟨rfl, rfl, by decide, by decide⟩
theorem rm_mX6_step_mX6_isBuilding : Rm mX6_step mX6_isBuilding := ⟨rfl, rfl, by decide, by decide⟩
theorem rm_mX6_step_mX6_loadNode : Rm mX6_step mX6_loadNode := ⟨rfl, rfl, by decide, by decide⟩
theorem rm_mX6_step_mX6_mergeRuns : Rm mX6_step mX6_mergeRuns := ⟨rfl, rfl, by decide, by decide⟩
theorem rm_mX6_step_mX6_scanPage : Rm mX6_step mX6_scanPage := ⟨rfl, rfl, by decide, by decide⟩
theorem rm_mX6_stopBuilding_mX5_clear : Rm mX6_stopBuilding mX5_clear := ⟨rfl, rfl, by decide, by decide⟩
theorem rm_mX6_stopBuilding_mX6_forgetBuilding : Rm mX6_stopBuilding mX6_forgetBuilding := ⟨rfl, rfl, by decide, by decide⟩
theorem rm_mX6_wouldRepeat_mX4_hasKeyBeside : Rm mX6_wouldRepeat mX4_hasKeyBeside := ⟨rfl, rfl, by decide, by decide⟩
theorem rm_mX6_writeDown_mX0_noteWrite : Rm mX6_writeDown mX0_noteWrite := ⟨rfl, rfl, by decide, by decide⟩
theorem rm_mX6_writeDown_mX0_writesSinceCheckpoint : Rm mX6_writeDown mX0_writesSinceCheckpoint := ⟨rfl, rfl, by decide, by decide⟩
theorem rm_mX6_writeDown_mX5_touchedCount : Rm mX6_writeDown mX5_touchedCount := ⟨rfl, rfl, by decide, by decide⟩
theorem rm_mX6_writeDown_mX6_makeCheckpoint : Rm mX6_writeDown mX6_makeCheckpoint := ⟨rfl, rfl, by decide, by decide⟩
theorem rm_mX6_writeDown_mX6_putBlocks : Rm mX6_writeDown mX6_putBlocks := ⟨rfl, rfl, by decide, by decide⟩
theorem rm_mX7_add_mX7_clashes : Rm mX7_add mX7_clashes := ⟨rfl, rfl, by decide, by decide⟩
theorem rm_mX7_add_mX7_note : Rm mX7_add mX7_note := ⟨rfl, rfl, by decide, by decide⟩
theorem rm_mX7_add_mX7_writeDown : Rm mX7_add mX7_writeDown := ⟨rfl, rfl, by decide, by decide⟩
theorem rm_mX7_answer_mX7_in : Rm mX7_answer mX7_in := ⟨rfl, rfl, by decide, by decide⟩
theorem rm_mX7_ask_mX7_descend : Rm mX7_ask mX7_descend := ⟨rfl, rfl, by decide, by decide⟩
theorem rm_mX7_ask_mX7_goThrough : Rm mX7_ask mX7_goThrough := ⟨rfl, rfl, by decide, by decide⟩
theorem rm_mX7_ask_mX7_in : Rm mX7_ask mX7_in := ⟨rfl, rfl, by decide, by decide⟩
theorem rm_mX7_audit_mX7_entries : Rm mX7_audit mX7_entries := ⟨rfl, rfl, by decide, by decide⟩
theorem rm_mX7_audit_mX7_rowCount : Rm mX7_audit mX7_rowCount := ⟨rfl, rfl, by decide, by decide⟩
theorem rm_mX7_block_mX7_forget : Rm mX7_block mX7_forget := ⟨rfl, rfl, by decide, by decide⟩
theorem rm_mX7_build_mX7_forget : Rm mX7_build mX7_forget := ⟨rfl, rfl, by decide, by decide⟩
theorem rm_mX7_build_mX7_in : Rm mX7_build mX7_in := ⟨rfl, rfl, by decide, by decide⟩
theorem rm_mX7_catchStep_mX7_checkpoint : Rm mX7_catchStep mX7_checkpoint := ⟨rfl, rfl, by decide, by decide⟩
theorem rm_mX7_catchStep_mX7_comes : Rm mX7_catchStep mX7_comes := ⟨rfl, rfl, by decide, by decide⟩
theorem rm_mX7_catchStep_mX7_findClash : Rm mX7_catchStep mX7_findClash := ⟨rfl, rfl, by decide, by decide⟩
theorem rm_mX7_catchStep_mX7_goes : Rm mX7_catchStep mX7_goes := ⟨rfl, rfl, by decide, by decide⟩
theorem rm_mX7_catchStep_mX7_stop : Rm mX7_catchStep mX7_stop := ⟨rfl, rfl, by decide, by decide⟩
theorem rm_mX7_change_mX7_clashes : Rm mX7_change mX7_clashes := ⟨rfl, rfl, by decide, by decide⟩
theorem rm_mX7_change_mX7_isRow : Rm mX7_change mX7_isRow := ⟨rfl, rfl, by decide, by decide⟩
theorem rm_mX7_change_mX7_note : Rm mX7_change mX7_note := ⟨rfl, rfl, by decide, by decide⟩
theorem rm_mX7_change_mX7_writeDown : Rm mX7_change mX7_writeDown := ⟨rfl, rfl, by decide, by decide⟩
theorem rm_mX7_checkpoint_mX7_writeBlocks : Rm mX7_checkpoint mX7_writeBlocks := ⟨rfl, rfl, by decide, by decide⟩
theorem rm_mX7_closeSlot_mX7_copySlot : Rm mX7_closeSlot mX7_copySlot := ⟨rfl, rfl, by decide, by decide⟩
theorem rm_mX7_comes_mX7_copySlot : Rm mX7_comes mX7_copySlot := ⟨rfl, rfl, by decide, by decide⟩
theorem rm_mX7_comes_mX7_descend : Rm mX7_comes mX7_descend := ⟨rfl, rfl, by decide, by decide⟩
theorem rm_mX7_comes_mX7_isBefore : Rm mX7_comes mX7_isBefore := ⟨rfl, rfl, by decide, by decide⟩
theorem rm_mX7_comes_mX7_newNode : Rm mX7_comes mX7_newNode := ⟨rfl, rfl, by decide, by decide⟩
theorem rm_mX7_comes_mX7_openSlot : Rm mX7_comes mX7_openSlot := ⟨rfl, rfl, by decide, by decide⟩
theorem rm_mX7_cut_mX7_in : Rm mX7_cut mX7_in := ⟨rfl, rfl, by decide, by decide⟩
theorem rm_mX7_descend_mX7_firstLeaf : Rm mX7_descend mX7_firstLeaf := ⟨rfl, rfl, by decide, by decide⟩
theorem rm_mX7_descend_mX7_isBefore : Rm mX7_descend mX7_isBefore := ⟨rfl, rfl, by decide, by decide⟩
theorem rm_mX7_drop_mX7_checkpoint : Rm mX7_drop mX7_checkpoint := ⟨rfl, rfl, by decide, by decide⟩
theorem rm_mX7_drop_mX7_forget : Rm mX7_drop mX7_forget := ⟨rfl, rfl, by decide, by decide⟩
theorem rm_mX7_entries_mX7_goThrough : Rm mX7_entries mX7_goThrough := ⟨rfl, rfl, by decide, by decide⟩
theorem rm_mX7_entry_mX7_slotOf : Rm mX7_entry mX7_slotOf := ⟨rfl, rfl, by decide, by decide⟩
theorem rm_mX7_findClash_mX7_stop : Rm mX7_findClash mX7_stop := ⟨rfl, rfl, by decide, by decide⟩
theorem rm_mX7_goes_mX7_closeSlot : Rm mX7_goes mX7_closeSlot := ⟨rfl, rfl, by decide, by decide⟩
theorem rm_mX7_goes_mX7_descend : Rm mX7_goes mX7_descend := ⟨rfl, rfl, by decide, by decide⟩
theorem rm_mX7_goes_mX7_giveBack : Rm mX7_goes mX7_giveBack := ⟨rfl, rfl, by decide, by decide⟩
theorem rm_mX7_info_mX7_entries : Rm mX7_info mX7_entries := ⟨rfl, rfl, by decide, by decide⟩
theorem rm_mX7_info_mX7_height : Rm mX7_info mX7_height := ⟨rfl, rfl, by decide, by decide⟩
theorem rm_mX7_info_mX7_in : Rm mX7_info mX7_in := ⟨rfl, rfl, by decide, by decide⟩
theorem rm_mX7_info_mX7_runFrom : Rm mX7_info mX7_runFrom := ⟨rfl, rfl, by decide, by decide⟩
theorem rm_mX7_isRow_mX7_in : Rm mX7_isRow mX7_in := ⟨rfl, rfl, by decide, by decide⟩
theorem rm_mX7_leaf_mX7_slotOf : Rm mX7_leaf mX7_slotOf := ⟨rfl, rfl, by decide, by decide⟩
theorem rm_mX7_loadStep_mX7_block : Rm mX7_loadStep mX7_block := ⟨rfl, rfl, by decide, by decide⟩
theorem rm_mX7_loadStep_mX7_newNode : Rm mX7_loadStep mX7_newNode := ⟨rfl, rfl, by decide, by decide⟩
theorem rm_mX7_loadStep_mX7_stop : Rm mX7_loadStep mX7_stop := ⟨rfl, rfl, by decide, by decide⟩
theorem rm_mX7_mergeStep_mX7_sort : Rm mX7_mergeStep mX7_sort := ⟨rfl, rfl, by decide, by decide⟩
theorem rm_mX7_mergeStep_mX7_writeBlocks : Rm mX7_mergeStep mX7_writeBlocks := ⟨rfl, rfl, by decide, by decide⟩
theorem rm_mX7_note_mX7_comes : Rm mX7_note mX7_comes := ⟨rfl, rfl, by decide, by decide⟩
theorem rm_mX7_note_mX7_goes : Rm mX7_note mX7_goes := ⟨rfl, rfl, by decide, by decide⟩
theorem rm_mX7_note_mX7_in : Rm mX7_note mX7_in := ⟨rfl, rfl, by decide, by decide⟩
theorem rm_mX7_note_mX7_stop : Rm mX7_note mX7_stop := ⟨rfl, rfl, by decide, by decide⟩
theorem rm_mX7_openSlot_mX7_copySlot : Rm mX7_openSlot mX7_copySlot := ⟨rfl, rfl, by decide, by decide⟩
theorem rm_mX7_remove_mX7_isRow : Rm mX7_remove mX7_isRow := ⟨rfl, rfl, by decide, by decide⟩
theorem rm_mX7_remove_mX7_note : Rm mX7_remove mX7_note := ⟨rfl, rfl, by decide, by decide⟩
theorem rm_mX7_remove_mX7_writeDown : Rm mX7_remove mX7_writeDown := ⟨rfl, rfl, by decide, by decide⟩
theorem rm_mX7_row_mX7_isRow : Rm mX7_row mX7_isRow := ⟨rfl, rfl, by decide, by decide⟩
theorem rm_mX7_rows_mX7_rowCount : Rm mX7_rows mX7_rowCount := ⟨rfl, rfl, by decide, by decide⟩
theorem rm_mX7_scanStep_mX7_runFrom : Rm mX7_scanStep mX7_runFrom := ⟨rfl, rfl, by decide, by decide⟩
theorem rm_mX7_scanStep_mX7_sort : Rm mX7_scanStep mX7_sort := ⟨rfl, rfl, by decide, by decide⟩
theorem rm_mX7_scanStep_mX7_writeBlocks : Rm mX7_scanStep mX7_writeBlocks := ⟨rfl, rfl, by decide, by decide⟩
theorem rm_mX7_slotOf_mX7_goThrough : Rm mX7_slotOf mX7_goThrough := ⟨rfl, rfl, by decide, by decide⟩
theorem rm_mX7_sort_mX7_isBefore : Rm mX7_sort mX7_isBefore := ⟨rfl, rfl, by decide, by decide⟩
theorem rm_mX7_start_mX7_rowCount : Rm mX7_start mX7_rowCount := ⟨rfl, rfl, by decide, by decide⟩
theorem rm_mX7_step_mX7_catchStep : Rm mX7_step mX7_catchStep := ⟨rfl, rfl, by decide, by decide⟩
theorem rm_mX7_step_mX7_in : Rm mX7_step mX7_in := ⟨rfl, rfl, by decide, by decide⟩
theorem rm_mX7_step_mX7_loadStep : Rm mX7_step mX7_loadStep := ⟨rfl, rfl, by decide, by decide⟩
theorem rm_mX7_step_mX7_mergeStep : Rm mX7_step mX7_mergeStep := ⟨rfl, rfl, by decide, by decide⟩
theorem rm_mX7_step_mX7_scanStep : Rm mX7_step mX7_scanStep := ⟨rfl, rfl, by decide, by decide⟩
theorem rm_mX7_stop_mX7_forget : Rm mX7_stop mX7_forget := ⟨rfl, rfl, by decide, by decide⟩
theorem rm_mX7_writeBlocks_mX7_block : Rm mX7_writeBlocks mX7_block := ⟨rfl, rfl, by decide, by decide⟩
theorem rm_mX7_writeDown_mX7_block : Rm mX7_writeDown mX7_block := ⟨rfl, rfl, by decide, by decide⟩
theorem rm_mX7_writeDown_mX7_checkpoint : Rm mX7_writeDown mX7_checkpoint := ⟨rfl, rfl, by decide, by decide⟩
theorem rm_mX7_writeDown_mX7_dirtyNodes : Rm mX7_writeDown mX7_dirtyNodes := ⟨rfl, rfl, by decide, by decide⟩
theorem rc_mX3_closeRun : Rc mX3_closeRun := ⟨by decide, by decide⟩
theorem rc_mX3_mergeFirstTwo : Rc mX3_mergeFirstTwo := ⟨by decide, by decide⟩
theorem rc_mX5_listRowBelow : Rc mX5_listRowBelow := ⟨by decide, by decide⟩
