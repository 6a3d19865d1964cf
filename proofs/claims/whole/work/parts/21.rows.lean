abbrev M0 : am_Mt := (yX0_gatherBeside, cX0_gatherBeside, 3, none, [], 1)
abbrev M1 : am_Mt := (yX0_canRead, cX0_canRead, 6, (some .boolean), [], 2)
abbrev M2 : am_Mt := (yX0_countReadable, cX0_countReadable, 4, (some .int), [], 1)
abbrev M3 : am_Mt := (yX0_leastMedia, cX0_leastMedia, 5, (some .int), [], 1)
abbrev M4 : am_Mt := (yX0_isMissing, cX0_isMissing, 4, (some .boolean), [], 2)
abbrev M5 : am_Mt := (yX0_countMissing, cX0_countMissing, 4, (some .int), [], 1)
abbrev M6 : am_Mt := (yX0_countLive, cX0_countLive, 4, (some .int), [], 1)
abbrev M7 : am_Mt := (yX0_chooseToMigrate, cX0_chooseToMigrate, 6, (some .int), [], 1)
abbrev M8 : am_Mt := (yX0_chosen, cX0_chosen, 2, (some .int), [], 1)
abbrev M9 : am_Mt := (yX0_gatherFrom, cX0_gatherFrom, 3, none, [], 1)
abbrev M10 : am_Mt := (yX0_cover, cX0_cover, 3, none, [], 2)
abbrev M11 : am_Mt := (yX0_maskOf, cX0_maskOf, 2, (some .int), [], 1)
abbrev M12 : am_Mt := (yX0_spotOf, cX0_spotOf, 5, (some .int), [], 1)
abbrev M13 : am_Mt := (yX1_make, cX1_make, 3, none, [], 1)
abbrev M14 : am_Mt := (yX1_isIdle, cX1_isIdle, 1, (some .boolean), [], 0)
abbrev M15 : am_Mt := (yX1_keepsNode, cX1_keepsNode, 2, (some .boolean), [], 1)
abbrev M16 : am_Mt := (yX1_givesNewKey, cX1_givesNewKey, 2, (some .boolean), [], 1)
abbrev M17 : am_Mt := (yX1_cost, cX1_cost, 3, (some .int), [], 0)
abbrev M18 : am_Mt := (yX1_staysAt, cX1_staysAt, 4, (some .boolean), [], 1)
abbrev M19 : am_Mt := (yX1_countStayingChildren, cX1_countStayingChildren, 5, (some .int), [], 1)
abbrev M20 : am_Mt := (yX2_compute, cX2_compute, 2, none, [], 0)
abbrev M21 : am_Mt := (yX2_of, cX2_of, 2, (some .int), [], 1)
abbrev M22 : am_Mt := (yX2_hashAt, cX2_hashAt, 6, (some .int), [], 1)
abbrev M23 : am_Mt := (yX3_begin, cX3_begin, 2, none, [], 1)
abbrev M24 : am_Mt := (yX3_isMade, cX3_isMade, 2, (some .boolean), [], 1)
abbrev M25 : am_Mt := (yX3_areEnoughLeft, cX3_areEnoughLeft, 1, (some .boolean), [], 0)
abbrev M26 : am_Mt := (yX3_number, cX3_number, 1, (some .int), [], 0)
abbrev M27 : am_Mt := (yX3_make, cX3_make, 2, (some .int), [], 1)
abbrev M28 : am_Mt := (yX3_placeOf, cX3_placeOf, 2, (some .int), [], 1)
abbrev M29 : am_Mt := (yX3_settle, cX3_settle, 3, none, [], 2)
abbrev M30 : am_Mt := (yX3_valueOf, cX3_valueOf, 2, (some .int), [], 1)
abbrev M31 : am_Mt := (yX4_begin, cX4_begin, 1, none, [], 0)
abbrev M32 : am_Mt := (yX4_number, cX4_number, 1, (some .int), [], 0)
abbrev M33 : am_Mt := (yX4_add, cX4_add, 1, (some .int), [], 0)
abbrev M34 : am_Mt := (yX4_stateOf, cX4_stateOf, 2, (some .int), [], 1)
abbrev M35 : am_Mt := (yX4_isIntact, cX4_isIntact, 2, (some .boolean), [], 1)
abbrev M36 : am_Mt := (yX4_sizeOf, cX4_sizeOf, 2, (some .int), [], 1)
abbrev M37 : am_Mt := (yX4_roomOn, cX4_roomOn, 2, (some .int), [], 1)
abbrev M38 : am_Mt := (yX4_writableBeside, cX4_writableBeside, 3, (some .int), [], 1)
abbrev M39 : am_Mt := (yX4_end, cX4_end, 3, none, [], 2)
abbrev M40 : am_Mt := (yX4_write, cX4_write, 6, none, [], 4)
abbrev M41 : am_Mt := (yX4_copyEntry, cX4_copyEntry, 3, none, [], 2)
abbrev M42 : am_Mt := (yX4_entryAt, cX4_entryAt, 3, (some .int), [], 2)
abbrev M43 : am_Mt := (yX4_kindOf, cX4_kindOf, 2, (some .int), [], 1)
abbrev M44 : am_Mt := (yX4_innerOf, cX4_innerOf, 2, (some .int), [], 1)
abbrev M45 : am_Mt := (yX4_outerOf, cX4_outerOf, 2, (some .int), [], 1)
abbrev M46 : am_Mt := (yX4_exists, cX4_exists, 2, (some .boolean), [], 1)
abbrev M47 : am_Mt := (yX4_isEntry, cX4_isEntry, 1, (some .boolean), [], 1)
abbrev M48 : am_Mt := (yX5_begin, cX5_begin, 1, none, [], 0)
abbrev M49 : am_Mt := (yX5_isKept, cX5_isKept, 2, (some .boolean), [], 1)
abbrev M50 : am_Mt := (yX5_numberOf, cX5_numberOf, 4, (some .int), [], 2)
abbrev M51 : am_Mt := (yX5_fill, cX5_fill, 9, none, [], 2)
abbrev M52 : am_Mt := (yX5_rootHash, cX5_rootHash, 8, (some .int), [], 2)
abbrev M53 : am_Mt := (yX5_hashAbove, cX5_hashAbove, 9, (some .int), [], 4)
abbrev M54 : am_Mt := (yX5_leafIn, cX5_leafIn, 2, (some .int), [], 1)
abbrev M55 : am_Mt := (yX5_put, cX5_put, 5, none, [], 3)
abbrev M56 : am_Mt := (yX6_begin, cX6_begin, 1, none, [], 0)
abbrev M57 : am_Mt := (yX6_areAllUsed, cX6_areAllUsed, 1, (some .boolean), [], 0)
abbrev M58 : am_Mt := (yX6_number, cX6_number, 1, (some .int), [], 0)
abbrev M59 : am_Mt := (yX6_add, cX6_add, 4, (some .int), [], 2)
abbrev M60 : am_Mt := (yX6_isStored, cX6_isStored, 2, (some .boolean), [], 1)
abbrev M61 : am_Mt := (yX6_contentOf, cX6_contentOf, 2, (some .long), [], 1)
abbrev M62 : am_Mt := (yX6_leafWith, cX6_leafWith, 2, (some .int), [], 1)
abbrev M63 : am_Mt := (yX6_settle, cX6_settle, 3, none, [], 2)
abbrev M64 : am_Mt := (yX7_begin, cX7_begin, 2, none, [], 0)
abbrev M65 : am_Mt := (yX7_want, cX7_want, 2, none, [], 1)
abbrev M66 : am_Mt := (yX7_isWanted, cX7_isWanted, 2, (some .boolean), [], 1)
abbrev M67 : am_Mt := (yX7_stepsFrom, cX7_stepsFrom, 2, (some .int), [], 1)
abbrev M68 : am_Mt := (yX7_findKeysOpening, cX7_findKeysOpening, 2, none, [], 1)
abbrev M69 : am_Mt := (yX7_findKeys, cX7_findKeys, 4, none, [], 0)
abbrev M70 : am_Mt := (yX7_findRecordsOpenedBy, cX7_findRecordsOpenedBy, 7, none, [], 3)
abbrev M71 : am_Mt := (yX7_countFound, cX7_countFound, 4, (some .int), [], 1)
abbrev M72 : am_Mt := (yX7_countKeys, cX7_countKeys, 3, (some .int), [], 0)
abbrev M73 : am_Mt := (yX7_stepUp, cX7_stepUp, 5, none, [], 2)
abbrev M74 : am_Mt := (yX7_stepDown, cX7_stepDown, 5, none, [], 2)
abbrev M75 : am_Mt := (yX7_reach, cX7_reach, 3, none, [], 2)
abbrev M76 : am_Mt := (yX8_begin, cX8_begin, 1, none, [], 0)
abbrev M77 : am_Mt := (yX8_keyOf, cX8_keyOf, 2, (some .int), [], 1)
abbrev M78 : am_Mt := (yX8_hasNode, cX8_hasNode, 2, (some .boolean), [], 1)
abbrev M79 : am_Mt := (yX8_recordOn, cX8_recordOn, 2, (some .int), [], 1)
abbrev M80 : am_Mt := (yX8_dueDayOn, cX8_dueDayOn, 2, (some .int), [], 1)
abbrev M81 : am_Mt := (yX8_isDue, cX8_isDue, 4, (some .boolean), [], 2)
abbrev M82 : am_Mt := (yX8_isMarked, cX8_isMarked, 2, (some .boolean), [], 1)
abbrev M83 : am_Mt := (yX8_putRecord, cX8_putRecord, 3, none, [], 2)
abbrev M84 : am_Mt := (yX8_setDueDay, cX8_setDueDay, 3, none, [], 2)
abbrev M85 : am_Mt := (yX8_setMark, cX8_setMark, 3, none, [], 2)
abbrev M86 : am_Mt := (yX8_unmark, cX8_unmark, 4, none, [], 2)
abbrev M87 : am_Mt := (yX8_countMarks, cX8_countMarks, 3, (some .int), [], 0)
abbrev M88 : am_Mt := (yX8_countRecords, cX8_countRecords, 5, (some .int), [], 2)
abbrev M89 : am_Mt := (yX8_countChildren, cX8_countChildren, 5, (some .int), [], 1)
abbrev M90 : am_Mt := (yX8_emptyOnWayTo, cX8_emptyOnWayTo, 4, (some .int), [], 1)
abbrev M91 : am_Mt := (yX8_renew, cX8_renew, 2, none, [], 1)
abbrev M92 : am_Mt := (yX8_moveNodes, cX8_moveNodes, 8, none, [], 2)
abbrev M93 : am_Mt := (yX8_pruneAbove, cX8_pruneAbove, 4, none, [], 1)
abbrev M94 : am_Mt := (yX8_clearAllBut, cX8_clearAllBut, 3, none, [], 1)
abbrev M95 : am_Mt := (yX8_clear, cX8_clear, 3, none, [], 1)
abbrev M96 : am_Mt := (yX8_moveNode, cX8_moveNode, 5, none, [], 2)
abbrev M97 : am_Mt := (yX9_reset, cX9_reset, 2, none, [], 1)
abbrev M98 : am_Mt := (yX9_store, cX9_store, 6, (some .int), [], 2)
abbrev M99 : am_Mt := (yX9_read, cX9_read, 2, (some .long), [], 1)
abbrev M100 : am_Mt := (yX9_recordAt, cX9_recordAt, 2, (some .int), [], 1)
abbrev M101 : am_Mt := (yX9_leafOf, cX9_leafOf, 2, (some .int), [], 1)
abbrev M102 : am_Mt := (yX9_recordCount, cX9_recordCount, 3, (some .int), [], 1)
abbrev M103 : am_Mt := (yX9_openers, cX9_openers, 4, (some .int), [], 1)
abbrev M104 : am_Mt := (yX9_openWith, cX9_openWith, 3, (some .long), [], 2)
abbrev M105 : am_Mt := (yX9_openSteps, cX9_openSteps, 3, (some .int), [], 2)
abbrev M106 : am_Mt := (yX9_exposedBy, cX9_exposedBy, 3, (some .int), [], 2)
abbrev M107 : am_Mt := (yX9_hold, cX9_hold, 5, (some .int), [], 2)
abbrev M108 : am_Mt := (yX9_release, cX9_release, 3, (some .int), [], 1)
abbrev M109 : am_Mt := (yX9_pins, cX9_pins, 2, (some .int), [], 1)
abbrev M110 : am_Mt := (yX9_mark, cX9_mark, 4, (some .boolean), [], 2)
abbrev M111 : am_Mt := (yX9_markCount, cX9_markCount, 1, (some .int), [], 0)
abbrev M112 : am_Mt := (yX9_setDue, cX9_setDue, 4, (some .int), [], 2)
abbrev M113 : am_Mt := (yX9_passDays, cX9_passDays, 4, (some .int), [], 1)
abbrev M114 : am_Mt := (yX9_day, cX9_day, 1, (some .int), [], 0)
abbrev M115 : am_Mt := (yX9_dueCount, cX9_dueCount, 4, (some .int), [], 1)
abbrev M116 : am_Mt := (yX9_extraCost, cX9_extraCost, 3, (some .int), [], 1)
abbrev M117 : am_Mt := (yX9_forget, cX9_forget, 4, (some .int), [], 1)
abbrev M118 : am_Mt := (yX9_forgetCost, cX9_forgetCost, 1, (some .int), [], 0)
abbrev M119 : am_Mt := (yX9_rekeyed, cX9_rekeyed, 5, (some .int), [], 1)
abbrev M120 : am_Mt := (yX9_key, cX9_key, 2, (some .int), [], 1)
abbrev M121 : am_Mt := (yX9_keyValue, cX9_keyValue, 2, (some .int), [], 1)
abbrev M122 : am_Mt := (yX9_keep, cX9_keep, 3, (some .int), [], 2)
abbrev M123 : am_Mt := (yX9_drop, cX9_drop, 3, (some .int), [], 1)
abbrev M124 : am_Mt := (yX9_custodian, cX9_custodian, 5, (some .int), [], 2)
abbrev M125 : am_Mt := (yX9_rekey, cX9_rekey, 2, (some .int), [], 1)
abbrev M126 : am_Mt := (yX9_move, cX9_move, 5, (some .int), [], 2)
abbrev M127 : am_Mt := (yX9_openingKeys, cX9_openingKeys, 2, (some .int), [], 1)
abbrev M128 : am_Mt := (yX9_addMedium, cX9_addMedium, 1, (some .int), [], 0)
abbrev M129 : am_Mt := (yX9_mediumCount, cX9_mediumCount, 1, (some .int), [], 0)
abbrev M130 : am_Mt := (yX9_medium, cX9_medium, 3, (some .int), [], 2)
abbrev M131 : am_Mt := (yX9_entry, cX9_entry, 5, (some .long), [], 3)
abbrev M132 : am_Mt := (yX9_lose, cX9_lose, 2, (some .int), [], 1)
abbrev M133 : am_Mt := (yX9_destroy, cX9_destroy, 2, (some .int), [], 1)
abbrev M134 : am_Mt := (yX9_migrate, cX9_migrate, 5, (some .int), [], 1)
abbrev M135 : am_Mt := (yX9_redundancy, cX9_redundancy, 2, (some .int), [], 1)
abbrev M136 : am_Mt := (yX9_duplicate, cX9_duplicate, 4, (some .int), [], 0)
abbrev M137 : am_Mt := (yX9_redundantMedia, cX9_redundantMedia, 4, (some .int), [], 0)
abbrev M138 : am_Mt := (yX9_hash, cX9_hash, 2, (some .int), [], 1)
abbrev M139 : am_Mt := (yX9_keepProof, cX9_keepProof, 3, (some .int), [], 2)
abbrev M140 : am_Mt := (yX9_proofNumber, cX9_proofNumber, 3, (some .int), [], 2)
abbrev M141 : am_Mt := (yX9_proofHash, cX9_proofHash, 2, (some .int), [], 1)
abbrev M142 : am_Mt := (yX9_proofHashWith, cX9_proofHashWith, 3, (some .int), [], 2)
abbrev M143 : am_Mt := (yX9_begin, cX9_begin, 2, none, [], 1)
abbrev M144 : am_Mt := (yX9_requireIndex, cX9_requireIndex, 2, none, [], 2)
abbrev M145 : am_Mt := (yX9_requireWhat, cX9_requireWhat, 2, none, [], 2)
abbrev M146 : am_Mt := (yX9_requireRoom, cX9_requireRoom, 2, none, [], 1)
abbrev M147 : am_Mt := (yX9_requireRoomOn, cX9_requireRoomOn, 3, none, [], 2)
abbrev M148 : am_Mt := (yX9_requireProof, cX9_requireProof, 2, none, [], 1)
abbrev M149 : am_Mt := (yX9_requireOpening, cX9_requireOpening, 4, (some .int), [], 2)
abbrev M150 : am_Mt := (yX9_write, cX9_write, 4, none, [], 3)
abbrev M151 : am_Mt := (yX9_wrap, cX9_wrap, 2, none, [], 1)
abbrev M152 : am_Mt := (yX9_wrapChildren, cX9_wrapChildren, 4, none, [], 1)
abbrev M153 : am_Mt := (yX9_addNodesOnWayTo, cX9_addNodesOnWayTo, 4, none, [], 1)
abbrev M154 : am_Mt := (yX9_pinsOn, cX9_pinsOn, 5, (some .int), [], 1)
abbrev M155 : am_Mt := (yX9_isBoundBelow, cX9_isBoundBelow, 4, (some .boolean), [], 1)
abbrev M156 : am_Mt := (yX9_doesACustodianOpen, cX9_doesACustodianOpen, 2, (some .boolean), [], 0)
abbrev M157 : am_Mt := (yX9_refreshCustodians, cX9_refreshCustodians, 4, none, [], 0)
abbrev M158 : am_Mt := (yX9_endIntact, cX9_endIntact, 4, (some .int), [], 2)
abbrev M159 : am_Mt := (yX9_wrappedKey, cX9_wrappedKey, 3, (some .int), [], 1)
abbrev M160 : am_Mt := (yX9_encryptedRecord, cX9_encryptedRecord, 7, (some .long), [], 1)
abbrev M161 : am_Mt := (yX9_mix, cX9_mix, 2, (some .int), [], 1)
abbrev M162 : am_Mt := (yX9_isPlace, cX9_isPlace, 1, (some .boolean), [], 1)
abbrev M163 : am_Mt := (yX9_isLeaf, cX9_isLeaf, 1, (some .boolean), [], 1)
abbrev M164 : am_Mt := (yX9_placeOfLeaf, cX9_placeOfLeaf, 1, (some .int), [], 1)
abbrev M165 : am_Mt := (yX9_levelOf, cX9_levelOf, 2, (some .int), [], 1)
abbrev M166 : am_Mt := (yX9_parentOf, cX9_parentOf, 1, (some .int), [], 1)
abbrev M167 : am_Mt := (yX9_firstChildOf, cX9_firstChildOf, 1, (some .int), [], 1)
abbrev M168 : am_Mt := (yX9_ancestorOf, cX9_ancestorOf, 4, (some .int), [], 2)
abbrev M169 : am_Mt := (yX9_leavesBelow, cX9_leavesBelow, 1, (some .int), [], 1)
abbrev M170 : am_Mt := (yX9_firstLeafBelow, cX9_firstLeafBelow, 1, (some .int), [], 1)
abbrev M171 : am_Mt := (yX9_isLeafBelow, cX9_isLeafBelow, 3, (some .boolean), [], 2)
abbrev M172 : am_Mt := (yX10_thrown, cX10_thrown, 1, (some .int), [], 0)
abbrev M173 : am_Mt := (yX10_isIn, cX10_isIn, 6, (some .boolean), [], 3)
abbrev M174 : am_Mt := (yX10_begins, cX10_begins, 3, none, [], 1)
abbrev M175 : am_Mt := (yX10_reset, cX10_reset, 2, none, [], 1)
abbrev M176 : am_Mt := (yX10_mix, cX10_mix, 2, (some .int), [], 1)
abbrev M177 : am_Mt := (yX10_newKey, cX10_newKey, 1, (some .int), [], 0)
abbrev M178 : am_Mt := (yX10_valueOf, cX10_valueOf, 2, (some .int), [], 1)
abbrev M179 : am_Mt := (yX10_parent, cX10_parent, 1, (some .int), [], 1)
abbrev M180 : am_Mt := (yX10_levelOf, cX10_levelOf, 1, (some .int), [], 1)
abbrev M181 : am_Mt := (yX10_isBelow, cX10_isBelow, 3, (some .boolean), [], 2)
abbrev M182 : am_Mt := (yX10_isLeaf, cX10_isLeaf, 1, (some .boolean), [], 1)
abbrev M183 : am_Mt := (yX10_isPlace, cX10_isPlace, 1, (some .boolean), [], 1)
abbrev M184 : am_Mt := (yX10_isRecord, cX10_isRecord, 2, (some .boolean), [], 1)
abbrev M185 : am_Mt := (yX10_isMedium, cX10_isMedium, 2, (some .boolean), [], 1)
abbrev M186 : am_Mt := (yX10_writableBut, cX10_writableBut, 3, (some .int), [], 1)
abbrev M187 : am_Mt := (yX10_hasRoom, cX10_hasRoom, 3, (some .boolean), [], 2)
abbrev M188 : am_Mt := (yX10_writes, cX10_writes, 8, none, [], 5)
abbrev M189 : am_Mt := (yX10_wraps, cX10_wraps, 3, none, [], 2)
abbrev M190 : am_Mt := (yX10_maskOf, cX10_maskOf, 2, (some .long), [], 1)
abbrev M191 : am_Mt := (yX10_isOn, cX10_isOn, 6, (some .boolean), [], 4)
abbrev M192 : am_Mt := (yX10_isIntact, cX10_isIntact, 6, (some .boolean), [], 4)
abbrev M193 : am_Mt := (yX10_isReadable, cX10_isReadable, 4, (some .boolean), [], 2)
abbrev M194 : am_Mt := (yX10_losesBy, cX10_losesBy, 4, (some .int), [], 1)
abbrev M195 : am_Mt := (yX10_has, cX10_has, 3, (some .boolean), [], 1)
abbrev M196 : am_Mt := (yX10_adds, cX10_adds, 2, none, [], 1)
abbrev M197 : am_Mt := (yX10_addsFor, cX10_addsFor, 4, none, [], 1)
abbrev M198 : am_Mt := (yX10_grows, cX10_grows, 5, none, [], 1)
abbrev M199 : am_Mt := (yX10_openersOf, cX10_openersOf, 2, none, [], 1)
abbrev M200 : am_Mt := (yX10_emptyTo, cX10_emptyTo, 4, (some .int), [], 1)
abbrev M201 : am_Mt := (yX10_builds, cX10_builds, 2, none, [], 1)
abbrev M202 : am_Mt := (yX10_store, cX10_store, 5, (some .int), [], 2)
abbrev M203 : am_Mt := (yX10_read, cX10_read, 2, (some .long), [], 1)
abbrev M204 : am_Mt := (yX10_recordAt, cX10_recordAt, 2, (some .int), [], 1)
abbrev M205 : am_Mt := (yX10_leafOf, cX10_leafOf, 2, (some .int), [], 1)
abbrev M206 : am_Mt := (yX10_recordCount, cX10_recordCount, 4, (some .int), [], 1)
abbrev M207 : am_Mt := (yX10_openers, cX10_openers, 4, (some .int), [], 1)
abbrev M208 : am_Mt := (yX10_isCustodian, cX10_isCustodian, 1, (some .boolean), [], 1)
abbrev M209 : am_Mt := (yX10_openWith, cX10_openWith, 3, (some .long), [], 2)
abbrev M210 : am_Mt := (yX10_placeOf, cX10_placeOf, 3, (some .int), [], 1)
abbrev M211 : am_Mt := (yX10_laysSteps, cX10_laysSteps, 5, none, [], 1)
abbrev M212 : am_Mt := (yX10_stepsTo, cX10_stepsTo, 6, (some .int), [], 1)
abbrev M213 : am_Mt := (yX10_openSteps, cX10_openSteps, 5, (some .int), [], 2)
abbrev M214 : am_Mt := (yX10_exposedBy, cX10_exposedBy, 9, (some .int), [], 2)
abbrev M215 : am_Mt := (yX10_isDue, cX10_isDue, 2, (some .boolean), [], 1)
abbrev M216 : am_Mt := (yX10_setDue, cX10_setDue, 4, (some .int), [], 2)
abbrev M217 : am_Mt := (yX10_passDays, cX10_passDays, 4, (some .int), [], 1)
abbrev M218 : am_Mt := (yX10_day, cX10_day, 1, (some .int), [], 0)
abbrev M219 : am_Mt := (yX10_dueCount, cX10_dueCount, 4, (some .int), [], 1)
abbrev M220 : am_Mt := (yX10_isCase, cX10_isCase, 1, (some .boolean), [], 1)
abbrev M221 : am_Mt := (yX10_hold, cX10_hold, 5, (some .int), [], 2)
abbrev M222 : am_Mt := (yX10_release, cX10_release, 3, (some .int), [], 1)
abbrev M223 : am_Mt := (yX10_pinsOf, cX10_pinsOf, 4, (some .int), [], 1)
abbrev M224 : am_Mt := (yX10_pins, cX10_pins, 2, (some .int), [], 1)
abbrev M225 : am_Mt := (yX10_mark, cX10_mark, 4, (some .boolean), [], 2)
abbrev M226 : am_Mt := (yX10_marks, cX10_marks, 3, (some .int), [], 0)
abbrev M227 : am_Mt := (yX10_markCount, cX10_markCount, 1, (some .int), [], 0)
abbrev M228 : am_Mt := (yX10_hasChild, cX10_hasChild, 3, (some .boolean), [], 1)
abbrev M229 : am_Mt := (yX10_plans, cX10_plans, 4, (some .int), [], 0)
abbrev M230 : am_Mt := (yX10_forget, cX10_forget, 6, (some .int), [], 1)
abbrev M231 : am_Mt := (yX10_childrenOf, cX10_childrenOf, 4, (some .int), [], 1)
abbrev M232 : am_Mt := (yX10_wrapsChildren, cX10_wrapsChildren, 3, none, [], 1)
abbrev M233 : am_Mt := (yX10_forgetCost, cX10_forgetCost, 1, (some .int), [], 0)
abbrev M234 : am_Mt := (yX10_extraCost, cX10_extraCost, 4, (some .int), [], 1)
abbrev M235 : am_Mt := (yX10_rekeyed, cX10_rekeyed, 6, (some .int), [], 1)
abbrev M236 : am_Mt := (yX10_key, cX10_key, 2, (some .int), [], 1)
abbrev M237 : am_Mt := (yX10_keyValue, cX10_keyValue, 2, (some .int), [], 1)
abbrev M238 : am_Mt := (yX10_keep, cX10_keep, 3, (some .int), [], 2)
abbrev M239 : am_Mt := (yX10_drop, cX10_drop, 3, (some .int), [], 1)
abbrev M240 : am_Mt := (yX10_opensBy, cX10_opensBy, 5, (some .int), [], 2)
abbrev M241 : am_Mt := (yX10_isEncryptedBySet, cX10_isEncryptedBySet, 4, (some .boolean), [], 1)
abbrev M242 : am_Mt := (yX10_custodian, cX10_custodian, 4, (some .int), [], 2)
abbrev M243 : am_Mt := (yX10_rekey, cX10_rekey, 2, (some .int), [], 1)
abbrev M244 : am_Mt := (yX10_isFixed, cX10_isFixed, 3, (some .boolean), [], 1)
abbrev M245 : am_Mt := (yX10_goes, cX10_goes, 5, (some .int), [], 2)
abbrev M246 : am_Mt := (yX10_move, cX10_move, 5, (some .int), [], 2)
abbrev M247 : am_Mt := (yX10_openingKeys, cX10_openingKeys, 2, (some .int), [], 1)
abbrev M248 : am_Mt := (yX10_addMedium, cX10_addMedium, 1, (some .int), [], 0)
abbrev M249 : am_Mt := (yX10_mediumCount, cX10_mediumCount, 1, (some .int), [], 0)
abbrev M250 : am_Mt := (yX10_isLive, cX10_isLive, 3, (some .boolean), [], 1)
abbrev M251 : am_Mt := (yX10_livesOn, cX10_livesOn, 4, (some .int), [], 1)
abbrev M252 : am_Mt := (yX10_isNeeded, cX10_isNeeded, 4, (some .boolean), [], 2)
abbrev M253 : am_Mt := (yX10_neededFrom, cX10_neededFrom, 4, (some .int), [], 1)
abbrev M254 : am_Mt := (yX10_medium, cX10_medium, 3, (some .int), [], 2)
abbrev M255 : am_Mt := (yX10_entry, cX10_entry, 5, (some .long), [], 3)
abbrev M256 : am_Mt := (yX10_becomes, cX10_becomes, 4, (some .int), [], 2)
abbrev M257 : am_Mt := (yX10_lose, cX10_lose, 2, (some .int), [], 1)
abbrev M258 : am_Mt := (yX10_destroy, cX10_destroy, 2, (some .int), [], 1)
abbrev M259 : am_Mt := (yX10_migrate, cX10_migrate, 5, (some .int), [], 1)
abbrev M260 : am_Mt := (yX10_redundantMedia, cX10_redundantMedia, 3, (some .int), [], 0)
abbrev M261 : am_Mt := (yX10_copiesOf, cX10_copiesOf, 6, (some .int), [], 3)
abbrev M262 : am_Mt := (yX10_redundancy, cX10_redundancy, 5, (some .int), [], 1)
abbrev M263 : am_Mt := (yX10_lacks, cX10_lacks, 5, (some .boolean), [], 4)
abbrev M264 : am_Mt := (yX10_duplicates, cX10_duplicates, 6, (some .int), [], 2)
abbrev M265 : am_Mt := (yX10_duplicate, cX10_duplicate, 3, (some .int), [], 0)
abbrev M266 : am_Mt := (yX10_hashOf, cX10_hashOf, 4, (some .int), [], 1)
abbrev M267 : am_Mt := (yX10_hash, cX10_hash, 2, (some .int), [], 1)
abbrev M268 : am_Mt := (yX10_isSlot, cX10_isSlot, 1, (some .boolean), [], 1)
abbrev M269 : am_Mt := (yX10_keepProof, cX10_keepProof, 7, (some .int), [], 2)
abbrev M270 : am_Mt := (yX10_proofRefusal, cX10_proofRefusal, 2, (some .int), [], 1)
abbrev M271 : am_Mt := (yX10_proofNumber, cX10_proofNumber, 3, (some .int), [], 2)
abbrev M272 : am_Mt := (yX10_followsFrom, cX10_followsFrom, 9, (some .int), [], 2)
abbrev M273 : am_Mt := (yX10_proofHash, cX10_proofHash, 2, (some .int), [], 1)
abbrev M274 : am_Mt := (yX10_proofHashWith, cX10_proofHashWith, 3, (some .int), [], 2)
abbrev M275 : am_Mt := (yJ6_bitCount_0f7a4, cJ6_bitCount_0f7a4, 1, (some .int), [], 1)
abbrev M276 : am_Mt := (yJ7_fill_53178, cJ7_fill_53178, 4, none, [], 2)
abbrev M277 : am_Mt := (yL_store, cL_store, 6, (some .int), [(0, 11, 14, 13), (0, 11, 18, 15)], 4)
abbrev M278 : am_Mt := (yL_read, cL_read, 4, (some .int), [(0, 8, 11, 13), (0, 8, 14, 21)], 3)
abbrev M279 : am_Mt := (yL_recordAt, cL_recordAt, 4, (some .int), [(0, 9, 12, 13)], 3)
abbrev M280 : am_Mt := (yL_leafOf, cL_leafOf, 4, (some .int), [(0, 9, 12, 13)], 3)
abbrev M281 : am_Mt := (yL_recordCount, cL_recordCount, 4, (some .int), [(0, 9, 12, 33)], 3)
abbrev M282 : am_Mt := (yL_openers, cL_openers, 4, (some .int), [(0, 9, 12, 13)], 3)
abbrev M283 : am_Mt := (yL_openWith, cL_openWith, 5, (some .int), [(0, 9, 12, 13), (0, 9, 16, 21)], 4)
abbrev M284 : am_Mt := (yL_openSteps, cL_openSteps, 5, (some .int), [(0, 10, 13, 13), (0, 10, 17, 21)], 4)
abbrev M285 : am_Mt := (yL_exposedBy, cL_exposedBy, 5, (some .int), [(0, 10, 13, 13)], 4)
abbrev M286 : am_Mt := (yL_hold, cL_hold, 5, (some .int), [(0, 10, 13, 13)], 4)
abbrev M287 : am_Mt := (yL_release, cL_release, 4, (some .int), [(0, 9, 12, 13)], 3)
abbrev M288 : am_Mt := (yL_pins, cL_pins, 4, (some .int), [(0, 9, 12, 13)], 3)
abbrev M289 : am_Mt := (yL_mark, cL_mark, 5, (some .int), [(0, 17, 20, 13), (0, 17, 24, 15)], 4)
abbrev M290 : am_Mt := (yL_setDue, cL_setDue, 5, (some .int), [(0, 10, 13, 13), (0, 10, 17, 33), (0, 10, 21, 15)], 4)
abbrev M291 : am_Mt := (yL_passDays, cL_passDays, 4, (some .int), [(0, 9, 12, 33), (0, 9, 15, 15)], 3)
abbrev M292 : am_Mt := (yL_extraCost, cL_extraCost, 4, (some .int), [(0, 9, 12, 13), (0, 9, 15, 15)], 3)
abbrev M293 : am_Mt := (yL_forget, cL_forget, 4, (some .int), [(0, 9, 12, 15)], 3)
abbrev M294 : am_Mt := (yL_rekeyed, cL_rekeyed, 4, (some .int), [(0, 9, 12, 13)], 3)
abbrev M295 : am_Mt := (yL_key, cL_key, 4, (some .int), [(0, 9, 12, 13)], 3)
abbrev M296 : am_Mt := (yL_keyValue, cL_keyValue, 4, (some .int), [(0, 9, 12, 13)], 3)
abbrev M297 : am_Mt := (yL_keep, cL_keep, 5, (some .int), [(0, 10, 13, 13), (0, 10, 17, 15)], 4)
abbrev M298 : am_Mt := (yL_drop, cL_drop, 4, (some .int), [(0, 9, 12, 13)], 3)
abbrev M299 : am_Mt := (yL_custodian, cL_custodian, 5, (some .int), [(0, 10, 13, 13), (0, 10, 17, 33)], 4)
abbrev M300 : am_Mt := (yL_rekey, cL_rekey, 4, (some .int), [(0, 9, 12, 13), (0, 9, 15, 15)], 3)
abbrev M301 : am_Mt := (yL_move, cL_move, 5, (some .int), [(0, 10, 13, 13), (0, 10, 17, 33), (0, 10, 21, 15)], 4)
abbrev M302 : am_Mt := (yL_openingKeys, cL_openingKeys, 4, (some .int), [(0, 9, 12, 13)], 3)
abbrev M303 : am_Mt := (yL_addMedium, cL_addMedium, 3, (some .int), [(0, 8, 11, 15)], 2)
abbrev M304 : am_Mt := (yL_medium, cL_medium, 5, (some .int), [(0, 10, 13, 13), (0, 10, 17, 33)], 4)
abbrev M305 : am_Mt := (yL_entry, cL_entry, 6, (some .int), [(0, 11, 14, 13), (0, 11, 18, 33)], 5)
abbrev M306 : am_Mt := (yL_lose, cL_lose, 4, (some .int), [(0, 9, 12, 13), (0, 9, 15, 15)], 3)
abbrev M307 : am_Mt := (yL_destroy, cL_destroy, 4, (some .int), [(0, 9, 12, 13), (0, 9, 15, 15)], 3)
abbrev M308 : am_Mt := (yL_migrate, cL_migrate, 4, (some .int), [(0, 9, 12, 13), (0, 9, 15, 15)], 3)
abbrev M309 : am_Mt := (yL_redundancy, cL_redundancy, 4, (some .int), [(0, 9, 12, 13)], 3)
abbrev M310 : am_Mt := (yL_duplicate, cL_duplicate, 3, (some .int), [(0, 8, 11, 15)], 2)
abbrev M311 : am_Mt := (yL_hash, cL_hash, 4, (some .int), [(0, 9, 12, 13)], 3)
abbrev M312 : am_Mt := (yL_keepProof, cL_keepProof, 5, (some .int), [(0, 10, 13, 13)], 4)
abbrev M313 : am_Mt := (yL_proofNumber, cL_proofNumber, 5, (some .int), [(0, 10, 13, 13), (0, 10, 17, 15)], 4)
abbrev M314 : am_Mt := (yL_proofHash, cL_proofHash, 4, (some .int), [(0, 9, 12, 13), (0, 9, 15, 15)], 3)
abbrev M315 : am_Mt := (yL_proofHashWith, cL_proofHashWith, 5, (some .int), [(0, 10, 13, 13), (0, 10, 17, 15)], 4)
theorem am_mlk_app {pre post l : List (am_Mt × Nat)} {k j i : Nat} {M : am_Mt} {p : Nat} (h : am_mlp = pre ++ (l ++ post)) (hj : pre.length = j) (hk : j + i = k) (hl : l[i]? = some (M, p)) : am_ml[k]? = some M := by
  unfold am_ml
  subst hk; subst hj
  rw [List.getElem?_map, h, List.getElem?_append_right (Nat.le_add_right _ _), Nat.add_sub_cancel_left, List.getElem?_append_left (List.getElem?_eq_some_iff.mp hl).1, hl]
  rfl
theorem am_mls_0 : am_mlp = ([]) ++ (am_mlp_0 ++ (am_mlp_1 ++ (am_mlp_2 ++ (am_mlp_3 ++ (am_mlp_4 ++ (am_mlp_5 ++ (am_mlp_6 ++ (am_mlp_7 ++ (am_mlp_8 ++ (am_mlp_9 ++ (am_mlp_10 ++ (am_mlp_11 ++ (am_mlp_12 ++ (am_mlp_13 ++ (am_mlp_14 ++ (am_mlp_15)))))))))))))))) := by simp only [am_mlp, List.append_assoc, List.nil_append, List.append_nil]
theorem am_mln_0 : List.length ([] : List (am_Mt × Nat)) = 0 := by decide +kernel
theorem am_mls_1 : am_mlp = (am_mlp_0) ++ (am_mlp_1 ++ (am_mlp_2 ++ (am_mlp_3 ++ (am_mlp_4 ++ (am_mlp_5 ++ (am_mlp_6 ++ (am_mlp_7 ++ (am_mlp_8 ++ (am_mlp_9 ++ (am_mlp_10 ++ (am_mlp_11 ++ (am_mlp_12 ++ (am_mlp_13 ++ (am_mlp_14 ++ (am_mlp_15))))))))))))))) := by simp only [am_mlp, List.append_assoc, List.nil_append, List.append_nil]
theorem am_mln_1 : List.length (am_mlp_0 : List (am_Mt × Nat)) = 20 := by decide +kernel
theorem am_mls_2 : am_mlp = (am_mlp_0 ++ (am_mlp_1)) ++ (am_mlp_2 ++ (am_mlp_3 ++ (am_mlp_4 ++ (am_mlp_5 ++ (am_mlp_6 ++ (am_mlp_7 ++ (am_mlp_8 ++ (am_mlp_9 ++ (am_mlp_10 ++ (am_mlp_11 ++ (am_mlp_12 ++ (am_mlp_13 ++ (am_mlp_14 ++ (am_mlp_15)))))))))))))) := by simp only [am_mlp, List.append_assoc, List.nil_append, List.append_nil]
theorem am_mln_2 : List.length (am_mlp_0 ++ (am_mlp_1) : List (am_Mt × Nat)) = 40 := by decide +kernel
theorem am_mls_3 : am_mlp = (am_mlp_0 ++ (am_mlp_1 ++ (am_mlp_2))) ++ (am_mlp_3 ++ (am_mlp_4 ++ (am_mlp_5 ++ (am_mlp_6 ++ (am_mlp_7 ++ (am_mlp_8 ++ (am_mlp_9 ++ (am_mlp_10 ++ (am_mlp_11 ++ (am_mlp_12 ++ (am_mlp_13 ++ (am_mlp_14 ++ (am_mlp_15))))))))))))) := by simp only [am_mlp, List.append_assoc, List.nil_append, List.append_nil]
theorem am_mln_3 : List.length (am_mlp_0 ++ (am_mlp_1 ++ (am_mlp_2)) : List (am_Mt × Nat)) = 60 := by decide +kernel
theorem am_mls_4 : am_mlp = (am_mlp_0 ++ (am_mlp_1 ++ (am_mlp_2 ++ (am_mlp_3)))) ++ (am_mlp_4 ++ (am_mlp_5 ++ (am_mlp_6 ++ (am_mlp_7 ++ (am_mlp_8 ++ (am_mlp_9 ++ (am_mlp_10 ++ (am_mlp_11 ++ (am_mlp_12 ++ (am_mlp_13 ++ (am_mlp_14 ++ (am_mlp_15)))))))))))) := by simp only [am_mlp, List.append_assoc, List.nil_append, List.append_nil]
theorem am_mln_4 : List.length (am_mlp_0 ++ (am_mlp_1 ++ (am_mlp_2 ++ (am_mlp_3))) : List (am_Mt × Nat)) = 80 := by decide +kernel
theorem am_mls_5 : am_mlp = (am_mlp_0 ++ (am_mlp_1 ++ (am_mlp_2 ++ (am_mlp_3 ++ (am_mlp_4))))) ++ (am_mlp_5 ++ (am_mlp_6 ++ (am_mlp_7 ++ (am_mlp_8 ++ (am_mlp_9 ++ (am_mlp_10 ++ (am_mlp_11 ++ (am_mlp_12 ++ (am_mlp_13 ++ (am_mlp_14 ++ (am_mlp_15))))))))))) := by simp only [am_mlp, List.append_assoc, List.nil_append, List.append_nil]
theorem am_mln_5 : List.length (am_mlp_0 ++ (am_mlp_1 ++ (am_mlp_2 ++ (am_mlp_3 ++ (am_mlp_4)))) : List (am_Mt × Nat)) = 100 := by decide +kernel
theorem am_mls_6 : am_mlp = (am_mlp_0 ++ (am_mlp_1 ++ (am_mlp_2 ++ (am_mlp_3 ++ (am_mlp_4 ++ (am_mlp_5)))))) ++ (am_mlp_6 ++ (am_mlp_7 ++ (am_mlp_8 ++ (am_mlp_9 ++ (am_mlp_10 ++ (am_mlp_11 ++ (am_mlp_12 ++ (am_mlp_13 ++ (am_mlp_14 ++ (am_mlp_15)))))))))) := by simp only [am_mlp, List.append_assoc, List.nil_append, List.append_nil]
theorem am_mln_6 : List.length (am_mlp_0 ++ (am_mlp_1 ++ (am_mlp_2 ++ (am_mlp_3 ++ (am_mlp_4 ++ (am_mlp_5))))) : List (am_Mt × Nat)) = 120 := by decide +kernel
theorem am_mls_7 : am_mlp = (am_mlp_0 ++ (am_mlp_1 ++ (am_mlp_2 ++ (am_mlp_3 ++ (am_mlp_4 ++ (am_mlp_5 ++ (am_mlp_6))))))) ++ (am_mlp_7 ++ (am_mlp_8 ++ (am_mlp_9 ++ (am_mlp_10 ++ (am_mlp_11 ++ (am_mlp_12 ++ (am_mlp_13 ++ (am_mlp_14 ++ (am_mlp_15))))))))) := by simp only [am_mlp, List.append_assoc, List.nil_append, List.append_nil]
theorem am_mln_7 : List.length (am_mlp_0 ++ (am_mlp_1 ++ (am_mlp_2 ++ (am_mlp_3 ++ (am_mlp_4 ++ (am_mlp_5 ++ (am_mlp_6)))))) : List (am_Mt × Nat)) = 140 := by decide +kernel
theorem am_mls_8 : am_mlp = (am_mlp_0 ++ (am_mlp_1 ++ (am_mlp_2 ++ (am_mlp_3 ++ (am_mlp_4 ++ (am_mlp_5 ++ (am_mlp_6 ++ (am_mlp_7)))))))) ++ (am_mlp_8 ++ (am_mlp_9 ++ (am_mlp_10 ++ (am_mlp_11 ++ (am_mlp_12 ++ (am_mlp_13 ++ (am_mlp_14 ++ (am_mlp_15)))))))) := by simp only [am_mlp, List.append_assoc, List.nil_append, List.append_nil]
theorem am_mln_8 : List.length (am_mlp_0 ++ (am_mlp_1 ++ (am_mlp_2 ++ (am_mlp_3 ++ (am_mlp_4 ++ (am_mlp_5 ++ (am_mlp_6 ++ (am_mlp_7))))))) : List (am_Mt × Nat)) = 160 := by decide +kernel
theorem am_mls_9 : am_mlp = (am_mlp_0 ++ (am_mlp_1 ++ (am_mlp_2 ++ (am_mlp_3 ++ (am_mlp_4 ++ (am_mlp_5 ++ (am_mlp_6 ++ (am_mlp_7 ++ (am_mlp_8))))))))) ++ (am_mlp_9 ++ (am_mlp_10 ++ (am_mlp_11 ++ (am_mlp_12 ++ (am_mlp_13 ++ (am_mlp_14 ++ (am_mlp_15))))))) := by simp only [am_mlp, List.append_assoc, List.nil_append, List.append_nil]
theorem am_mln_9 : List.length (am_mlp_0 ++ (am_mlp_1 ++ (am_mlp_2 ++ (am_mlp_3 ++ (am_mlp_4 ++ (am_mlp_5 ++ (am_mlp_6 ++ (am_mlp_7 ++ (am_mlp_8)))))))) : List (am_Mt × Nat)) = 180 := by decide +kernel
theorem am_mls_10 : am_mlp = (am_mlp_0 ++ (am_mlp_1 ++ (am_mlp_2 ++ (am_mlp_3 ++ (am_mlp_4 ++ (am_mlp_5 ++ (am_mlp_6 ++ (am_mlp_7 ++ (am_mlp_8 ++ (am_mlp_9)))))))))) ++ (am_mlp_10 ++ (am_mlp_11 ++ (am_mlp_12 ++ (am_mlp_13 ++ (am_mlp_14 ++ (am_mlp_15)))))) := by simp only [am_mlp, List.append_assoc, List.nil_append, List.append_nil]
theorem am_mln_10 : List.length (am_mlp_0 ++ (am_mlp_1 ++ (am_mlp_2 ++ (am_mlp_3 ++ (am_mlp_4 ++ (am_mlp_5 ++ (am_mlp_6 ++ (am_mlp_7 ++ (am_mlp_8 ++ (am_mlp_9))))))))) : List (am_Mt × Nat)) = 200 := by decide +kernel
theorem am_mls_11 : am_mlp = (am_mlp_0 ++ (am_mlp_1 ++ (am_mlp_2 ++ (am_mlp_3 ++ (am_mlp_4 ++ (am_mlp_5 ++ (am_mlp_6 ++ (am_mlp_7 ++ (am_mlp_8 ++ (am_mlp_9 ++ (am_mlp_10))))))))))) ++ (am_mlp_11 ++ (am_mlp_12 ++ (am_mlp_13 ++ (am_mlp_14 ++ (am_mlp_15))))) := by simp only [am_mlp, List.append_assoc, List.nil_append, List.append_nil]
theorem am_mln_11 : List.length (am_mlp_0 ++ (am_mlp_1 ++ (am_mlp_2 ++ (am_mlp_3 ++ (am_mlp_4 ++ (am_mlp_5 ++ (am_mlp_6 ++ (am_mlp_7 ++ (am_mlp_8 ++ (am_mlp_9 ++ (am_mlp_10)))))))))) : List (am_Mt × Nat)) = 220 := by decide +kernel
theorem am_mls_12 : am_mlp = (am_mlp_0 ++ (am_mlp_1 ++ (am_mlp_2 ++ (am_mlp_3 ++ (am_mlp_4 ++ (am_mlp_5 ++ (am_mlp_6 ++ (am_mlp_7 ++ (am_mlp_8 ++ (am_mlp_9 ++ (am_mlp_10 ++ (am_mlp_11)))))))))))) ++ (am_mlp_12 ++ (am_mlp_13 ++ (am_mlp_14 ++ (am_mlp_15)))) := by simp only [am_mlp, List.append_assoc, List.nil_append, List.append_nil]
theorem am_mln_12 : List.length (am_mlp_0 ++ (am_mlp_1 ++ (am_mlp_2 ++ (am_mlp_3 ++ (am_mlp_4 ++ (am_mlp_5 ++ (am_mlp_6 ++ (am_mlp_7 ++ (am_mlp_8 ++ (am_mlp_9 ++ (am_mlp_10 ++ (am_mlp_11))))))))))) : List (am_Mt × Nat)) = 240 := by decide +kernel
theorem am_mls_13 : am_mlp = (am_mlp_0 ++ (am_mlp_1 ++ (am_mlp_2 ++ (am_mlp_3 ++ (am_mlp_4 ++ (am_mlp_5 ++ (am_mlp_6 ++ (am_mlp_7 ++ (am_mlp_8 ++ (am_mlp_9 ++ (am_mlp_10 ++ (am_mlp_11 ++ (am_mlp_12))))))))))))) ++ (am_mlp_13 ++ (am_mlp_14 ++ (am_mlp_15))) := by simp only [am_mlp, List.append_assoc, List.nil_append, List.append_nil]
theorem am_mln_13 : List.length (am_mlp_0 ++ (am_mlp_1 ++ (am_mlp_2 ++ (am_mlp_3 ++ (am_mlp_4 ++ (am_mlp_5 ++ (am_mlp_6 ++ (am_mlp_7 ++ (am_mlp_8 ++ (am_mlp_9 ++ (am_mlp_10 ++ (am_mlp_11 ++ (am_mlp_12)))))))))))) : List (am_Mt × Nat)) = 260 := by decide +kernel
theorem am_mls_14 : am_mlp = (am_mlp_0 ++ (am_mlp_1 ++ (am_mlp_2 ++ (am_mlp_3 ++ (am_mlp_4 ++ (am_mlp_5 ++ (am_mlp_6 ++ (am_mlp_7 ++ (am_mlp_8 ++ (am_mlp_9 ++ (am_mlp_10 ++ (am_mlp_11 ++ (am_mlp_12 ++ (am_mlp_13)))))))))))))) ++ (am_mlp_14 ++ (am_mlp_15)) := by simp only [am_mlp, List.append_assoc, List.nil_append, List.append_nil]
theorem am_mln_14 : List.length (am_mlp_0 ++ (am_mlp_1 ++ (am_mlp_2 ++ (am_mlp_3 ++ (am_mlp_4 ++ (am_mlp_5 ++ (am_mlp_6 ++ (am_mlp_7 ++ (am_mlp_8 ++ (am_mlp_9 ++ (am_mlp_10 ++ (am_mlp_11 ++ (am_mlp_12 ++ (am_mlp_13))))))))))))) : List (am_Mt × Nat)) = 280 := by decide +kernel
theorem am_mls_15 : am_mlp = (am_mlp_0 ++ (am_mlp_1 ++ (am_mlp_2 ++ (am_mlp_3 ++ (am_mlp_4 ++ (am_mlp_5 ++ (am_mlp_6 ++ (am_mlp_7 ++ (am_mlp_8 ++ (am_mlp_9 ++ (am_mlp_10 ++ (am_mlp_11 ++ (am_mlp_12 ++ (am_mlp_13 ++ (am_mlp_14))))))))))))))) ++ (am_mlp_15 ++ []) := by simp only [am_mlp, List.append_assoc, List.nil_append, List.append_nil]
theorem am_mln_15 : List.length (am_mlp_0 ++ (am_mlp_1 ++ (am_mlp_2 ++ (am_mlp_3 ++ (am_mlp_4 ++ (am_mlp_5 ++ (am_mlp_6 ++ (am_mlp_7 ++ (am_mlp_8 ++ (am_mlp_9 ++ (am_mlp_10 ++ (am_mlp_11 ++ (am_mlp_12 ++ (am_mlp_13 ++ (am_mlp_14)))))))))))))) : List (am_Mt × Nat)) = 300 := by decide +kernel
theorem m0 : am_ml[0]? = some M0 := am_mlk_app am_mls_0 (i := 0) am_mln_0 rfl rfl
theorem m1 : am_ml[1]? = some M1 := am_mlk_app am_mls_0 (i := 1) am_mln_0 rfl rfl
theorem m2 : am_ml[2]? = some M2 := am_mlk_app am_mls_0 (i := 2) am_mln_0 rfl rfl
theorem m3 : am_ml[3]? = some M3 := am_mlk_app am_mls_0 (i := 3) am_mln_0 rfl rfl
theorem m4 : am_ml[4]? = some M4 := am_mlk_app am_mls_0 (i := 4) am_mln_0 rfl rfl
theorem m5 : am_ml[5]? = some M5 := am_mlk_app am_mls_0 (i := 5) am_mln_0 rfl rfl
theorem m6 : am_ml[6]? = some M6 := am_mlk_app am_mls_0 (i := 6) am_mln_0 rfl rfl
theorem m7 : am_ml[7]? = some M7 := am_mlk_app am_mls_0 (i := 7) am_mln_0 rfl rfl
theorem m8 : am_ml[8]? = some M8 := am_mlk_app am_mls_0 (i := 8) am_mln_0 rfl rfl
theorem m9 : am_ml[9]? = some M9 := am_mlk_app am_mls_0 (i := 9) am_mln_0 rfl rfl
theorem m10 : am_ml[10]? = some M10 := am_mlk_app am_mls_0 (i := 10) am_mln_0 rfl rfl
theorem m11 : am_ml[11]? = some M11 := am_mlk_app am_mls_0 (i := 11) am_mln_0 rfl rfl
theorem m12 : am_ml[12]? = some M12 := am_mlk_app am_mls_0 (i := 12) am_mln_0 rfl rfl
theorem m13 : am_ml[13]? = some M13 := am_mlk_app am_mls_0 (i := 13) am_mln_0 rfl rfl
theorem m14 : am_ml[14]? = some M14 := am_mlk_app am_mls_0 (i := 14) am_mln_0 rfl rfl
theorem m15 : am_ml[15]? = some M15 := am_mlk_app am_mls_0 (i := 15) am_mln_0 rfl rfl
theorem m16 : am_ml[16]? = some M16 := am_mlk_app am_mls_0 (i := 16) am_mln_0 rfl rfl
theorem m17 : am_ml[17]? = some M17 := am_mlk_app am_mls_0 (i := 17) am_mln_0 rfl rfl
theorem m18 : am_ml[18]? = some M18 := am_mlk_app am_mls_0 (i := 18) am_mln_0 rfl rfl
theorem m19 : am_ml[19]? = some M19 := am_mlk_app am_mls_0 (i := 19) am_mln_0 rfl rfl
theorem m20 : am_ml[20]? = some M20 := am_mlk_app am_mls_1 (i := 0) am_mln_1 rfl rfl
theorem m21 : am_ml[21]? = some M21 := am_mlk_app am_mls_1 (i := 1) am_mln_1 rfl rfl
theorem m22 : am_ml[22]? = some M22 := am_mlk_app am_mls_1 (i := 2) am_mln_1 rfl rfl
theorem m23 : am_ml[23]? = some M23 := am_mlk_app am_mls_1 (i := 3) am_mln_1 rfl rfl
theorem m24 : am_ml[24]? = some M24 := am_mlk_app am_mls_1 (i := 4) am_mln_1 rfl rfl
theorem m25 : am_ml[25]? = some M25 := am_mlk_app am_mls_1 (i := 5) am_mln_1 rfl rfl
theorem m26 : am_ml[26]? = some M26 := am_mlk_app am_mls_1 (i := 6) am_mln_1 rfl rfl
theorem m27 : am_ml[27]? = some M27 := am_mlk_app am_mls_1 (i := 7) am_mln_1 rfl rfl
theorem m28 : am_ml[28]? = some M28 := am_mlk_app am_mls_1 (i := 8) am_mln_1 rfl rfl
theorem m29 : am_ml[29]? = some M29 := am_mlk_app am_mls_1 (i := 9) am_mln_1 rfl rfl
theorem m30 : am_ml[30]? = some M30 := am_mlk_app am_mls_1 (i := 10) am_mln_1 rfl rfl
theorem m31 : am_ml[31]? = some M31 := am_mlk_app am_mls_1 (i := 11) am_mln_1 rfl rfl
theorem m32 : am_ml[32]? = some M32 := am_mlk_app am_mls_1 (i := 12) am_mln_1 rfl rfl
theorem m33 : am_ml[33]? = some M33 := am_mlk_app am_mls_1 (i := 13) am_mln_1 rfl rfl
theorem m34 : am_ml[34]? = some M34 := am_mlk_app am_mls_1 (i := 14) am_mln_1 rfl rfl
theorem m35 : am_ml[35]? = some M35 := am_mlk_app am_mls_1 (i := 15) am_mln_1 rfl rfl
theorem m36 : am_ml[36]? = some M36 := am_mlk_app am_mls_1 (i := 16) am_mln_1 rfl rfl
theorem m37 : am_ml[37]? = some M37 := am_mlk_app am_mls_1 (i := 17) am_mln_1 rfl rfl
theorem m38 : am_ml[38]? = some M38 := am_mlk_app am_mls_1 (i := 18) am_mln_1 rfl rfl
theorem m39 : am_ml[39]? = some M39 := am_mlk_app am_mls_1 (i := 19) am_mln_1 rfl rfl
theorem m40 : am_ml[40]? = some M40 := am_mlk_app am_mls_2 (i := 0) am_mln_2 rfl rfl
theorem m41 : am_ml[41]? = some M41 := am_mlk_app am_mls_2 (i := 1) am_mln_2 rfl rfl
theorem m42 : am_ml[42]? = some M42 := am_mlk_app am_mls_2 (i := 2) am_mln_2 rfl rfl
theorem m43 : am_ml[43]? = some M43 := am_mlk_app am_mls_2 (i := 3) am_mln_2 rfl rfl
theorem m44 : am_ml[44]? = some M44 := am_mlk_app am_mls_2 (i := 4) am_mln_2 rfl rfl
theorem m45 : am_ml[45]? = some M45 := am_mlk_app am_mls_2 (i := 5) am_mln_2 rfl rfl
theorem m46 : am_ml[46]? = some M46 := am_mlk_app am_mls_2 (i := 6) am_mln_2 rfl rfl
theorem m47 : am_ml[47]? = some M47 := am_mlk_app am_mls_2 (i := 7) am_mln_2 rfl rfl
theorem m48 : am_ml[48]? = some M48 := am_mlk_app am_mls_2 (i := 8) am_mln_2 rfl rfl
theorem m49 : am_ml[49]? = some M49 := am_mlk_app am_mls_2 (i := 9) am_mln_2 rfl rfl
theorem m50 : am_ml[50]? = some M50 := am_mlk_app am_mls_2 (i := 10) am_mln_2 rfl rfl
theorem m51 : am_ml[51]? = some M51 := am_mlk_app am_mls_2 (i := 11) am_mln_2 rfl rfl
theorem m52 : am_ml[52]? = some M52 := am_mlk_app am_mls_2 (i := 12) am_mln_2 rfl rfl
theorem m53 : am_ml[53]? = some M53 := am_mlk_app am_mls_2 (i := 13) am_mln_2 rfl rfl
theorem m54 : am_ml[54]? = some M54 := am_mlk_app am_mls_2 (i := 14) am_mln_2 rfl rfl
theorem m55 : am_ml[55]? = some M55 := am_mlk_app am_mls_2 (i := 15) am_mln_2 rfl rfl
theorem m56 : am_ml[56]? = some M56 := am_mlk_app am_mls_2 (i := 16) am_mln_2 rfl rfl
theorem m57 : am_ml[57]? = some M57 := am_mlk_app am_mls_2 (i := 17) am_mln_2 rfl rfl
theorem m58 : am_ml[58]? = some M58 := am_mlk_app am_mls_2 (i := 18) am_mln_2 rfl rfl
theorem m59 : am_ml[59]? = some M59 := am_mlk_app am_mls_2 (i := 19) am_mln_2 rfl rfl
theorem m60 : am_ml[60]? = some M60 := am_mlk_app am_mls_3 (i := 0) am_mln_3 rfl rfl
theorem m61 : am_ml[61]? = some M61 := am_mlk_app am_mls_3 (i := 1) am_mln_3 rfl rfl
theorem m62 : am_ml[62]? = some M62 := am_mlk_app am_mls_3 (i := 2) am_mln_3 rfl rfl
theorem m63 : am_ml[63]? = some M63 := am_mlk_app am_mls_3 (i := 3) am_mln_3 rfl rfl
theorem m64 : am_ml[64]? = some M64 := am_mlk_app am_mls_3 (i := 4) am_mln_3 rfl rfl
theorem m65 : am_ml[65]? = some M65 := am_mlk_app am_mls_3 (i := 5) am_mln_3 rfl rfl
theorem m66 : am_ml[66]? = some M66 := am_mlk_app am_mls_3 (i := 6) am_mln_3 rfl rfl
theorem m67 : am_ml[67]? = some M67 := am_mlk_app am_mls_3 (i := 7) am_mln_3 rfl rfl
theorem m68 : am_ml[68]? = some M68 := am_mlk_app am_mls_3 (i := 8) am_mln_3 rfl rfl
theorem m69 : am_ml[69]? = some M69 := am_mlk_app am_mls_3 (i := 9) am_mln_3 rfl rfl
theorem m70 : am_ml[70]? = some M70 := am_mlk_app am_mls_3 (i := 10) am_mln_3 rfl rfl
theorem m71 : am_ml[71]? = some M71 := am_mlk_app am_mls_3 (i := 11) am_mln_3 rfl rfl
theorem m72 : am_ml[72]? = some M72 := am_mlk_app am_mls_3 (i := 12) am_mln_3 rfl rfl
theorem m73 : am_ml[73]? = some M73 := am_mlk_app am_mls_3 (i := 13) am_mln_3 rfl rfl
theorem m74 : am_ml[74]? = some M74 := am_mlk_app am_mls_3 (i := 14) am_mln_3 rfl rfl
theorem m75 : am_ml[75]? = some M75 := am_mlk_app am_mls_3 (i := 15) am_mln_3 rfl rfl
theorem m76 : am_ml[76]? = some M76 := am_mlk_app am_mls_3 (i := 16) am_mln_3 rfl rfl
theorem m77 : am_ml[77]? = some M77 := am_mlk_app am_mls_3 (i := 17) am_mln_3 rfl rfl
theorem m78 : am_ml[78]? = some M78 := am_mlk_app am_mls_3 (i := 18) am_mln_3 rfl rfl
theorem m79 : am_ml[79]? = some M79 := am_mlk_app am_mls_3 (i := 19) am_mln_3 rfl rfl
theorem m80 : am_ml[80]? = some M80 := am_mlk_app am_mls_4 (i := 0) am_mln_4 rfl rfl
theorem m81 : am_ml[81]? = some M81 := am_mlk_app am_mls_4 (i := 1) am_mln_4 rfl rfl
theorem m82 : am_ml[82]? = some M82 := am_mlk_app am_mls_4 (i := 2) am_mln_4 rfl rfl
theorem m83 : am_ml[83]? = some M83 := am_mlk_app am_mls_4 (i := 3) am_mln_4 rfl rfl
theorem m84 : am_ml[84]? = some M84 := am_mlk_app am_mls_4 (i := 4) am_mln_4 rfl rfl
theorem m85 : am_ml[85]? = some M85 := am_mlk_app am_mls_4 (i := 5) am_mln_4 rfl rfl
theorem m86 : am_ml[86]? = some M86 := am_mlk_app am_mls_4 (i := 6) am_mln_4 rfl rfl
theorem m87 : am_ml[87]? = some M87 := am_mlk_app am_mls_4 (i := 7) am_mln_4 rfl rfl
theorem m88 : am_ml[88]? = some M88 := am_mlk_app am_mls_4 (i := 8) am_mln_4 rfl rfl
theorem m89 : am_ml[89]? = some M89 := am_mlk_app am_mls_4 (i := 9) am_mln_4 rfl rfl
theorem m90 : am_ml[90]? = some M90 := am_mlk_app am_mls_4 (i := 10) am_mln_4 rfl rfl
theorem m91 : am_ml[91]? = some M91 := am_mlk_app am_mls_4 (i := 11) am_mln_4 rfl rfl
theorem m92 : am_ml[92]? = some M92 := am_mlk_app am_mls_4 (i := 12) am_mln_4 rfl rfl
theorem m93 : am_ml[93]? = some M93 := am_mlk_app am_mls_4 (i := 13) am_mln_4 rfl rfl
theorem m94 : am_ml[94]? = some M94 := am_mlk_app am_mls_4 (i := 14) am_mln_4 rfl rfl
theorem m95 : am_ml[95]? = some M95 := am_mlk_app am_mls_4 (i := 15) am_mln_4 rfl rfl
theorem m96 : am_ml[96]? = some M96 := am_mlk_app am_mls_4 (i := 16) am_mln_4 rfl rfl
theorem m97 : am_ml[97]? = some M97 := am_mlk_app am_mls_4 (i := 17) am_mln_4 rfl rfl
theorem m98 : am_ml[98]? = some M98 := am_mlk_app am_mls_4 (i := 18) am_mln_4 rfl rfl
theorem m99 : am_ml[99]? = some M99 := am_mlk_app am_mls_4 (i := 19) am_mln_4 rfl rfl
theorem m100 : am_ml[100]? = some M100 := am_mlk_app am_mls_5 (i := 0) am_mln_5 rfl rfl
theorem m101 : am_ml[101]? = some M101 := am_mlk_app am_mls_5 (i := 1) am_mln_5 rfl rfl
theorem m102 : am_ml[102]? = some M102 := am_mlk_app am_mls_5 (i := 2) am_mln_5 rfl rfl
theorem m103 : am_ml[103]? = some M103 := am_mlk_app am_mls_5 (i := 3) am_mln_5 rfl rfl
theorem m104 : am_ml[104]? = some M104 := am_mlk_app am_mls_5 (i := 4) am_mln_5 rfl rfl
theorem m105 : am_ml[105]? = some M105 := am_mlk_app am_mls_5 (i := 5) am_mln_5 rfl rfl
theorem m106 : am_ml[106]? = some M106 := am_mlk_app am_mls_5 (i := 6) am_mln_5 rfl rfl
theorem m107 : am_ml[107]? = some M107 := am_mlk_app am_mls_5 (i := 7) am_mln_5 rfl rfl
theorem m108 : am_ml[108]? = some M108 := am_mlk_app am_mls_5 (i := 8) am_mln_5 rfl rfl
theorem m109 : am_ml[109]? = some M109 := am_mlk_app am_mls_5 (i := 9) am_mln_5 rfl rfl
theorem m110 : am_ml[110]? = some M110 := am_mlk_app am_mls_5 (i := 10) am_mln_5 rfl rfl
theorem m111 : am_ml[111]? = some M111 := am_mlk_app am_mls_5 (i := 11) am_mln_5 rfl rfl
theorem m112 : am_ml[112]? = some M112 := am_mlk_app am_mls_5 (i := 12) am_mln_5 rfl rfl
theorem m113 : am_ml[113]? = some M113 := am_mlk_app am_mls_5 (i := 13) am_mln_5 rfl rfl
theorem m114 : am_ml[114]? = some M114 := am_mlk_app am_mls_5 (i := 14) am_mln_5 rfl rfl
theorem m115 : am_ml[115]? = some M115 := am_mlk_app am_mls_5 (i := 15) am_mln_5 rfl rfl
theorem m116 : am_ml[116]? = some M116 := am_mlk_app am_mls_5 (i := 16) am_mln_5 rfl rfl
theorem m117 : am_ml[117]? = some M117 := am_mlk_app am_mls_5 (i := 17) am_mln_5 rfl rfl
theorem m118 : am_ml[118]? = some M118 := am_mlk_app am_mls_5 (i := 18) am_mln_5 rfl rfl
theorem m119 : am_ml[119]? = some M119 := am_mlk_app am_mls_5 (i := 19) am_mln_5 rfl rfl
theorem m120 : am_ml[120]? = some M120 := am_mlk_app am_mls_6 (i := 0) am_mln_6 rfl rfl
theorem m121 : am_ml[121]? = some M121 := am_mlk_app am_mls_6 (i := 1) am_mln_6 rfl rfl
theorem m122 : am_ml[122]? = some M122 := am_mlk_app am_mls_6 (i := 2) am_mln_6 rfl rfl
theorem m123 : am_ml[123]? = some M123 := am_mlk_app am_mls_6 (i := 3) am_mln_6 rfl rfl
theorem m124 : am_ml[124]? = some M124 := am_mlk_app am_mls_6 (i := 4) am_mln_6 rfl rfl
theorem m125 : am_ml[125]? = some M125 := am_mlk_app am_mls_6 (i := 5) am_mln_6 rfl rfl
theorem m126 : am_ml[126]? = some M126 := am_mlk_app am_mls_6 (i := 6) am_mln_6 rfl rfl
theorem m127 : am_ml[127]? = some M127 := am_mlk_app am_mls_6 (i := 7) am_mln_6 rfl rfl
theorem m128 : am_ml[128]? = some M128 := am_mlk_app am_mls_6 (i := 8) am_mln_6 rfl rfl
theorem m129 : am_ml[129]? = some M129 := am_mlk_app am_mls_6 (i := 9) am_mln_6 rfl rfl
theorem m130 : am_ml[130]? = some M130 := am_mlk_app am_mls_6 (i := 10) am_mln_6 rfl rfl
theorem m131 : am_ml[131]? = some M131 := am_mlk_app am_mls_6 (i := 11) am_mln_6 rfl rfl
theorem m132 : am_ml[132]? = some M132 := am_mlk_app am_mls_6 (i := 12) am_mln_6 rfl rfl
theorem m133 : am_ml[133]? = some M133 := am_mlk_app am_mls_6 (i := 13) am_mln_6 rfl rfl
theorem m134 : am_ml[134]? = some M134 := am_mlk_app am_mls_6 (i := 14) am_mln_6 rfl rfl
theorem m135 : am_ml[135]? = some M135 := am_mlk_app am_mls_6 (i := 15) am_mln_6 rfl rfl
theorem m136 : am_ml[136]? = some M136 := am_mlk_app am_mls_6 (i := 16) am_mln_6 rfl rfl
theorem m137 : am_ml[137]? = some M137 := am_mlk_app am_mls_6 (i := 17) am_mln_6 rfl rfl
theorem m138 : am_ml[138]? = some M138 := am_mlk_app am_mls_6 (i := 18) am_mln_6 rfl rfl
theorem m139 : am_ml[139]? = some M139 := am_mlk_app am_mls_6 (i := 19) am_mln_6 rfl rfl
theorem m140 : am_ml[140]? = some M140 := am_mlk_app am_mls_7 (i := 0) am_mln_7 rfl rfl
theorem m141 : am_ml[141]? = some M141 := am_mlk_app am_mls_7 (i := 1) am_mln_7 rfl rfl
theorem m142 : am_ml[142]? = some M142 := am_mlk_app am_mls_7 (i := 2) am_mln_7 rfl rfl
theorem m143 : am_ml[143]? = some M143 := am_mlk_app am_mls_7 (i := 3) am_mln_7 rfl rfl
theorem m144 : am_ml[144]? = some M144 := am_mlk_app am_mls_7 (i := 4) am_mln_7 rfl rfl
theorem m145 : am_ml[145]? = some M145 := am_mlk_app am_mls_7 (i := 5) am_mln_7 rfl rfl
theorem m146 : am_ml[146]? = some M146 := am_mlk_app am_mls_7 (i := 6) am_mln_7 rfl rfl
theorem m147 : am_ml[147]? = some M147 := am_mlk_app am_mls_7 (i := 7) am_mln_7 rfl rfl
theorem m148 : am_ml[148]? = some M148 := am_mlk_app am_mls_7 (i := 8) am_mln_7 rfl rfl
theorem m149 : am_ml[149]? = some M149 := am_mlk_app am_mls_7 (i := 9) am_mln_7 rfl rfl
theorem m150 : am_ml[150]? = some M150 := am_mlk_app am_mls_7 (i := 10) am_mln_7 rfl rfl
theorem m151 : am_ml[151]? = some M151 := am_mlk_app am_mls_7 (i := 11) am_mln_7 rfl rfl
theorem m152 : am_ml[152]? = some M152 := am_mlk_app am_mls_7 (i := 12) am_mln_7 rfl rfl
theorem m153 : am_ml[153]? = some M153 := am_mlk_app am_mls_7 (i := 13) am_mln_7 rfl rfl
theorem m154 : am_ml[154]? = some M154 := am_mlk_app am_mls_7 (i := 14) am_mln_7 rfl rfl
theorem m155 : am_ml[155]? = some M155 := am_mlk_app am_mls_7 (i := 15) am_mln_7 rfl rfl
theorem m156 : am_ml[156]? = some M156 := am_mlk_app am_mls_7 (i := 16) am_mln_7 rfl rfl
theorem m157 : am_ml[157]? = some M157 := am_mlk_app am_mls_7 (i := 17) am_mln_7 rfl rfl
theorem m158 : am_ml[158]? = some M158 := am_mlk_app am_mls_7 (i := 18) am_mln_7 rfl rfl
theorem m159 : am_ml[159]? = some M159 := am_mlk_app am_mls_7 (i := 19) am_mln_7 rfl rfl
theorem m160 : am_ml[160]? = some M160 := am_mlk_app am_mls_8 (i := 0) am_mln_8 rfl rfl
theorem m161 : am_ml[161]? = some M161 := am_mlk_app am_mls_8 (i := 1) am_mln_8 rfl rfl
theorem m162 : am_ml[162]? = some M162 := am_mlk_app am_mls_8 (i := 2) am_mln_8 rfl rfl
theorem m163 : am_ml[163]? = some M163 := am_mlk_app am_mls_8 (i := 3) am_mln_8 rfl rfl
theorem m164 : am_ml[164]? = some M164 := am_mlk_app am_mls_8 (i := 4) am_mln_8 rfl rfl
theorem m165 : am_ml[165]? = some M165 := am_mlk_app am_mls_8 (i := 5) am_mln_8 rfl rfl
theorem m166 : am_ml[166]? = some M166 := am_mlk_app am_mls_8 (i := 6) am_mln_8 rfl rfl
theorem m167 : am_ml[167]? = some M167 := am_mlk_app am_mls_8 (i := 7) am_mln_8 rfl rfl
theorem m168 : am_ml[168]? = some M168 := am_mlk_app am_mls_8 (i := 8) am_mln_8 rfl rfl
theorem m169 : am_ml[169]? = some M169 := am_mlk_app am_mls_8 (i := 9) am_mln_8 rfl rfl
theorem m170 : am_ml[170]? = some M170 := am_mlk_app am_mls_8 (i := 10) am_mln_8 rfl rfl
theorem m171 : am_ml[171]? = some M171 := am_mlk_app am_mls_8 (i := 11) am_mln_8 rfl rfl
theorem m172 : am_ml[172]? = some M172 := am_mlk_app am_mls_8 (i := 12) am_mln_8 rfl rfl
theorem m173 : am_ml[173]? = some M173 := am_mlk_app am_mls_8 (i := 13) am_mln_8 rfl rfl
theorem m174 : am_ml[174]? = some M174 := am_mlk_app am_mls_8 (i := 14) am_mln_8 rfl rfl
theorem m175 : am_ml[175]? = some M175 := am_mlk_app am_mls_8 (i := 15) am_mln_8 rfl rfl
theorem m176 : am_ml[176]? = some M176 := am_mlk_app am_mls_8 (i := 16) am_mln_8 rfl rfl
theorem m177 : am_ml[177]? = some M177 := am_mlk_app am_mls_8 (i := 17) am_mln_8 rfl rfl
theorem m178 : am_ml[178]? = some M178 := am_mlk_app am_mls_8 (i := 18) am_mln_8 rfl rfl
theorem m179 : am_ml[179]? = some M179 := am_mlk_app am_mls_8 (i := 19) am_mln_8 rfl rfl
theorem m180 : am_ml[180]? = some M180 := am_mlk_app am_mls_9 (i := 0) am_mln_9 rfl rfl
theorem m181 : am_ml[181]? = some M181 := am_mlk_app am_mls_9 (i := 1) am_mln_9 rfl rfl
theorem m182 : am_ml[182]? = some M182 := am_mlk_app am_mls_9 (i := 2) am_mln_9 rfl rfl
theorem m183 : am_ml[183]? = some M183 := am_mlk_app am_mls_9 (i := 3) am_mln_9 rfl rfl
theorem m184 : am_ml[184]? = some M184 := am_mlk_app am_mls_9 (i := 4) am_mln_9 rfl rfl
theorem m185 : am_ml[185]? = some M185 := am_mlk_app am_mls_9 (i := 5) am_mln_9 rfl rfl
theorem m186 : am_ml[186]? = some M186 := am_mlk_app am_mls_9 (i := 6) am_mln_9 rfl rfl
theorem m187 : am_ml[187]? = some M187 := am_mlk_app am_mls_9 (i := 7) am_mln_9 rfl rfl
theorem m188 : am_ml[188]? = some M188 := am_mlk_app am_mls_9 (i := 8) am_mln_9 rfl rfl
theorem m189 : am_ml[189]? = some M189 := am_mlk_app am_mls_9 (i := 9) am_mln_9 rfl rfl
theorem m190 : am_ml[190]? = some M190 := am_mlk_app am_mls_9 (i := 10) am_mln_9 rfl rfl
theorem m191 : am_ml[191]? = some M191 := am_mlk_app am_mls_9 (i := 11) am_mln_9 rfl rfl
theorem m192 : am_ml[192]? = some M192 := am_mlk_app am_mls_9 (i := 12) am_mln_9 rfl rfl
theorem m193 : am_ml[193]? = some M193 := am_mlk_app am_mls_9 (i := 13) am_mln_9 rfl rfl
theorem m194 : am_ml[194]? = some M194 := am_mlk_app am_mls_9 (i := 14) am_mln_9 rfl rfl
theorem m195 : am_ml[195]? = some M195 := am_mlk_app am_mls_9 (i := 15) am_mln_9 rfl rfl
theorem m196 : am_ml[196]? = some M196 := am_mlk_app am_mls_9 (i := 16) am_mln_9 rfl rfl
theorem m197 : am_ml[197]? = some M197 := am_mlk_app am_mls_9 (i := 17) am_mln_9 rfl rfl
theorem m198 : am_ml[198]? = some M198 := am_mlk_app am_mls_9 (i := 18) am_mln_9 rfl rfl
theorem m199 : am_ml[199]? = some M199 := am_mlk_app am_mls_9 (i := 19) am_mln_9 rfl rfl
theorem m200 : am_ml[200]? = some M200 := am_mlk_app am_mls_10 (i := 0) am_mln_10 rfl rfl
theorem m201 : am_ml[201]? = some M201 := am_mlk_app am_mls_10 (i := 1) am_mln_10 rfl rfl
theorem m202 : am_ml[202]? = some M202 := am_mlk_app am_mls_10 (i := 2) am_mln_10 rfl rfl
theorem m203 : am_ml[203]? = some M203 := am_mlk_app am_mls_10 (i := 3) am_mln_10 rfl rfl
theorem m204 : am_ml[204]? = some M204 := am_mlk_app am_mls_10 (i := 4) am_mln_10 rfl rfl
theorem m205 : am_ml[205]? = some M205 := am_mlk_app am_mls_10 (i := 5) am_mln_10 rfl rfl
theorem m206 : am_ml[206]? = some M206 := am_mlk_app am_mls_10 (i := 6) am_mln_10 rfl rfl
theorem m207 : am_ml[207]? = some M207 := am_mlk_app am_mls_10 (i := 7) am_mln_10 rfl rfl
theorem m208 : am_ml[208]? = some M208 := am_mlk_app am_mls_10 (i := 8) am_mln_10 rfl rfl
theorem m209 : am_ml[209]? = some M209 := am_mlk_app am_mls_10 (i := 9) am_mln_10 rfl rfl
theorem m210 : am_ml[210]? = some M210 := am_mlk_app am_mls_10 (i := 10) am_mln_10 rfl rfl
theorem m211 : am_ml[211]? = some M211 := am_mlk_app am_mls_10 (i := 11) am_mln_10 rfl rfl
theorem m212 : am_ml[212]? = some M212 := am_mlk_app am_mls_10 (i := 12) am_mln_10 rfl rfl
theorem m213 : am_ml[213]? = some M213 := am_mlk_app am_mls_10 (i := 13) am_mln_10 rfl rfl
theorem m214 : am_ml[214]? = some M214 := am_mlk_app am_mls_10 (i := 14) am_mln_10 rfl rfl
theorem m215 : am_ml[215]? = some M215 := am_mlk_app am_mls_10 (i := 15) am_mln_10 rfl rfl
theorem m216 : am_ml[216]? = some M216 := am_mlk_app am_mls_10 (i := 16) am_mln_10 rfl rfl
theorem m217 : am_ml[217]? = some M217 := am_mlk_app am_mls_10 (i := 17) am_mln_10 rfl rfl
theorem m218 : am_ml[218]? = some M218 := am_mlk_app am_mls_10 (i := 18) am_mln_10 rfl rfl
theorem m219 : am_ml[219]? = some M219 := am_mlk_app am_mls_10 (i := 19) am_mln_10 rfl rfl
theorem m220 : am_ml[220]? = some M220 := am_mlk_app am_mls_11 (i := 0) am_mln_11 rfl rfl
theorem m221 : am_ml[221]? = some M221 := am_mlk_app am_mls_11 (i := 1) am_mln_11 rfl rfl
theorem m222 : am_ml[222]? = some M222 := am_mlk_app am_mls_11 (i := 2) am_mln_11 rfl rfl
theorem m223 : am_ml[223]? = some M223 := am_mlk_app am_mls_11 (i := 3) am_mln_11 rfl rfl
theorem m224 : am_ml[224]? = some M224 := am_mlk_app am_mls_11 (i := 4) am_mln_11 rfl rfl
theorem m225 : am_ml[225]? = some M225 := am_mlk_app am_mls_11 (i := 5) am_mln_11 rfl rfl
theorem m226 : am_ml[226]? = some M226 := am_mlk_app am_mls_11 (i := 6) am_mln_11 rfl rfl
theorem m227 : am_ml[227]? = some M227 := am_mlk_app am_mls_11 (i := 7) am_mln_11 rfl rfl
theorem m228 : am_ml[228]? = some M228 := am_mlk_app am_mls_11 (i := 8) am_mln_11 rfl rfl
theorem m229 : am_ml[229]? = some M229 := am_mlk_app am_mls_11 (i := 9) am_mln_11 rfl rfl
theorem m230 : am_ml[230]? = some M230 := am_mlk_app am_mls_11 (i := 10) am_mln_11 rfl rfl
theorem m231 : am_ml[231]? = some M231 := am_mlk_app am_mls_11 (i := 11) am_mln_11 rfl rfl
theorem m232 : am_ml[232]? = some M232 := am_mlk_app am_mls_11 (i := 12) am_mln_11 rfl rfl
theorem m233 : am_ml[233]? = some M233 := am_mlk_app am_mls_11 (i := 13) am_mln_11 rfl rfl
theorem m234 : am_ml[234]? = some M234 := am_mlk_app am_mls_11 (i := 14) am_mln_11 rfl rfl
theorem m235 : am_ml[235]? = some M235 := am_mlk_app am_mls_11 (i := 15) am_mln_11 rfl rfl
theorem m236 : am_ml[236]? = some M236 := am_mlk_app am_mls_11 (i := 16) am_mln_11 rfl rfl
theorem m237 : am_ml[237]? = some M237 := am_mlk_app am_mls_11 (i := 17) am_mln_11 rfl rfl
theorem m238 : am_ml[238]? = some M238 := am_mlk_app am_mls_11 (i := 18) am_mln_11 rfl rfl
theorem m239 : am_ml[239]? = some M239 := am_mlk_app am_mls_11 (i := 19) am_mln_11 rfl rfl
theorem m240 : am_ml[240]? = some M240 := am_mlk_app am_mls_12 (i := 0) am_mln_12 rfl rfl
theorem m241 : am_ml[241]? = some M241 := am_mlk_app am_mls_12 (i := 1) am_mln_12 rfl rfl
theorem m242 : am_ml[242]? = some M242 := am_mlk_app am_mls_12 (i := 2) am_mln_12 rfl rfl
theorem m243 : am_ml[243]? = some M243 := am_mlk_app am_mls_12 (i := 3) am_mln_12 rfl rfl
theorem m244 : am_ml[244]? = some M244 := am_mlk_app am_mls_12 (i := 4) am_mln_12 rfl rfl
theorem m245 : am_ml[245]? = some M245 := am_mlk_app am_mls_12 (i := 5) am_mln_12 rfl rfl
theorem m246 : am_ml[246]? = some M246 := am_mlk_app am_mls_12 (i := 6) am_mln_12 rfl rfl
theorem m247 : am_ml[247]? = some M247 := am_mlk_app am_mls_12 (i := 7) am_mln_12 rfl rfl
theorem m248 : am_ml[248]? = some M248 := am_mlk_app am_mls_12 (i := 8) am_mln_12 rfl rfl
theorem m249 : am_ml[249]? = some M249 := am_mlk_app am_mls_12 (i := 9) am_mln_12 rfl rfl
theorem m250 : am_ml[250]? = some M250 := am_mlk_app am_mls_12 (i := 10) am_mln_12 rfl rfl
theorem m251 : am_ml[251]? = some M251 := am_mlk_app am_mls_12 (i := 11) am_mln_12 rfl rfl
theorem m252 : am_ml[252]? = some M252 := am_mlk_app am_mls_12 (i := 12) am_mln_12 rfl rfl
theorem m253 : am_ml[253]? = some M253 := am_mlk_app am_mls_12 (i := 13) am_mln_12 rfl rfl
theorem m254 : am_ml[254]? = some M254 := am_mlk_app am_mls_12 (i := 14) am_mln_12 rfl rfl
theorem m255 : am_ml[255]? = some M255 := am_mlk_app am_mls_12 (i := 15) am_mln_12 rfl rfl
theorem m256 : am_ml[256]? = some M256 := am_mlk_app am_mls_12 (i := 16) am_mln_12 rfl rfl
theorem m257 : am_ml[257]? = some M257 := am_mlk_app am_mls_12 (i := 17) am_mln_12 rfl rfl
theorem m258 : am_ml[258]? = some M258 := am_mlk_app am_mls_12 (i := 18) am_mln_12 rfl rfl
theorem m259 : am_ml[259]? = some M259 := am_mlk_app am_mls_12 (i := 19) am_mln_12 rfl rfl
theorem m260 : am_ml[260]? = some M260 := am_mlk_app am_mls_13 (i := 0) am_mln_13 rfl rfl
theorem m261 : am_ml[261]? = some M261 := am_mlk_app am_mls_13 (i := 1) am_mln_13 rfl rfl
theorem m262 : am_ml[262]? = some M262 := am_mlk_app am_mls_13 (i := 2) am_mln_13 rfl rfl
theorem m263 : am_ml[263]? = some M263 := am_mlk_app am_mls_13 (i := 3) am_mln_13 rfl rfl
theorem m264 : am_ml[264]? = some M264 := am_mlk_app am_mls_13 (i := 4) am_mln_13 rfl rfl
theorem m265 : am_ml[265]? = some M265 := am_mlk_app am_mls_13 (i := 5) am_mln_13 rfl rfl
theorem m266 : am_ml[266]? = some M266 := am_mlk_app am_mls_13 (i := 6) am_mln_13 rfl rfl
theorem m267 : am_ml[267]? = some M267 := am_mlk_app am_mls_13 (i := 7) am_mln_13 rfl rfl
theorem m268 : am_ml[268]? = some M268 := am_mlk_app am_mls_13 (i := 8) am_mln_13 rfl rfl
theorem m269 : am_ml[269]? = some M269 := am_mlk_app am_mls_13 (i := 9) am_mln_13 rfl rfl
theorem m270 : am_ml[270]? = some M270 := am_mlk_app am_mls_13 (i := 10) am_mln_13 rfl rfl
theorem m271 : am_ml[271]? = some M271 := am_mlk_app am_mls_13 (i := 11) am_mln_13 rfl rfl
theorem m272 : am_ml[272]? = some M272 := am_mlk_app am_mls_13 (i := 12) am_mln_13 rfl rfl
theorem m273 : am_ml[273]? = some M273 := am_mlk_app am_mls_13 (i := 13) am_mln_13 rfl rfl
theorem m274 : am_ml[274]? = some M274 := am_mlk_app am_mls_13 (i := 14) am_mln_13 rfl rfl
theorem m275 : am_ml[275]? = some M275 := am_mlk_app am_mls_13 (i := 15) am_mln_13 rfl rfl
theorem m276 : am_ml[276]? = some M276 := am_mlk_app am_mls_13 (i := 16) am_mln_13 rfl rfl
theorem m277 : am_ml[277]? = some M277 := am_mlk_app am_mls_13 (i := 17) am_mln_13 rfl rfl
theorem m278 : am_ml[278]? = some M278 := am_mlk_app am_mls_13 (i := 18) am_mln_13 rfl rfl
theorem m279 : am_ml[279]? = some M279 := am_mlk_app am_mls_13 (i := 19) am_mln_13 rfl rfl
theorem m280 : am_ml[280]? = some M280 := am_mlk_app am_mls_14 (i := 0) am_mln_14 rfl rfl
theorem m281 : am_ml[281]? = some M281 := am_mlk_app am_mls_14 (i := 1) am_mln_14 rfl rfl
theorem m282 : am_ml[282]? = some M282 := am_mlk_app am_mls_14 (i := 2) am_mln_14 rfl rfl
theorem m283 : am_ml[283]? = some M283 := am_mlk_app am_mls_14 (i := 3) am_mln_14 rfl rfl
theorem m284 : am_ml[284]? = some M284 := am_mlk_app am_mls_14 (i := 4) am_mln_14 rfl rfl
theorem m285 : am_ml[285]? = some M285 := am_mlk_app am_mls_14 (i := 5) am_mln_14 rfl rfl
theorem m286 : am_ml[286]? = some M286 := am_mlk_app am_mls_14 (i := 6) am_mln_14 rfl rfl
theorem m287 : am_ml[287]? = some M287 := am_mlk_app am_mls_14 (i := 7) am_mln_14 rfl rfl
theorem m288 : am_ml[288]? = some M288 := am_mlk_app am_mls_14 (i := 8) am_mln_14 rfl rfl
theorem m289 : am_ml[289]? = some M289 := am_mlk_app am_mls_14 (i := 9) am_mln_14 rfl rfl
theorem m290 : am_ml[290]? = some M290 := am_mlk_app am_mls_14 (i := 10) am_mln_14 rfl rfl
theorem m291 : am_ml[291]? = some M291 := am_mlk_app am_mls_14 (i := 11) am_mln_14 rfl rfl
theorem m292 : am_ml[292]? = some M292 := am_mlk_app am_mls_14 (i := 12) am_mln_14 rfl rfl
theorem m293 : am_ml[293]? = some M293 := am_mlk_app am_mls_14 (i := 13) am_mln_14 rfl rfl
theorem m294 : am_ml[294]? = some M294 := am_mlk_app am_mls_14 (i := 14) am_mln_14 rfl rfl
theorem m295 : am_ml[295]? = some M295 := am_mlk_app am_mls_14 (i := 15) am_mln_14 rfl rfl
theorem m296 : am_ml[296]? = some M296 := am_mlk_app am_mls_14 (i := 16) am_mln_14 rfl rfl
theorem m297 : am_ml[297]? = some M297 := am_mlk_app am_mls_14 (i := 17) am_mln_14 rfl rfl
theorem m298 : am_ml[298]? = some M298 := am_mlk_app am_mls_14 (i := 18) am_mln_14 rfl rfl
theorem m299 : am_ml[299]? = some M299 := am_mlk_app am_mls_14 (i := 19) am_mln_14 rfl rfl
theorem m300 : am_ml[300]? = some M300 := am_mlk_app am_mls_15 (i := 0) am_mln_15 rfl rfl
theorem m301 : am_ml[301]? = some M301 := am_mlk_app am_mls_15 (i := 1) am_mln_15 rfl rfl
theorem m302 : am_ml[302]? = some M302 := am_mlk_app am_mls_15 (i := 2) am_mln_15 rfl rfl
theorem m303 : am_ml[303]? = some M303 := am_mlk_app am_mls_15 (i := 3) am_mln_15 rfl rfl
theorem m304 : am_ml[304]? = some M304 := am_mlk_app am_mls_15 (i := 4) am_mln_15 rfl rfl
theorem m305 : am_ml[305]? = some M305 := am_mlk_app am_mls_15 (i := 5) am_mln_15 rfl rfl
theorem m306 : am_ml[306]? = some M306 := am_mlk_app am_mls_15 (i := 6) am_mln_15 rfl rfl
theorem m307 : am_ml[307]? = some M307 := am_mlk_app am_mls_15 (i := 7) am_mln_15 rfl rfl
theorem m308 : am_ml[308]? = some M308 := am_mlk_app am_mls_15 (i := 8) am_mln_15 rfl rfl
theorem m309 : am_ml[309]? = some M309 := am_mlk_app am_mls_15 (i := 9) am_mln_15 rfl rfl
theorem m310 : am_ml[310]? = some M310 := am_mlk_app am_mls_15 (i := 10) am_mln_15 rfl rfl
theorem m311 : am_ml[311]? = some M311 := am_mlk_app am_mls_15 (i := 11) am_mln_15 rfl rfl
theorem m312 : am_ml[312]? = some M312 := am_mlk_app am_mls_15 (i := 12) am_mln_15 rfl rfl
theorem m313 : am_ml[313]? = some M313 := am_mlk_app am_mls_15 (i := 13) am_mln_15 rfl rfl
theorem m314 : am_ml[314]? = some M314 := am_mlk_app am_mls_15 (i := 14) am_mln_15 rfl rfl
theorem m315 : am_ml[315]? = some M315 := am_mlk_app am_mls_15 (i := 15) am_mln_15 rfl rfl
def am_ceq (o : Option (String × Nat × Nat × Nat × Nat × Nat × Nat × Nat)) (r : String × Nat × Nat × Nat × Nat × Nat × Nat × Nat) : Bool := match o with
  | some q => q.1 == r.1 && (q.2.1 == r.2.1 && (q.2.2.1 == r.2.2.1 && (q.2.2.2.1 == r.2.2.2.1 && (q.2.2.2.2.1 == r.2.2.2.2.1 && (q.2.2.2.2.2.1 == r.2.2.2.2.2.1 && (q.2.2.2.2.2.2.1 == r.2.2.2.2.2.2.1 && q.2.2.2.2.2.2.2 == r.2.2.2.2.2.2.2))))))
  | none => false
theorem am_ceq_eq {o : Option (String × Nat × Nat × Nat × Nat × Nat × Nat × Nat)} {r : String × Nat × Nat × Nat × Nat × Nat × Nat × Nat} (h : am_ceq o r = true) : o = some r := by
  unfold am_ceq at h
  split at h
  · simp only [Bool.and_eq_true, beq_iff_eq] at h
    obtain ⟨h1, h2, h3, h4, h5, h6, h7, h8⟩ := h
    exact congrArg some (Prod.ext h1 (Prod.ext h2 (Prod.ext h3 (Prod.ext h4 (Prod.ext h5 (Prod.ext h6 (Prod.ext h7 h8)))))))
  · cases h
def am_xeq (o : Option (String × Nat × Nat × Nat × String × String × Nat × Nat × Nat)) (r : String × Nat × Nat × Nat × String × String × Nat × Nat × Nat) : Bool := match o with
  | some q => q.1 == r.1 && (q.2.1 == r.2.1 && (q.2.2.1 == r.2.2.1 && (q.2.2.2.1 == r.2.2.2.1 && (q.2.2.2.2.1 == r.2.2.2.2.1 && (q.2.2.2.2.2.1 == r.2.2.2.2.2.1 && (q.2.2.2.2.2.2.1 == r.2.2.2.2.2.2.1 && (q.2.2.2.2.2.2.2.1 == r.2.2.2.2.2.2.2.1 && q.2.2.2.2.2.2.2.2 == r.2.2.2.2.2.2.2.2)))))))
  | none => false
theorem am_xeq_eq {o : Option (String × Nat × Nat × Nat × String × String × Nat × Nat × Nat)} {r : String × Nat × Nat × Nat × String × String × Nat × Nat × Nat} (h : am_xeq o r = true) : o = some r := by
  unfold am_xeq at h
  split at h
  · simp only [Bool.and_eq_true, beq_iff_eq] at h
    obtain ⟨h1, h2, h3, h4, h5, h6, h7, h8, h9⟩ := h
    exact congrArg some (Prod.ext h1 (Prod.ext h2 (Prod.ext h3 (Prod.ext h4 (Prod.ext h5 (Prod.ext h6 (Prod.ext h7 (Prod.ext h8 h9))))))))
  · cases h
theorem f0 : am_fld RX9 28 = some (RX9, 28, 9, 2, 2041) := by decide +kernel
theorem f1 : am_fld RX9 19 = some (RX9, 19, 9, 1, 2040) := by decide +kernel
theorem f2 : am_fld RX9 53 = some (RX9, 53, 9, 5, 2044) := by decide +kernel
theorem f3 : am_fld RX9 44 = some (RX9, 44, 9, 4, 2043) := by decide +kernel
theorem f4 : am_fld RX9 88 = some (RX9, 88, 9, 10, 2049) := by decide +kernel
theorem f5 : am_fld RX9 35 = some (RX9, 35, 9, 3, 2042) := by decide +kernel
theorem f6 : am_fld RX9 84 = some (RX9, 84, 9, 9, 2048) := by decide +kernel
theorem f7 : am_fld RX9 234 = some (RX9, 234, 9, 12, 2051) := by decide +kernel
theorem f8 : am_fld RX9 62 = some (RX9, 62, 9, 6, 2045) := by decide +kernel
theorem f9 : am_fld RX9 10 = some (RX9, 10, 9, 0, 2039) := by decide +kernel
theorem f10 : am_fld RX9 91 = some (RX9, 91, 9, 11, 2050) := by decide +kernel
theorem f11 : am_fld RX9 71 = some (RX9, 71, 9, 7, 2046) := by decide +kernel
theorem f12 : am_fld RX9 80 = some (RX9, 80, 9, 8, 2047) := by decide +kernel
theorem f13 : am_fld RX10 82 = some (RX10, 82, 10, 25, 6123) := by decide +kernel
theorem f14 : am_fld RX10 86 = some (RX10, 86, 10, 20, 6118) := by decide +kernel
theorem f15 : am_fld RX10 7 = some (RX10, 7, 10, 0, 6098) := by decide +kernel
theorem f16 : am_fld RX10 16 = some (RX10, 16, 10, 2, 6100) := by decide +kernel
theorem f17 : am_fld RX10 28 = some (RX10, 28, 10, 6, 6104) := by decide +kernel
theorem f18 : am_fld RX10 19 = some (RX10, 19, 10, 3, 6101) := by decide +kernel
theorem f19 : am_fld RX10 22 = some (RX10, 22, 10, 4, 6102) := by decide +kernel
theorem f20 : am_fld RX10 69 = some (RX10, 69, 10, 19, 6117) := by decide +kernel
theorem f21 : am_fld RX10 38 = some (RX10, 38, 10, 9, 6107) := by decide +kernel
theorem f22 : am_fld RX10 41 = some (RX10, 41, 10, 10, 6108) := by decide +kernel
theorem f23 : am_fld RX10 89 = some (RX10, 89, 10, 22, 6120) := by decide +kernel
theorem f24 : am_fld RX10 92 = some (RX10, 92, 10, 24, 6122) := by decide +kernel
theorem f25 : am_fld RX10 95 = some (RX10, 95, 10, 23, 6121) := by decide +kernel
theorem f26 : am_fld RX10 98 = some (RX10, 98, 10, 21, 6119) := by decide +kernel
theorem f27 : am_fld RX10 44 = some (RX10, 44, 10, 11, 6109) := by decide +kernel
theorem f28 : am_fld RX10 47 = some (RX10, 47, 10, 12, 6110) := by decide +kernel
theorem f29 : am_fld RX10 50 = some (RX10, 50, 10, 13, 6111) := by decide +kernel
theorem f30 : am_fld RX10 53 = some (RX10, 53, 10, 14, 6112) := by decide +kernel
theorem f31 : am_fld RX10 146 = some (RX10, 146, 10, 27, 6125) := by decide +kernel
theorem f32 : am_fld RX10 72 = some (RX10, 72, 10, 26, 6124) := by decide +kernel
theorem f33 : am_fld RX10 57 = some (RX10, 57, 10, 15, 6113) := by decide +kernel
theorem f34 : am_fld RX10 60 = some (RX10, 60, 10, 16, 6114) := by decide +kernel
theorem f35 : am_fld RX10 63 = some (RX10, 63, 10, 17, 6115) := by decide +kernel
theorem f36 : am_fld RX10 75 = some (RX10, 75, 10, 28, 6126) := by decide +kernel
theorem f37 : am_fld RX10 13 = some (RX10, 13, 10, 1, 6099) := by decide +kernel
theorem f38 : am_fld RX10 35 = some (RX10, 35, 10, 8, 6106) := by decide +kernel
theorem f39 : am_fld RX10 32 = some (RX10, 32, 10, 7, 6105) := by decide +kernel
theorem f40 : am_fld RX10 25 = some (RX10, 25, 10, 5, 6103) := by decide +kernel
theorem f41 : am_fld RX10 66 = some (RX10, 66, 10, 18, 6116) := by decide +kernel
theorem f42 : am_fld RX0 11 = some (RX0, 11, 0, 4, 1147) := by decide +kernel
theorem f43 : am_fld RX0 30 = some (RX0, 30, 0, 3, 1146) := by decide +kernel
theorem f44 : am_fld RX0 15 = some (RX0, 15, 0, 5, 1148) := by decide +kernel
theorem f45 : am_fld RX0 22 = some (RX0, 22, 0, 1, 1144) := by decide +kernel
theorem f46 : am_fld RX0 26 = some (RX0, 26, 0, 2, 1145) := by decide +kernel
theorem f47 : am_fld RX0 18 = some (RX0, 18, 0, 0, 1143) := by decide +kernel
theorem f48 : am_fld RX1 26 = some (RX1, 26, 1, 4, 1172) := by decide +kernel
theorem f49 : am_fld RX1 22 = some (RX1, 22, 1, 1, 1169) := by decide +kernel
theorem f50 : am_fld RX1 18 = some (RX1, 18, 1, 0, 1168) := by decide +kernel
theorem f51 : am_fld RX1 15 = some (RX1, 15, 1, 3, 1171) := by decide +kernel
theorem f52 : am_fld RX1 9 = some (RX1, 9, 1, 2, 1170) := by decide +kernel
theorem f53 : am_fld RX2 9 = some (RX2, 9, 2, 1, 1191) := by decide +kernel
theorem f54 : am_fld RX2 15 = some (RX2, 15, 2, 0, 1190) := by decide +kernel
theorem f55 : am_fld RX3 15 = some (RX3, 15, 3, 1, 1037) := by decide +kernel
theorem f56 : am_fld RX3 19 = some (RX3, 19, 3, 2, 1038) := by decide +kernel
theorem f57 : am_fld RX3 9 = some (RX3, 9, 3, 0, 1036) := by decide +kernel
theorem f58 : am_fld RX4 27 = some (RX4, 27, 4, 5, 1101) := by decide +kernel
theorem f59 : am_fld RX4 9 = some (RX4, 9, 4, 0, 1096) := by decide +kernel
theorem f60 : am_fld RX4 15 = some (RX4, 15, 4, 1, 1097) := by decide +kernel
theorem f61 : am_fld RX4 18 = some (RX4, 18, 4, 2, 1098) := by decide +kernel
theorem f62 : am_fld RX4 21 = some (RX4, 21, 4, 3, 1099) := by decide +kernel
theorem f63 : am_fld RX4 24 = some (RX4, 24, 4, 4, 1100) := by decide +kernel
theorem f64 : am_fld RX5 9 = some (RX5, 9, 5, 2, 1205) := by decide +kernel
theorem f65 : am_fld RX5 15 = some (RX5, 15, 5, 3, 1206) := by decide +kernel
theorem f66 : am_fld RX5 22 = some (RX5, 22, 5, 1, 1204) := by decide +kernel
theorem f67 : am_fld RX5 18 = some (RX5, 18, 5, 0, 1203) := by decide +kernel
theorem f68 : am_fld RX6 19 = some (RX6, 19, 6, 2, 1055) := by decide +kernel
theorem f69 : am_fld RX6 9 = some (RX6, 9, 6, 0, 1053) := by decide +kernel
theorem f70 : am_fld RX6 15 = some (RX6, 15, 6, 1, 1054) := by decide +kernel
theorem f71 : am_fld RX7 19 = some (RX7, 19, 7, 0, 1121) := by decide +kernel
theorem f72 : am_fld RX7 9 = some (RX7, 9, 7, 3, 1124) := by decide +kernel
theorem f73 : am_fld RX7 15 = some (RX7, 15, 7, 4, 1125) := by decide +kernel
theorem f74 : am_fld RX7 23 = some (RX7, 23, 7, 1, 1122) := by decide +kernel
theorem f75 : am_fld RX7 27 = some (RX7, 27, 7, 2, 1123) := by decide +kernel
theorem f76 : am_fld RX8 9 = some (RX8, 9, 8, 2, 1072) := by decide +kernel
theorem f77 : am_fld RX8 15 = some (RX8, 15, 8, 3, 1073) := by decide +kernel
theorem f78 : am_fld RX8 18 = some (RX8, 18, 8, 4, 1074) := by decide +kernel
theorem f79 : am_fld RX8 21 = some (RX8, 21, 8, 5, 1075) := by decide +kernel
theorem f80 : am_fld RX8 25 = some (RX8, 25, 8, 0, 1070) := by decide +kernel
theorem f81 : am_fld RX8 29 = some (RX8, 29, 8, 1, 1071) := by decide +kernel
theorem cl0 : am_cal RX9 94 = some (RX9, 94, 0, 143, 1216, 1218, 0, 1001) := am_ceq_eq (by decide +kernel)
theorem cl1 : am_cal RX9 98 = some (RX9, 98, 1, 144, 3074, 3075, 0, 1001) := am_ceq_eq (by decide +kernel)
theorem cl2 : am_cal RX9 102 = some (RX9, 102, 0, 79, 3146, 2146, 2147, 1004) := am_ceq_eq (by decide +kernel)
theorem cl3 : am_cal RX9 106 = some (RX9, 106, 0, 57, 3147, 3148, 3149, 1003) := am_ceq_eq (by decide +kernel)
theorem cl4 : am_cal RX9 117 = some (RX9, 117, 1, 164, 3167, 3038, 0, 1001) := am_ceq_eq (by decide +kernel)
theorem cl5 : am_cal RX9 120 = some (RX9, 120, 0, 90, 3168, 3169, 3170, 1004) := am_ceq_eq (by decide +kernel)
theorem cl6 : am_cal RX9 123 = some (RX9, 123, 0, 146, 3182, 3184, 12, 1001) := am_ceq_eq (by decide +kernel)
theorem cl7 : am_cal RX9 126 = some (RX9, 126, 0, 153, 3205, 3207, 14, 1001) := am_ceq_eq (by decide +kernel)
theorem cl8 : am_cal RX9 129 = some (RX9, 129, 0, 59, 3228, 3229, 3230, 1003) := am_ceq_eq (by decide +kernel)
theorem cl9 : am_cal RX9 133 = some (RX9, 133, 0, 83, 3232, 3233, 3234, 1004) := am_ceq_eq (by decide +kernel)
theorem cl10 : am_cal RX9 136 = some (RX9, 136, 0, 77, 3216, 2210, 2211, 1004) := am_ceq_eq (by decide +kernel)
theorem cl11 : am_cal RX9 139 = some (RX9, 139, 0, 150, 3217, 3219, 16, 1001) := am_ceq_eq (by decide +kernel)
theorem cl12 : am_cal RX9 143 = some (RX9, 143, 0, 0, 3009, 3010, 3011, 1007) := am_ceq_eq (by decide +kernel)
theorem cl13 : am_cal RX9 146 = some (RX9, 146, 0, 1, 4004, 3057, 3058, 1007) := am_ceq_eq (by decide +kernel)
theorem cl14 : am_cal RX9 155 = some (RX9, 155, 0, 61, 4021, 4022, 4023, 1003) := am_ceq_eq (by decide +kernel)
theorem cl15 : am_cal RX9 159 = some (RX9, 159, 0, 58, 4039, 4040, 4041, 1003) := am_ceq_eq (by decide +kernel)
theorem cl16 : am_cal RX9 163 = some (RX9, 163, 0, 62, 4043, 3033, 3034, 1003) := am_ceq_eq (by decide +kernel)
theorem cl17 : am_cal RX9 166 = some (RX9, 166, 1, 145, 4052, 4053, 0, 1001) := am_ceq_eq (by decide +kernel)
theorem cl18 : am_cal RX9 169 = some (RX9, 169, 0, 88, 4071, 4072, 4073, 1004) := am_ceq_eq (by decide +kernel)
theorem cl19 : am_cal RX9 173 = some (RX9, 173, 0, 2, 3052, 3053, 3054, 1007) := am_ceq_eq (by decide +kernel)
theorem cl20 : am_cal RX9 176 = some (RX9, 176, 0, 68, 4083, 4084, 4085, 1006) := am_ceq_eq (by decide +kernel)
theorem cl21 : am_cal RX9 179 = some (RX9, 179, 0, 67, 4090, 2206, 2207, 1006) := am_ceq_eq (by decide +kernel)
theorem cl22 : am_cal RX9 182 = some (RX9, 182, 0, 149, 4098, 4100, 17, 1001) := am_ceq_eq (by decide +kernel)
theorem cl23 : am_cal RX9 185 = some (RX9, 185, 0, 32, 3004, 2162, 2163, 1005) := am_ceq_eq (by decide +kernel)
theorem cl24 : am_cal RX9 186 = some (RX9, 186, 0, 70, 4117, 4118, 4119, 1006) := am_ceq_eq (by decide +kernel)
theorem cl25 : am_cal RX9 189 = some (RX9, 189, 0, 71, 4125, 4126, 4127, 1006) := am_ceq_eq (by decide +kernel)
theorem cl26 : am_cal RX9 193 = some (RX9, 193, 1, 170, 2114, 2115, 0, 1001) := am_ceq_eq (by decide +kernel)
theorem cl27 : am_cal RX9 196 = some (RX9, 196, 1, 169, 2122, 2123, 0, 1001) := am_ceq_eq (by decide +kernel)
theorem cl28 : am_cal RX9 199 = some (RX9, 199, 0, 86, 4138, 1236, 1237, 1004) := am_ceq_eq (by decide +kernel)
theorem cl29 : am_cal RX9 202 = some (RX9, 202, 0, 154, 2107, 2109, 1, 1001) := am_ceq_eq (by decide +kernel)
theorem cl30 : am_cal RX9 207 = some (RX9, 207, 0, 82, 4161, 2142, 2143, 1004) := am_ceq_eq (by decide +kernel)
theorem cl31 : am_cal RX9 211 = some (RX9, 211, 0, 85, 4162, 2000, 2001, 1004) := am_ceq_eq (by decide +kernel)
theorem cl32 : am_cal RX9 215 = some (RX9, 215, 0, 87, 2087, 2088, 2089, 1004) := am_ceq_eq (by decide +kernel)
theorem cl33 : am_cal RX9 226 = some (RX9, 226, 0, 80, 4173, 2104, 2105, 1004) := am_ceq_eq (by decide +kernel)
theorem cl34 : am_cal RX9 229 = some (RX9, 229, 0, 84, 4174, 4175, 4176, 1004) := am_ceq_eq (by decide +kernel)
theorem cl35 : am_cal RX9 240 = some (RX9, 240, 0, 81, 2099, 2100, 2101, 1004) := am_ceq_eq (by decide +kernel)
theorem cl36 : am_cal RX9 243 = some (RX9, 243, 0, 13, 2129, 2130, 2131, 1008) := am_ceq_eq (by decide +kernel)
theorem cl37 : am_cal RX9 246 = some (RX9, 246, 0, 17, 2232, 2233, 2234, 1008) := am_ceq_eq (by decide +kernel)
theorem cl38 : am_cal RX9 249 = some (RX9, 249, 0, 14, 4201, 4202, 4203, 1008) := am_ceq_eq (by decide +kernel)
theorem cl39 : am_cal RX9 252 = some (RX9, 252, 0, 156, 4205, 4207, 19, 1001) := am_ceq_eq (by decide +kernel)
theorem cl40 : am_cal RX9 257 = some (RX9, 257, 0, 94, 4210, 4211, 4212, 1004) := am_ceq_eq (by decide +kernel)
theorem cl41 : am_cal RX9 261 = some (RX9, 261, 0, 16, 4223, 2237, 2238, 1008) := am_ceq_eq (by decide +kernel)
theorem cl42 : am_cal RX9 264 = some (RX9, 264, 0, 91, 3211, 2007, 2008, 1004) := am_ceq_eq (by decide +kernel)
theorem cl43 : am_cal RX9 267 = some (RX9, 267, 0, 152, 4224, 4226, 21, 1001) := am_ceq_eq (by decide +kernel)
theorem cl44 : am_cal RX9 270 = some (RX9, 270, 0, 157, 4229, 4231, 22, 1001) := am_ceq_eq (by decide +kernel)
theorem cl45 : am_cal RX9 276 = some (RX9, 276, 0, 78, 3210, 3178, 3179, 1004) := am_ceq_eq (by decide +kernel)
theorem cl46 : am_cal RX9 279 = some (RX9, 279, 0, 24, 5014, 2018, 2019, 1002) := am_ceq_eq (by decide +kernel)
theorem cl47 : am_cal RX9 287 = some (RX9, 287, 0, 30, 5016, 5017, 5018, 1002) := am_ceq_eq (by decide +kernel)
theorem cl48 : am_cal RX9 292 = some (RX9, 292, 0, 89, 5055, 5056, 5057, 1004) := am_ceq_eq (by decide +kernel)
theorem cl49 : am_cal RX9 295 = some (RX9, 295, 0, 151, 3212, 3214, 15, 1001) := am_ceq_eq (by decide +kernel)
theorem cl50 : am_cal RX9 300 = some (RX9, 300, 1, 165, 2119, 2120, 0, 1001) := am_ceq_eq (by decide +kernel)
theorem cl51 : am_cal RX9 305 = some (RX9, 305, 0, 155, 5069, 5071, 23, 1001) := am_ceq_eq (by decide +kernel)
theorem cl52 : am_cal RX9 310 = some (RX9, 310, 1, 166, 3176, 3046, 0, 1001) := am_ceq_eq (by decide +kernel)
theorem cl53 : am_cal RX9 313 = some (RX9, 313, 0, 92, 5074, 5075, 5076, 1004) := am_ceq_eq (by decide +kernel)
theorem cl54 : am_cal RX9 316 = some (RX9, 316, 0, 93, 5082, 5083, 5084, 1004) := am_ceq_eq (by decide +kernel)
theorem cl55 : am_cal RX9 319 = some (RX9, 319, 0, 72, 5094, 5095, 5096, 1006) := am_ceq_eq (by decide +kernel)
theorem cl56 : am_cal RX9 324 = some (RX9, 324, 0, 33, 5106, 2030, 2031, 1005) := am_ceq_eq (by decide +kernel)
theorem cl57 : am_cal RX9 326 = some (RX9, 326, 0, 34, 5114, 5115, 5116, 1005) := am_ceq_eq (by decide +kernel)
theorem cl58 : am_cal RX9 329 = some (RX9, 329, 0, 36, 5118, 2166, 2167, 1005) := am_ceq_eq (by decide +kernel)
theorem cl59 : am_cal RX9 332 = some (RX9, 332, 0, 6, 5119, 5120, 5121, 1007) := am_ceq_eq (by decide +kernel)
theorem cl60 : am_cal RX9 335 = some (RX9, 335, 0, 7, 5123, 5124, 5125, 1007) := am_ceq_eq (by decide +kernel)
theorem cl61 : am_cal RX9 338 = some (RX9, 338, 0, 42, 5135, 2174, 2175, 1005) := am_ceq_eq (by decide +kernel)
theorem cl62 : am_cal RX9 341 = some (RX9, 341, 0, 43, 5136, 2178, 2179, 1005) := am_ceq_eq (by decide +kernel)
theorem cl63 : am_cal RX9 344 = some (RX9, 344, 0, 44, 5137, 2185, 2186, 1005) := am_ceq_eq (by decide +kernel)
theorem cl64 : am_cal RX9 347 = some (RX9, 347, 0, 45, 5138, 2193, 2194, 1005) := am_ceq_eq (by decide +kernel)
theorem cl65 : am_cal RX9 350 = some (RX9, 350, 0, 159, 5139, 5141, 25, 1001) := am_ceq_eq (by decide +kernel)
theorem cl66 : am_cal RX9 353 = some (RX9, 353, 0, 160, 5144, 5146, 26, 1001) := am_ceq_eq (by decide +kernel)
theorem cl67 : am_cal RX9 356 = some (RX9, 356, 0, 158, 5156, 5158, 27, 1001) := am_ceq_eq (by decide +kernel)
theorem cl68 : am_cal RX9 361 = some (RX9, 361, 0, 38, 3186, 3187, 3188, 1005) := am_ceq_eq (by decide +kernel)
theorem cl69 : am_cal RX9 364 = some (RX9, 364, 0, 147, 3191, 3193, 13, 1001) := am_ceq_eq (by decide +kernel)
theorem cl70 : am_cal RX9 367 = some (RX9, 367, 0, 8, 5180, 5181, 5182, 1007) := am_ceq_eq (by decide +kernel)
theorem cl71 : am_cal RX9 370 = some (RX9, 370, 0, 41, 5184, 5185, 5186, 1005) := am_ceq_eq (by decide +kernel)
theorem cl72 : am_cal RX9 373 = some (RX9, 373, 0, 39, 5161, 5162, 5163, 1005) := am_ceq_eq (by decide +kernel)
theorem cl73 : am_cal RX9 376 = some (RX9, 376, 0, 3, 5199, 5200, 5201, 1007) := am_ceq_eq (by decide +kernel)
theorem cl74 : am_cal RX9 379 = some (RX9, 379, 0, 5, 5219, 5220, 5221, 1007) := am_ceq_eq (by decide +kernel)
theorem cl75 : am_cal RX9 382 = some (RX9, 382, 0, 4, 5227, 5224, 5225, 1007) := am_ceq_eq (by decide +kernel)
theorem cl76 : am_cal RX9 385 = some (RX9, 385, 0, 35, 3064, 3016, 3017, 1005) := am_ceq_eq (by decide +kernel)
theorem cl77 : am_cal RX9 388 = some (RX9, 388, 0, 20, 5235, 5236, 5237, 1009) := am_ceq_eq (by decide +kernel)
theorem cl78 : am_cal RX9 391 = some (RX9, 391, 0, 21, 6014, 6010, 6011, 1009) := am_ceq_eq (by decide +kernel)
theorem cl79 : am_cal RX9 394 = some (RX9, 394, 0, 51, 6022, 6023, 6024, 1010) := am_ceq_eq (by decide +kernel)
theorem cl80 : am_cal RX9 397 = some (RX9, 397, 0, 50, 6036, 6037, 6038, 1010) := am_ceq_eq (by decide +kernel)
theorem cl81 : am_cal RX9 400 = some (RX9, 400, 0, 148, 6047, 6049, 30, 1001) := am_ceq_eq (by decide +kernel)
theorem cl82 : am_cal RX9 403 = some (RX9, 403, 0, 52, 6067, 6068, 6069, 1010) := am_ceq_eq (by decide +kernel)
theorem cl83 : am_cal RX9 406 = some (RX9, 406, 0, 23, 1220, 1221, 1222, 1002) := am_ceq_eq (by decide +kernel)
theorem cl84 : am_cal RX9 407 = some (RX9, 407, 0, 56, 1224, 1225, 1226, 1003) := am_ceq_eq (by decide +kernel)
theorem cl85 : am_cal RX9 409 = some (RX9, 409, 0, 76, 1228, 1229, 1230, 1004) := am_ceq_eq (by decide +kernel)
theorem cl86 : am_cal RX9 410 = some (RX9, 410, 0, 31, 2025, 2026, 2027, 1005) := am_ceq_eq (by decide +kernel)
theorem cl87 : am_cal RX9 411 = some (RX9, 411, 0, 48, 2033, 2034, 2035, 1010) := am_ceq_eq (by decide +kernel)
theorem cl88 : am_cal RX9 412 = some (RX9, 412, 1, 276, 2038, 1233, 0, 1011) := am_ceq_eq (by decide +kernel)
theorem cl89 : am_cal RX9 421 = some (RX9, 421, 0, 25, 3200, 3201, 3202, 1002) := am_ceq_eq (by decide +kernel)
theorem cl90 : am_cal RX9 426 = some (RX9, 426, 0, 37, 3195, 3196, 3197, 1005) := am_ceq_eq (by decide +kernel)
theorem cl91 : am_cal RX9 431 = some (RX9, 431, 0, 49, 6051, 6052, 6053, 1010) := am_ceq_eq (by decide +kernel)
theorem cl92 : am_cal RX9 438 = some (RX9, 438, 0, 40, 3221, 3222, 3223, 1005) := am_ceq_eq (by decide +kernel)
theorem cl93 : am_cal RX9 441 = some (RX9, 441, 1, 167, 4228, 2225, 0, 1001) := am_ceq_eq (by decide +kernel)
theorem cl94 : am_cal RX9 444 = some (RX9, 444, 1, 168, 3209, 3174, 0, 1001) := am_ceq_eq (by decide +kernel)
theorem cl95 : am_cal RX9 447 = some (RX9, 447, 1, 171, 2111, 2112, 0, 1001) := am_ceq_eq (by decide +kernel)
theorem cl96 : am_cal RX9 452 = some (RX9, 452, 1, 161, 5143, 5022, 0, 1001) := am_ceq_eq (by decide +kernel)
theorem cl97 : am_cal RX10 101 = some (RX10, 101, 0, 177, 6094, 6096, 34, 1012) := am_ceq_eq (by decide +kernel)
theorem cl98 : am_cal RX10 78 = some (RX10, 78, 0, 174, 6090, 6092, 33, 1012) := am_ceq_eq (by decide +kernel)
theorem cl99 : am_cal RX10 108 = some (RX10, 108, 1, 176, 6233, 6234, 0, 1012) := am_ceq_eq (by decide +kernel)
theorem cl100 : am_cal RX10 112 = some (RX10, 112, 1, 179, 6213, 6214, 0, 1012) := am_ceq_eq (by decide +kernel)
theorem cl101 : am_cal RX10 117 = some (RX10, 117, 1, 173, 6202, 6203, 0, 1012) := am_ceq_eq (by decide +kernel)
theorem cl102 : am_cal RX10 123 = some (RX10, 123, 0, 186, 6205, 6207, 35, 1012) := am_ceq_eq (by decide +kernel)
theorem cl103 : am_cal RX10 126 = some (RX10, 126, 0, 178, 6228, 6230, 40, 1012) := am_ceq_eq (by decide +kernel)
theorem cl104 : am_cal RX10 129 = some (RX10, 129, 0, 188, 6238, 7000, 41, 1012) := am_ceq_eq (by decide +kernel)
theorem cl105 : am_cal RX10 135 = some (RX10, 135, 0, 191, 7019, 7021, 45, 1012) := am_ceq_eq (by decide +kernel)
theorem cl106 : am_cal RX10 139 = some (RX10, 139, 0, 192, 7015, 7017, 44, 1012) := am_ceq_eq (by decide +kernel)
theorem cl107 : am_cal RX10 142 = some (RX10, 142, 0, 193, 7011, 7013, 43, 1012) := am_ceq_eq (by decide +kernel)
theorem cl108 : am_cal RX10 149 = some (RX10, 149, 0, 195, 7056, 7058, 50, 1012) := am_ceq_eq (by decide +kernel)
theorem cl109 : am_cal RX10 153 = some (RX10, 153, 0, 196, 7052, 7054, 49, 1012) := am_ceq_eq (by decide +kernel)
theorem cl110 : am_cal RX10 156 = some (RX10, 156, 0, 197, 7048, 7050, 48, 1012) := am_ceq_eq (by decide +kernel)
theorem cl111 : am_cal RX10 159 = some (RX10, 159, 0, 198, 7060, 7062, 51, 1012) := am_ceq_eq (by decide +kernel)
theorem cl112 : am_cal RX10 163 = some (RX10, 163, 0, 201, 6220, 6222, 38, 1012) := am_ceq_eq (by decide +kernel)
theorem cl113 : am_cal RX10 166 = some (RX10, 166, 0, 189, 6224, 6226, 39, 1012) := am_ceq_eq (by decide +kernel)
theorem cl114 : am_cal RX10 170 = some (RX10, 170, 1, 182, 6198, 6199, 0, 1012) := am_ceq_eq (by decide +kernel)
theorem cl115 : am_cal RX10 173 = some (RX10, 173, 0, 200, 6209, 6211, 36, 1012) := am_ceq_eq (by decide +kernel)
theorem cl116 : am_cal RX10 176 = some (RX10, 176, 0, 187, 6216, 6218, 37, 1012) := am_ceq_eq (by decide +kernel)
theorem cl117 : am_cal RX10 179 = some (RX10, 179, 0, 190, 7002, 7004, 42, 1012) := am_ceq_eq (by decide +kernel)
theorem cl118 : am_cal RX10 183 = some (RX10, 183, 0, 184, 7031, 7033, 46, 1012) := am_ceq_eq (by decide +kernel)
theorem cl119 : am_cal RX10 188 = some (RX10, 188, 0, 199, 7044, 7046, 47, 1012) := am_ceq_eq (by decide +kernel)
theorem cl120 : am_cal RX10 193 = some (RX10, 193, 1, 208, 7068, 7069, 0, 1012) := am_ceq_eq (by decide +kernel)
theorem cl121 : am_cal RX10 196 = some (RX10, 196, 0, 210, 7084, 7086, 54, 1012) := am_ceq_eq (by decide +kernel)
theorem cl122 : am_cal RX10 199 = some (RX10, 199, 0, 211, 7076, 7078, 52, 1012) := am_ceq_eq (by decide +kernel)
theorem cl123 : am_cal RX10 202 = some (RX10, 202, 0, 212, 7080, 7082, 53, 1012) := am_ceq_eq (by decide +kernel)
theorem cl124 : am_cal RX10 205 = some (RX10, 205, 0, 185, 7092, 7094, 55, 1012) := am_ceq_eq (by decide +kernel)
theorem cl125 : am_cal RX10 215 = some (RX10, 215, 0, 215, 7108, 7110, 56, 1012) := am_ceq_eq (by decide +kernel)
theorem cl126 : am_cal RX10 218 = some (RX10, 218, 0, 223, 7112, 7114, 57, 1012) := am_ceq_eq (by decide +kernel)
theorem cl127 : am_cal RX10 223 = some (RX10, 223, 1, 220, 7131, 7132, 0, 1012) := am_ceq_eq (by decide +kernel)
theorem cl128 : am_cal RX10 226 = some (RX10, 226, 1, 183, 7135, 7136, 0, 1012) := am_ceq_eq (by decide +kernel)
theorem cl129 : am_cal RX10 229 = some (RX10, 229, 1, 181, 7116, 7117, 0, 1012) := am_ceq_eq (by decide +kernel)
theorem cl130 : am_cal RX10 232 = some (RX10, 232, 0, 226, 7155, 7157, 58, 1012) := am_ceq_eq (by decide +kernel)
theorem cl131 : am_cal RX10 235 = some (RX10, 235, 0, 228, 7167, 7169, 60, 1012) := am_ceq_eq (by decide +kernel)
theorem cl132 : am_cal RX10 238 = some (RX10, 238, 0, 229, 7163, 7165, 59, 1012) := am_ceq_eq (by decide +kernel)
theorem cl133 : am_cal RX10 241 = some (RX10, 241, 0, 232, 7171, 7173, 61, 1012) := am_ceq_eq (by decide +kernel)
theorem cl134 : am_cal RX10 244 = some (RX10, 244, 0, 241, 7212, 7214, 63, 1012) := am_ceq_eq (by decide +kernel)
theorem cl135 : am_cal RX10 249 = some (RX10, 249, 0, 240, 7208, 7210, 62, 1012) := am_ceq_eq (by decide +kernel)
theorem cl136 : am_cal RX10 255 = some (RX10, 255, 0, 231, 7221, 7223, 64, 1012) := am_ceq_eq (by decide +kernel)
theorem cl137 : am_cal RX10 258 = some (RX10, 258, 0, 245, 7236, 7238, 66, 1012) := am_ceq_eq (by decide +kernel)
theorem cl138 : am_cal RX10 262 = some (RX10, 262, 1, 180, 7229, 7230, 0, 1012) := am_ceq_eq (by decide +kernel)
theorem cl139 : am_cal RX10 265 = some (RX10, 265, 0, 244, 7232, 7234, 65, 1012) := am_ceq_eq (by decide +kernel)
theorem cl140 : am_cal RX10 268 = some (RX10, 268, 0, 250, 8020, 8022, 68, 1012) := am_ceq_eq (by decide +kernel)
theorem cl141 : am_cal RX10 271 = some (RX10, 271, 0, 252, 8028, 8030, 70, 1012) := am_ceq_eq (by decide +kernel)
theorem cl142 : am_cal RX10 274 = some (RX10, 274, 0, 251, 8016, 8018, 67, 1012) := am_ceq_eq (by decide +kernel)
theorem cl143 : am_cal RX10 277 = some (RX10, 277, 0, 253, 8024, 8026, 69, 1012) := am_ceq_eq (by decide +kernel)
theorem cl144 : am_cal RX10 280 = some (RX10, 280, 0, 194, 8044, 8046, 72, 1012) := am_ceq_eq (by decide +kernel)
theorem cl145 : am_cal RX10 283 = some (RX10, 283, 0, 256, 8040, 8042, 71, 1012) := am_ceq_eq (by decide +kernel)
theorem cl146 : am_cal RX10 286 = some (RX10, 286, 0, 261, 8064, 8066, 73, 1012) := am_ceq_eq (by decide +kernel)
theorem cl147 : am_cal RX10 290 = some (RX10, 290, 0, 263, 8076, 8078, 75, 1012) := am_ceq_eq (by decide +kernel)
theorem cl148 : am_cal RX10 293 = some (RX10, 293, 0, 264, 8072, 8074, 74, 1012) := am_ceq_eq (by decide +kernel)
theorem cl149 : am_cal RX10 296 = some (RX10, 296, 0, 266, 8084, 8086, 76, 1012) := am_ceq_eq (by decide +kernel)
theorem cl150 : am_cal RX10 299 = some (RX10, 299, 1, 268, 8092, 8093, 0, 1012) := am_ceq_eq (by decide +kernel)
theorem cl151 : am_cal RX10 304 = some (RX10, 304, 0, 270, 8100, 8102, 77, 1012) := am_ceq_eq (by decide +kernel)
theorem cl152 : am_cal RX10 307 = some (RX10, 307, 0, 272, 8108, 8110, 78, 1012) := am_ceq_eq (by decide +kernel)
theorem cl153 : am_cal RX0 34 = some (RX0, 34, 1, 276, 3013, 1233, 0, 1011) := am_ceq_eq (by decide +kernel)
theorem cl154 : am_cal RX0 40 = some (RX0, 40, 0, 32, 3014, 2162, 2163, 1005) := am_ceq_eq (by decide +kernel)
theorem cl155 : am_cal RX0 46 = some (RX0, 46, 0, 35, 3015, 3016, 3017, 1005) := am_ceq_eq (by decide +kernel)
theorem cl156 : am_cal RX0 50 = some (RX0, 50, 0, 9, 3019, 3021, 7, 1007) := am_ceq_eq (by decide +kernel)
theorem cl157 : am_cal RX0 54 = some (RX0, 54, 0, 11, 3060, 3062, 10, 1007) := am_ceq_eq (by decide +kernel)
theorem cl158 : am_cal RX0 58 = some (RX0, 58, 2, 164, 3037, 3038, 0, 1001) := am_ceq_eq (by decide +kernel)
theorem cl159 : am_cal RX0 61 = some (RX0, 61, 2, 166, 3045, 3046, 0, 1001) := am_ceq_eq (by decide +kernel)
theorem cl160 : am_cal RX0 64 = some (RX0, 64, 0, 1, 3056, 3057, 3058, 1007) := am_ceq_eq (by decide +kernel)
theorem cl161 : am_cal RX0 68 = some (RX0, 68, 1, 275, 5203, 5204, 0, 1020) := am_ceq_eq (by decide +kernel)
theorem cl162 : am_cal RX0 79 = some (RX0, 79, 0, 4, 5223, 5224, 5225, 1007) := am_ceq_eq (by decide +kernel)
theorem cl163 : am_cal RX0 82 = some (RX0, 82, 0, 36, 3023, 2166, 2167, 1005) := am_ceq_eq (by decide +kernel)
theorem cl164 : am_cal RX0 85 = some (RX0, 85, 0, 42, 3024, 2174, 2175, 1005) := am_ceq_eq (by decide +kernel)
theorem cl165 : am_cal RX0 88 = some (RX0, 88, 0, 12, 3025, 3027, 8, 1007) := am_ceq_eq (by decide +kernel)
theorem cl166 : am_cal RX0 91 = some (RX0, 91, 0, 0, 5127, 3010, 3011, 1007) := am_ceq_eq (by decide +kernel)
theorem cl167 : am_cal RX0 94 = some (RX0, 94, 0, 10, 3048, 3050, 9, 1007) := am_ceq_eq (by decide +kernel)
theorem cl168 : am_cal RX0 98 = some (RX0, 98, 0, 45, 3029, 2193, 2194, 1005) := am_ceq_eq (by decide +kernel)
theorem cl169 : am_cal RX0 101 = some (RX0, 101, 0, 43, 3030, 2178, 2179, 1005) := am_ceq_eq (by decide +kernel)
theorem cl170 : am_cal RX0 104 = some (RX0, 104, 0, 44, 3031, 2185, 2186, 1005) := am_ceq_eq (by decide +kernel)
theorem cl171 : am_cal RX0 107 = some (RX0, 107, 0, 62, 3032, 3033, 3034, 1003) := am_ceq_eq (by decide +kernel)
theorem cl172 : am_cal RX0 112 = some (RX0, 112, 0, 77, 3040, 2210, 2211, 1004) := am_ceq_eq (by decide +kernel)
theorem cl173 : am_cal RX0 117 = some (RX0, 117, 0, 28, 3041, 3042, 3043, 1002) := am_ceq_eq (by decide +kernel)
theorem cl174 : am_cal RX1 30 = some (RX1, 30, 0, 64, 2133, 2134, 2135, 1006) := am_ceq_eq (by decide +kernel)
theorem cl175 : am_cal RX1 35 = some (RX1, 35, 0, 82, 2141, 2142, 2143, 1004) := am_ceq_eq (by decide +kernel)
theorem cl176 : am_cal RX1 41 = some (RX1, 41, 0, 79, 2145, 2146, 2147, 1004) := am_ceq_eq (by decide +kernel)
theorem cl177 : am_cal RX1 45 = some (RX1, 45, 0, 65, 2149, 2150, 2151, 1006) := am_ceq_eq (by decide +kernel)
theorem cl178 : am_cal RX1 49 = some (RX1, 49, 0, 69, 2157, 2158, 2159, 1006) := am_ceq_eq (by decide +kernel)
theorem cl179 : am_cal RX1 52 = some (RX1, 52, 0, 77, 2209, 2210, 2211, 1004) := am_ceq_eq (by decide +kernel)
theorem cl180 : am_cal RX1 55 = some (RX1, 55, 0, 67, 2213, 2206, 2207, 1006) := am_ceq_eq (by decide +kernel)
theorem cl181 : am_cal RX1 58 = some (RX1, 58, 0, 18, 2214, 2216, 5, 1008) := am_ceq_eq (by decide +kernel)
theorem cl182 : am_cal RX1 61 = some (RX1, 61, 2, 162, 2231, 2011, 0, 1001) := am_ceq_eq (by decide +kernel)
theorem cl183 : am_cal RX1 64 = some (RX1, 64, 0, 16, 2236, 2237, 2238, 1008) := am_ceq_eq (by decide +kernel)
theorem cl184 : am_cal RX1 67 = some (RX1, 67, 0, 19, 2220, 2222, 6, 1008) := am_ceq_eq (by decide +kernel)
theorem cl185 : am_cal RX1 70 = some (RX1, 70, 2, 163, 2218, 2004, 0, 1001) := am_ceq_eq (by decide +kernel)
theorem cl186 : am_cal RX1 73 = some (RX1, 73, 0, 66, 2219, 2189, 2190, 1006) := am_ceq_eq (by decide +kernel)
theorem cl187 : am_cal RX1 76 = some (RX1, 76, 2, 167, 2224, 2225, 0, 1001) := am_ceq_eq (by decide +kernel)
theorem cl188 : am_cal RX1 79 = some (RX1, 79, 0, 15, 2227, 2228, 2229, 1008) := am_ceq_eq (by decide +kernel)
theorem cl189 : am_cal RX2 19 = some (RX2, 19, 0, 78, 5239, 3178, 3179, 1004) := am_ceq_eq (by decide +kernel)
theorem cl190 : am_cal RX2 25 = some (RX2, 25, 0, 22, 6000, 6002, 28, 1009) := am_ceq_eq (by decide +kernel)
theorem cl191 : am_cal RX2 29 = some (RX2, 29, 2, 162, 6013, 2011, 0, 1001) := am_ceq_eq (by decide +kernel)
theorem cl192 : am_cal RX2 32 = some (RX2, 32, 0, 77, 6004, 2210, 2211, 1004) := am_ceq_eq (by decide +kernel)
theorem cl193 : am_cal RX2 35 = some (RX2, 35, 2, 161, 6005, 5022, 0, 1001) := am_ceq_eq (by decide +kernel)
theorem cl194 : am_cal RX2 38 = some (RX2, 38, 2, 163, 6006, 2004, 0, 1001) := am_ceq_eq (by decide +kernel)
theorem cl195 : am_cal RX2 41 = some (RX2, 41, 0, 79, 6007, 2146, 2147, 1004) := am_ceq_eq (by decide +kernel)
theorem cl196 : am_cal RX2 44 = some (RX2, 44, 2, 167, 6008, 2225, 0, 1001) := am_ceq_eq (by decide +kernel)
theorem cl197 : am_cal RX2 47 = some (RX2, 47, 0, 21, 6009, 6010, 6011, 1009) := am_ceq_eq (by decide +kernel)
theorem cl198 : am_cal RX3 22 = some (RX3, 22, 0, 24, 2017, 2018, 2019, 1002) := am_ceq_eq (by decide +kernel)
theorem cl199 : am_cal RX3 27 = some (RX3, 27, 2, 161, 5021, 5022, 0, 1001) := am_ceq_eq (by decide +kernel)
theorem cl200 : am_cal RX4 31 = some (RX4, 31, 0, 33, 2029, 2030, 2031, 1005) := am_ceq_eq (by decide +kernel)
theorem cl201 : am_cal RX4 35 = some (RX4, 35, 0, 46, 2169, 2171, 2, 1005) := am_ceq_eq (by decide +kernel)
theorem cl202 : am_cal RX4 39 = some (RX4, 39, 0, 35, 3190, 3016, 3017, 1005) := am_ceq_eq (by decide +kernel)
theorem cl203 : am_cal RX4 42 = some (RX4, 42, 0, 36, 3225, 2166, 2167, 1005) := am_ceq_eq (by decide +kernel)
theorem cl204 : am_cal RX4 46 = some (RX4, 46, 0, 42, 3226, 2174, 2175, 1005) := am_ceq_eq (by decide +kernel)
theorem cl205 : am_cal RX4 50 = some (RX4, 50, 0, 37, 3227, 3196, 3197, 1005) := am_ceq_eq (by decide +kernel)
theorem cl206 : am_cal RX4 53 = some (RX4, 53, 1, 47, 2181, 2182, 0, 1005) := am_ceq_eq (by decide +kernel)
theorem cl207 : am_cal RX4 56 = some (RX4, 56, 0, 43, 5188, 2178, 2179, 1005) := am_ceq_eq (by decide +kernel)
theorem cl208 : am_cal RX4 59 = some (RX4, 59, 0, 44, 5189, 2185, 2186, 1005) := am_ceq_eq (by decide +kernel)
theorem cl209 : am_cal RX4 62 = some (RX4, 62, 0, 45, 5190, 2193, 2194, 1005) := am_ceq_eq (by decide +kernel)
theorem cl210 : am_cal RX4 65 = some (RX4, 65, 0, 40, 5191, 3222, 3223, 1005) := am_ceq_eq (by decide +kernel)
theorem cl211 : am_cal RX5 26 = some (RX5, 26, 1, 276, 2037, 1233, 0, 1011) := am_ceq_eq (by decide +kernel)
theorem cl212 : am_cal RX5 32 = some (RX5, 32, 0, 54, 6055, 6057, 31, 1010) := am_ceq_eq (by decide +kernel)
theorem cl213 : am_cal RX5 36 = some (RX5, 36, 0, 20, 6026, 5236, 5237, 1009) := am_ceq_eq (by decide +kernel)
theorem cl214 : am_cal RX5 41 = some (RX5, 41, 2, 164, 6027, 3038, 0, 1001) := am_ceq_eq (by decide +kernel)
theorem cl215 : am_cal RX5 44 = some (RX5, 44, 0, 21, 6028, 6010, 6011, 1009) := am_ceq_eq (by decide +kernel)
theorem cl216 : am_cal RX5 47 = some (RX5, 47, 0, 55, 6029, 6031, 29, 1010) := am_ceq_eq (by decide +kernel)
theorem cl217 : am_cal RX5 51 = some (RX5, 51, 2, 166, 6033, 3046, 0, 1001) := am_ceq_eq (by decide +kernel)
theorem cl218 : am_cal RX5 54 = some (RX5, 54, 0, 77, 6034, 2210, 2211, 1004) := am_ceq_eq (by decide +kernel)
theorem cl219 : am_cal RX5 59 = some (RX5, 59, 2, 167, 6035, 2225, 0, 1001) := am_ceq_eq (by decide +kernel)
theorem cl220 : am_cal RX5 62 = some (RX5, 62, 0, 53, 6071, 6073, 32, 1010) := am_ceq_eq (by decide +kernel)
theorem cl221 : am_cal RX5 66 = some (RX5, 66, 0, 50, 6075, 6037, 6038, 1010) := am_ceq_eq (by decide +kernel)
theorem cl222 : am_cal RX5 70 = some (RX5, 70, 2, 161, 6076, 5022, 0, 1001) := am_ceq_eq (by decide +kernel)
theorem cl223 : am_cal RX6 23 = some (RX6, 23, 0, 60, 3036, 2154, 2155, 1003) := am_ceq_eq (by decide +kernel)
theorem cl224 : am_cal RX7 31 = some (RX7, 31, 0, 26, 2137, 2138, 2139, 1002) := am_ceq_eq (by decide +kernel)
theorem cl225 : am_cal RX7 37 = some (RX7, 37, 0, 60, 2153, 2154, 2155, 1003) := am_ceq_eq (by decide +kernel)
theorem cl226 : am_cal RX7 43 = some (RX7, 43, 0, 24, 2200, 2018, 2019, 1002) := am_ceq_eq (by decide +kernel)
theorem cl227 : am_cal RX7 46 = some (RX7, 46, 0, 64, 4087, 2134, 2135, 1006) := am_ceq_eq (by decide +kernel)
theorem cl228 : am_cal RX7 49 = some (RX7, 49, 0, 65, 4088, 2150, 2151, 1006) := am_ceq_eq (by decide +kernel)
theorem cl229 : am_cal RX7 53 = some (RX7, 53, 0, 69, 4089, 2158, 2159, 1006) := am_ceq_eq (by decide +kernel)
theorem cl230 : am_cal RX7 56 = some (RX7, 56, 0, 32, 2161, 2162, 2163, 1005) := am_ceq_eq (by decide +kernel)
theorem cl231 : am_cal RX7 59 = some (RX7, 59, 0, 36, 2165, 2166, 2167, 1005) := am_ceq_eq (by decide +kernel)
theorem cl232 : am_cal RX7 63 = some (RX7, 63, 0, 42, 2173, 2174, 2175, 1005) := am_ceq_eq (by decide +kernel)
theorem cl233 : am_cal RX7 67 = some (RX7, 67, 0, 43, 2177, 2178, 2179, 1005) := am_ceq_eq (by decide +kernel)
theorem cl234 : am_cal RX7 70 = some (RX7, 70, 0, 44, 2184, 2185, 2186, 1005) := am_ceq_eq (by decide +kernel)
theorem cl235 : am_cal RX7 73 = some (RX7, 73, 0, 66, 2188, 2189, 2190, 1006) := am_ceq_eq (by decide +kernel)
theorem cl236 : am_cal RX7 76 = some (RX7, 76, 0, 45, 2192, 2193, 2194, 1005) := am_ceq_eq (by decide +kernel)
theorem cl237 : am_cal RX7 79 = some (RX7, 79, 0, 75, 2196, 2198, 3, 1006) := am_ceq_eq (by decide +kernel)
theorem cl238 : am_cal RX7 83 = some (RX7, 83, 0, 73, 2201, 2203, 4, 1006) := am_ceq_eq (by decide +kernel)
theorem cl239 : am_cal RX7 86 = some (RX7, 86, 0, 74, 4121, 4123, 18, 1006) := am_ceq_eq (by decide +kernel)
theorem cl240 : am_cal RX7 89 = some (RX7, 89, 0, 67, 2205, 2206, 2207, 1006) := am_ceq_eq (by decide +kernel)
theorem cl241 : am_cal RX7 92 = some (RX7, 92, 0, 58, 4129, 4040, 4041, 1003) := am_ceq_eq (by decide +kernel)
theorem cl242 : am_cal RX7 93 = some (RX7, 93, 0, 62, 4130, 3033, 3034, 1003) := am_ceq_eq (by decide +kernel)
theorem cl243 : am_cal RX8 33 = some (RX8, 33, 1, 276, 1232, 1233, 0, 1011) := am_ceq_eq (by decide +kernel)
theorem cl244 : am_cal RX8 39 = some (RX8, 39, 0, 86, 1235, 1236, 1237, 1004) := am_ceq_eq (by decide +kernel)
theorem cl245 : am_cal RX8 43 = some (RX8, 43, 0, 91, 2006, 2007, 2008, 1004) := am_ceq_eq (by decide +kernel)
theorem cl246 : am_cal RX8 47 = some (RX8, 47, 2, 162, 2010, 2011, 0, 1001) := am_ceq_eq (by decide +kernel)
theorem cl247 : am_cal RX8 51 = some (RX8, 51, 0, 77, 3181, 2210, 2211, 1004) := am_ceq_eq (by decide +kernel)
theorem cl248 : am_cal RX8 55 = some (RX8, 55, 2, 163, 2003, 2004, 0, 1001) := am_ceq_eq (by decide +kernel)
theorem cl249 : am_cal RX8 58 = some (RX8, 58, 0, 80, 2103, 2104, 2105, 1004) := am_ceq_eq (by decide +kernel)
theorem cl250 : am_cal RX8 61 = some (RX8, 61, 0, 85, 1239, 2000, 2001, 1004) := am_ceq_eq (by decide +kernel)
theorem cl251 : am_cal RX8 65 = some (RX8, 65, 0, 79, 4075, 2146, 2147, 1004) := am_ceq_eq (by decide +kernel)
theorem cl252 : am_cal RX8 68 = some (RX8, 68, 2, 167, 5059, 2225, 0, 1001) := am_ceq_eq (by decide +kernel)
theorem cl253 : am_cal RX8 71 = some (RX8, 71, 0, 78, 3177, 3178, 3179, 1004) := am_ceq_eq (by decide +kernel)
theorem cl254 : am_cal RX8 74 = some (RX8, 74, 2, 165, 3172, 2120, 0, 1001) := am_ceq_eq (by decide +kernel)
theorem cl255 : am_cal RX8 77 = some (RX8, 77, 2, 168, 3173, 3174, 0, 1001) := am_ceq_eq (by decide +kernel)
theorem cl256 : am_cal RX8 81 = some (RX8, 81, 0, 29, 2013, 2014, 2015, 1002) := am_ceq_eq (by decide +kernel)
theorem cl257 : am_cal RX8 86 = some (RX8, 86, 0, 27, 2021, 2022, 2023, 1002) := am_ceq_eq (by decide +kernel)
theorem cl258 : am_cal RX8 89 = some (RX8, 89, 0, 96, 5078, 5080, 24, 1004) := am_ceq_eq (by decide +kernel)
theorem cl259 : am_cal RX8 92 = some (RX8, 92, 0, 89, 5086, 5056, 5057, 1004) := am_ceq_eq (by decide +kernel)
theorem cl260 : am_cal RX8 95 = some (RX8, 95, 0, 95, 4215, 4217, 20, 1004) := am_ceq_eq (by decide +kernel)
theorem cl261 : am_cal RX8 98 = some (RX8, 98, 0, 15, 4214, 2228, 2229, 1008) := am_ceq_eq (by decide +kernel)
theorem cl262 : am_cal RX8 103 = some (RX8, 103, 0, 63, 4219, 4220, 4221, 1003) := am_ceq_eq (by decide +kernel)
theorem cl263 : am_cal RL 7 = some (RL, 7, 0, 98, 3070, 3071, 3072, 1001) := am_ceq_eq (by decide +kernel)
theorem cl264 : am_cal RL 17 = some (RL, 17, 0, 99, 4000, 4001, 4002, 1001) := am_ceq_eq (by decide +kernel)
theorem cl265 : am_cal RL 23 = some (RL, 23, 0, 100, 4028, 4029, 4030, 1001) := am_ceq_eq (by decide +kernel)
theorem cl266 : am_cal RL 27 = some (RL, 27, 0, 101, 4035, 4036, 4037, 1001) := am_ceq_eq (by decide +kernel)
theorem cl267 : am_cal RL 30 = some (RL, 30, 0, 102, 4048, 4049, 4050, 1001) := am_ceq_eq (by decide +kernel)
theorem cl268 : am_cal RL 35 = some (RL, 35, 0, 103, 4079, 4080, 4081, 1001) := am_ceq_eq (by decide +kernel)
theorem cl269 : am_cal RL 38 = some (RL, 38, 0, 104, 4094, 4095, 4096, 1001) := am_ceq_eq (by decide +kernel)
theorem cl270 : am_cal RL 42 = some (RL, 42, 0, 105, 4106, 4107, 4108, 1001) := am_ceq_eq (by decide +kernel)
theorem cl271 : am_cal RL 46 = some (RL, 46, 0, 106, 4113, 4114, 4115, 1001) := am_ceq_eq (by decide +kernel)
theorem cl272 : am_cal RL 49 = some (RL, 49, 0, 107, 4134, 4135, 4136, 1001) := am_ceq_eq (by decide +kernel)
theorem cl273 : am_cal RL 52 = some (RL, 52, 0, 108, 4142, 4143, 4144, 1001) := am_ceq_eq (by decide +kernel)
theorem cl274 : am_cal RL 55 = some (RL, 55, 0, 109, 4149, 4150, 4151, 1001) := am_ceq_eq (by decide +kernel)
theorem cl275 : am_cal RL 58 = some (RL, 58, 0, 110, 4156, 4157, 4158, 1001) := am_ceq_eq (by decide +kernel)
theorem cl276 : am_cal RL 62 = some (RL, 62, 0, 112, 4166, 4167, 4168, 1001) := am_ceq_eq (by decide +kernel)
theorem cl277 : am_cal RL 65 = some (RL, 65, 0, 113, 4181, 4182, 4183, 1001) := am_ceq_eq (by decide +kernel)
theorem cl278 : am_cal RL 68 = some (RL, 68, 0, 116, 4190, 4191, 4192, 1001) := am_ceq_eq (by decide +kernel)
theorem cl279 : am_cal RL 71 = some (RL, 71, 0, 117, 4197, 4198, 4199, 1001) := am_ceq_eq (by decide +kernel)
theorem cl280 : am_cal RL 75 = some (RL, 75, 0, 119, 4236, 4237, 4238, 1001) := am_ceq_eq (by decide +kernel)
theorem cl281 : am_cal RL 78 = some (RL, 78, 0, 120, 5003, 5004, 5005, 1001) := am_ceq_eq (by decide +kernel)
theorem cl282 : am_cal RL 81 = some (RL, 81, 0, 121, 5010, 5011, 5012, 1001) := am_ceq_eq (by decide +kernel)
theorem cl283 : am_cal RL 84 = some (RL, 84, 0, 122, 5029, 5030, 5031, 1001) := am_ceq_eq (by decide +kernel)
theorem cl284 : am_cal RL 87 = some (RL, 87, 0, 123, 5037, 5038, 5039, 1001) := am_ceq_eq (by decide +kernel)
theorem cl285 : am_cal RL 90 = some (RL, 90, 0, 124, 5044, 5045, 5046, 1001) := am_ceq_eq (by decide +kernel)
theorem cl286 : am_cal RL 93 = some (RL, 93, 0, 125, 5051, 5052, 5053, 1001) := am_ceq_eq (by decide +kernel)
theorem cl287 : am_cal RL 96 = some (RL, 96, 0, 126, 5063, 5064, 5065, 1001) := am_ceq_eq (by decide +kernel)
theorem cl288 : am_cal RL 99 = some (RL, 99, 0, 127, 5090, 5091, 5092, 1001) := am_ceq_eq (by decide +kernel)
theorem cl289 : am_cal RL 102 = some (RL, 102, 0, 128, 5101, 5102, 5103, 1001) := am_ceq_eq (by decide +kernel)
theorem cl290 : am_cal RL 106 = some (RL, 106, 0, 130, 5110, 5111, 5112, 1001) := am_ceq_eq (by decide +kernel)
theorem cl291 : am_cal RL 109 = some (RL, 109, 0, 131, 5131, 5132, 5133, 1001) := am_ceq_eq (by decide +kernel)
theorem cl292 : am_cal RL 113 = some (RL, 113, 0, 132, 5152, 5153, 5154, 1001) := am_ceq_eq (by decide +kernel)
theorem cl293 : am_cal RL 116 = some (RL, 116, 0, 133, 5168, 5169, 5170, 1001) := am_ceq_eq (by decide +kernel)
theorem cl294 : am_cal RL 119 = some (RL, 119, 0, 134, 5175, 5176, 5177, 1001) := am_ceq_eq (by decide +kernel)
theorem cl295 : am_cal RL 122 = some (RL, 122, 0, 135, 5195, 5196, 5197, 1001) := am_ceq_eq (by decide +kernel)
theorem cl296 : am_cal RL 125 = some (RL, 125, 0, 136, 5215, 5216, 5217, 1001) := am_ceq_eq (by decide +kernel)
theorem cl297 : am_cal RL 128 = some (RL, 128, 0, 138, 5231, 5232, 5233, 1001) := am_ceq_eq (by decide +kernel)
theorem cl298 : am_cal RL 131 = some (RL, 131, 0, 139, 6018, 6019, 6020, 1001) := am_ceq_eq (by decide +kernel)
theorem cl299 : am_cal RL 134 = some (RL, 134, 0, 140, 6043, 6044, 6045, 1001) := am_ceq_eq (by decide +kernel)
theorem cl300 : am_cal RL 137 = some (RL, 137, 0, 141, 6063, 6064, 6065, 1001) := am_ceq_eq (by decide +kernel)
theorem cl301 : am_cal RL 140 = some (RL, 140, 0, 142, 6080, 6081, 6082, 1001) := am_ceq_eq (by decide +kernel)
theorem cl302 : am_cal RL 147 = some (RL, 147, 0, 97, 2079, 2080, 2081, 1001) := am_ceq_eq (by decide +kernel)
theorem cl303 : am_cal RL 151 = some (RL, 151, 0, 175, 6190, 6191, 6192, 1012) := am_ceq_eq (by decide +kernel)
theorem cl304 : am_cal RL 154 = some (RL, 154, 1, 277, 3065, 3066, 0, 1000) := am_ceq_eq (by decide +kernel)
theorem cl305 : am_cal RL 159 = some (RL, 159, 0, 202, 6194, 6195, 6196, 1012) := am_ceq_eq (by decide +kernel)
theorem cl306 : am_cal RL 160 = some (RL, 160, 0, 172, 6186, 6187, 6188, 1012) := am_ceq_eq (by decide +kernel)
theorem cl307 : am_cal RL 163 = some (RL, 163, 1, 278, 3236, 3237, 0, 1000) := am_ceq_eq (by decide +kernel)
theorem cl308 : am_cal RL 166 = some (RL, 166, 0, 203, 7007, 7008, 7009, 1012) := am_ceq_eq (by decide +kernel)
theorem cl309 : am_cal RL 167 = some (RL, 167, 1, 279, 4025, 4026, 0, 1000) := am_ceq_eq (by decide +kernel)
theorem cl310 : am_cal RL 169 = some (RL, 169, 0, 204, 7023, 7024, 7025, 1012) := am_ceq_eq (by decide +kernel)
theorem cl311 : am_cal RL 170 = some (RL, 170, 1, 280, 4032, 4033, 0, 1000) := am_ceq_eq (by decide +kernel)
theorem cl312 : am_cal RL 172 = some (RL, 172, 0, 205, 7027, 7028, 7029, 1012) := am_ceq_eq (by decide +kernel)
theorem cl313 : am_cal RL 173 = some (RL, 173, 1, 281, 4044, 4045, 0, 1000) := am_ceq_eq (by decide +kernel)
theorem cl314 : am_cal RL 175 = some (RL, 175, 0, 206, 7035, 7036, 7037, 1012) := am_ceq_eq (by decide +kernel)
theorem cl315 : am_cal RL 176 = some (RL, 176, 1, 282, 4076, 4077, 0, 1000) := am_ceq_eq (by decide +kernel)
theorem cl316 : am_cal RL 178 = some (RL, 178, 0, 207, 7040, 7041, 7042, 1012) := am_ceq_eq (by decide +kernel)
theorem cl317 : am_cal RL 179 = some (RL, 179, 1, 283, 4091, 4092, 0, 1000) := am_ceq_eq (by decide +kernel)
theorem cl318 : am_cal RL 182 = some (RL, 182, 0, 209, 7064, 7065, 7066, 1012) := am_ceq_eq (by decide +kernel)
theorem cl319 : am_cal RL 183 = some (RL, 183, 1, 284, 4103, 4104, 0, 1000) := am_ceq_eq (by decide +kernel)
theorem cl320 : am_cal RL 185 = some (RL, 185, 0, 213, 7072, 7073, 7074, 1012) := am_ceq_eq (by decide +kernel)
theorem cl321 : am_cal RL 186 = some (RL, 186, 1, 285, 4110, 4111, 0, 1000) := am_ceq_eq (by decide +kernel)
theorem cl322 : am_cal RL 188 = some (RL, 188, 0, 214, 7088, 7089, 7090, 1012) := am_ceq_eq (by decide +kernel)
theorem cl323 : am_cal RL 189 = some (RL, 189, 1, 286, 4131, 4132, 0, 1000) := am_ceq_eq (by decide +kernel)
theorem cl324 : am_cal RL 191 = some (RL, 191, 0, 221, 7127, 7128, 7129, 1012) := am_ceq_eq (by decide +kernel)
theorem cl325 : am_cal RL 192 = some (RL, 192, 1, 287, 4139, 4140, 0, 1000) := am_ceq_eq (by decide +kernel)
theorem cl326 : am_cal RL 194 = some (RL, 194, 0, 222, 7139, 7140, 7141, 1012) := am_ceq_eq (by decide +kernel)
theorem cl327 : am_cal RL 195 = some (RL, 195, 1, 288, 4146, 4147, 0, 1000) := am_ceq_eq (by decide +kernel)
theorem cl328 : am_cal RL 197 = some (RL, 197, 0, 224, 7143, 7144, 7145, 1012) := am_ceq_eq (by decide +kernel)
theorem cl329 : am_cal RL 198 = some (RL, 198, 1, 289, 4153, 4154, 0, 1000) := am_ceq_eq (by decide +kernel)
theorem cl330 : am_cal RL 201 = some (RL, 201, 0, 225, 7147, 7148, 7149, 1012) := am_ceq_eq (by decide +kernel)
theorem cl331 : am_cal RL 202 = some (RL, 202, 0, 111, 2083, 2084, 2085, 1001) := am_ceq_eq (by decide +kernel)
theorem cl332 : am_cal RL 205 = some (RL, 205, 0, 227, 7151, 7152, 7153, 1012) := am_ceq_eq (by decide +kernel)
theorem cl333 : am_cal RL 206 = some (RL, 206, 1, 290, 4163, 4164, 0, 1000) := am_ceq_eq (by decide +kernel)
theorem cl334 : am_cal RL 208 = some (RL, 208, 0, 216, 7096, 7097, 7098, 1012) := am_ceq_eq (by decide +kernel)
theorem cl335 : am_cal RL 209 = some (RL, 209, 1, 291, 4178, 4179, 0, 1000) := am_ceq_eq (by decide +kernel)
theorem cl336 : am_cal RL 211 = some (RL, 211, 0, 217, 7102, 7103, 7104, 1012) := am_ceq_eq (by decide +kernel)
theorem cl337 : am_cal RL 212 = some (RL, 212, 0, 114, 2091, 2092, 2093, 1001) := am_ceq_eq (by decide +kernel)
theorem cl338 : am_cal RL 215 = some (RL, 215, 0, 218, 7119, 7120, 7121, 1012) := am_ceq_eq (by decide +kernel)
theorem cl339 : am_cal RL 216 = some (RL, 216, 0, 115, 2095, 2096, 2097, 1001) := am_ceq_eq (by decide +kernel)
theorem cl340 : am_cal RL 219 = some (RL, 219, 0, 219, 7123, 7124, 7125, 1012) := am_ceq_eq (by decide +kernel)
theorem cl341 : am_cal RL 220 = some (RL, 220, 1, 292, 4187, 4188, 0, 1000) := am_ceq_eq (by decide +kernel)
theorem cl342 : am_cal RL 222 = some (RL, 222, 0, 234, 7179, 7180, 7181, 1012) := am_ceq_eq (by decide +kernel)
theorem cl343 : am_cal RL 223 = some (RL, 223, 1, 293, 4194, 4195, 0, 1000) := am_ceq_eq (by decide +kernel)
theorem cl344 : am_cal RL 226 = some (RL, 226, 0, 230, 7159, 7160, 7161, 1012) := am_ceq_eq (by decide +kernel)
theorem cl345 : am_cal RL 227 = some (RL, 227, 0, 118, 2125, 2126, 2127, 1001) := am_ceq_eq (by decide +kernel)
theorem cl346 : am_cal RL 230 = some (RL, 230, 0, 233, 7175, 7176, 7177, 1012) := am_ceq_eq (by decide +kernel)
theorem cl347 : am_cal RL 231 = some (RL, 231, 1, 294, 4233, 4234, 0, 1000) := am_ceq_eq (by decide +kernel)
theorem cl348 : am_cal RL 233 = some (RL, 233, 0, 235, 7183, 7184, 7185, 1012) := am_ceq_eq (by decide +kernel)
theorem cl349 : am_cal RL 234 = some (RL, 234, 1, 295, 5000, 5001, 0, 1000) := am_ceq_eq (by decide +kernel)
theorem cl350 : am_cal RL 236 = some (RL, 236, 0, 236, 7187, 7188, 7189, 1012) := am_ceq_eq (by decide +kernel)
theorem cl351 : am_cal RL 237 = some (RL, 237, 1, 296, 5007, 5008, 0, 1000) := am_ceq_eq (by decide +kernel)
theorem cl352 : am_cal RL 239 = some (RL, 239, 0, 237, 7191, 7192, 7193, 1012) := am_ceq_eq (by decide +kernel)
theorem cl353 : am_cal RL 240 = some (RL, 240, 1, 297, 5026, 5027, 0, 1000) := am_ceq_eq (by decide +kernel)
theorem cl354 : am_cal RL 242 = some (RL, 242, 0, 238, 7195, 7196, 7197, 1012) := am_ceq_eq (by decide +kernel)
theorem cl355 : am_cal RL 243 = some (RL, 243, 1, 298, 5034, 5035, 0, 1000) := am_ceq_eq (by decide +kernel)
theorem cl356 : am_cal RL 245 = some (RL, 245, 0, 239, 7199, 7200, 7201, 1012) := am_ceq_eq (by decide +kernel)
theorem cl357 : am_cal RL 246 = some (RL, 246, 1, 299, 5041, 5042, 0, 1000) := am_ceq_eq (by decide +kernel)
theorem cl358 : am_cal RL 248 = some (RL, 248, 0, 242, 7203, 7204, 7205, 1012) := am_ceq_eq (by decide +kernel)
theorem cl359 : am_cal RL 249 = some (RL, 249, 1, 300, 5048, 5049, 0, 1000) := am_ceq_eq (by decide +kernel)
theorem cl360 : am_cal RL 251 = some (RL, 251, 0, 243, 7216, 7217, 7218, 1012) := am_ceq_eq (by decide +kernel)
theorem cl361 : am_cal RL 252 = some (RL, 252, 1, 301, 5060, 5061, 0, 1000) := am_ceq_eq (by decide +kernel)
theorem cl362 : am_cal RL 254 = some (RL, 254, 0, 246, 7225, 7226, 7227, 1012) := am_ceq_eq (by decide +kernel)
theorem cl363 : am_cal RL 255 = some (RL, 255, 1, 302, 5087, 5088, 0, 1000) := am_ceq_eq (by decide +kernel)
theorem cl364 : am_cal RL 257 = some (RL, 257, 0, 247, 8000, 8001, 8002, 1012) := am_ceq_eq (by decide +kernel)
theorem cl365 : am_cal RL 258 = some (RL, 258, 1, 303, 5098, 5099, 0, 1000) := am_ceq_eq (by decide +kernel)
theorem cl366 : am_cal RL 261 = some (RL, 261, 0, 248, 8004, 8005, 8006, 1012) := am_ceq_eq (by decide +kernel)
theorem cl367 : am_cal RL 262 = some (RL, 262, 0, 129, 3000, 3001, 3002, 1001) := am_ceq_eq (by decide +kernel)
theorem cl368 : am_cal RL 265 = some (RL, 265, 0, 249, 8008, 8009, 8010, 1012) := am_ceq_eq (by decide +kernel)
theorem cl369 : am_cal RL 266 = some (RL, 266, 1, 304, 5107, 5108, 0, 1000) := am_ceq_eq (by decide +kernel)
theorem cl370 : am_cal RL 268 = some (RL, 268, 0, 254, 8012, 8013, 8014, 1012) := am_ceq_eq (by decide +kernel)
theorem cl371 : am_cal RL 269 = some (RL, 269, 1, 305, 5128, 5129, 0, 1000) := am_ceq_eq (by decide +kernel)
theorem cl372 : am_cal RL 272 = some (RL, 272, 0, 255, 8032, 8033, 8034, 1012) := am_ceq_eq (by decide +kernel)
theorem cl373 : am_cal RL 273 = some (RL, 273, 1, 306, 5149, 5150, 0, 1000) := am_ceq_eq (by decide +kernel)
theorem cl374 : am_cal RL 275 = some (RL, 275, 0, 257, 8036, 8037, 8038, 1012) := am_ceq_eq (by decide +kernel)
theorem cl375 : am_cal RL 276 = some (RL, 276, 1, 307, 5165, 5166, 0, 1000) := am_ceq_eq (by decide +kernel)
theorem cl376 : am_cal RL 278 = some (RL, 278, 0, 258, 8048, 8049, 8050, 1012) := am_ceq_eq (by decide +kernel)
theorem cl377 : am_cal RL 279 = some (RL, 279, 1, 308, 5172, 5173, 0, 1000) := am_ceq_eq (by decide +kernel)
theorem cl378 : am_cal RL 281 = some (RL, 281, 0, 259, 8052, 8053, 8054, 1012) := am_ceq_eq (by decide +kernel)
theorem cl379 : am_cal RL 282 = some (RL, 282, 1, 309, 5192, 5193, 0, 1000) := am_ceq_eq (by decide +kernel)
theorem cl380 : am_cal RL 284 = some (RL, 284, 0, 262, 8060, 8061, 8062, 1012) := am_ceq_eq (by decide +kernel)
theorem cl381 : am_cal RL 285 = some (RL, 285, 1, 310, 5212, 5213, 0, 1000) := am_ceq_eq (by decide +kernel)
theorem cl382 : am_cal RL 287 = some (RL, 287, 0, 265, 8068, 8069, 8070, 1012) := am_ceq_eq (by decide +kernel)
theorem cl383 : am_cal RL 288 = some (RL, 288, 0, 137, 3005, 3006, 3007, 1001) := am_ceq_eq (by decide +kernel)
theorem cl384 : am_cal RL 291 = some (RL, 291, 0, 260, 8056, 8057, 8058, 1012) := am_ceq_eq (by decide +kernel)
theorem cl385 : am_cal RL 292 = some (RL, 292, 1, 311, 5228, 5229, 0, 1000) := am_ceq_eq (by decide +kernel)
theorem cl386 : am_cal RL 294 = some (RL, 294, 0, 267, 8080, 8081, 8082, 1012) := am_ceq_eq (by decide +kernel)
theorem cl387 : am_cal RL 295 = some (RL, 295, 1, 312, 6015, 6016, 0, 1000) := am_ceq_eq (by decide +kernel)
theorem cl388 : am_cal RL 297 = some (RL, 297, 0, 269, 8088, 8089, 8090, 1012) := am_ceq_eq (by decide +kernel)
theorem cl389 : am_cal RL 298 = some (RL, 298, 1, 313, 6040, 6041, 0, 1000) := am_ceq_eq (by decide +kernel)
theorem cl390 : am_cal RL 300 = some (RL, 300, 0, 271, 8095, 8096, 8097, 1012) := am_ceq_eq (by decide +kernel)
theorem cl391 : am_cal RL 301 = some (RL, 301, 1, 314, 6060, 6061, 0, 1000) := am_ceq_eq (by decide +kernel)
theorem cl392 : am_cal RL 303 = some (RL, 303, 0, 273, 8104, 8105, 8106, 1012) := am_ceq_eq (by decide +kernel)
theorem cl393 : am_cal RL 304 = some (RL, 304, 1, 315, 6077, 6078, 0, 1000) := am_ceq_eq (by decide +kernel)
theorem cl394 : am_cal RL 306 = some (RL, 306, 0, 274, 8112, 8113, 8114, 1012) := am_ceq_eq (by decide +kernel)
theorem ki0 : am_cI RX9 218 = some (RX9, 218, (1000000), 4170) := by decide +kernel
theorem ki1 : am_cI RX9 457 = some (RX9, 457, (-2048144789), 5024) := by decide +kernel
theorem ki2 : am_cI RX9 458 = some (RX9, 458, (-1028477387), 5025) := by decide +kernel
theorem ki3 : am_cI RX10 105 = some (RX10, 105, (-2048144789), 6236) := by decide +kernel
theorem ki4 : am_cI RX10 106 = some (RX10, 106, (-1028477387), 6237) := by decide +kernel
theorem ki5 : am_cI RX10 107 = some (RX10, 107, (-1640531527), 6232) := by decide +kernel
theorem ki6 : am_cI RX10 214 = some (RX10, 214, (1000000), 7107) := by decide +kernel
theorem ki7 : am_cI RX3 26 = some (RX3, 26, (-1640531527), 5020) := by decide +kernel
theorem ki8 : am_cI RJ6 265 = some (RJ6, 265, (1431655765), 5206) := by decide +kernel
theorem ki9 : am_cI RJ6 266 = some (RJ6, 266, (858993459), 5207) := by decide +kernel
theorem ki10 : am_cI RJ6 267 = some (RJ6, 267, (252645135), 5208) := by decide +kernel
theorem kj0 : am_cJ RX9 455 = some (RX9, 455, (4294967295), 5148) := by decide +kernel
theorem kj1 : am_cJ RX10 115 = some (RX10, 115, (63), 6201) := by decide +kernel
theorem kj2 : am_cJ RX10 121 = some (RX10, 121, (84), 7138) := by decide +kernel
theorem kj3 : am_cJ RX10 133 = some (RX10, 133, (4294967295), 7006) := by decide +kernel
theorem kj4 : am_cJ RX10 186 = some (RX10, 186, (2), 7039) := by decide +kernel
theorem kj5 : am_cJ RX10 191 = some (RX10, 191, (3), 7071) := by decide +kernel
theorem kj6 : am_cJ RX10 208 = some (RX10, 208, (-1), 7100) := by decide +kernel
theorem kj7 : am_cJ RX10 210 = some (RX10, 210, (1000000), 7101) := by decide +kernel
theorem kj8 : am_cJ RX10 212 = some (RX10, 212, (10000), 7106) := by decide +kernel
theorem kj9 : am_cJ RX10 221 = some (RX10, 221, (7), 7134) := by decide +kernel
theorem kj10 : am_cJ RX10 247 = some (RX10, 247, (4), 7207) := by decide +kernel
theorem kj11 : am_cJ RX10 253 = some (RX10, 253, (20), 7220) := by decide +kernel
theorem kj12 : am_cJ RX10 302 = some (RX10, 302, (12), 8099) := by decide +kernel
theorem kj13 : am_cJ RL 152 = some (RL, 152, (4294967295), 8116) := by decide +kernel
theorem xt0 : am_thr RX9 110 112 114 = some (RX9, 110, 112, 114, "java/lang/IllegalStateException", "the leaf has a record, or no more can be stored", 3151, 1017, 3160) := am_xeq_eq (by decide +kernel)
theorem xt1 : am_thr RX9 150 152 154 = some (RX9, 150, 152, 154, "java/util/NoSuchElementException", "there is no record, or it cannot be read", 4005, 1018, 4014) := am_xeq_eq (by decide +kernel)
theorem xt2 : am_thr RX9 110 205 114 = some (RX9, 110, 205, 114, "java/lang/IllegalStateException", "there is no record at the leaf, or it is pinned", 3151, 1017, 4160) := am_xeq_eq (by decide +kernel)
theorem xt3 : am_thr RX9 219 221 223 = some (RX9, 219, 221, 223, "java/lang/IllegalArgumentException", "the day is out of range", 4055, 1019, 4171) := am_xeq_eq (by decide +kernel)
theorem xt4 : am_thr RX9 110 224 114 = some (RX9, 110, 224, 114, "java/lang/IllegalStateException", "there is no record at the leaf", 3151, 1017, 4172) := am_xeq_eq (by decide +kernel)
theorem xt5 : am_thr RX9 219 232 223 = some (RX9, 219, 232, 223, "java/lang/IllegalArgumentException", "the number of days is out of range", 4055, 1019, 4185) := am_xeq_eq (by decide +kernel)
theorem xt6 : am_thr RX9 110 238 114 = some (RX9, 110, 238, 114, "java/lang/IllegalStateException", "the day would be too great", 3151, 1017, 4186) := am_xeq_eq (by decide +kernel)
theorem xt7 : am_thr RX9 110 255 114 = some (RX9, 110, 255, 114, "java/lang/IllegalStateException", "nothing is marked, or a custodian opens a record", 3151, 1017, 4209) := am_xeq_eq (by decide +kernel)
theorem xt8 : am_thr RX9 282 284 286 = some (RX9, 282, 284, 286, "java/lang/IndexOutOfBoundsException", "the key has not been made", 3077, 1016, 5015) := am_xeq_eq (by decide +kernel)
theorem xt9 : am_thr RX9 110 290 114 = some (RX9, 110, 290, 114, "java/lang/IllegalStateException", "the place is empty", 3151, 1017, 5033) := am_xeq_eq (by decide +kernel)
theorem xt10 : am_thr RX9 282 298 286 = some (RX9, 282, 298, 286, "java/lang/IndexOutOfBoundsException", "a place is out of range", 3077, 1016, 5067) := am_xeq_eq (by decide +kernel)
theorem xt11 : am_thr RX9 219 303 223 = some (RX9, 219, 303, 223, "java/lang/IllegalArgumentException", "the places are not of the same level", 4055, 1019, 5068) := am_xeq_eq (by decide +kernel)
theorem xt12 : am_thr RX9 110 308 114 = some (RX9, 110, 308, 114, "java/lang/IllegalStateException", "a place or a leaf below it does not allow it", 3151, 1017, 5073) := am_xeq_eq (by decide +kernel)
theorem xt13 : am_thr RX9 110 322 114 = some (RX9, 110, 322, 114, "java/lang/IllegalStateException", "there are already 8 media", 3151, 1017, 5105) := am_xeq_eq (by decide +kernel)
theorem xt14 : am_thr RX9 110 359 114 = some (RX9, 110, 359, 114, "java/lang/IllegalStateException", "the medium is destroyed", 3151, 1017, 5179) := am_xeq_eq (by decide +kernel)
theorem xt15 : am_thr RX9 282 417 286 = some (RX9, 282, 417, 286, "java/lang/IndexOutOfBoundsException", "there is none with this number", 3077, 1016, 3119) := am_xeq_eq (by decide +kernel)
theorem xt16 : am_thr RX9 219 419 223 = some (RX9, 219, 419, 223, "java/lang/IllegalArgumentException", "what is asked for is out of range", 4055, 1019, 4064) := am_xeq_eq (by decide +kernel)
theorem xt17 : am_thr RX9 110 424 114 = some (RX9, 110, 424, 114, "java/lang/IllegalStateException", "no more keys can be made", 3151, 1017, 3204) := am_xeq_eq (by decide +kernel)
theorem xt18 : am_thr RX9 110 429 114 = some (RX9, 110, 429, 114, "java/lang/IllegalStateException", "there is not enough room for the entries", 3151, 1017, 3199) := am_xeq_eq (by decide +kernel)
theorem xt19 : am_thr RX9 110 434 114 = some (RX9, 110, 434, 114, "java/lang/IllegalStateException", "no proof is kept there", 3151, 1017, 6059) := am_xeq_eq (by decide +kernel)
theorem xt20 : am_thr RX9 150 436 154 = some (RX9, 150, 436, 154, "java/util/NoSuchElementException", "no key is kept that opens the record", 4005, 1018, 4102) := am_xeq_eq (by decide +kernel)
theorem xt21 : am_thr RX9 110 450 114 = some (RX9, 110, 450, 114, "java/lang/IllegalStateException", "the medium is not intact", 3151, 1017, 5160) := am_xeq_eq (by decide +kernel)
theorem sh0 : am_sh[0]? = some (.inr (9, [some 1, some 2, some 3, some 4, some 5, some 6, some 7, some 8, some 9, some 10, some 11, some 12, none])) := rfl
theorem sh1 : am_sh[1]? = some (.inr (3, [some 13, none, none])) := rfl
theorem sh2 : am_sh[2]? = some (.inr (6, [some 14, some 15, none])) := rfl
theorem sh3 : am_sh[3]? = some (.inr (8, [some 1, some 2, some 16, some 17, some 18, some 19])) := rfl
theorem sh4 : am_sh[4]? = some (.inr (4, [some 20, some 21, some 22, some 23, some 24, none])) := rfl
theorem sh5 : am_sh[5]? = some (.inr (7, [some 1, some 2, some 4, some 25, some 26])) := rfl
theorem sh6 : am_sh[6]? = some (.inr (0, [some 1, some 2, some 3, some 4, some 27, some 28])) := rfl
theorem sh7 : am_sh[7]? = some (.inr (1, [some 3, some 5, some 29, some 30, none])) := rfl
theorem sh8 : am_sh[8]? = some (.inr (2, [some 3, some 31])) := rfl
theorem sh9 : am_sh[9]? = some (.inr (5, [some 3, some 8, some 32, some 33])) := rfl
theorem sh10 : am_sh[10]? = some (.inl (0, 8)) := rfl
theorem sh11 : am_sh[11]? = some (.inl (0, 4)) := rfl
theorem sh12 : am_sh[12]? = some (.inl (0, 4)) := rfl
theorem sh13 : am_sh[13]? = some (.inl (0, 2049)) := rfl
theorem sh14 : am_sh[14]? = some (.inl (2, 200)) := rfl
theorem sh15 : am_sh[15]? = some (.inl (0, 200)) := rfl
theorem sh16 : am_sh[16]? = some (.inl (0, 85)) := rfl
theorem sh17 : am_sh[17]? = some (.inl (0, 64)) := rfl
theorem sh18 : am_sh[18]? = some (.inl (0, 64)) := rfl
theorem sh19 : am_sh[19]? = some (.inl (1, 64)) := rfl
theorem sh20 : am_sh[20]? = some (.inl (0, 8)) := rfl
theorem sh21 : am_sh[21]? = some (.inl (0, 8)) := rfl
theorem sh22 : am_sh[22]? = some (.inl (0, 1200)) := rfl
theorem sh23 : am_sh[23]? = some (.inl (0, 1200)) := rfl
theorem sh24 : am_sh[24]? = some (.inl (0, 1200)) := rfl
theorem sh25 : am_sh[25]? = some (.inl (0, 2049)) := rfl
theorem sh26 : am_sh[26]? = some (.inl (1, 200)) := rfl
theorem sh27 : am_sh[27]? = some (.inl (0, 149)) := rfl
theorem sh28 : am_sh[28]? = some (.inl (0, 150)) := rfl
theorem sh29 : am_sh[29]? = some (.inl (1, 85)) := rfl
theorem sh30 : am_sh[30]? = some (.inl (1, 85)) := rfl
theorem sh31 : am_sh[31]? = some (.inl (0, 85)) := rfl
theorem sh32 : am_sh[32]? = some (.inl (0, 4)) := rfl
theorem sh33 : am_sh[33]? = some (.inl (0, 52)) := rfl
theorem sh34 : am_sh[34]? = some (.inr (10, [some 35, some 36, some 37, some 38, some 39, some 40, some 41, some 42, some 43, some 44, some 45, some 46, some 47, some 48, some 49, some 50, some 51, some 52, some 53, some 54, none, none, none, none, none, none, some 55, none, some 56])) := rfl
theorem sh35 : am_sh[35]? = some (.inl (0, 85)) := rfl
theorem sh36 : am_sh[36]? = some (.inl (0, 85)) := rfl
theorem sh37 : am_sh[37]? = some (.inl (0, 64)) := rfl
theorem sh38 : am_sh[38]? = some (.inl (0, 8)) := rfl
theorem sh39 : am_sh[39]? = some (.inl (0, 4)) := rfl
theorem sh40 : am_sh[40]? = some (.inl (0, 4)) := rfl
theorem sh41 : am_sh[41]? = some (.inl (1, 64)) := rfl
theorem sh42 : am_sh[42]? = some (.inl (1, 85)) := rfl
theorem sh43 : am_sh[43]? = some (.inl (1, 4)) := rfl
theorem sh44 : am_sh[44]? = some (.inl (0, 8)) := rfl
theorem sh45 : am_sh[45]? = some (.inl (0, 8)) := rfl
theorem sh46 : am_sh[46]? = some (.inl (0, 1200)) := rfl
theorem sh47 : am_sh[47]? = some (.inl (0, 1200)) := rfl
theorem sh48 : am_sh[48]? = some (.inl (0, 1200)) := rfl
theorem sh49 : am_sh[49]? = some (.inl (2, 1200)) := rfl
theorem sh50 : am_sh[50]? = some (.inl (2, 200)) := rfl
theorem sh51 : am_sh[51]? = some (.inl (0, 200)) := rfl
theorem sh52 : am_sh[52]? = some (.inl (0, 200)) := rfl
theorem sh53 : am_sh[53]? = some (.inl (0, 52)) := rfl
theorem sh54 : am_sh[54]? = some (.inl (0, 4)) := rfl
theorem sh55 : am_sh[55]? = some (.inl (0, 2500)) := rfl
theorem sh56 : am_sh[56]? = some (.inl (0, 2500)) := rfl
theorem sh57 : am_sh[57]? = some (.inl (2, 1)) := rfl
