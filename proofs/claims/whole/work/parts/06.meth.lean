def q_yL : List (List MethodName) := [
  [yX0_init, yX0_rankBy, yX0_looksAt, yX0_someIn, yX0_isIn, yX0_isPoints, yX0_bind, yX0_bindSame, yX0_collect, yX0_bindElem, yX0_bindOne, yX0_bindSimple, yX0_addPoint, yX0_addTo, yX0_copy, yX0_meet, yX0_meetOne, yX1_init, yX1_operatorOf, yX1_fails],
  [yX1_isRight, yX1_clashes, yX1_oneBeginsOther, yX1_does, yX1_splice, yX1_link, yX1_makes, yX1_behindOthers, yX1_makeDocument, yX1_comesFree, yX1_comesTo, yX1_digits, yX1_replace, yX1_add, yX1_takes, yX1_unset, yX1_pull, yX2_init, yX2_conditionOf, yX2_isLogic],
  [yX2_isConditions, yX2_isConditionsOfItem, yX2_isRight, yX2_fails, yX2_counts, yX2_filterIsRight, yX2_elementIsRight, yX2_logicIsRight, yX2_conditionsAreRight, yX2_conditionIsRight, yX2_valueIsRight, yX2_holds, yX2_elementHolds, yX2_logicHolds, yX2_conditionsHold, yX2_conditionHolds, yX2_someIs, yX2_someIsIn, yX2_someIsSo, yX2_isSo],
  [yX2_someExists, yX2_someCounts, yX2_someHasItem, yX2_conditionsHoldForItem, yX3_init, yX3_prepare, yX3_takePath, yX3_fitsAll, yX3_fitsAnother, yX3_entriesOf, yX3_keysOf, yX3_addKey, yX3_takesIn, yX3_takesOut, yX4_init, yX4_start, yX4_put, yX4_put4, yX4_put8, yX4_patch],
  [yX4_copy, yX4_head, yX4_headOf, yX4_item, yX4_value, yX4_open, yX4_close, yX4_named, yX4_namedTruth, yX5_init, yX5_set, yX5_setName, yX5_setPlainText, yX5_isNameOf, yX5_walk, yX6_init, yX6_reads, yX6_fails, yX6_document, yX6_element],
  [yX6_stoodAhead, yX6_value, yX6_text, yX7_init, yX7_push, yX7_leaf, yX7_put, yX7_addItems, yX7_kind, yX7_whole4, yX7_valueAt, yX7_next, yX7_first, yX7_items, yX7_find, yX7_named, yX7_beginsWithDollar, yX7_isNumber, yX7_whole, yX7_isTruth],
  [yX7_classOf, yX7_compare, yX7_compareInside, yX7_compareRuns, yX7_deepest, yX7_isDecimal, yX7_badCharacter, yX7_characterLength, yX8_init, yX8_add, yX8_remove, yX8_renew, yX8_indexCount, yX8_freeIndex, yX9_init, yX9_begin, yX9_isMatch, yX9_match, yX9_stageOf, yX9_does],
  [yX9_beginFresh, yX9_openDocument, yX9_closeDocument, yX9_finishDocument, yX9_endFresh, yX9_isPlain, yX9_hasPlainName, yX9_isDollarText, yX9_isWrongExpression, yX9_valueOf, yX9_writeRow, yX9_wrongInProject, yX9_project, yX9_unwind, yX9_unwindItem, yX9_accumulatorOf, yX9_wrongInGroup, yX9_group, yX9_writeGathered, yX9_sum],
  [yX9_extreme, yX9_writeValues, yX9_wrongInSort, yX9_sort, yX9_sortKey, yX9_compareSorted, yX9_skip, yX9_limit, yX9_wrongInLookup, yX9_lookup, yX9_writeFound, yX9_someSame, yX10_init, yX10_clear, yX10_newSlot, yX10_freeSlot, yX10_newNode, yX10_freeNode, yX10_fill, yX10_markLike],
  [yX10_compareSlots, yX10_levels, yX10_descend, yX10_comes, yX10_insertKid, yX10_removeKid, yX10_split, yX10_goes, yX10_mend, yX10_takeLast, yX10_takeFirst, yX10_join, yX11_init, yX11_feed, yX11_putOnTape, yX11_ask, yX11_tellFault, yX11_fail, yX11_failAt, yX11_answer],
  [yX11_state, yX11_number, yX11_size, yX11_byteAt, yX11_standsOn, yX11_wrongInRequest, yX11_operationOf, yX11_isShelf, yX11_wrongInHead, yX11_wrongPipeline, yX11_wrongPaths, yX11_wrongChange, yX11_wrongDown, yX11_insert, yX11_hitsOfFilter, yX11_find, yX11_count, yX11_delete, yX11_update, yX11_makeIndex],
  [yX11_askedIndex, yX11_drop, yX11_shape, yX11_pipeline, yX11_explain, yX12_init, yX12_at, yX12_int4, yX12_long8, yX12_setInt4, yX12_isSameBytes, yX12_is, yX12_nameEnd, yX12_value, yX12_lengthOf, yX12_behind, yX12_isName, yX12_first, yX12_last, yX12_count],
  [yX12_find, yX12_item, yX12_isNumber, yX12_number, yX12_depth, yX12_write, yX12_put, yX12_putInt, yX12_putBytes, yX12_putWord, yX12_putDigits, yX12_open, yX12_close, yX12_putValue, yX12_putAs, yX12_putNumber, yX12_putTruth, yX12_fails, yX12_character, yX12_isRight],
  [yX12_readAll, yX12_readContainer, yX12_readElements, yX12_isKind, yX12_isDigits, yX12_isThere, yX12_readValue, yX12_classOf, yX12_compareBytes, yX12_compare, yX12_compareAll, yX12_isSame, yX12_stepEnd, yX12_isPath, yX12_hasDollar, yX12_isPlainPath, yX12_stepNumber, yX12_addLeaf, yX12_go, yX12_goDocument],
  [yX12_goRow, yX12_withItems, yX12_begins, yX12_isJoining, yX12_areConditions, yX12_areOfItems, yX12_counts, yX12_isFilter, yX12_checkFilter, yX12_checkJoining, yX12_isCondition, yX12_hasRightValue, yX12_checkConditions, yX12_holds, yX12_holdsOne, yX12_hold, yX12_holdsCondition, yX12_hasItem, yX12_equals, yX12_equalsSome],
  [yX12_compares, yX12_isBeside, yX12_isOperator, yX12_areAlong, yX12_isTaken, yX12_isChange, yX12_splice, yX12_writeLoose, yX12_append, yX12_into, yX12_fromOutermost, yX12_meet, yX12_make, yX12_reach, yX12_come, yX12_doPath, yX12_add, yX12_push, yX12_pull, yX12_copy],
  [yX12_change, yX12_isPlain, yX12_textEnd, yX12_isReference, yX12_expressionFault, yX12_resolve, yX12_putValues, yX12_valueAt, yX12_fresh, yX12_orNothing, yX12_stageFault, yX12_projectFault, yX12_isGathering, yX12_groupFault, yX12_sortFault, yX12_lookupFault, yX12_deliver, yX12_beginMaking, yX12_endMaking, yX12_stage],
  [yX12_project, yX12_through, yX12_unwind, yX12_putUnwound, yX12_lookup, yX12_once, yX12_putJoined, yX12_haveSameKey, yX12_group, yX12_putName, yX12_gather, yX12_end, yX12_most, yX12_putTotal, yX12_putGathered, yX12_isAhead, yX12_sort, yX12_compareKeys, yX12_pathOf, yX12_addKey],
  [yX12_keys, yX12_entriesOf, yX12_marks, yX12_keyAt, yX12_newEntry, yX12_sweep, yX12_order, yX12_sizeOf, yX12_setSize, yX12_slot, yX12_newNode, yX12_dropTree, yX12_insertAt, yX12_removeAt, yX12_downTo, yX12_placeIn, yX12_isLeafNode, yX12_comes, yX12_enter, yX12_goes],
  [yX12_fromAhead, yX12_fromBehind, yX12_join, yX12_leave, yX12_enterAll, yX12_arrange, yX12_levels, yX12_nodes, yX12_beginning, yX12_ending, yX12_classOfEnd, yX12_compareEnds, yX12_addInterval, yX12_addPoint, yX12_boundsOf, yX12_boundsOfAny, yX12_meetAll, yX12_collect, yX12_bounds, yX12_isPoint],
  [yX12_isWithin, yX12_weigh, yX12_choose, yX12_isLookedAt, yX12_document, yX12_refuses, yX12_isNone, yX12_isShelf, yX12_takesDocument, yX12_isRequest, yX12_arePaths, yX12_areDirections, yX12_filterIsRight, yX12_match, yX12_beginAnswer, yX12_endAnswer, yX12_does, yX12_putFound, yX12_takeOut, yX12_insert],
  [yX12_update, yX12_newIndex, yX12_withIndex, yX12_explain, yX12_pipeline, yX12_feed, yX12_ask, yX12_answer, yX12_state, yX12_isThereOne, yX12_number_, yX12_size, yX12_byteAt, yJ0_length_8abf5, yJ0_charAt_5068e, yJ0_coder_7d493, yJ0_isLatin1_aae02, yJ1_charAt_3b067, yJ7_copyOf_9075b, yJ7_copyOf_59c91],
  [yJ6_compare_7cf53, yJ13_compare_74951]]
def q_y (y : Nat) : MethodName := (q_yL.getD (y / 20) []).getD (y % 20) Lib.objectInit
def q_codeL : List (List ByteArray) := [
  [prog_2_method_1_code, prog_2_method_2_code, prog_2_method_3_code, prog_2_method_4_code, prog_2_method_5_code, prog_2_method_6_code, prog_2_method_7_code, prog_2_method_8_code, prog_2_method_9_code, prog_2_method_10_code, prog_2_method_11_code, prog_2_method_12_code, prog_2_method_13_code, prog_2_method_14_code, prog_2_method_15_code, prog_2_method_16_code, prog_2_method_17_code, prog_3_method_1_code, prog_3_method_2_code, prog_3_method_3_code],
  [prog_3_method_4_code, prog_3_method_5_code, prog_3_method_6_code, prog_3_method_7_code, prog_3_method_8_code, prog_3_method_9_code, prog_3_method_10_code, prog_3_method_11_code, prog_3_method_12_code, prog_3_method_13_code, prog_3_method_14_code, prog_3_method_15_code, prog_3_method_16_code, prog_3_method_17_code, prog_3_method_18_code, prog_3_method_19_code, prog_3_method_20_code, prog_4_method_1_code, prog_4_method_2_code, prog_4_method_3_code],
  [prog_4_method_4_code, prog_4_method_5_code, prog_4_method_6_code, prog_4_method_7_code, prog_4_method_8_code, prog_4_method_9_code, prog_4_method_10_code, prog_4_method_11_code, prog_4_method_12_code, prog_4_method_13_code, prog_4_method_14_code, prog_4_method_15_code, prog_4_method_16_code, prog_4_method_17_code, prog_4_method_18_code, prog_4_method_19_code, prog_4_method_20_code, prog_4_method_21_code, prog_4_method_22_code, prog_4_method_23_code],
  [prog_4_method_24_code, prog_4_method_25_code, prog_4_method_26_code, prog_4_method_27_code, prog_5_method_1_code, prog_5_method_2_code, prog_5_method_3_code, prog_5_method_4_code, prog_5_method_5_code, prog_5_method_6_code, prog_5_method_7_code, prog_5_method_8_code, prog_5_method_9_code, prog_5_method_10_code, prog_6_method_1_code, prog_6_method_2_code, prog_6_method_3_code, prog_6_method_4_code, prog_6_method_5_code, prog_6_method_6_code],
  [prog_6_method_7_code, prog_6_method_8_code, prog_6_method_9_code, prog_6_method_10_code, prog_6_method_11_code, prog_6_method_12_code, prog_6_method_13_code, prog_6_method_14_code, prog_6_method_15_code, prog_7_method_1_code, prog_7_method_2_code, prog_7_method_3_code, prog_7_method_4_code, prog_7_method_5_code, prog_7_method_6_code, prog_8_method_1_code, prog_8_method_2_code, prog_8_method_3_code, prog_8_method_4_code, prog_8_method_5_code],
  [prog_8_method_6_code, prog_8_method_7_code, prog_8_method_8_code, prog_9_method_1_code, prog_9_method_2_code, prog_9_method_3_code, prog_9_method_4_code, prog_9_method_5_code, prog_9_method_6_code, prog_9_method_7_code, prog_9_method_8_code, prog_9_method_9_code, prog_9_method_10_code, prog_9_method_11_code, prog_9_method_12_code, prog_9_method_13_code, prog_9_method_14_code, prog_9_method_15_code, prog_9_method_16_code, prog_9_method_17_code],
  [prog_9_method_18_code, prog_9_method_19_code, prog_9_method_20_code, prog_9_method_21_code, prog_9_method_22_code, prog_9_method_23_code, prog_9_method_24_code, prog_9_method_25_code, prog_10_method_1_code, prog_10_method_2_code, prog_10_method_3_code, prog_10_method_4_code, prog_10_method_5_code, prog_10_method_6_code, prog_11_method_1_code, prog_11_method_2_code, prog_11_method_3_code, prog_11_method_4_code, prog_11_method_5_code, prog_11_method_6_code],
  [prog_11_method_7_code, prog_11_method_8_code, prog_11_method_9_code, prog_11_method_10_code, prog_11_method_11_code, prog_11_method_12_code, prog_11_method_13_code, prog_11_method_14_code, prog_11_method_15_code, prog_11_method_16_code, prog_11_method_17_code, prog_11_method_18_code, prog_11_method_19_code, prog_11_method_20_code, prog_11_method_21_code, prog_11_method_22_code, prog_11_method_23_code, prog_11_method_24_code, prog_11_method_25_code, prog_11_method_26_code],
  [prog_11_method_27_code, prog_11_method_28_code, prog_11_method_29_code, prog_11_method_30_code, prog_11_method_31_code, prog_11_method_32_code, prog_11_method_33_code, prog_11_method_34_code, prog_11_method_35_code, prog_11_method_36_code, prog_11_method_37_code, prog_11_method_38_code, prog_12_method_1_code, prog_12_method_2_code, prog_12_method_3_code, prog_12_method_4_code, prog_12_method_5_code, prog_12_method_6_code, prog_12_method_7_code, prog_12_method_8_code],
  [prog_12_method_9_code, prog_12_method_10_code, prog_12_method_11_code, prog_12_method_12_code, prog_12_method_13_code, prog_12_method_14_code, prog_12_method_15_code, prog_12_method_16_code, prog_12_method_17_code, prog_12_method_18_code, prog_12_method_19_code, prog_12_method_20_code, prog_1_method_1_code, prog_1_method_2_code, prog_1_method_3_code, prog_1_method_4_code, prog_1_method_5_code, prog_1_method_6_code, prog_1_method_7_code, prog_1_method_8_code],
  [prog_1_method_9_code, prog_1_method_10_code, prog_1_method_11_code, prog_1_method_12_code, prog_1_method_13_code, prog_1_method_14_code, prog_1_method_15_code, prog_1_method_16_code, prog_1_method_17_code, prog_1_method_18_code, prog_1_method_19_code, prog_1_method_20_code, prog_1_method_21_code, prog_1_method_22_code, prog_1_method_23_code, prog_1_method_24_code, prog_1_method_25_code, prog_1_method_26_code, prog_1_method_27_code, prog_1_method_28_code],
  [prog_1_method_29_code, prog_1_method_30_code, prog_1_method_31_code, prog_1_method_32_code, prog_1_method_33_code, prog_14_method_1_code, prog_14_method_2_code, prog_14_method_3_code, prog_14_method_4_code, prog_14_method_5_code, prog_14_method_6_code, prog_14_method_7_code, prog_14_method_8_code, prog_14_method_9_code, prog_14_method_10_code, prog_14_method_11_code, prog_14_method_12_code, prog_14_method_13_code, prog_14_method_14_code, prog_14_method_15_code],
  [prog_14_method_16_code, prog_14_method_17_code, prog_14_method_18_code, prog_14_method_19_code, prog_14_method_20_code, prog_14_method_21_code, prog_14_method_22_code, prog_14_method_23_code, prog_14_method_24_code, prog_14_method_25_code, prog_14_method_26_code, prog_14_method_27_code, prog_14_method_28_code, prog_14_method_29_code, prog_14_method_30_code, prog_14_method_31_code, prog_14_method_32_code, prog_14_method_33_code, prog_14_method_34_code, prog_14_method_35_code],
  [prog_14_method_36_code, prog_14_method_37_code, prog_14_method_38_code, prog_14_method_39_code, prog_14_method_40_code, prog_14_method_41_code, prog_14_method_42_code, prog_14_method_43_code, prog_14_method_44_code, prog_14_method_45_code, prog_14_method_46_code, prog_14_method_47_code, prog_14_method_48_code, prog_14_method_49_code, prog_14_method_50_code, prog_14_method_51_code, prog_14_method_52_code, prog_14_method_53_code, prog_14_method_54_code, prog_14_method_55_code],
  [prog_14_method_56_code, prog_14_method_57_code, prog_14_method_58_code, prog_14_method_59_code, prog_14_method_60_code, prog_14_method_61_code, prog_14_method_62_code, prog_14_method_63_code, prog_14_method_64_code, prog_14_method_65_code, prog_14_method_66_code, prog_14_method_67_code, prog_14_method_68_code, prog_14_method_69_code, prog_14_method_70_code, prog_14_method_71_code, prog_14_method_72_code, prog_14_method_73_code, prog_14_method_74_code, prog_14_method_75_code],
  [prog_14_method_76_code, prog_14_method_77_code, prog_14_method_78_code, prog_14_method_79_code, prog_14_method_80_code, prog_14_method_81_code, prog_14_method_82_code, prog_14_method_83_code, prog_14_method_84_code, prog_14_method_85_code, prog_14_method_86_code, prog_14_method_87_code, prog_14_method_88_code, prog_14_method_89_code, prog_14_method_90_code, prog_14_method_91_code, prog_14_method_92_code, prog_14_method_93_code, prog_14_method_94_code, prog_14_method_95_code],
  [prog_14_method_96_code, prog_14_method_97_code, prog_14_method_98_code, prog_14_method_99_code, prog_14_method_100_code, prog_14_method_101_code, prog_14_method_102_code, prog_14_method_103_code, prog_14_method_104_code, prog_14_method_105_code, prog_14_method_106_code, prog_14_method_107_code, prog_14_method_108_code, prog_14_method_109_code, prog_14_method_110_code, prog_14_method_111_code, prog_14_method_112_code, prog_14_method_113_code, prog_14_method_114_code, prog_14_method_115_code],
  [prog_14_method_116_code, prog_14_method_117_code, prog_14_method_118_code, prog_14_method_119_code, prog_14_method_120_code, prog_14_method_121_code, prog_14_method_122_code, prog_14_method_123_code, prog_14_method_124_code, prog_14_method_125_code, prog_14_method_126_code, prog_14_method_127_code, prog_14_method_128_code, prog_14_method_129_code, prog_14_method_130_code, prog_14_method_131_code, prog_14_method_132_code, prog_14_method_133_code, prog_14_method_134_code, prog_14_method_135_code],
  [prog_14_method_136_code, prog_14_method_137_code, prog_14_method_138_code, prog_14_method_139_code, prog_14_method_140_code, prog_14_method_141_code, prog_14_method_142_code, prog_14_method_143_code, prog_14_method_144_code, prog_14_method_145_code, prog_14_method_146_code, prog_14_method_147_code, prog_14_method_148_code, prog_14_method_149_code, prog_14_method_150_code, prog_14_method_151_code, prog_14_method_152_code, prog_14_method_153_code, prog_14_method_154_code, prog_14_method_155_code],
  [prog_14_method_156_code, prog_14_method_157_code, prog_14_method_158_code, prog_14_method_159_code, prog_14_method_160_code, prog_14_method_161_code, prog_14_method_162_code, prog_14_method_163_code, prog_14_method_164_code, prog_14_method_165_code, prog_14_method_166_code, prog_14_method_167_code, prog_14_method_168_code, prog_14_method_169_code, prog_14_method_170_code, prog_14_method_171_code, prog_14_method_172_code, prog_14_method_173_code, prog_14_method_174_code, prog_14_method_175_code],
  [prog_14_method_176_code, prog_14_method_177_code, prog_14_method_178_code, prog_14_method_179_code, prog_14_method_180_code, prog_14_method_181_code, prog_14_method_182_code, prog_14_method_183_code, prog_14_method_184_code, prog_14_method_185_code, prog_14_method_186_code, prog_14_method_187_code, prog_14_method_188_code, prog_14_method_189_code, prog_14_method_190_code, prog_14_method_191_code, prog_14_method_192_code, prog_14_method_193_code, prog_14_method_194_code, prog_14_method_195_code],
  [prog_14_method_196_code, prog_14_method_197_code, prog_14_method_198_code, prog_14_method_199_code, prog_14_method_200_code, prog_14_method_201_code, prog_14_method_202_code, prog_14_method_203_code, prog_14_method_204_code, prog_14_method_205_code, prog_14_method_206_code, prog_14_method_207_code, prog_14_method_208_code, prog_19_method_54_code, prog_19_method_56_code, prog_19_method_152_code, prog_19_method_154_code, prog_20_method_2_code, prog_23_method_121_code, prog_23_method_123_code],
  [prog_16_method_40_code, prog_17_method_42_code]]
def q_code (y : Nat) : ByteArray := (q_codeL.getD (y / 20) []).getD (y % 20) ⟨#[]⟩
def q_maxLL : List (List Nat) := [
  [2, 4, 5, 6, 6, 5, 9, 6, 9, 6, 8, 9, 3, 8, 3, 5, 13, 2, 2, 3],
  [7, 7, 6, 10, 7, 2, 7, 2, 3, 9, 7, 1, 7, 11, 6, 4, 8, 2, 2, 2],
  [3, 2, 2, 3, 3, 5, 3, 5, 5, 4, 4, 6, 6, 9, 7, 6, 9, 6, 9, 5],
  [4, 7, 10, 6, 2, 5, 6, 5, 2, 2, 11, 7, 6, 6, 4, 3, 2, 3, 3, 3],
  [4, 4, 5, 4, 3, 2, 2, 3, 3, 1, 6, 3, 5, 3, 11, 2, 2, 3, 11, 10],
  [6, 6, 7, 1, 2, 2, 3, 8, 2, 2, 3, 4, 3, 5, 7, 5, 2, 3, 4, 3],
  [2, 12, 12, 10, 6, 6, 6, 7, 4, 5, 5, 4, 3, 2, 2, 3, 3, 5, 2, 3],
  [2, 1, 2, 3, 1, 4, 2, 3, 2, 6, 10, 4, 9, 7, 9, 2, 6, 11, 8, 11],
  [5, 8, 6, 7, 6, 6, 5, 4, 6, 13, 7, 5, 1, 4, 4, 2, 6, 2, 10, 3],
  [6, 3, 4, 9, 5, 4, 10, 9, 7, 6, 5, 7, 2, 6, 3, 3, 1, 3, 3, 2],
  [2, 3, 3, 5, 3, 3, 2, 4, 2, 3, 4, 1, 3, 5, 3, 6, 2, 3, 7, 4],
  [3, 2, 3, 4, 9, 2, 2, 2, 2, 4, 6, 5, 3, 2, 3, 3, 3, 1, 2, 4],
  [5, 5, 2, 2, 5, 3, 2, 3, 4, 3, 3, 2, 2, 3, 4, 3, 3, 3, 7, 5],
  [4, 7, 9, 1, 7, 6, 9, 3, 7, 6, 7, 3, 4, 7, 4, 3, 5, 2, 4, 6],
  [8, 8, 3, 2, 3, 2, 3, 2, 4, 3, 3, 2, 3, 4, 7, 5, 6, 6, 7, 5],
  [7, 4, 2, 7, 5, 4, 6, 1, 2, 2, 1, 5, 7, 6, 6, 6, 10, 5, 6, 5],
  [6, 4, 2, 2, 2, 8, 10, 9, 3, 1, 3, 3, 3, 4, 3, 5, 2, 1, 4, 4],
  [8, 4, 8, 6, 11, 5, 16, 6, 6, 3, 5, 5, 8, 12, 8, 9, 11, 7, 3, 5],
  [9, 4, 4, 4, 6, 6, 6, 3, 4, 4, 4, 3, 8, 6, 5, 5, 3, 7, 8, 6],
  [9, 8, 8, 7, 12, 7, 4, 5, 1, 1, 2, 6, 5, 4, 9, 7, 13, 6, 8, 2],
  [7, 5, 7, 7, 3, 3, 2, 2, 3, 4, 5, 4, 2, 5, 1, 1, 5, 6, 6, 9],
  [12, 8, 6, 6, 7, 8, 3, 2, 4, 3, 3, 3, 4, 1, 2, 1, 1, 2, 3, 3],
  [2, 4]]
def q_maxL (y : Nat) : Nat := (q_maxLL.getD (y / 20) []).getD (y % 20) 0
def q_retL : List (List (Option FieldType)) := [
  [none, none, some .int, some .boolean, some .boolean, some .boolean, some .boolean, some .boolean, none, some .boolean, some .boolean, some .boolean, none, none, none, none, none, none, some .int, some .boolean],
  [some .boolean, some .boolean, some .boolean, some .boolean, some .boolean, none, some .int, some .int, some .int, some .int, some .int, some .int, some .int, some .int, some .int, none, some .int, none, some .int, some .boolean],
  [some .boolean, some .boolean, some .boolean, some .boolean, some .boolean, some .boolean, some .boolean, some .boolean, some .boolean, some .boolean, some .boolean, some .boolean, some .boolean, some .boolean, some .boolean, some .boolean, some .boolean, some .boolean, some .boolean, some .boolean],
  [some .boolean, some .boolean, some .boolean, some .boolean, none, none, none, some .boolean, some .boolean, some .int, some .int, some .int, none, none, none, none, none, none, none, none],
  [none, none, none, none, none, some .int, none, none, none, none, some .boolean, some .boolean, some .boolean, some .boolean, none, none, some .boolean, some .int, some .int, some .int],
  [some .boolean, some .int, some .int, none, none, some .int, none, none, some .int, some .int, some .int, some .int, some .int, some .int, some .int, some .boolean, some .boolean, some .boolean, some .long, some .boolean],
  [some .int, some .int, some .int, some .int, some .int, some .boolean, some .int, some .int, none, some .int, none, none, some .int, some .int, none, none, some .boolean, none, some .int, some .int],
  [none, some .int, none, none, some .int, some .boolean, some .boolean, some .boolean, some .boolean, some .int, none, some .int, some .int, some .int, none, some .int, some .int, some .int, none, some .long],
  [some .int, none, some .int, some .int, some .int, some .int, some .int, some .int, some .int, some .int, none, some .boolean, none, none, some .int, none, some .int, none, none, some .int],
  [some .int, some .int, some .int, none, none, none, none, none, none, none, none, none, none, some .int, none, some .int, none, none, none, some .int],
  [some .int, some .int, some .int, some .int, some .boolean, some .int, some .int, some .boolean, some .int, some .int, some .int, some .int, some .int, none, some .int, none, none, none, none, none],
  [(Option.some (Jvm.ClassFile.FieldType.object "DocumentHouse$Index")), none, none, none, none, none, some .int, some .int, some .long, none, some .boolean, some .boolean, some .int, some .int, some .int, some .int, some .boolean, some .int, some .int, some .int],
  [some .int, some .int, some .boolean, some .long, some .int, none, none, none, none, none, none, some .int, none, none, none, none, none, some .boolean, some .int, some .boolean],
  [some .boolean, some .boolean, some .boolean, some .boolean, some .boolean, some .boolean, some .boolean, some .int, some .int, some .int, some .int, some .boolean, some .int, some .boolean, some .boolean, some .boolean, some .int, none, none, none],
  [none, some .int, some .boolean, some .boolean, some .boolean, some .boolean, some .boolean, some .boolean, some .boolean, some .boolean, some .boolean, some .boolean, some .boolean, some .boolean, some .boolean, some .boolean, some .boolean, some .boolean, some .boolean, some .boolean],
  [some .boolean, some .boolean, some .boolean, some .boolean, some .boolean, some .boolean, none, none, some .int, none, none, some .int, some .int, some .int, none, some .int, some .int, some .int, some .int, none],
  [some .boolean, some .boolean, some .int, some .boolean, some .int, none, none, some .int, some .int, some .int, some .int, some .int, some .boolean, some .int, some .int, some .int, none, none, some .int, some .int],
  [none, some .int, none, none, none, none, none, some .boolean, some .boolean, none, none, some .int, some .int, none, none, some .boolean, some .int, some .int, some .int, none],
  [some .int, some .int, none, some .int, some .int, none, some .int, some .int, none, some .int, some .int, none, none, none, some .int, some .int, some .boolean, some .boolean, none, none],
  [none, none, none, none, none, none, some .int, some .int, some .int, some .int, some .int, some .int, none, none, some .boolean, some .boolean, none, none, some .boolean, some .boolean],
  [some .boolean, none, some .int, some .boolean, some .int, some .boolean, some .boolean, some .boolean, some .boolean, some .boolean, some .boolean, some .boolean, some .boolean, some .int, none, some .boolean, some .boolean, none, none, some .boolean],
  [some .boolean, some .boolean, some .boolean, some .boolean, some .boolean, some .int, some .int, some .int, some .int, some .boolean, some .int, some .int, some .int, some .int, some .char, some .byte, some .boolean, some .char, (Option.some (Jvm.ClassFile.FieldType.array Jvm.ClassFile.FieldType.byte)), (Option.some (Jvm.ClassFile.FieldType.array Jvm.ClassFile.FieldType.int))],
  [some .int, some .int]]
def q_ret (y : Nat) : Option FieldType := (q_retL.getD (y / 20) []).getD (y % 20) none
def q_ownL : List (List Nat) := [
  [0, 0, 0, 0, 0, 0, 0, 0, 0, 0, 0, 0, 0, 0, 0, 0, 0, 1, 1, 1],
  [1, 1, 1, 1, 1, 1, 1, 1, 1, 1, 1, 1, 1, 1, 1, 1, 1, 2, 2, 2],
  [2, 2, 2, 2, 2, 2, 2, 2, 2, 2, 2, 2, 2, 2, 2, 2, 2, 2, 2, 2],
  [2, 2, 2, 2, 3, 3, 3, 3, 3, 3, 3, 3, 3, 3, 4, 4, 4, 4, 4, 4],
  [4, 4, 4, 4, 4, 4, 4, 4, 4, 5, 5, 5, 5, 5, 5, 6, 6, 6, 6, 6],
  [6, 6, 6, 7, 7, 7, 7, 7, 7, 7, 7, 7, 7, 7, 7, 7, 7, 7, 7, 7],
  [7, 7, 7, 7, 7, 7, 7, 7, 8, 8, 8, 8, 8, 8, 9, 9, 9, 9, 9, 9],
  [9, 9, 9, 9, 9, 9, 9, 9, 9, 9, 9, 9, 9, 9, 9, 9, 9, 9, 9, 9],
  [9, 9, 9, 9, 9, 9, 9, 9, 9, 9, 9, 9, 10, 10, 10, 10, 10, 10, 10, 10],
  [10, 10, 10, 10, 10, 10, 10, 10, 10, 10, 10, 10, 11, 11, 11, 11, 11, 11, 11, 11],
  [11, 11, 11, 11, 11, 11, 11, 11, 11, 11, 11, 11, 11, 11, 11, 11, 11, 11, 11, 11],
  [11, 11, 11, 11, 11, 12, 12, 12, 12, 12, 12, 12, 12, 12, 12, 12, 12, 12, 12, 12],
  [12, 12, 12, 12, 12, 12, 12, 12, 12, 12, 12, 12, 12, 12, 12, 12, 12, 12, 12, 12],
  [12, 12, 12, 12, 12, 12, 12, 12, 12, 12, 12, 12, 12, 12, 12, 12, 12, 12, 12, 12],
  [12, 12, 12, 12, 12, 12, 12, 12, 12, 12, 12, 12, 12, 12, 12, 12, 12, 12, 12, 12],
  [12, 12, 12, 12, 12, 12, 12, 12, 12, 12, 12, 12, 12, 12, 12, 12, 12, 12, 12, 12],
  [12, 12, 12, 12, 12, 12, 12, 12, 12, 12, 12, 12, 12, 12, 12, 12, 12, 12, 12, 12],
  [12, 12, 12, 12, 12, 12, 12, 12, 12, 12, 12, 12, 12, 12, 12, 12, 12, 12, 12, 12],
  [12, 12, 12, 12, 12, 12, 12, 12, 12, 12, 12, 12, 12, 12, 12, 12, 12, 12, 12, 12],
  [12, 12, 12, 12, 12, 12, 12, 12, 12, 12, 12, 12, 12, 12, 12, 12, 12, 12, 12, 12],
  [12, 12, 12, 12, 12, 12, 12, 12, 12, 12, 12, 12, 12, 12, 12, 12, 12, 12, 12, 12],
  [12, 12, 12, 12, 12, 12, 12, 12, 12, 12, 12, 12, 12, 14, 14, 14, 14, 15, 16, 16],
  [17, 18]]
def q_own (y : Nat) : Nat := (q_ownL.getD (y / 20) []).getD (y % 20) 13
def q_statL : List (List Bool) := [
  [false, false, false, false, false, false, false, false, false, false, false, false, false, false, false, false, false, false, true, false],
  [false, false, false, false, false, false, false, false, false, false, false, true, false, false, false, false, false, false, true, true],
  [true, true, false, false, false, false, false, false, false, false, false, false, false, false, false, false, false, false, false, false],
  [false, false, false, false, false, false, false, false, false, false, false, false, false, false, false, false, false, false, false, false],
  [false, false, false, false, false, false, false, false, false, false, false, false, false, false, false, false, false, false, false, false],
  [false, false, false, false, false, false, false, false, true, true, true, true, true, true, true, true, true, true, true, true],
  [true, true, true, true, true, true, true, true, false, false, false, false, false, false, false, false, false, false, true, false],
  [false, false, false, false, false, false, false, false, false, false, false, false, false, false, false, true, false, false, false, false],
  [false, false, false, false, false, false, false, false, false, false, false, false, false, false, false, false, false, false, false, false],
  [false, false, false, false, false, false, false, false, false, false, false, false, false, false, false, false, false, false, false, false],
  [false, false, false, false, false, false, false, false, false, false, false, false, false, false, false, false, false, false, false, false],
  [false, false, false, false, false, false, false, false, false, false, false, false, false, false, false, false, false, true, false, false],
  [false, false, false, false, false, false, false, false, false, false, false, false, false, false, false, false, false, false, false, false],
  [false, false, false, true, false, false, false, false, false, false, false, false, false, false, false, false, false, false, false, false],
  [false, false, false, false, false, false, false, false, false, false, false, false, false, false, false, false, false, false, false, false],
  [false, false, false, false, false, false, false, false, false, false, false, false, false, false, false, false, false, false, false, false],
  [false, false, false, false, false, false, false, false, false, true, false, false, false, false, false, false, false, false, false, false],
  [false, false, false, false, false, false, false, false, false, false, false, false, false, false, false, false, false, false, false, false],
  [false, false, false, false, false, false, false, false, false, false, false, false, false, false, false, false, false, false, false, false],
  [false, false, false, false, false, false, false, false, true, true, false, false, false, false, false, false, false, false, false, false],
  [false, false, false, false, false, false, false, false, false, false, false, false, false, false, false, false, false, false, false, false],
  [false, false, false, false, false, false, false, false, false, false, false, false, false, false, false, false, false, true, true, true],
  [true, true]]
def q_stat (y : Nat) : Bool := (q_statL.getD (y / 20) []).getD (y % 20) false
def q_iniL : List (List Bool) := [
  [true, false, false, false, false, false, false, false, false, false, false, false, false, false, false, false, false, true, false, false],
  [false, false, false, false, false, false, false, false, false, false, false, false, false, false, false, false, false, true, false, false],
  [false, false, false, false, false, false, false, false, false, false, false, false, false, false, false, false, false, false, false, false],
  [false, false, false, false, true, false, false, false, false, false, false, false, false, false, true, false, false, false, false, false],
  [false, false, false, false, false, false, false, false, false, true, false, false, false, false, false, true, false, false, false, false],
  [false, false, false, true, false, false, false, false, false, false, false, false, false, false, false, false, false, false, false, false],
  [false, false, false, false, false, false, false, false, true, false, false, false, false, false, true, false, false, false, false, false],
  [false, false, false, false, false, false, false, false, false, false, false, false, false, false, false, false, false, false, false, false],
  [false, false, false, false, false, false, false, false, false, false, false, false, true, false, false, false, false, false, false, false],
  [false, false, false, false, false, false, false, false, false, false, false, false, true, false, false, false, false, false, false, false],
  [false, false, false, false, false, false, false, false, false, false, false, false, false, false, false, false, false, false, false, false],
  [false, false, false, false, false, true, false, false, false, false, false, false, false, false, false, false, false, false, false, false],
  [false, false, false, false, false, false, false, false, false, false, false, false, false, false, false, false, false, false, false, false],
  [false, false, false, false, false, false, false, false, false, false, false, false, false, false, false, false, false, false, false, false],
  [false, false, false, false, false, false, false, false, false, false, false, false, false, false, false, false, false, false, false, false],
  [false, false, false, false, false, false, false, false, false, false, false, false, false, false, false, false, false, false, false, false],
  [false, false, false, false, false, false, false, false, false, false, false, false, false, false, false, false, false, false, false, false],
  [false, false, false, false, false, false, false, false, false, false, false, false, false, false, false, false, false, false, false, false],
  [false, false, false, false, false, false, false, false, false, false, false, false, false, false, false, false, false, false, false, false],
  [false, false, false, false, false, false, false, false, false, false, false, false, false, false, false, false, false, false, false, false],
  [false, false, false, false, false, false, false, false, false, false, false, false, false, false, false, false, false, false, false, false],
  [false, false, false, false, false, false, false, false, false, false, false, false, false, false, false, false, false, false, false, false],
  [false, false]]
def q_ini (y : Nat) : Bool := (q_iniL.getD (y / 20) []).getD (y % 20) false
def q_naL : List (List Nat) := [
  [1, 2, 2, 3, 3, 1, 4, 2, 3, 2, 2, 3, 2, 5, 2, 2, 4, 1, 2, 2],
  [1, 2, 2, 2, 3, 1, 2, 0, 1, 3, 3, 1, 2, 2, 2, 1, 2, 1, 2, 2],
  [2, 2, 1, 2, 2, 2, 2, 2, 2, 2, 2, 3, 3, 3, 4, 4, 3, 3, 4, 3],
  [2, 3, 4, 3, 1, 2, 2, 2, 1, 1, 4, 4, 2, 2, 3, 2, 1, 1, 1, 2],
  [3, 2, 4, 2, 2, 0, 1, 2, 2, 0, 3, 2, 3, 2, 4, 1, 1, 2, 4, 5],
  [3, 4, 2, 0, 1, 1, 2, 2, 2, 2, 2, 2, 2, 2, 5, 3, 2, 2, 2, 3],
  [2, 5, 5, 6, 3, 4, 3, 3, 2, 1, 1, 1, 0, 0, 1, 2, 1, 2, 2, 1],
  [0, 0, 1, 1, 0, 2, 1, 1, 1, 2, 3, 1, 1, 1, 3, 2, 1, 1, 2, 1],
  [2, 2, 1, 1, 2, 3, 1, 1, 4, 1, 1, 2, 0, 2, 0, 1, 1, 1, 5, 1],
  [2, 0, 0, 4, 3, 2, 1, 4, 1, 3, 3, 2, 0, 5, 1, 1, 0, 2, 2, 1],
  [1, 2, 2, 3, 2, 0, 1, 1, 0, 0, 0, 0, 0, 0, 0, 0, 0, 0, 0, 0],
  [0, 0, 0, 0, 0, 0, 1, 1, 1, 2, 4, 3, 1, 1, 2, 1, 2, 1, 1, 1],
  [3, 2, 1, 1, 1, 2, 1, 1, 2, 1, 1, 0, 1, 1, 3, 2, 2, 2, 2, 2],
  [1, 4, 3, 1, 3, 4, 4, 1, 4, 2, 3, 2, 2, 2, 2, 2, 2, 1, 3, 3],
  [3, 3, 2, 1, 1, 1, 2, 1, 1, 1, 1, 1, 1, 2, 2, 3, 3, 2, 3, 3],
  [3, 2, 1, 2, 2, 1, 2, 0, 0, 1, 0, 2, 2, 2, 2, 2, 2, 3, 2, 3],
  [2, 2, 1, 1, 1, 3, 3, 2, 2, 1, 1, 1, 1, 1, 1, 1, 1, 0, 0, 1],
  [2, 3, 2, 3, 2, 1, 5, 3, 1, 2, 3, 2, 3, 3, 3, 4, 1, 4, 2, 2],
  [3, 2, 2, 3, 4, 1, 3, 2, 3, 3, 2, 1, 5, 3, 3, 3, 2, 3, 4, 3],
  [3, 3, 3, 4, 4, 3, 1, 2, 1, 1, 1, 2, 4, 2, 2, 2, 2, 3, 3, 1],
  [3, 2, 2, 2, 2, 2, 1, 1, 1, 0, 1, 2, 1, 2, 0, 0, 0, 1, 1, 2],
  [2, 2, 2, 2, 2, 5, 1, 1, 1, 2, 2, 2, 3, 0, 1, 0, 0, 2, 2, 2],
  [2, 2]]
def q_na (y : Nat) : Nat := (q_naL.getD (y / 20) []).getD (y % 20) 0
/-- what is known of a method -/
def q_mOK (y : Nat) : Prop := plainName (q_y y).cls = true ∧ Cond.code (q_y y) (q_code y) (q_maxL y) (q_ret y) ∈ lw_tbl ∧ (q_y y).cls = q_R (q_own y) ∧ Cond.initialized (q_y y).cls ∈ lw_tbl ∧ (q_stat y = true → Cond.static (q_y y) ∈ lw_tbl) ∧ (q_stat y = false → Cond.instanceMethod (q_y y) ∈ lw_tbl) ∧ (q_stat y = false → q_ini y = false → Cond.selects (q_y y).cls (q_y y) (q_y y) ∈ lw_tbl) ∧ (q_ini y = true → (q_y y).name = "<init>") ∧ ((q_y y).cls ≠ "java/lang/invoke/MethodHandle" ∧ (q_y y).cls ≠ "java/lang/invoke/VarHandle" ∧ (parseMethodDescriptor (q_y y).desc).map (fun d => d.parameters.length) = some (q_na y)) ∧ q_maxL y ≤ 21
theorem q_lw1 {i : Nat} {w : Cond} (h : tables_1_1[i]? = some w) : w ∈ lw_tbl := List.mem_append_right _ (show w ∈ tables_1 from List.mem_append_left _ (List.mem_of_getElem? h))
theorem q_lw2 {i : Nat} {w : Cond} (h : tables_1_2[i]? = some w) : w ∈ lw_tbl := List.mem_append_right _ (show w ∈ tables_1 from List.mem_append_right _ (List.mem_append_left _ (List.mem_of_getElem? h)))
theorem q_lw3 {i : Nat} {w : Cond} (h : tables_1_3[i]? = some w) : w ∈ lw_tbl := List.mem_append_right _ (show w ∈ tables_1 from List.mem_append_right _ (List.mem_append_right _ (List.mem_append_left _ (List.mem_of_getElem? h))))
theorem q_lw4 {i : Nat} {w : Cond} (h : tables_1_4[i]? = some w) : w ∈ lw_tbl := List.mem_append_right _ (show w ∈ tables_1 from List.mem_append_right _ (List.mem_append_right _ (List.mem_append_right _ (List.mem_append_left _ (List.mem_of_getElem? h)))))
theorem q_lw5 {i : Nat} {w : Cond} (h : tables_1_5[i]? = some w) : w ∈ lw_tbl := List.mem_append_right _ (show w ∈ tables_1 from List.mem_append_right _ (List.mem_append_right _ (List.mem_append_right _ (List.mem_append_right _ (List.mem_append_left _ (List.mem_of_getElem? h))))))
theorem q_lw6 {i : Nat} {w : Cond} (h : tables_1_6[i]? = some w) : w ∈ lw_tbl := List.mem_append_right _ (show w ∈ tables_1 from List.mem_append_right _ (List.mem_append_right _ (List.mem_append_right _ (List.mem_append_right _ (List.mem_append_right _ (List.mem_append_left _ (List.mem_of_getElem? h)))))))
theorem q_lw7 {i : Nat} {w : Cond} (h : tables_1_7[i]? = some w) : w ∈ lw_tbl := List.mem_append_right _ (show w ∈ tables_1 from List.mem_append_right _ (List.mem_append_right _ (List.mem_append_right _ (List.mem_append_right _ (List.mem_append_right _ (List.mem_append_right _ (List.mem_append_left _ (List.mem_of_getElem? h))))))))
theorem q_lw8 {i : Nat} {w : Cond} (h : tables_1_8[i]? = some w) : w ∈ lw_tbl := List.mem_append_right _ (show w ∈ tables_1 from List.mem_append_right _ (List.mem_append_right _ (List.mem_append_right _ (List.mem_append_right _ (List.mem_append_right _ (List.mem_append_right _ (List.mem_append_right _ (List.mem_append_left _ (List.mem_of_getElem? h)))))))))
theorem q_lw9 {i : Nat} {w : Cond} (h : tables_1_9[i]? = some w) : w ∈ lw_tbl := List.mem_append_right _ (show w ∈ tables_1 from List.mem_append_right _ (List.mem_append_right _ (List.mem_append_right _ (List.mem_append_right _ (List.mem_append_right _ (List.mem_append_right _ (List.mem_append_right _ (List.mem_append_right _ (List.mem_append_left _ (List.mem_of_getElem? h))))))))))
theorem q_lw10 {i : Nat} {w : Cond} (h : tables_1_10[i]? = some w) : w ∈ lw_tbl := List.mem_append_right _ (show w ∈ tables_1 from List.mem_append_right _ (List.mem_append_right _ (List.mem_append_right _ (List.mem_append_right _ (List.mem_append_right _ (List.mem_append_right _ (List.mem_append_right _ (List.mem_append_right _ (List.mem_append_right _ (List.mem_append_left _ (List.mem_of_getElem? h)))))))))))
theorem q_lw11 {i : Nat} {w : Cond} (h : tables_1_11[i]? = some w) : w ∈ lw_tbl := List.mem_append_right _ (show w ∈ tables_1 from List.mem_append_right _ (List.mem_append_right _ (List.mem_append_right _ (List.mem_append_right _ (List.mem_append_right _ (List.mem_append_right _ (List.mem_append_right _ (List.mem_append_right _ (List.mem_append_right _ (List.mem_append_right _ (List.mem_append_left _ (List.mem_of_getElem? h))))))))))))
theorem q_lw12 {i : Nat} {w : Cond} (h : tables_1_12[i]? = some w) : w ∈ lw_tbl := List.mem_append_right _ (show w ∈ tables_1 from List.mem_append_right _ (List.mem_append_right _ (List.mem_append_right _ (List.mem_append_right _ (List.mem_append_right _ (List.mem_append_right _ (List.mem_append_right _ (List.mem_append_right _ (List.mem_append_right _ (List.mem_append_right _ (List.mem_append_right _ (List.mem_of_getElem? h))))))))))))
theorem q_lz1 {i : Nat} {y : MethodName × Nat} (h : lw_privs_1[i]? = some y) : Cond.selects y.1.cls y.1 y.1 ∈ lw_tbl := List.mem_append_left _ (List.mem_map.mpr ⟨y, show y ∈ lw_privs from List.mem_append_left _ (List.mem_of_getElem? h), rfl⟩)
theorem q_lz2 {i : Nat} {y : MethodName × Nat} (h : lw_privs_2[i]? = some y) : Cond.selects y.1.cls y.1 y.1 ∈ lw_tbl := List.mem_append_left _ (List.mem_map.mpr ⟨y, show y ∈ lw_privs from List.mem_append_right _ (List.mem_append_left _ (List.mem_of_getElem? h)), rfl⟩)
theorem q_lz3 {i : Nat} {y : MethodName × Nat} (h : lw_privs_3[i]? = some y) : Cond.selects y.1.cls y.1 y.1 ∈ lw_tbl := List.mem_append_left _ (List.mem_map.mpr ⟨y, show y ∈ lw_privs from List.mem_append_right _ (List.mem_append_right _ (List.mem_append_left _ (List.mem_of_getElem? h))), rfl⟩)
theorem q_lz4 {i : Nat} {y : MethodName × Nat} (h : lw_privs_4[i]? = some y) : Cond.selects y.1.cls y.1 y.1 ∈ lw_tbl := List.mem_append_left _ (List.mem_map.mpr ⟨y, show y ∈ lw_privs from List.mem_append_right _ (List.mem_append_right _ (List.mem_append_right _ (List.mem_append_left _ (List.mem_of_getElem? h)))), rfl⟩)
theorem q_lz5 {i : Nat} {y : MethodName × Nat} (h : lw_privs_5[i]? = some y) : Cond.selects y.1.cls y.1 y.1 ∈ lw_tbl := List.mem_append_left _ (List.mem_map.mpr ⟨y, show y ∈ lw_privs from List.mem_append_right _ (List.mem_append_right _ (List.mem_append_right _ (List.mem_append_right _ (List.mem_append_left _ (List.mem_of_getElem? h))))), rfl⟩)
theorem q_lz6 {i : Nat} {y : MethodName × Nat} (h : lw_privs_6[i]? = some y) : Cond.selects y.1.cls y.1 y.1 ∈ lw_tbl := List.mem_append_left _ (List.mem_map.mpr ⟨y, show y ∈ lw_privs from List.mem_append_right _ (List.mem_append_right _ (List.mem_append_right _ (List.mem_append_right _ (List.mem_append_right _ (List.mem_append_left _ (List.mem_of_getElem? h)))))), rfl⟩)
theorem q_lz7 {i : Nat} {y : MethodName × Nat} (h : lw_privs_7[i]? = some y) : Cond.selects y.1.cls y.1 y.1 ∈ lw_tbl := List.mem_append_left _ (List.mem_map.mpr ⟨y, show y ∈ lw_privs from List.mem_append_right _ (List.mem_append_right _ (List.mem_append_right _ (List.mem_append_right _ (List.mem_append_right _ (List.mem_append_right _ (List.mem_append_left _ (List.mem_of_getElem? h))))))), rfl⟩)
theorem q_lz8 {i : Nat} {y : MethodName × Nat} (h : lw_privs_8[i]? = some y) : Cond.selects y.1.cls y.1 y.1 ∈ lw_tbl := List.mem_append_left _ (List.mem_map.mpr ⟨y, show y ∈ lw_privs from List.mem_append_right _ (List.mem_append_right _ (List.mem_append_right _ (List.mem_append_right _ (List.mem_append_right _ (List.mem_append_right _ (List.mem_append_right _ (List.mem_append_left _ (List.mem_of_getElem? h)))))))), rfl⟩)
theorem q_lz9 {i : Nat} {y : MethodName × Nat} (h : lw_privs_9[i]? = some y) : Cond.selects y.1.cls y.1 y.1 ∈ lw_tbl := List.mem_append_left _ (List.mem_map.mpr ⟨y, show y ∈ lw_privs from List.mem_append_right _ (List.mem_append_right _ (List.mem_append_right _ (List.mem_append_right _ (List.mem_append_right _ (List.mem_append_right _ (List.mem_append_right _ (List.mem_append_right _ (List.mem_append_left _ (List.mem_of_getElem? h))))))))), rfl⟩)
theorem q_lz10 {i : Nat} {y : MethodName × Nat} (h : lw_privs_10[i]? = some y) : Cond.selects y.1.cls y.1 y.1 ∈ lw_tbl := List.mem_append_left _ (List.mem_map.mpr ⟨y, show y ∈ lw_privs from List.mem_append_right _ (List.mem_append_right _ (List.mem_append_right _ (List.mem_append_right _ (List.mem_append_right _ (List.mem_append_right _ (List.mem_append_right _ (List.mem_append_right _ (List.mem_append_right _ (List.mem_append_left _ (List.mem_of_getElem? h)))))))))), rfl⟩)
theorem q_lz11 {i : Nat} {y : MethodName × Nat} (h : lw_privs_11[i]? = some y) : Cond.selects y.1.cls y.1 y.1 ∈ lw_tbl := List.mem_append_left _ (List.mem_map.mpr ⟨y, show y ∈ lw_privs from List.mem_append_right _ (List.mem_append_right _ (List.mem_append_right _ (List.mem_append_right _ (List.mem_append_right _ (List.mem_append_right _ (List.mem_append_right _ (List.mem_append_right _ (List.mem_append_right _ (List.mem_append_right _ (List.mem_append_left _ (List.mem_of_getElem? h))))))))))), rfl⟩)
theorem q_lz12 {i : Nat} {y : MethodName × Nat} (h : lw_privs_12[i]? = some y) : Cond.selects y.1.cls y.1 y.1 ∈ lw_tbl := List.mem_append_left _ (List.mem_map.mpr ⟨y, show y ∈ lw_privs from List.mem_append_right _ (List.mem_append_right _ (List.mem_append_right _ (List.mem_append_right _ (List.mem_append_right _ (List.mem_append_right _ (List.mem_append_right _ (List.mem_append_right _ (List.mem_append_right _ (List.mem_append_right _ (List.mem_append_right _ (List.mem_append_left _ (List.mem_of_getElem? h)))))))))))), rfl⟩)
theorem q_lz13 {i : Nat} {y : MethodName × Nat} (h : lw_privs_13[i]? = some y) : Cond.selects y.1.cls y.1 y.1 ∈ lw_tbl := List.mem_append_left _ (List.mem_map.mpr ⟨y, show y ∈ lw_privs from List.mem_append_right _ (List.mem_append_right _ (List.mem_append_right _ (List.mem_append_right _ (List.mem_append_right _ (List.mem_append_right _ (List.mem_append_right _ (List.mem_append_right _ (List.mem_append_right _ (List.mem_append_right _ (List.mem_append_right _ (List.mem_append_right _ (List.mem_append_left _ (List.mem_of_getElem? h))))))))))))), rfl⟩)
theorem q_lz14 {i : Nat} {y : MethodName × Nat} (h : lw_privs_14[i]? = some y) : Cond.selects y.1.cls y.1 y.1 ∈ lw_tbl := List.mem_append_left _ (List.mem_map.mpr ⟨y, show y ∈ lw_privs from List.mem_append_right _ (List.mem_append_right _ (List.mem_append_right _ (List.mem_append_right _ (List.mem_append_right _ (List.mem_append_right _ (List.mem_append_right _ (List.mem_append_right _ (List.mem_append_right _ (List.mem_append_right _ (List.mem_append_right _ (List.mem_append_right _ (List.mem_append_right _ (List.mem_append_left _ (List.mem_of_getElem? h)))))))))))))), rfl⟩)
theorem q_lz15 {i : Nat} {y : MethodName × Nat} (h : lw_privs_15[i]? = some y) : Cond.selects y.1.cls y.1 y.1 ∈ lw_tbl := List.mem_append_left _ (List.mem_map.mpr ⟨y, show y ∈ lw_privs from List.mem_append_right _ (List.mem_append_right _ (List.mem_append_right _ (List.mem_append_right _ (List.mem_append_right _ (List.mem_append_right _ (List.mem_append_right _ (List.mem_append_right _ (List.mem_append_right _ (List.mem_append_right _ (List.mem_append_right _ (List.mem_append_right _ (List.mem_append_right _ (List.mem_append_right _ (List.mem_append_left _ (List.mem_of_getElem? h))))))))))))))), rfl⟩)
theorem q_lz16 {i : Nat} {y : MethodName × Nat} (h : lw_privs_16[i]? = some y) : Cond.selects y.1.cls y.1 y.1 ∈ lw_tbl := List.mem_append_left _ (List.mem_map.mpr ⟨y, show y ∈ lw_privs from List.mem_append_right _ (List.mem_append_right _ (List.mem_append_right _ (List.mem_append_right _ (List.mem_append_right _ (List.mem_append_right _ (List.mem_append_right _ (List.mem_append_right _ (List.mem_append_right _ (List.mem_append_right _ (List.mem_append_right _ (List.mem_append_right _ (List.mem_append_right _ (List.mem_append_right _ (List.mem_append_right _ (List.mem_append_left _ (List.mem_of_getElem? h)))))))))))))))), rfl⟩)
theorem q_lz17 {i : Nat} {y : MethodName × Nat} (h : lw_privs_17[i]? = some y) : Cond.selects y.1.cls y.1 y.1 ∈ lw_tbl := List.mem_append_left _ (List.mem_map.mpr ⟨y, show y ∈ lw_privs from List.mem_append_right _ (List.mem_append_right _ (List.mem_append_right _ (List.mem_append_right _ (List.mem_append_right _ (List.mem_append_right _ (List.mem_append_right _ (List.mem_append_right _ (List.mem_append_right _ (List.mem_append_right _ (List.mem_append_right _ (List.mem_append_right _ (List.mem_append_right _ (List.mem_append_right _ (List.mem_append_right _ (List.mem_append_right _ (List.mem_append_left _ (List.mem_of_getElem? h))))))))))))))))), rfl⟩)
theorem q_lz18 {i : Nat} {y : MethodName × Nat} (h : lw_privs_18[i]? = some y) : Cond.selects y.1.cls y.1 y.1 ∈ lw_tbl := List.mem_append_left _ (List.mem_map.mpr ⟨y, show y ∈ lw_privs from List.mem_append_right _ (List.mem_append_right _ (List.mem_append_right _ (List.mem_append_right _ (List.mem_append_right _ (List.mem_append_right _ (List.mem_append_right _ (List.mem_append_right _ (List.mem_append_right _ (List.mem_append_right _ (List.mem_append_right _ (List.mem_append_right _ (List.mem_append_right _ (List.mem_append_right _ (List.mem_append_right _ (List.mem_append_right _ (List.mem_append_right _ (List.mem_append_left _ (List.mem_of_getElem? h)))))))))))))))))), rfl⟩)
theorem q_lz19 {i : Nat} {y : MethodName × Nat} (h : lw_privs_19[i]? = some y) : Cond.selects y.1.cls y.1 y.1 ∈ lw_tbl := List.mem_append_left _ (List.mem_map.mpr ⟨y, show y ∈ lw_privs from List.mem_append_right _ (List.mem_append_right _ (List.mem_append_right _ (List.mem_append_right _ (List.mem_append_right _ (List.mem_append_right _ (List.mem_append_right _ (List.mem_append_right _ (List.mem_append_right _ (List.mem_append_right _ (List.mem_append_right _ (List.mem_append_right _ (List.mem_append_right _ (List.mem_append_right _ (List.mem_append_right _ (List.mem_append_right _ (List.mem_append_right _ (List.mem_append_right _ (List.mem_append_left _ (List.mem_of_getElem? h))))))))))))))))))), rfl⟩)
theorem q_lz20 {i : Nat} {y : MethodName × Nat} (h : lw_privs_20[i]? = some y) : Cond.selects y.1.cls y.1 y.1 ∈ lw_tbl := List.mem_append_left _ (List.mem_map.mpr ⟨y, show y ∈ lw_privs from List.mem_append_right _ (List.mem_append_right _ (List.mem_append_right _ (List.mem_append_right _ (List.mem_append_right _ (List.mem_append_right _ (List.mem_append_right _ (List.mem_append_right _ (List.mem_append_right _ (List.mem_append_right _ (List.mem_append_right _ (List.mem_append_right _ (List.mem_append_right _ (List.mem_append_right _ (List.mem_append_right _ (List.mem_append_right _ (List.mem_append_right _ (List.mem_append_right _ (List.mem_append_right _ (List.mem_append_left _ (List.mem_of_getElem? h)))))))))))))))))))), rfl⟩)
theorem q_lz21 {i : Nat} {y : MethodName × Nat} (h : lw_privs_21[i]? = some y) : Cond.selects y.1.cls y.1 y.1 ∈ lw_tbl := List.mem_append_left _ (List.mem_map.mpr ⟨y, show y ∈ lw_privs from List.mem_append_right _ (List.mem_append_right _ (List.mem_append_right _ (List.mem_append_right _ (List.mem_append_right _ (List.mem_append_right _ (List.mem_append_right _ (List.mem_append_right _ (List.mem_append_right _ (List.mem_append_right _ (List.mem_append_right _ (List.mem_append_right _ (List.mem_append_right _ (List.mem_append_right _ (List.mem_append_right _ (List.mem_append_right _ (List.mem_append_right _ (List.mem_append_right _ (List.mem_append_right _ (List.mem_append_right _ (List.mem_append_left _ (List.mem_of_getElem? h))))))))))))))))))))), rfl⟩)
theorem q_lz22 {i : Nat} {y : MethodName × Nat} (h : lw_privs_22[i]? = some y) : Cond.selects y.1.cls y.1 y.1 ∈ lw_tbl := List.mem_append_left _ (List.mem_map.mpr ⟨y, show y ∈ lw_privs from List.mem_append_right _ (List.mem_append_right _ (List.mem_append_right _ (List.mem_append_right _ (List.mem_append_right _ (List.mem_append_right _ (List.mem_append_right _ (List.mem_append_right _ (List.mem_append_right _ (List.mem_append_right _ (List.mem_append_right _ (List.mem_append_right _ (List.mem_append_right _ (List.mem_append_right _ (List.mem_append_right _ (List.mem_append_right _ (List.mem_append_right _ (List.mem_append_right _ (List.mem_append_right _ (List.mem_append_right _ (List.mem_append_right _ (List.mem_append_left _ (List.mem_of_getElem? h)))))))))))))))))))))), rfl⟩)
theorem q_lz23 {i : Nat} {y : MethodName × Nat} (h : lw_privs_23[i]? = some y) : Cond.selects y.1.cls y.1 y.1 ∈ lw_tbl := List.mem_append_left _ (List.mem_map.mpr ⟨y, show y ∈ lw_privs from List.mem_append_right _ (List.mem_append_right _ (List.mem_append_right _ (List.mem_append_right _ (List.mem_append_right _ (List.mem_append_right _ (List.mem_append_right _ (List.mem_append_right _ (List.mem_append_right _ (List.mem_append_right _ (List.mem_append_right _ (List.mem_append_right _ (List.mem_append_right _ (List.mem_append_right _ (List.mem_append_right _ (List.mem_append_right _ (List.mem_append_right _ (List.mem_append_right _ (List.mem_append_right _ (List.mem_append_right _ (List.mem_append_right _ (List.mem_append_right _ (List.mem_append_left _ (List.mem_of_getElem? h))))))))))))))))))))))), rfl⟩)
theorem q_lz24 {i : Nat} {y : MethodName × Nat} (h : lw_privs_24[i]? = some y) : Cond.selects y.1.cls y.1 y.1 ∈ lw_tbl := List.mem_append_left _ (List.mem_map.mpr ⟨y, show y ∈ lw_privs from List.mem_append_right _ (List.mem_append_right _ (List.mem_append_right _ (List.mem_append_right _ (List.mem_append_right _ (List.mem_append_right _ (List.mem_append_right _ (List.mem_append_right _ (List.mem_append_right _ (List.mem_append_right _ (List.mem_append_right _ (List.mem_append_right _ (List.mem_append_right _ (List.mem_append_right _ (List.mem_append_right _ (List.mem_append_right _ (List.mem_append_right _ (List.mem_append_right _ (List.mem_append_right _ (List.mem_append_right _ (List.mem_append_right _ (List.mem_append_right _ (List.mem_append_right _ (List.mem_of_getElem? h))))))))))))))))))))))), rfl⟩)
theorem q_ds0 : (parseMethodDescriptor "(LDocumentHouse$Room;)V").map (fun d => d.parameters.length) = some 1 := by decide +kernel
theorem q_ds1 : (parseMethodDescriptor "(ZZ)V").map (fun d => d.parameters.length) = some 2 := by decide +kernel
theorem q_ds2 : (parseMethodDescriptor "(LDocumentHouse$Index;LDocumentHouse$Shelf;)I").map (fun d => d.parameters.length) = some 2 := by decide +kernel
theorem q_ds3 : (parseMethodDescriptor "(I[II)Z").map (fun d => d.parameters.length) = some 3 := by decide +kernel
theorem q_ds4 : (parseMethodDescriptor "([III)Z").map (fun d => d.parameters.length) = some 3 := by decide +kernel
theorem q_ds5 : (parseMethodDescriptor "(I)Z").map (fun d => d.parameters.length) = some 1 := by decide +kernel
theorem q_ds6 : (parseMethodDescriptor "(ILDocumentHouse$Path;ZI)Z").map (fun d => d.parameters.length) = some 4 := by decide +kernel
theorem q_ds7 : (parseMethodDescriptor "(II)Z").map (fun d => d.parameters.length) = some 2 := by decide +kernel
theorem q_ds8 : (parseMethodDescriptor "(ILDocumentHouse$Path;I)V").map (fun d => d.parameters.length) = some 3 := by decide +kernel
theorem q_ds9 : (parseMethodDescriptor "(III)Z").map (fun d => d.parameters.length) = some 3 := by decide +kernel
theorem q_ds10 : (parseMethodDescriptor "(II)V").map (fun d => d.parameters.length) = some 2 := by decide +kernel
theorem q_ds11 : (parseMethodDescriptor "(IIIII)V").map (fun d => d.parameters.length) = some 5 := by decide +kernel
theorem q_ds12 : (parseMethodDescriptor "([II[II)V").map (fun d => d.parameters.length) = some 4 := by decide +kernel
theorem q_ds13 : (parseMethodDescriptor "([B)V").map (fun d => d.parameters.length) = some 1 := by decide +kernel
theorem q_ds14 : (parseMethodDescriptor "([BI)I").map (fun d => d.parameters.length) = some 2 := by decide +kernel
theorem q_ds15 : (parseMethodDescriptor "(I)V").map (fun d => d.parameters.length) = some 1 := by decide +kernel
theorem q_ds16 : (parseMethodDescriptor "(II)I").map (fun d => d.parameters.length) = some 2 := by decide +kernel
theorem q_ds17 : (parseMethodDescriptor "()I").map (fun d => d.parameters.length) = some 0 := by decide +kernel
theorem q_ds18 : (parseMethodDescriptor "(I)I").map (fun d => d.parameters.length) = some 1 := by decide +kernel
theorem q_ds19 : (parseMethodDescriptor "(III)I").map (fun d => d.parameters.length) = some 3 := by decide +kernel
theorem q_ds20 : (parseMethodDescriptor "([BI)Z").map (fun d => d.parameters.length) = some 2 := by decide +kernel
theorem q_ds21 : (parseMethodDescriptor "(IIII)Z").map (fun d => d.parameters.length) = some 4 := by decide +kernel
theorem q_ds22 : (parseMethodDescriptor "(JII)Z").map (fun d => d.parameters.length) = some 3 := by decide +kernel
theorem q_ds23 : (parseMethodDescriptor "(LDocumentHouse$Path;I)V").map (fun d => d.parameters.length) = some 2 := by decide +kernel
theorem q_ds24 : (parseMethodDescriptor "([II)Z").map (fun d => d.parameters.length) = some 2 := by decide +kernel
theorem q_ds25 : (parseMethodDescriptor "(LDocumentHouse$Path;I[II)I").map (fun d => d.parameters.length) = some 4 := by decide +kernel
theorem q_ds26 : (parseMethodDescriptor "([IIII)I").map (fun d => d.parameters.length) = some 4 := by decide +kernel
theorem q_ds27 : (parseMethodDescriptor "(LDocumentHouse$Shelf;[Z)V").map (fun d => d.parameters.length) = some 2 := by decide +kernel
theorem q_ds28 : (parseMethodDescriptor "([BII)V").map (fun d => d.parameters.length) = some 3 := by decide +kernel
theorem q_ds29 : (parseMethodDescriptor "(J)V").map (fun d => d.parameters.length) = some 1 := by decide +kernel
theorem q_ds30 : (parseMethodDescriptor "(ILjava/lang/String;)V").map (fun d => d.parameters.length) = some 2 := by decide +kernel
theorem q_ds31 : (parseMethodDescriptor "(I[BII)V").map (fun d => d.parameters.length) = some 4 := by decide +kernel
theorem q_ds32 : (parseMethodDescriptor "([BI)V").map (fun d => d.parameters.length) = some 2 := by decide +kernel
theorem q_ds33 : (parseMethodDescriptor "(Ljava/lang/String;I)V").map (fun d => d.parameters.length) = some 2 := by decide +kernel
theorem q_ds34 : (parseMethodDescriptor "(Ljava/lang/String;Z)V").map (fun d => d.parameters.length) = some 2 := by decide +kernel
theorem q_ds35 : (parseMethodDescriptor "()V").map (fun d => d.parameters.length) = some 0 := by decide +kernel
theorem q_ds36 : (parseMethodDescriptor "([BII)Z").map (fun d => d.parameters.length) = some 3 := by decide +kernel
theorem q_ds37 : (parseMethodDescriptor "(LDocumentHouse$Room;III)V").map (fun d => d.parameters.length) = some 4 := by decide +kernel
theorem q_ds38 : (parseMethodDescriptor "(IIII)I").map (fun d => d.parameters.length) = some 4 := by decide +kernel
theorem q_ds39 : (parseMethodDescriptor "(IIIII)I").map (fun d => d.parameters.length) = some 5 := by decide +kernel
theorem q_ds40 : (parseMethodDescriptor "([BI[BII)I").map (fun d => d.parameters.length) = some 5 := by decide +kernel
theorem q_ds41 : (parseMethodDescriptor "([BILjava/lang/String;)Z").map (fun d => d.parameters.length) = some 3 := by decide +kernel
theorem q_ds42 : (parseMethodDescriptor "([BI)J").map (fun d => d.parameters.length) = some 2 := by decide +kernel
theorem q_ds43 : (parseMethodDescriptor "([BII[BII)I").map (fun d => d.parameters.length) = some 6 := by decide +kernel
theorem q_ds44 : (parseMethodDescriptor "([BII)I").map (fun d => d.parameters.length) = some 3 := by decide +kernel
theorem q_ds45 : (parseMethodDescriptor "([BIII)Z").map (fun d => d.parameters.length) = some 4 := by decide +kernel
theorem q_ds46 : (parseMethodDescriptor "(LDocumentHouse$Room;I)V").map (fun d => d.parameters.length) = some 2 := by decide +kernel
theorem q_ds47 : (parseMethodDescriptor "([Z)V").map (fun d => d.parameters.length) = some 1 := by decide +kernel
theorem q_ds48 : (parseMethodDescriptor "([I)V").map (fun d => d.parameters.length) = some 1 := by decide +kernel
theorem q_ds49 : (parseMethodDescriptor "(LDocumentHouse$Shelf;LDocumentHouse$Shelf;)V").map (fun d => d.parameters.length) = some 2 := by decide +kernel
theorem q_ds50 : (parseMethodDescriptor "(LDocumentHouse$Filter;I)V").map (fun d => d.parameters.length) = some 2 := by decide +kernel
theorem q_ds51 : (parseMethodDescriptor "(III)V").map (fun d => d.parameters.length) = some 3 := by decide +kernel
theorem q_ds52 : (parseMethodDescriptor "(I)J").map (fun d => d.parameters.length) = some 1 := by decide +kernel
theorem q_ds53 : (parseMethodDescriptor "(IZ)V").map (fun d => d.parameters.length) = some 2 := by decide +kernel
theorem q_ds54 : (parseMethodDescriptor "(Z)I").map (fun d => d.parameters.length) = some 1 := by decide +kernel
theorem q_ds55 : (parseMethodDescriptor "(I[BIII)V").map (fun d => d.parameters.length) = some 5 := by decide +kernel
theorem q_ds56 : (parseMethodDescriptor "([BIII)V").map (fun d => d.parameters.length) = some 4 := by decide +kernel
theorem q_ds57 : (parseMethodDescriptor "()LDocumentHouse$Index;").map (fun d => d.parameters.length) = some 0 := by decide +kernel
theorem q_ds58 : (parseMethodDescriptor "(IILjava/lang/String;)Z").map (fun d => d.parameters.length) = some 3 := by decide +kernel
theorem q_ds59 : (parseMethodDescriptor "(ILjava/lang/String;)Z").map (fun d => d.parameters.length) = some 2 := by decide +kernel
theorem q_ds60 : (parseMethodDescriptor "(Ljava/lang/String;)V").map (fun d => d.parameters.length) = some 1 := by decide +kernel
theorem q_ds61 : (parseMethodDescriptor "(IIZI)Z").map (fun d => d.parameters.length) = some 4 := by decide +kernel
theorem q_ds62 : (parseMethodDescriptor "(IZI)Z").map (fun d => d.parameters.length) = some 3 := by decide +kernel
theorem q_ds63 : (parseMethodDescriptor "(IIZ)I").map (fun d => d.parameters.length) = some 3 := by decide +kernel
theorem q_ds64 : (parseMethodDescriptor "(IZ)I").map (fun d => d.parameters.length) = some 2 := by decide +kernel
theorem q_ds65 : (parseMethodDescriptor "(IIZ)V").map (fun d => d.parameters.length) = some 3 := by decide +kernel
theorem q_ds66 : (parseMethodDescriptor "(IIII)V").map (fun d => d.parameters.length) = some 4 := by decide +kernel
theorem q_ds67 : (parseMethodDescriptor "(IIIZ)V").map (fun d => d.parameters.length) = some 4 := by decide +kernel
theorem q_ds68 : (parseMethodDescriptor "(IZIZ)V").map (fun d => d.parameters.length) = some 4 := by decide +kernel
theorem q_ds69 : (parseMethodDescriptor "(IZ)Z").map (fun d => d.parameters.length) = some 2 := by decide +kernel
theorem q_ds70 : (parseMethodDescriptor "()Z").map (fun d => d.parameters.length) = some 0 := by decide +kernel
theorem q_ds71 : (parseMethodDescriptor "(I)C").map (fun d => d.parameters.length) = some 1 := by decide +kernel
theorem q_ds72 : (parseMethodDescriptor "()B").map (fun d => d.parameters.length) = some 0 := by decide +kernel
theorem q_ds73 : (parseMethodDescriptor "([BI)C").map (fun d => d.parameters.length) = some 2 := by decide +kernel
theorem q_ds74 : (parseMethodDescriptor "([BI)[B").map (fun d => d.parameters.length) = some 2 := by decide +kernel
theorem q_ds75 : (parseMethodDescriptor "([II)[I").map (fun d => d.parameters.length) = some 2 := by decide +kernel
theorem q_ds76 : (parseMethodDescriptor "(JJ)I").map (fun d => d.parameters.length) = some 2 := by decide +kernel
theorem q_cc0 : plainName RX0 = true ∧ RX0 = q_R 0 ∧ Cond.initialized RX0 ∈ lw_tbl ∧ RX0 ≠ "java/lang/invoke/MethodHandle" ∧ RX0 ≠ "java/lang/invoke/VarHandle" := ⟨by decide +kernel, rfl, q_lw1 (i := 9) rfl, by decide +kernel, by decide +kernel⟩
theorem q_cc1 : plainName RX1 = true ∧ RX1 = q_R 1 ∧ Cond.initialized RX1 ∈ lw_tbl ∧ RX1 ≠ "java/lang/invoke/MethodHandle" ∧ RX1 ≠ "java/lang/invoke/VarHandle" := ⟨by decide +kernel, rfl, q_lw1 (i := 7) rfl, by decide +kernel, by decide +kernel⟩
theorem q_cc2 : plainName RX2 = true ∧ RX2 = q_R 2 ∧ Cond.initialized RX2 ∈ lw_tbl ∧ RX2 ≠ "java/lang/invoke/MethodHandle" ∧ RX2 ≠ "java/lang/invoke/VarHandle" := ⟨by decide +kernel, rfl, q_lw1 (i := 5) rfl, by decide +kernel, by decide +kernel⟩
theorem q_cc3 : plainName RX3 = true ∧ RX3 = q_R 3 ∧ Cond.initialized RX3 ∈ lw_tbl ∧ RX3 ≠ "java/lang/invoke/MethodHandle" ∧ RX3 ≠ "java/lang/invoke/VarHandle" := ⟨by decide +kernel, rfl, q_lw1 (i := 11) rfl, by decide +kernel, by decide +kernel⟩
theorem q_cc4 : plainName RX4 = true ∧ RX4 = q_R 4 ∧ Cond.initialized RX4 ∈ lw_tbl ∧ RX4 ≠ "java/lang/invoke/MethodHandle" ∧ RX4 ≠ "java/lang/invoke/VarHandle" := ⟨by decide +kernel, rfl, q_lw1 (i := 3) rfl, by decide +kernel, by decide +kernel⟩
theorem q_cc5 : plainName RX5 = true ∧ RX5 = q_R 5 ∧ Cond.initialized RX5 ∈ lw_tbl ∧ RX5 ≠ "java/lang/invoke/MethodHandle" ∧ RX5 ≠ "java/lang/invoke/VarHandle" := ⟨by decide +kernel, rfl, q_lw1 (i := 6) rfl, by decide +kernel, by decide +kernel⟩
theorem q_cc6 : plainName RX6 = true ∧ RX6 = q_R 6 ∧ Cond.initialized RX6 ∈ lw_tbl ∧ RX6 ≠ "java/lang/invoke/MethodHandle" ∧ RX6 ≠ "java/lang/invoke/VarHandle" := ⟨by decide +kernel, rfl, q_lw1 (i := 4) rfl, by decide +kernel, by decide +kernel⟩
theorem q_cc7 : plainName RX7 = true ∧ RX7 = q_R 7 ∧ Cond.initialized RX7 ∈ lw_tbl ∧ RX7 ≠ "java/lang/invoke/MethodHandle" ∧ RX7 ≠ "java/lang/invoke/VarHandle" := ⟨by decide +kernel, rfl, q_lw1 (i := 2) rfl, by decide +kernel, by decide +kernel⟩
theorem q_cc8 : plainName RX8 = true ∧ RX8 = q_R 8 ∧ Cond.initialized RX8 ∈ lw_tbl ∧ RX8 ≠ "java/lang/invoke/MethodHandle" ∧ RX8 ≠ "java/lang/invoke/VarHandle" := ⟨by decide +kernel, rfl, q_lw1 (i := 10) rfl, by decide +kernel, by decide +kernel⟩
theorem q_cc9 : plainName RX9 = true ∧ RX9 = q_R 9 ∧ Cond.initialized RX9 ∈ lw_tbl ∧ RX9 ≠ "java/lang/invoke/MethodHandle" ∧ RX9 ≠ "java/lang/invoke/VarHandle" := ⟨by decide +kernel, rfl, q_lw1 (i := 8) rfl, by decide +kernel, by decide +kernel⟩
theorem q_cc10 : plainName RX10 = true ∧ RX10 = q_R 10 ∧ Cond.initialized RX10 ∈ lw_tbl ∧ RX10 ≠ "java/lang/invoke/MethodHandle" ∧ RX10 ≠ "java/lang/invoke/VarHandle" := ⟨by decide +kernel, rfl, q_lw1 (i := 12) rfl, by decide +kernel, by decide +kernel⟩
theorem q_cc11 : plainName RX11 = true ∧ RX11 = q_R 11 ∧ Cond.initialized RX11 ∈ lw_tbl ∧ RX11 ≠ "java/lang/invoke/MethodHandle" ∧ RX11 ≠ "java/lang/invoke/VarHandle" := ⟨by decide +kernel, rfl, q_lw1 (i := 1) rfl, by decide +kernel, by decide +kernel⟩
theorem q_cc12 : plainName RX12 = true ∧ RX12 = q_R 12 ∧ Cond.initialized RX12 ∈ lw_tbl ∧ RX12 ≠ "java/lang/invoke/MethodHandle" ∧ RX12 ≠ "java/lang/invoke/VarHandle" := ⟨by decide +kernel, rfl, q_lw1 (i := 13) rfl, by decide +kernel, by decide +kernel⟩
theorem q_cc14 : plainName RS0 = true ∧ RS0 = q_R 14 ∧ Cond.initialized RS0 ∈ lw_tbl ∧ RS0 ≠ "java/lang/invoke/MethodHandle" ∧ RS0 ≠ "java/lang/invoke/VarHandle" := ⟨by decide +kernel, rfl, q_lw1 (i := 16) rfl, by decide +kernel, by decide +kernel⟩
theorem q_cc15 : plainName RS1 = true ∧ RS1 = q_R 15 ∧ Cond.initialized RS1 ∈ lw_tbl ∧ RS1 ≠ "java/lang/invoke/MethodHandle" ∧ RS1 ≠ "java/lang/invoke/VarHandle" := ⟨by decide +kernel, rfl, q_lw1 (i := 17) rfl, by decide +kernel, by decide +kernel⟩
theorem q_cc16 : plainName RS2 = true ∧ RS2 = q_R 16 ∧ Cond.initialized RS2 ∈ lw_tbl ∧ RS2 ≠ "java/lang/invoke/MethodHandle" ∧ RS2 ≠ "java/lang/invoke/VarHandle" := ⟨by decide +kernel, rfl, q_lw1 (i := 21) rfl, by decide +kernel, by decide +kernel⟩
theorem q_cc17 : plainName RS3 = true ∧ RS3 = q_R 17 ∧ Cond.initialized RS3 ∈ lw_tbl ∧ RS3 ≠ "java/lang/invoke/MethodHandle" ∧ RS3 ≠ "java/lang/invoke/VarHandle" := ⟨by decide +kernel, rfl, q_lw1 (i := 15) rfl, by decide +kernel, by decide +kernel⟩
theorem q_cc18 : plainName RS4 = true ∧ RS4 = q_R 18 ∧ Cond.initialized RS4 ∈ lw_tbl ∧ RS4 ≠ "java/lang/invoke/MethodHandle" ∧ RS4 ≠ "java/lang/invoke/VarHandle" := ⟨by decide +kernel, rfl, q_lw1 (i := 20) rfl, by decide +kernel, by decide +kernel⟩
theorem q_m0 : q_mOK 0 := ⟨q_cc0.1, q_lw2 (i := 45) rfl, q_cc0.2.1, q_cc0.2.2.1, fun h => absurd h (by decide +kernel), fun _ => q_lw2 (i := 44) rfl, fun _ h => absurd h (by decide +kernel), fun _ => rfl, ⟨q_cc0.2.2.2.1, q_cc0.2.2.2.2, q_ds0⟩, by decide +kernel⟩
theorem q_m1 : q_mOK 1 := ⟨q_cc0.1, q_lw7 (i := 193) rfl, q_cc0.2.1, q_cc0.2.2.1, fun h => absurd h (by decide +kernel), fun _ => q_lw7 (i := 192) rfl, fun _ _ => q_lz11 (i := 8) (y := (yX0_rankBy, q_N 0)) rfl, fun h => absurd h (by decide +kernel), ⟨q_cc0.2.2.2.1, q_cc0.2.2.2.2, q_ds1⟩, by decide +kernel⟩
theorem q_m2 : q_mOK 2 := ⟨q_cc0.1, q_lw7 (i := 201) rfl, q_cc0.2.1, q_cc0.2.2.1, fun h => absurd h (by decide +kernel), fun _ => q_lw7 (i := 200) rfl, fun _ _ => q_lz11 (i := 10) (y := (yX0_looksAt, q_N 0)) rfl, fun h => absurd h (by decide +kernel), ⟨q_cc0.2.2.2.1, q_cc0.2.2.2.2, q_ds2⟩, by decide +kernel⟩
theorem q_m3 : q_mOK 3 := ⟨q_cc0.1, q_lw7 (i := 206) rfl, q_cc0.2.1, q_cc0.2.2.1, fun h => absurd h (by decide +kernel), fun _ => q_lw7 (i := 205) rfl, fun _ _ => q_lz11 (i := 11) (y := (yX0_someIn, q_N 0)) rfl, fun h => absurd h (by decide +kernel), ⟨q_cc0.2.2.2.1, q_cc0.2.2.2.2, q_ds3⟩, by decide +kernel⟩
theorem q_m4 : q_mOK 4 := ⟨q_cc0.1, q_lw7 (i := 210) rfl, q_cc0.2.1, q_cc0.2.2.1, fun h => absurd h (by decide +kernel), fun _ => q_lw7 (i := 209) rfl, fun _ _ => q_lz11 (i := 12) (y := (yX0_isIn, q_N 0)) rfl, fun h => absurd h (by decide +kernel), ⟨q_cc0.2.2.2.1, q_cc0.2.2.2.2, q_ds4⟩, by decide +kernel⟩
theorem q_m5 : q_mOK 5 := ⟨q_cc0.1, q_lw7 (i := 197) rfl, q_cc0.2.1, q_cc0.2.2.1, fun h => absurd h (by decide +kernel), fun _ => q_lw7 (i := 196) rfl, fun _ _ => q_lz11 (i := 9) (y := (yX0_isPoints, q_N 0)) rfl, fun h => absurd h (by decide +kernel), ⟨q_cc0.2.2.2.1, q_cc0.2.2.2.2, q_ds5⟩, by decide +kernel⟩
theorem q_m6 : q_mOK 6 := ⟨q_cc0.1, q_lw7 (i := 128) rfl, q_cc0.2.1, q_cc0.2.2.1, fun h => absurd h (by decide +kernel), fun _ => q_lw7 (i := 127) rfl, fun _ _ => q_lz10 (i := 12) (y := (yX0_bind, q_N 0)) rfl, fun h => absurd h (by decide +kernel), ⟨q_cc0.2.2.2.1, q_cc0.2.2.2.2, q_ds6⟩, by decide +kernel⟩
theorem q_m7 : q_mOK 7 := ⟨q_cc0.1, q_lw7 (i := 148) rfl, q_cc0.2.1, q_cc0.2.2.1, fun h => absurd h (by decide +kernel), fun _ => q_lw7 (i := 147) rfl, fun _ _ => q_lz10 (i := 15) (y := (yX0_bindSame, q_N 0)) rfl, fun h => absurd h (by decide +kernel), ⟨q_cc0.2.2.2.1, q_cc0.2.2.2.2, q_ds7⟩, by decide +kernel⟩
theorem q_m8 : q_mOK 8 := ⟨q_cc0.1, q_lw7 (i := 132) rfl, q_cc0.2.1, q_cc0.2.2.1, fun h => absurd h (by decide +kernel), fun _ => q_lw7 (i := 131) rfl, fun _ _ => q_lz10 (i := 13) (y := (yX0_collect, q_N 0)) rfl, fun h => absurd h (by decide +kernel), ⟨q_cc0.2.2.2.1, q_cc0.2.2.2.2, q_ds8⟩, by decide +kernel⟩
theorem q_m9 : q_mOK 9 := ⟨q_cc0.1, q_lw7 (i := 173) rfl, q_cc0.2.1, q_cc0.2.2.1, fun h => absurd h (by decide +kernel), fun _ => q_lw7 (i := 172) rfl, fun _ _ => q_lz11 (i := 4) (y := (yX0_bindElem, q_N 0)) rfl, fun h => absurd h (by decide +kernel), ⟨q_cc0.2.2.2.1, q_cc0.2.2.2.2, q_ds7⟩, by decide +kernel⟩
theorem q_m10 : q_mOK 10 := ⟨q_cc0.1, q_lw7 (i := 154) rfl, q_cc0.2.1, q_cc0.2.2.1, fun h => absurd h (by decide +kernel), fun _ => q_lw7 (i := 153) rfl, fun _ _ => q_lz11 (i := 0) (y := (yX0_bindOne, q_N 0)) rfl, fun h => absurd h (by decide +kernel), ⟨q_cc0.2.2.2.1, q_cc0.2.2.2.2, q_ds7⟩, by decide +kernel⟩
theorem q_m11 : q_mOK 11 := ⟨q_cc0.1, q_lw7 (i := 158) rfl, q_cc0.2.1, q_cc0.2.2.1, fun h => absurd h (by decide +kernel), fun _ => q_lw7 (i := 157) rfl, fun _ _ => q_lz11 (i := 1) (y := (yX0_bindSimple, q_N 0)) rfl, fun h => absurd h (by decide +kernel), ⟨q_cc0.2.2.2.1, q_cc0.2.2.2.2, q_ds9⟩, by decide +kernel⟩
theorem q_m12 : q_mOK 12 := ⟨q_cc0.1, q_lw7 (i := 162) rfl, q_cc0.2.1, q_cc0.2.2.1, fun h => absurd h (by decide +kernel), fun _ => q_lw7 (i := 161) rfl, fun _ _ => q_lz11 (i := 2) (y := (yX0_addPoint, q_N 0)) rfl, fun h => absurd h (by decide +kernel), ⟨q_cc0.2.2.2.1, q_cc0.2.2.2.2, q_ds10⟩, by decide +kernel⟩
theorem q_m13 : q_mOK 13 := ⟨q_cc0.1, q_lw7 (i := 167) rfl, q_cc0.2.1, q_cc0.2.2.1, fun h => absurd h (by decide +kernel), fun _ => q_lw7 (i := 166) rfl, fun _ _ => q_lz11 (i := 3) (y := (yX0_addTo, q_N 0)) rfl, fun h => absurd h (by decide +kernel), ⟨q_cc0.2.2.2.1, q_cc0.2.2.2.2, q_ds11⟩, by decide +kernel⟩
theorem q_m14 : q_mOK 14 := ⟨q_cc0.1, q_lw7 (i := 188) rfl, q_cc0.2.1, q_cc0.2.2.1, fun h => absurd h (by decide +kernel), fun _ => q_lw7 (i := 187) rfl, fun _ _ => q_lz11 (i := 7) (y := (yX0_copy, q_N 0)) rfl, fun h => absurd h (by decide +kernel), ⟨q_cc0.2.2.2.1, q_cc0.2.2.2.2, q_ds10⟩, by decide +kernel⟩
theorem q_m15 : q_mOK 15 := ⟨q_cc0.1, q_lw7 (i := 178) rfl, q_cc0.2.1, q_cc0.2.2.1, fun h => absurd h (by decide +kernel), fun _ => q_lw7 (i := 177) rfl, fun _ _ => q_lz11 (i := 5) (y := (yX0_meet, q_N 0)) rfl, fun h => absurd h (by decide +kernel), ⟨q_cc0.2.2.2.1, q_cc0.2.2.2.2, q_ds10⟩, by decide +kernel⟩
theorem q_m16 : q_mOK 16 := ⟨q_cc0.1, q_lw7 (i := 182) rfl, q_cc0.2.1, q_cc0.2.2.1, fun h => absurd h (by decide +kernel), fun _ => q_lw7 (i := 181) rfl, fun _ _ => q_lz11 (i := 6) (y := (yX0_meetOne, q_N 0)) rfl, fun h => absurd h (by decide +kernel), ⟨q_cc0.2.2.2.1, q_cc0.2.2.2.2, q_ds12⟩, by decide +kernel⟩
theorem q_m17 : q_mOK 17 := ⟨q_cc1.1, q_lw1 (i := 166) rfl, q_cc1.2.1, q_cc1.2.2.1, fun h => absurd h (by decide +kernel), fun _ => q_lw1 (i := 165) rfl, fun _ h => absurd h (by decide +kernel), fun _ => rfl, ⟨q_cc1.2.2.2.1, q_cc1.2.2.2.2, q_ds13⟩, by decide +kernel⟩
theorem q_m18 : q_mOK 18 := ⟨q_cc1.1, q_lw5 (i := 170) rfl, q_cc1.2.1, q_cc1.2.2.1, fun _ => q_lw5 (i := 169) rfl, fun h => absurd h (by decide +kernel), fun h => absurd h (by decide +kernel), fun h => absurd h (by decide +kernel), ⟨q_cc1.2.2.2.1, q_cc1.2.2.2.2, q_ds14⟩, by decide +kernel⟩
theorem q_m19 : q_mOK 19 := ⟨q_cc1.1, q_lw5 (i := 181) rfl, q_cc1.2.1, q_cc1.2.2.1, fun h => absurd h (by decide +kernel), fun _ => q_lw5 (i := 180) rfl, fun _ _ => q_lz5 (i := 14) (y := (yX1_fails, q_N 1)) rfl, fun h => absurd h (by decide +kernel), ⟨q_cc1.2.2.2.1, q_cc1.2.2.2.2, q_ds7⟩, by decide +kernel⟩
theorem q_m20 : q_mOK 20 := ⟨q_cc1.1, q_lw5 (i := 165) rfl, q_cc1.2.1, q_cc1.2.2.1, fun h => absurd h (by decide +kernel), fun _ => q_lw5 (i := 164) rfl, fun _ _ => q_lz5 (i := 13) (y := (yX1_isRight, q_N 1)) rfl, fun h => absurd h (by decide +kernel), ⟨q_cc1.2.2.2.1, q_cc1.2.2.2.2, q_ds5⟩, by decide +kernel⟩
theorem q_m21 : q_mOK 21 := ⟨q_cc1.1, q_lw5 (i := 187) rfl, q_cc1.2.1, q_cc1.2.2.1, fun h => absurd h (by decide +kernel), fun _ => q_lw5 (i := 186) rfl, fun _ _ => q_lz5 (i := 15) (y := (yX1_clashes, q_N 1)) rfl, fun h => absurd h (by decide +kernel), ⟨q_cc1.2.2.2.1, q_cc1.2.2.2.2, q_ds7⟩, by decide +kernel⟩
theorem q_m22 : q_mOK 22 := ⟨q_cc1.1, q_lw5 (i := 191) rfl, q_cc1.2.1, q_cc1.2.2.1, fun h => absurd h (by decide +kernel), fun _ => q_lw5 (i := 190) rfl, fun _ _ => q_lz6 (i := 0) (y := (yX1_oneBeginsOther, q_N 1)) rfl, fun h => absurd h (by decide +kernel), ⟨q_cc1.2.2.2.1, q_cc1.2.2.2.2, q_ds7⟩, by decide +kernel⟩
theorem q_m23 : q_mOK 23 := ⟨q_cc1.1, q_lw5 (i := 201) rfl, q_cc1.2.1, q_cc1.2.2.1, fun h => absurd h (by decide +kernel), fun _ => q_lw5 (i := 200) rfl, fun _ _ => q_lz6 (i := 1) (y := (yX1_does, q_N 1)) rfl, fun h => absurd h (by decide +kernel), ⟨q_cc1.2.2.2.1, q_cc1.2.2.2.2, q_ds7⟩, by decide +kernel⟩
theorem q_m24 : q_mOK 24 := ⟨q_cc1.1, q_lw5 (i := 220) rfl, q_cc1.2.1, q_cc1.2.2.1, fun h => absurd h (by decide +kernel), fun _ => q_lw5 (i := 219) rfl, fun _ _ => q_lz6 (i := 5) (y := (yX1_splice, q_N 1)) rfl, fun h => absurd h (by decide +kernel), ⟨q_cc1.2.2.2.1, q_cc1.2.2.2.2, q_ds9⟩, by decide +kernel⟩
theorem q_m25 : q_mOK 25 := ⟨q_cc1.1, q_lw5 (i := 211) rfl, q_cc1.2.1, q_cc1.2.2.1, fun h => absurd h (by decide +kernel), fun _ => q_lw5 (i := 210) rfl, fun _ _ => q_lz6 (i := 3) (y := (yX1_link, q_N 1)) rfl, fun h => absurd h (by decide +kernel), ⟨q_cc1.2.2.2.1, q_cc1.2.2.2.2, q_ds15⟩, by decide +kernel⟩
theorem q_m26 : q_mOK 26 := ⟨q_cc1.1, q_lw5 (i := 239) rfl, q_cc1.2.1, q_cc1.2.2.1, fun h => absurd h (by decide +kernel), fun _ => q_lw5 (i := 238) rfl, fun _ _ => q_lz6 (i := 7) (y := (yX1_makes, q_N 1)) rfl, fun h => absurd h (by decide +kernel), ⟨q_cc1.2.2.2.1, q_cc1.2.2.2.2, q_ds16⟩, by decide +kernel⟩
theorem q_m27 : q_mOK 27 := ⟨q_cc1.1, q_lw6 (i := 8) rfl, q_cc1.2.1, q_cc1.2.2.1, fun h => absurd h (by decide +kernel), fun _ => q_lw6 (i := 7) rfl, fun _ _ => q_lz6 (i := 9) (y := (yX1_behindOthers, q_N 1)) rfl, fun h => absurd h (by decide +kernel), ⟨q_cc1.2.2.2.1, q_cc1.2.2.2.2, q_ds17⟩, by decide +kernel⟩
theorem q_m28 : q_mOK 28 := ⟨q_cc1.1, q_lw6 (i := 37) rfl, q_cc1.2.1, q_cc1.2.2.1, fun h => absurd h (by decide +kernel), fun _ => q_lw6 (i := 36) rfl, fun _ _ => q_lz6 (i := 15) (y := (yX1_makeDocument, q_N 1)) rfl, fun h => absurd h (by decide +kernel), ⟨q_cc1.2.2.2.1, q_cc1.2.2.2.2, q_ds18⟩, by decide +kernel⟩
theorem q_m29 : q_mOK 29 := ⟨q_cc1.1, q_lw6 (i := 4) rfl, q_cc1.2.1, q_cc1.2.2.1, fun h => absurd h (by decide +kernel), fun _ => q_lw6 (i := 3) rfl, fun _ _ => q_lz6 (i := 8) (y := (yX1_comesFree, q_N 1)) rfl, fun h => absurd h (by decide +kernel), ⟨q_cc1.2.2.2.1, q_cc1.2.2.2.2, q_ds19⟩, by decide +kernel⟩
theorem q_m30 : q_mOK 30 := ⟨q_cc1.1, q_lw6 (i := 19) rfl, q_cc1.2.1, q_cc1.2.2.1, fun h => absurd h (by decide +kernel), fun _ => q_lw6 (i := 18) rfl, fun _ _ => q_lz6 (i := 11) (y := (yX1_comesTo, q_N 1)) rfl, fun h => absurd h (by decide +kernel), ⟨q_cc1.2.2.2.1, q_cc1.2.2.2.2, q_ds19⟩, by decide +kernel⟩
theorem q_m31 : q_mOK 31 := ⟨q_cc1.1, q_lw5 (i := 234) rfl, q_cc1.2.1, q_cc1.2.2.1, fun _ => q_lw5 (i := 233) rfl, fun h => absurd h (by decide +kernel), fun h => absurd h (by decide +kernel), fun h => absurd h (by decide +kernel), ⟨q_cc1.2.2.2.1, q_cc1.2.2.2.2, q_ds18⟩, by decide +kernel⟩
theorem q_m32 : q_mOK 32 := ⟨q_cc1.1, q_lw6 (i := 23) rfl, q_cc1.2.1, q_cc1.2.2.1, fun h => absurd h (by decide +kernel), fun _ => q_lw6 (i := 22) rfl, fun _ _ => q_lz6 (i := 12) (y := (yX1_replace, q_N 1)) rfl, fun h => absurd h (by decide +kernel), ⟨q_cc1.2.2.2.1, q_cc1.2.2.2.2, q_ds16⟩, by decide +kernel⟩
theorem q_m33 : q_mOK 33 := ⟨q_cc1.1, q_lw6 (i := 27) rfl, q_cc1.2.1, q_cc1.2.2.1, fun h => absurd h (by decide +kernel), fun _ => q_lw6 (i := 26) rfl, fun _ _ => q_lz6 (i := 13) (y := (yX1_add, q_N 1)) rfl, fun h => absurd h (by decide +kernel), ⟨q_cc1.2.2.2.1, q_cc1.2.2.2.2, q_ds16⟩, by decide +kernel⟩
theorem q_m34 : q_mOK 34 := ⟨q_cc1.1, q_lw5 (i := 207) rfl, q_cc1.2.1, q_cc1.2.2.1, fun h => absurd h (by decide +kernel), fun _ => q_lw5 (i := 206) rfl, fun _ _ => q_lz6 (i := 2) (y := (yX1_takes, q_N 1)) rfl, fun h => absurd h (by decide +kernel), ⟨q_cc1.2.2.2.1, q_cc1.2.2.2.2, q_ds16⟩, by decide +kernel⟩
theorem q_m35 : q_mOK 35 := ⟨q_cc1.1, q_lw5 (i := 216) rfl, q_cc1.2.1, q_cc1.2.2.1, fun h => absurd h (by decide +kernel), fun _ => q_lw5 (i := 215) rfl, fun _ _ => q_lz6 (i := 4) (y := (yX1_unset, q_N 1)) rfl, fun h => absurd h (by decide +kernel), ⟨q_cc1.2.2.2.1, q_cc1.2.2.2.2, q_ds15⟩, by decide +kernel⟩
theorem q_m36 : q_mOK 36 := ⟨q_cc1.1, q_lw5 (i := 228) rfl, q_cc1.2.1, q_cc1.2.2.1, fun h => absurd h (by decide +kernel), fun _ => q_lw5 (i := 227) rfl, fun _ _ => q_lz6 (i := 6) (y := (yX1_pull, q_N 1)) rfl, fun h => absurd h (by decide +kernel), ⟨q_cc1.2.2.2.1, q_cc1.2.2.2.2, q_ds16⟩, by decide +kernel⟩
theorem q_m37 : q_mOK 37 := ⟨q_cc2.1, q_lw1 (i := 107) rfl, q_cc2.2.1, q_cc2.2.2.1, fun h => absurd h (by decide +kernel), fun _ => q_lw1 (i := 106) rfl, fun _ h => absurd h (by decide +kernel), fun _ => rfl, ⟨q_cc2.2.2.2.1, q_cc2.2.2.2.2, q_ds0⟩, by decide +kernel⟩
theorem q_m38 : q_mOK 38 := ⟨q_cc2.1, q_lw5 (i := 41) rfl, q_cc2.2.1, q_cc2.2.2.1, fun _ => q_lw5 (i := 40) rfl, fun h => absurd h (by decide +kernel), fun h => absurd h (by decide +kernel), fun h => absurd h (by decide +kernel), ⟨q_cc2.2.2.2.1, q_cc2.2.2.2.2, q_ds14⟩, by decide +kernel⟩
theorem q_m39 : q_mOK 39 := ⟨q_cc2.1, q_lw5 (i := 10) rfl, q_cc2.2.1, q_cc2.2.2.1, fun _ => q_lw5 (i := 9) rfl, fun h => absurd h (by decide +kernel), fun h => absurd h (by decide +kernel), fun h => absurd h (by decide +kernel), ⟨q_cc2.2.2.2.1, q_cc2.2.2.2.2, q_ds20⟩, by decide +kernel⟩
theorem q_m40 : q_mOK 40 := ⟨q_cc2.1, q_lw5 (i := 30) rfl, q_cc2.2.1, q_cc2.2.2.1, fun _ => q_lw5 (i := 29) rfl, fun h => absurd h (by decide +kernel), fun h => absurd h (by decide +kernel), fun h => absurd h (by decide +kernel), ⟨q_cc2.2.2.2.1, q_cc2.2.2.2.2, q_ds20⟩, by decide +kernel⟩
theorem q_m41 : q_mOK 41 := ⟨q_cc2.1, q_lw5 (i := 62) rfl, q_cc2.2.1, q_cc2.2.2.1, fun _ => q_lw5 (i := 61) rfl, fun h => absurd h (by decide +kernel), fun h => absurd h (by decide +kernel), fun h => absurd h (by decide +kernel), ⟨q_cc2.2.2.2.1, q_cc2.2.2.2.2, q_ds20⟩, by decide +kernel⟩
theorem q_m42 : q_mOK 42 := ⟨q_cc2.1, q_lw4 (i := 230) rfl, q_cc2.2.1, q_cc2.2.2.1, fun h => absurd h (by decide +kernel), fun _ => q_lw4 (i := 229) rfl, fun _ _ => q_lz3 (i := 15) (y := (yX2_isRight, q_N 2)) rfl, fun h => absurd h (by decide +kernel), ⟨q_cc2.2.2.2.1, q_cc2.2.2.2.2, q_ds5⟩, by decide +kernel⟩
theorem q_m43 : q_mOK 43 := ⟨q_cc2.1, q_lw5 (i := 18) rfl, q_cc2.2.1, q_cc2.2.2.1, fun h => absurd h (by decide +kernel), fun _ => q_lw5 (i := 17) rfl, fun _ _ => q_lz4 (i := 3) (y := (yX2_fails, q_N 2)) rfl, fun h => absurd h (by decide +kernel), ⟨q_cc2.2.2.2.1, q_cc2.2.2.2.2, q_ds7⟩, by decide +kernel⟩
theorem q_m44 : q_mOK 44 := ⟨q_cc2.1, q_lw5 (i := 22) rfl, q_cc2.2.1, q_cc2.2.2.1, fun h => absurd h (by decide +kernel), fun _ => q_lw5 (i := 21) rfl, fun _ _ => q_lz4 (i := 4) (y := (yX2_counts, q_N 2)) rfl, fun h => absurd h (by decide +kernel), ⟨q_cc2.2.2.2.1, q_cc2.2.2.2.2, q_ds7⟩, by decide +kernel⟩
theorem q_m45 : q_mOK 45 := ⟨q_cc2.1, q_lw4 (i := 234) rfl, q_cc2.2.1, q_cc2.2.2.1, fun h => absurd h (by decide +kernel), fun _ => q_lw4 (i := 233) rfl, fun _ _ => q_lz4 (i := 0) (y := (yX2_filterIsRight, q_N 2)) rfl, fun h => absurd h (by decide +kernel), ⟨q_cc2.2.2.2.1, q_cc2.2.2.2.2, q_ds7⟩, by decide +kernel⟩
theorem q_m46 : q_mOK 46 := ⟨q_cc2.1, q_lw5 (i := 0) rfl, q_cc2.2.1, q_cc2.2.2.1, fun h => absurd h (by decide +kernel), fun _ => q_lw4 (i := 239) rfl, fun _ _ => q_lz4 (i := 1) (y := (yX2_elementIsRight, q_N 2)) rfl, fun h => absurd h (by decide +kernel), ⟨q_cc2.2.2.2.1, q_cc2.2.2.2.2, q_ds7⟩, by decide +kernel⟩
theorem q_m47 : q_mOK 47 := ⟨q_cc2.1, q_lw5 (i := 7) rfl, q_cc2.2.1, q_cc2.2.2.1, fun h => absurd h (by decide +kernel), fun _ => q_lw5 (i := 6) rfl, fun _ _ => q_lz4 (i := 2) (y := (yX2_logicIsRight, q_N 2)) rfl, fun h => absurd h (by decide +kernel), ⟨q_cc2.2.2.2.1, q_cc2.2.2.2.2, q_ds7⟩, by decide +kernel⟩
theorem q_m48 : q_mOK 48 := ⟨q_cc2.1, q_lw5 (i := 34) rfl, q_cc2.2.1, q_cc2.2.2.1, fun h => absurd h (by decide +kernel), fun _ => q_lw5 (i := 33) rfl, fun _ _ => q_lz4 (i := 6) (y := (yX2_conditionsAreRight, q_N 2)) rfl, fun h => absurd h (by decide +kernel), ⟨q_cc2.2.2.2.1, q_cc2.2.2.2.2, q_ds7⟩, by decide +kernel⟩
theorem q_m49 : q_mOK 49 := ⟨q_cc2.1, q_lw5 (i := 38) rfl, q_cc2.2.1, q_cc2.2.2.1, fun h => absurd h (by decide +kernel), fun _ => q_lw5 (i := 37) rfl, fun _ _ => q_lz4 (i := 7) (y := (yX2_conditionIsRight, q_N 2)) rfl, fun h => absurd h (by decide +kernel), ⟨q_cc2.2.2.2.1, q_cc2.2.2.2.2, q_ds7⟩, by decide +kernel⟩
theorem q_m50 : q_mOK 50 := ⟨q_cc2.1, q_lw5 (i := 57) rfl, q_cc2.2.1, q_cc2.2.2.1, fun h => absurd h (by decide +kernel), fun _ => q_lw5 (i := 56) rfl, fun _ _ => q_lz4 (i := 8) (y := (yX2_valueIsRight, q_N 2)) rfl, fun h => absurd h (by decide +kernel), ⟨q_cc2.2.2.2.1, q_cc2.2.2.2.2, q_ds7⟩, by decide +kernel⟩
theorem q_m51 : q_mOK 51 := ⟨q_cc2.1, q_lw5 (i := 66) rfl, q_cc2.2.1, q_cc2.2.2.1, fun h => absurd h (by decide +kernel), fun _ => q_lw5 (i := 65) rfl, fun _ _ => q_lz4 (i := 9) (y := (yX2_holds, q_N 2)) rfl, fun h => absurd h (by decide +kernel), ⟨q_cc2.2.2.2.1, q_cc2.2.2.2.2, q_ds9⟩, by decide +kernel⟩
theorem q_m52 : q_mOK 52 := ⟨q_cc2.1, q_lw5 (i := 70) rfl, q_cc2.2.1, q_cc2.2.2.1, fun h => absurd h (by decide +kernel), fun _ => q_lw5 (i := 69) rfl, fun _ _ => q_lz4 (i := 10) (y := (yX2_elementHolds, q_N 2)) rfl, fun h => absurd h (by decide +kernel), ⟨q_cc2.2.2.2.1, q_cc2.2.2.2.2, q_ds9⟩, by decide +kernel⟩
theorem q_m53 : q_mOK 53 := ⟨q_cc2.1, q_lw5 (i := 74) rfl, q_cc2.2.1, q_cc2.2.2.1, fun h => absurd h (by decide +kernel), fun _ => q_lw5 (i := 73) rfl, fun _ _ => q_lz4 (i := 11) (y := (yX2_logicHolds, q_N 2)) rfl, fun h => absurd h (by decide +kernel), ⟨q_cc2.2.2.2.1, q_cc2.2.2.2.2, q_ds9⟩, by decide +kernel⟩
theorem q_m54 : q_mOK 54 := ⟨q_cc2.1, q_lw5 (i := 81) rfl, q_cc2.2.1, q_cc2.2.2.1, fun h => absurd h (by decide +kernel), fun _ => q_lw5 (i := 80) rfl, fun _ _ => q_lz4 (i := 12) (y := (yX2_conditionsHold, q_N 2)) rfl, fun h => absurd h (by decide +kernel), ⟨q_cc2.2.2.2.1, q_cc2.2.2.2.2, q_ds21⟩, by decide +kernel⟩
theorem q_m55 : q_mOK 55 := ⟨q_cc2.1, q_lw5 (i := 85) rfl, q_cc2.2.1, q_cc2.2.2.1, fun h => absurd h (by decide +kernel), fun _ => q_lw5 (i := 84) rfl, fun _ _ => q_lz4 (i := 13) (y := (yX2_conditionHolds, q_N 2)) rfl, fun h => absurd h (by decide +kernel), ⟨q_cc2.2.2.2.1, q_cc2.2.2.2.2, q_ds21⟩, by decide +kernel⟩
theorem q_m56 : q_mOK 56 := ⟨q_cc2.1, q_lw5 (i := 89) rfl, q_cc2.2.1, q_cc2.2.2.1, fun h => absurd h (by decide +kernel), fun _ => q_lw5 (i := 88) rfl, fun _ _ => q_lz4 (i := 14) (y := (yX2_someIs, q_N 2)) rfl, fun h => absurd h (by decide +kernel), ⟨q_cc2.2.2.2.1, q_cc2.2.2.2.2, q_ds9⟩, by decide +kernel⟩
theorem q_m57 : q_mOK 57 := ⟨q_cc2.1, q_lw5 (i := 96) rfl, q_cc2.2.1, q_cc2.2.2.1, fun h => absurd h (by decide +kernel), fun _ => q_lw5 (i := 95) rfl, fun _ _ => q_lz4 (i := 15) (y := (yX2_someIsIn, q_N 2)) rfl, fun h => absurd h (by decide +kernel), ⟨q_cc2.2.2.2.1, q_cc2.2.2.2.2, q_ds9⟩, by decide +kernel⟩
theorem q_m58 : q_mOK 58 := ⟨q_cc2.1, q_lw5 (i := 120) rfl, q_cc2.2.1, q_cc2.2.2.1, fun h => absurd h (by decide +kernel), fun _ => q_lw5 (i := 119) rfl, fun _ _ => q_lz5 (i := 4) (y := (yX2_someIsSo, q_N 2)) rfl, fun h => absurd h (by decide +kernel), ⟨q_cc2.2.2.2.1, q_cc2.2.2.2.2, q_ds21⟩, by decide +kernel⟩
theorem q_m59 : q_mOK 59 := ⟨q_cc2.1, q_lw5 (i := 124) rfl, q_cc2.2.1, q_cc2.2.2.1, fun h => absurd h (by decide +kernel), fun _ => q_lw5 (i := 123) rfl, fun _ _ => q_lz5 (i := 5) (y := (yX2_isSo, q_N 2)) rfl, fun h => absurd h (by decide +kernel), ⟨q_cc2.2.2.2.1, q_cc2.2.2.2.2, q_ds9⟩, by decide +kernel⟩
theorem q_m60 : q_mOK 60 := ⟨q_cc2.1, q_lw5 (i := 100) rfl, q_cc2.2.1, q_cc2.2.2.1, fun h => absurd h (by decide +kernel), fun _ => q_lw5 (i := 99) rfl, fun _ _ => q_lz5 (i := 0) (y := (yX2_someExists, q_N 2)) rfl, fun h => absurd h (by decide +kernel), ⟨q_cc2.2.2.2.1, q_cc2.2.2.2.2, q_ds7⟩, by decide +kernel⟩
theorem q_m61 : q_mOK 61 := ⟨q_cc2.1, q_lw5 (i := 107) rfl, q_cc2.2.1, q_cc2.2.2.1, fun h => absurd h (by decide +kernel), fun _ => q_lw5 (i := 106) rfl, fun _ _ => q_lz5 (i := 1) (y := (yX2_someCounts, q_N 2)) rfl, fun h => absurd h (by decide +kernel), ⟨q_cc2.2.2.2.1, q_cc2.2.2.2.2, q_ds22⟩, by decide +kernel⟩
theorem q_m62 : q_mOK 62 := ⟨q_cc2.1, q_lw5 (i := 112) rfl, q_cc2.2.1, q_cc2.2.2.1, fun h => absurd h (by decide +kernel), fun _ => q_lw5 (i := 111) rfl, fun _ _ => q_lz5 (i := 2) (y := (yX2_someHasItem, q_N 2)) rfl, fun h => absurd h (by decide +kernel), ⟨q_cc2.2.2.2.1, q_cc2.2.2.2.2, q_ds21⟩, by decide +kernel⟩
theorem q_m63 : q_mOK 63 := ⟨q_cc2.1, q_lw5 (i := 116) rfl, q_cc2.2.1, q_cc2.2.2.1, fun h => absurd h (by decide +kernel), fun _ => q_lw5 (i := 115) rfl, fun _ _ => q_lz5 (i := 3) (y := (yX2_conditionsHoldForItem, q_N 2)) rfl, fun h => absurd h (by decide +kernel), ⟨q_cc2.2.2.2.1, q_cc2.2.2.2.2, q_ds9⟩, by decide +kernel⟩
theorem q_m64 : q_mOK 64 := ⟨q_cc3.1, q_lw2 (i := 86) rfl, q_cc3.2.1, q_cc3.2.2.1, fun h => absurd h (by decide +kernel), fun _ => q_lw2 (i := 85) rfl, fun _ h => absurd h (by decide +kernel), fun _ => rfl, ⟨q_cc3.2.2.2.1, q_cc3.2.2.2.2, q_ds0⟩, by decide +kernel⟩
theorem q_m65 : q_mOK 65 := ⟨q_cc3.1, q_lw6 (i := 113) rfl, q_cc3.2.1, q_cc3.2.2.1, fun h => absurd h (by decide +kernel), fun _ => q_lw6 (i := 112) rfl, fun _ _ => q_lz7 (i := 15) (y := (yX3_prepare, q_N 3)) rfl, fun h => absurd h (by decide +kernel), ⟨q_cc3.2.2.2.1, q_cc3.2.2.2.2, q_ds10⟩, by decide +kernel⟩
theorem q_m66 : q_mOK 66 := ⟨q_cc3.1, q_lw6 (i := 117) rfl, q_cc3.2.1, q_cc3.2.2.1, fun h => absurd h (by decide +kernel), fun _ => q_lw6 (i := 116) rfl, fun _ _ => q_lz8 (i := 0) (y := (yX3_takePath, q_N 3)) rfl, fun h => absurd h (by decide +kernel), ⟨q_cc3.2.2.2.1, q_cc3.2.2.2.2, q_ds23⟩, by decide +kernel⟩
theorem q_m67 : q_mOK 67 := ⟨q_cc3.1, q_lw6 (i := 51) rfl, q_cc3.2.1, q_cc3.2.2.1, fun h => absurd h (by decide +kernel), fun _ => q_lw6 (i := 50) rfl, fun _ _ => q_lz7 (i := 0) (y := (yX3_fitsAll, q_N 3)) rfl, fun h => absurd h (by decide +kernel), ⟨q_cc3.2.2.2.1, q_cc3.2.2.2.2, q_ds24⟩, by decide +kernel⟩
theorem q_m68 : q_mOK 68 := ⟨q_cc3.1, q_lw4 (i := 85) rfl, q_cc3.2.1, q_cc3.2.2.1, fun h => absurd h (by decide +kernel), fun _ => q_lw4 (i := 84) rfl, fun _ _ => q_lz2 (i := 8) (y := (yX3_fitsAnother, q_N 3)) rfl, fun h => absurd h (by decide +kernel), ⟨q_cc3.2.2.2.1, q_cc3.2.2.2.2, q_ds5⟩, by decide +kernel⟩
theorem q_m69 : q_mOK 69 := ⟨q_cc3.1, q_lw4 (i := 89) rfl, q_cc3.2.1, q_cc3.2.2.1, fun h => absurd h (by decide +kernel), fun _ => q_lw4 (i := 88) rfl, fun _ _ => q_lz2 (i := 9) (y := (yX3_entriesOf, q_N 3)) rfl, fun h => absurd h (by decide +kernel), ⟨q_cc3.2.2.2.1, q_cc3.2.2.2.2, q_ds18⟩, by decide +kernel⟩
theorem q_m70 : q_mOK 70 := ⟨q_cc3.1, q_lw4 (i := 93) rfl, q_cc3.2.1, q_cc3.2.2.1, fun h => absurd h (by decide +kernel), fun _ => q_lw4 (i := 92) rfl, fun _ _ => q_lz2 (i := 10) (y := (yX3_keysOf, q_N 3)) rfl, fun h => absurd h (by decide +kernel), ⟨q_cc3.2.2.2.1, q_cc3.2.2.2.2, q_ds25⟩, by decide +kernel⟩
theorem q_m71 : q_mOK 71 := ⟨q_cc3.1, q_lw4 (i := 127) rfl, q_cc3.2.1, q_cc3.2.2.1, fun h => absurd h (by decide +kernel), fun _ => q_lw4 (i := 126) rfl, fun _ _ => q_lz2 (i := 13) (y := (yX3_addKey, q_N 3)) rfl, fun h => absurd h (by decide +kernel), ⟨q_cc3.2.2.2.1, q_cc3.2.2.2.2, q_ds26⟩, by decide +kernel⟩
theorem q_m72 : q_mOK 72 := ⟨q_cc3.1, q_lw4 (i := 151) rfl, q_cc3.2.1, q_cc3.2.2.1, fun h => absurd h (by decide +kernel), fun _ => q_lw4 (i := 150) rfl, fun _ _ => q_lz3 (i := 0) (y := (yX3_takesIn, q_N 3)) rfl, fun h => absurd h (by decide +kernel), ⟨q_cc3.2.2.2.1, q_cc3.2.2.2.2, q_ds27⟩, by decide +kernel⟩
theorem q_m73 : q_mOK 73 := ⟨q_cc3.1, q_lw6 (i := 55) rfl, q_cc3.2.1, q_cc3.2.2.1, fun h => absurd h (by decide +kernel), fun _ => q_lw6 (i := 54) rfl, fun _ _ => q_lz7 (i := 1) (y := (yX3_takesOut, q_N 3)) rfl, fun h => absurd h (by decide +kernel), ⟨q_cc3.2.2.2.1, q_cc3.2.2.2.2, q_ds27⟩, by decide +kernel⟩
theorem q_m74 : q_mOK 74 := ⟨q_cc4.1, q_lw1 (i := 65) rfl, q_cc4.2.1, q_cc4.2.2.1, fun h => absurd h (by decide +kernel), fun _ => q_lw1 (i := 64) rfl, fun _ h => absurd h (by decide +kernel), fun _ => rfl, ⟨q_cc4.2.2.2.1, q_cc4.2.2.2.2, q_ds28⟩, by decide +kernel⟩
theorem q_m75 : q_mOK 75 := ⟨q_cc4.1, q_lw3 (i := 94) rfl, q_cc4.2.1, q_cc4.2.2.1, fun h => absurd h (by decide +kernel), fun _ => q_lw3 (i := 93) rfl, fun _ _ => q_lz1 (i := 1) (y := (yX4_start, q_N 4)) rfl, fun h => absurd h (by decide +kernel), ⟨q_cc4.2.2.2.1, q_cc4.2.2.2.2, q_ds10⟩, by decide +kernel⟩
theorem q_m76 : q_mOK 76 := ⟨q_cc4.1, q_lw4 (i := 216) rfl, q_cc4.2.1, q_cc4.2.2.1, fun h => absurd h (by decide +kernel), fun _ => q_lw4 (i := 215) rfl, fun _ _ => q_lz3 (i := 12) (y := (yX4_put, q_N 4)) rfl, fun h => absurd h (by decide +kernel), ⟨q_cc4.2.2.2.1, q_cc4.2.2.2.2, q_ds15⟩, by decide +kernel⟩
theorem q_m77 : q_mOK 77 := ⟨q_cc4.1, q_lw3 (i := 108) rfl, q_cc4.2.1, q_cc4.2.2.1, fun h => absurd h (by decide +kernel), fun _ => q_lw3 (i := 107) rfl, fun _ _ => q_lz1 (i := 3) (y := (yX4_put4, q_N 4)) rfl, fun h => absurd h (by decide +kernel), ⟨q_cc4.2.2.2.1, q_cc4.2.2.2.2, q_ds15⟩, by decide +kernel⟩
theorem q_m78 : q_mOK 78 := ⟨q_cc4.1, q_lw6 (i := 33) rfl, q_cc4.2.1, q_cc4.2.2.1, fun h => absurd h (by decide +kernel), fun _ => q_lw6 (i := 32) rfl, fun _ _ => q_lz6 (i := 14) (y := (yX4_put8, q_N 4)) rfl, fun h => absurd h (by decide +kernel), ⟨q_cc4.2.2.2.1, q_cc4.2.2.2.2, q_ds29⟩, by decide +kernel⟩
theorem q_m79 : q_mOK 79 := ⟨q_cc4.1, q_lw5 (i := 153) rfl, q_cc4.2.1, q_cc4.2.2.1, fun h => absurd h (by decide +kernel), fun _ => q_lw5 (i := 152) rfl, fun _ _ => q_lz5 (i := 10) (y := (yX4_patch, q_N 4)) rfl, fun h => absurd h (by decide +kernel), ⟨q_cc4.2.2.2.1, q_cc4.2.2.2.2, q_ds10⟩, by decide +kernel⟩
theorem q_m80 : q_mOK 80 := ⟨q_cc4.1, q_lw5 (i := 144) rfl, q_cc4.2.1, q_cc4.2.2.1, fun h => absurd h (by decide +kernel), fun _ => q_lw5 (i := 143) rfl, fun _ _ => q_lz5 (i := 8) (y := (yX4_copy, q_N 4)) rfl, fun h => absurd h (by decide +kernel), ⟨q_cc4.2.2.2.1, q_cc4.2.2.2.2, q_ds28⟩, by decide +kernel⟩
theorem q_m81 : q_mOK 81 := ⟨q_cc4.1, q_lw4 (i := 212) rfl, q_cc4.2.1, q_cc4.2.2.1, fun h => absurd h (by decide +kernel), fun _ => q_lw4 (i := 211) rfl, fun _ _ => q_lz3 (i := 11) (y := (yX4_head, q_N 4)) rfl, fun h => absurd h (by decide +kernel), ⟨q_cc4.2.2.2.1, q_cc4.2.2.2.2, q_ds30⟩, by decide +kernel⟩
theorem q_m82 : q_mOK 82 := ⟨q_cc4.1, q_lw6 (i := 12) rfl, q_cc4.2.1, q_cc4.2.2.1, fun h => absurd h (by decide +kernel), fun _ => q_lw6 (i := 11) rfl, fun _ _ => q_lz6 (i := 10) (y := (yX4_headOf, q_N 4)) rfl, fun h => absurd h (by decide +kernel), ⟨q_cc4.2.2.2.1, q_cc4.2.2.2.2, q_ds31⟩, by decide +kernel⟩
theorem q_m83 : q_mOK 83 := ⟨q_cc4.1, q_lw5 (i := 132) rfl, q_cc4.2.1, q_cc4.2.2.1, fun h => absurd h (by decide +kernel), fun _ => q_lw5 (i := 131) rfl, fun _ _ => q_lz5 (i := 6) (y := (yX4_item, q_N 4)) rfl, fun h => absurd h (by decide +kernel), ⟨q_cc4.2.2.2.1, q_cc4.2.2.2.2, q_ds10⟩, by decide +kernel⟩
theorem q_m84 : q_mOK 84 := ⟨q_cc4.1, q_lw5 (i := 138) rfl, q_cc4.2.1, q_cc4.2.2.1, fun h => absurd h (by decide +kernel), fun _ => q_lw5 (i := 137) rfl, fun _ _ => q_lz5 (i := 7) (y := (yX4_value, q_N 4)) rfl, fun h => absurd h (by decide +kernel), ⟨q_cc4.2.2.2.1, q_cc4.2.2.2.2, q_ds32⟩, by decide +kernel⟩
theorem q_m85 : q_mOK 85 := ⟨q_cc4.1, q_lw3 (i := 104) rfl, q_cc4.2.1, q_cc4.2.2.1, fun h => absurd h (by decide +kernel), fun _ => q_lw3 (i := 103) rfl, fun _ _ => q_lz1 (i := 2) (y := (yX4_open, q_N 4)) rfl, fun h => absurd h (by decide +kernel), ⟨q_cc4.2.2.2.1, q_cc4.2.2.2.2, q_ds17⟩, by decide +kernel⟩
theorem q_m86 : q_mOK 86 := ⟨q_cc4.1, q_lw5 (i := 149) rfl, q_cc4.2.1, q_cc4.2.2.1, fun h => absurd h (by decide +kernel), fun _ => q_lw5 (i := 148) rfl, fun _ _ => q_lz5 (i := 9) (y := (yX4_close, q_N 4)) rfl, fun h => absurd h (by decide +kernel), ⟨q_cc4.2.2.2.1, q_cc4.2.2.2.2, q_ds15⟩, by decide +kernel⟩
theorem q_m87 : q_mOK 87 := ⟨q_cc4.1, q_lw4 (i := 208) rfl, q_cc4.2.1, q_cc4.2.2.1, fun h => absurd h (by decide +kernel), fun _ => q_lw4 (i := 207) rfl, fun _ _ => q_lz3 (i := 10) (y := (yX4_named, q_N 4)) rfl, fun h => absurd h (by decide +kernel), ⟨q_cc4.2.2.2.1, q_cc4.2.2.2.2, q_ds33⟩, by decide +kernel⟩
theorem q_m88 : q_mOK 88 := ⟨q_cc4.1, q_lw6 (i := 139) rfl, q_cc4.2.1, q_cc4.2.2.1, fun h => absurd h (by decide +kernel), fun _ => q_lw6 (i := 138) rfl, fun _ _ => q_lz8 (i := 4) (y := (yX4_namedTruth, q_N 4)) rfl, fun h => absurd h (by decide +kernel), ⟨q_cc4.2.2.2.1, q_cc4.2.2.2.2, q_ds34⟩, by decide +kernel⟩
theorem q_m89 : q_mOK 89 := ⟨q_cc5.1, q_lw1 (i := 113) rfl, q_cc5.2.1, q_cc5.2.2.1, fun h => absurd h (by decide +kernel), fun _ => q_lw1 (i := 112) rfl, fun _ h => absurd h (by decide +kernel), fun _ => rfl, ⟨q_cc5.2.2.2.1, q_cc5.2.2.2.2, q_ds35⟩, by decide +kernel⟩
theorem q_m90 : q_mOK 90 := ⟨q_cc5.1, q_lw4 (i := 31) rfl, q_cc5.2.1, q_cc5.2.2.1, fun h => absurd h (by decide +kernel), fun _ => q_lw4 (i := 30) rfl, fun _ _ => q_lz2 (i := 2) (y := (yX5_set, q_N 5)) rfl, fun h => absurd h (by decide +kernel), ⟨q_cc5.2.2.2.1, q_cc5.2.2.2.2, q_ds36⟩, by decide +kernel⟩
theorem q_m91 : q_mOK 91 := ⟨q_cc5.1, q_lw5 (i := 27) rfl, q_cc5.2.1, q_cc5.2.2.1, fun h => absurd h (by decide +kernel), fun _ => q_lw5 (i := 26) rfl, fun _ _ => q_lz4 (i := 5) (y := (yX5_setName, q_N 5)) rfl, fun h => absurd h (by decide +kernel), ⟨q_cc5.2.2.2.1, q_cc5.2.2.2.2, q_ds20⟩, by decide +kernel⟩
theorem q_m92 : q_mOK 92 := ⟨q_cc5.1, q_lw4 (i := 25) rfl, q_cc5.2.1, q_cc5.2.2.1, fun h => absurd h (by decide +kernel), fun _ => q_lw4 (i := 24) rfl, fun _ _ => q_lz2 (i := 1) (y := (yX5_setPlainText, q_N 5)) rfl, fun h => absurd h (by decide +kernel), ⟨q_cc5.2.2.2.1, q_cc5.2.2.2.2, q_ds36⟩, by decide +kernel⟩
theorem q_m93 : q_mOK 93 := ⟨q_cc5.1, q_lw7 (i := 141) rfl, q_cc5.2.1, q_cc5.2.2.1, fun h => absurd h (by decide +kernel), fun _ => q_lw7 (i := 140) rfl, fun _ _ => q_lz10 (i := 14) (y := (yX5_isNameOf, q_N 5)) rfl, fun h => absurd h (by decide +kernel), ⟨q_cc5.2.2.2.1, q_cc5.2.2.2.2, q_ds20⟩, by decide +kernel⟩
theorem q_m94 : q_mOK 94 := ⟨q_cc5.1, q_lw4 (i := 97) rfl, q_cc5.2.1, q_cc5.2.2.1, fun h => absurd h (by decide +kernel), fun _ => q_lw4 (i := 96) rfl, fun _ _ => q_lz2 (i := 11) (y := (yX5_walk, q_N 5)) rfl, fun h => absurd h (by decide +kernel), ⟨q_cc5.2.2.2.1, q_cc5.2.2.2.2, q_ds37⟩, by decide +kernel⟩
theorem q_m95 : q_mOK 95 := ⟨q_cc6.1, q_lw1 (i := 89) rfl, q_cc6.2.1, q_cc6.2.2.1, fun h => absurd h (by decide +kernel), fun _ => q_lw1 (i := 88) rfl, fun _ h => absurd h (by decide +kernel), fun _ => rfl, ⟨q_cc6.2.2.2.1, q_cc6.2.2.2.2, q_ds13⟩, by decide +kernel⟩
theorem q_m96 : q_mOK 96 := ⟨q_cc6.1, q_lw3 (i := 112) rfl, q_cc6.2.1, q_cc6.2.2.1, fun h => absurd h (by decide +kernel), fun _ => q_lw3 (i := 111) rfl, fun _ _ => q_lz1 (i := 4) (y := (yX6_reads, q_N 6)) rfl, fun h => absurd h (by decide +kernel), ⟨q_cc6.2.2.2.1, q_cc6.2.2.2.2, q_ds5⟩, by decide +kernel⟩
theorem q_m97 : q_mOK 97 := ⟨q_cc6.1, q_lw3 (i := 120) rfl, q_cc6.2.1, q_cc6.2.2.1, fun h => absurd h (by decide +kernel), fun _ => q_lw3 (i := 119) rfl, fun _ _ => q_lz1 (i := 6) (y := (yX6_fails, q_N 6)) rfl, fun h => absurd h (by decide +kernel), ⟨q_cc6.2.2.2.1, q_cc6.2.2.2.2, q_ds16⟩, by decide +kernel⟩
theorem q_m98 : q_mOK 98 := ⟨q_cc6.1, q_lw3 (i := 116) rfl, q_cc6.2.1, q_cc6.2.2.1, fun h => absurd h (by decide +kernel), fun _ => q_lw3 (i := 115) rfl, fun _ _ => q_lz1 (i := 5) (y := (yX6_document, q_N 6)) rfl, fun h => absurd h (by decide +kernel), ⟨q_cc6.2.2.2.1, q_cc6.2.2.2.2, q_ds38⟩, by decide +kernel⟩
theorem q_m99 : q_mOK 99 := ⟨q_cc6.1, q_lw3 (i := 129) rfl, q_cc6.2.1, q_cc6.2.2.1, fun h => absurd h (by decide +kernel), fun _ => q_lw3 (i := 128) rfl, fun _ _ => q_lz1 (i := 7) (y := (yX6_element, q_N 6)) rfl, fun h => absurd h (by decide +kernel), ⟨q_cc6.2.2.2.1, q_cc6.2.2.2.2, q_ds39⟩, by decide +kernel⟩
theorem q_m100 : q_mOK 100 := ⟨q_cc6.1, q_lw3 (i := 146) rfl, q_cc6.2.1, q_cc6.2.2.1, fun h => absurd h (by decide +kernel), fun _ => q_lw3 (i := 145) rfl, fun _ _ => q_lz1 (i := 8) (y := (yX6_stoodAhead, q_N 6)) rfl, fun h => absurd h (by decide +kernel), ⟨q_cc6.2.2.2.1, q_cc6.2.2.2.2, q_ds9⟩, by decide +kernel⟩
theorem q_m101 : q_mOK 101 := ⟨q_cc6.1, q_lw3 (i := 160) rfl, q_cc6.2.1, q_cc6.2.2.1, fun h => absurd h (by decide +kernel), fun _ => q_lw3 (i := 159) rfl, fun _ _ => q_lz1 (i := 9) (y := (yX6_value, q_N 6)) rfl, fun h => absurd h (by decide +kernel), ⟨q_cc6.2.2.2.1, q_cc6.2.2.2.2, q_ds38⟩, by decide +kernel⟩
theorem q_m102 : q_mOK 102 := ⟨q_cc6.1, q_lw3 (i := 164) rfl, q_cc6.2.1, q_cc6.2.2.1, fun h => absurd h (by decide +kernel), fun _ => q_lw3 (i := 163) rfl, fun _ _ => q_lz1 (i := 10) (y := (yX6_text, q_N 6)) rfl, fun h => absurd h (by decide +kernel), ⟨q_cc6.2.2.2.1, q_cc6.2.2.2.2, q_ds16⟩, by decide +kernel⟩
theorem q_m103 : q_mOK 103 := ⟨q_cc7.1, q_lw1 (i := 35) rfl, q_cc7.2.1, q_cc7.2.2.1, fun h => absurd h (by decide +kernel), fun _ => q_lw1 (i := 34) rfl, fun _ h => absurd h (by decide +kernel), fun _ => rfl, ⟨q_cc7.2.2.2.1, q_cc7.2.2.2.2, q_ds35⟩, by decide +kernel⟩
theorem q_m104 : q_mOK 104 := ⟨q_cc7.1, q_lw4 (i := 101) rfl, q_cc7.2.1, q_cc7.2.2.1, fun h => absurd h (by decide +kernel), fun _ => q_lw4 (i := 100) rfl, fun _ _ => q_lz2 (i := 12) (y := (yX7_push, q_N 7)) rfl, fun h => absurd h (by decide +kernel), ⟨q_cc7.2.2.2.1, q_cc7.2.2.2.2, q_ds15⟩, by decide +kernel⟩
theorem q_m105 : q_mOK 105 := ⟨q_cc7.1, q_lw4 (i := 136) rfl, q_cc7.2.1, q_cc7.2.2.1, fun h => absurd h (by decide +kernel), fun _ => q_lw4 (i := 135) rfl, fun _ _ => q_lz2 (i := 14) (y := (yX7_leaf, q_N 7)) rfl, fun h => absurd h (by decide +kernel), ⟨q_cc7.2.2.2.1, q_cc7.2.2.2.2, q_ds18⟩, by decide +kernel⟩
theorem q_m106 : q_mOK 106 := ⟨q_cc7.1, q_lw7 (i := 85) rfl, q_cc7.2.1, q_cc7.2.2.1, fun h => absurd h (by decide +kernel), fun _ => q_lw7 (i := 84) rfl, fun _ _ => q_lz10 (i := 3) (y := (yX7_put, q_N 7)) rfl, fun h => absurd h (by decide +kernel), ⟨q_cc7.2.2.2.1, q_cc7.2.2.2.2, q_ds10⟩, by decide +kernel⟩
theorem q_m107 : q_mOK 107 := ⟨q_cc7.1, q_lw7 (i := 79) rfl, q_cc7.2.1, q_cc7.2.2.1, fun h => absurd h (by decide +kernel), fun _ => q_lw7 (i := 78) rfl, fun _ _ => q_lz10 (i := 2) (y := (yX7_addItems, q_N 7)) rfl, fun h => absurd h (by decide +kernel), ⟨q_cc7.2.2.2.1, q_cc7.2.2.2.2, q_ds10⟩, by decide +kernel⟩
theorem q_m108 : q_mOK 108 := ⟨q_cc7.1, q_lw3 (i := 182) rfl, q_cc7.2.1, q_cc7.2.2.1, fun _ => q_lw3 (i := 181) rfl, fun h => absurd h (by decide +kernel), fun h => absurd h (by decide +kernel), fun h => absurd h (by decide +kernel), ⟨q_cc7.2.2.2.1, q_cc7.2.2.2.2, q_ds14⟩, by decide +kernel⟩
theorem q_m109 : q_mOK 109 := ⟨q_cc7.1, q_lw3 (i := 123) rfl, q_cc7.2.1, q_cc7.2.2.1, fun _ => q_lw3 (i := 122) rfl, fun h => absurd h (by decide +kernel), fun h => absurd h (by decide +kernel), fun h => absurd h (by decide +kernel), ⟨q_cc7.2.2.2.1, q_cc7.2.2.2.2, q_ds14⟩, by decide +kernel⟩
theorem q_m110 : q_mOK 110 := ⟨q_cc7.1, q_lw3 (i := 132) rfl, q_cc7.2.1, q_cc7.2.2.1, fun _ => q_lw3 (i := 131) rfl, fun h => absurd h (by decide +kernel), fun h => absurd h (by decide +kernel), fun h => absurd h (by decide +kernel), ⟨q_cc7.2.2.2.1, q_cc7.2.2.2.2, q_ds14⟩, by decide +kernel⟩
theorem q_m111 : q_mOK 111 := ⟨q_cc7.1, q_lw3 (i := 156) rfl, q_cc7.2.1, q_cc7.2.2.1, fun _ => q_lw3 (i := 155) rfl, fun h => absurd h (by decide +kernel), fun h => absurd h (by decide +kernel), fun h => absurd h (by decide +kernel), ⟨q_cc7.2.2.2.1, q_cc7.2.2.2.2, q_ds14⟩, by decide +kernel⟩
theorem q_m112 : q_mOK 112 := ⟨q_cc7.1, q_lw3 (i := 175) rfl, q_cc7.2.1, q_cc7.2.2.1, fun _ => q_lw3 (i := 174) rfl, fun h => absurd h (by decide +kernel), fun h => absurd h (by decide +kernel), fun h => absurd h (by decide +kernel), ⟨q_cc7.2.2.2.1, q_cc7.2.2.2.2, q_ds14⟩, by decide +kernel⟩
theorem q_m113 : q_mOK 113 := ⟨q_cc7.1, q_lw4 (i := 70) rfl, q_cc7.2.1, q_cc7.2.2.1, fun _ => q_lw4 (i := 69) rfl, fun h => absurd h (by decide +kernel), fun h => absurd h (by decide +kernel), fun h => absurd h (by decide +kernel), ⟨q_cc7.2.2.2.1, q_cc7.2.2.2.2, q_ds14⟩, by decide +kernel⟩
theorem q_m114 : q_mOK 114 := ⟨q_cc7.1, q_lw4 (i := 119) rfl, q_cc7.2.1, q_cc7.2.2.1, fun _ => q_lw4 (i := 118) rfl, fun h => absurd h (by decide +kernel), fun h => absurd h (by decide +kernel), fun h => absurd h (by decide +kernel), ⟨q_cc7.2.2.2.1, q_cc7.2.2.2.2, q_ds40⟩, by decide +kernel⟩
theorem q_m115 : q_mOK 115 := ⟨q_cc7.1, q_lw3 (i := 186) rfl, q_cc7.2.1, q_cc7.2.2.1, fun _ => q_lw3 (i := 185) rfl, fun h => absurd h (by decide +kernel), fun h => absurd h (by decide +kernel), fun h => absurd h (by decide +kernel), ⟨q_cc7.2.2.2.1, q_cc7.2.2.2.2, q_ds41⟩, by decide +kernel⟩
theorem q_m116 : q_mOK 116 := ⟨q_cc7.1, q_lw5 (i := 3) rfl, q_cc7.2.1, q_cc7.2.2.1, fun _ => q_lw5 (i := 2) rfl, fun h => absurd h (by decide +kernel), fun h => absurd h (by decide +kernel), fun h => absurd h (by decide +kernel), ⟨q_cc7.2.2.2.1, q_cc7.2.2.2.2, q_ds20⟩, by decide +kernel⟩
theorem q_m117 : q_mOK 117 := ⟨q_cc7.1, q_lw4 (i := 10) rfl, q_cc7.2.1, q_cc7.2.2.1, fun _ => q_lw4 (i := 9) rfl, fun h => absurd h (by decide +kernel), fun h => absurd h (by decide +kernel), fun h => absurd h (by decide +kernel), ⟨q_cc7.2.2.2.1, q_cc7.2.2.2.2, q_ds20⟩, by decide +kernel⟩
theorem q_m118 : q_mOK 118 := ⟨q_cc7.1, q_lw4 (i := 57) rfl, q_cc7.2.1, q_cc7.2.2.1, fun _ => q_lw4 (i := 56) rfl, fun h => absurd h (by decide +kernel), fun h => absurd h (by decide +kernel), fun h => absurd h (by decide +kernel), ⟨q_cc7.2.2.2.1, q_cc7.2.2.2.2, q_ds42⟩, by decide +kernel⟩
theorem q_m119 : q_mOK 119 := ⟨q_cc7.1, q_lw5 (i := 103) rfl, q_cc7.2.1, q_cc7.2.2.1, fun _ => q_lw5 (i := 102) rfl, fun h => absurd h (by decide +kernel), fun h => absurd h (by decide +kernel), fun h => absurd h (by decide +kernel), ⟨q_cc7.2.2.2.1, q_cc7.2.2.2.2, q_ds36⟩, by decide +kernel⟩
theorem q_m120 : q_mOK 120 := ⟨q_cc7.1, q_lw4 (i := 37) rfl, q_cc7.2.1, q_cc7.2.2.1, fun _ => q_lw4 (i := 36) rfl, fun h => absurd h (by decide +kernel), fun h => absurd h (by decide +kernel), fun h => absurd h (by decide +kernel), ⟨q_cc7.2.2.2.1, q_cc7.2.2.2.2, q_ds14⟩, by decide +kernel⟩
theorem q_m121 : q_mOK 121 := ⟨q_cc7.1, q_lw4 (i := 34) rfl, q_cc7.2.1, q_cc7.2.2.1, fun _ => q_lw4 (i := 33) rfl, fun h => absurd h (by decide +kernel), fun h => absurd h (by decide +kernel), fun h => absurd h (by decide +kernel), ⟨q_cc7.2.2.2.1, q_cc7.2.2.2.2, q_ds40⟩, by decide +kernel⟩
theorem q_m122 : q_mOK 122 := ⟨q_cc7.1, q_lw4 (i := 47) rfl, q_cc7.2.1, q_cc7.2.2.1, fun _ => q_lw4 (i := 46) rfl, fun h => absurd h (by decide +kernel), fun h => absurd h (by decide +kernel), fun h => absurd h (by decide +kernel), ⟨q_cc7.2.2.2.1, q_cc7.2.2.2.2, q_ds40⟩, by decide +kernel⟩
theorem q_m123 : q_mOK 123 := ⟨q_cc7.1, q_lw3 (i := 149) rfl, q_cc7.2.1, q_cc7.2.2.1, fun _ => q_lw3 (i := 148) rfl, fun h => absurd h (by decide +kernel), fun h => absurd h (by decide +kernel), fun h => absurd h (by decide +kernel), ⟨q_cc7.2.2.2.1, q_cc7.2.2.2.2, q_ds43⟩, by decide +kernel⟩
theorem q_m124 : q_mOK 124 := ⟨q_cc7.1, q_lw6 (i := 42) rfl, q_cc7.2.1, q_cc7.2.2.1, fun _ => q_lw6 (i := 41) rfl, fun h => absurd h (by decide +kernel), fun h => absurd h (by decide +kernel), fun h => absurd h (by decide +kernel), ⟨q_cc7.2.2.2.1, q_cc7.2.2.2.2, q_ds44⟩, by decide +kernel⟩
theorem q_m125 : q_mOK 125 := ⟨q_cc7.1, q_lw3 (i := 142) rfl, q_cc7.2.1, q_cc7.2.2.1, fun _ => q_lw3 (i := 141) rfl, fun h => absurd h (by decide +kernel), fun h => absurd h (by decide +kernel), fun h => absurd h (by decide +kernel), ⟨q_cc7.2.2.2.1, q_cc7.2.2.2.2, q_ds45⟩, by decide +kernel⟩
theorem q_m126 : q_mOK 126 := ⟨q_cc7.1, q_lw3 (i := 135) rfl, q_cc7.2.1, q_cc7.2.2.1, fun _ => q_lw3 (i := 134) rfl, fun h => absurd h (by decide +kernel), fun h => absurd h (by decide +kernel), fun h => absurd h (by decide +kernel), ⟨q_cc7.2.2.2.1, q_cc7.2.2.2.2, q_ds44⟩, by decide +kernel⟩
theorem q_m127 : q_mOK 127 := ⟨q_cc7.1, q_lw3 (i := 139) rfl, q_cc7.2.1, q_cc7.2.2.1, fun _ => q_lw3 (i := 138) rfl, fun h => absurd h (by decide +kernel), fun h => absurd h (by decide +kernel), fun h => absurd h (by decide +kernel), ⟨q_cc7.2.2.2.1, q_cc7.2.2.2.2, q_ds44⟩, by decide +kernel⟩
theorem q_m128 : q_mOK 128 := ⟨q_cc8.1, q_lw2 (i := 76) rfl, q_cc8.2.1, q_cc8.2.2.1, fun h => absurd h (by decide +kernel), fun _ => q_lw2 (i := 75) rfl, fun _ h => absurd h (by decide +kernel), fun _ => rfl, ⟨q_cc8.2.2.2.1, q_cc8.2.2.2.2, q_ds46⟩, by decide +kernel⟩
theorem q_m129 : q_mOK 129 := ⟨q_cc8.1, q_lw4 (i := 143) rfl, q_cc8.2.1, q_cc8.2.2.1, fun h => absurd h (by decide +kernel), fun _ => q_lw4 (i := 142) rfl, fun _ _ => q_lz2 (i := 15) (y := (yX8_add, q_N 8)) rfl, fun h => absurd h (by decide +kernel), ⟨q_cc8.2.2.2.1, q_cc8.2.2.2.2, q_ds18⟩, by decide +kernel⟩
theorem q_m130 : q_mOK 130 := ⟨q_cc8.1, q_lw6 (i := 101) rfl, q_cc8.2.1, q_cc8.2.2.1, fun h => absurd h (by decide +kernel), fun _ => q_lw6 (i := 100) rfl, fun _ _ => q_lz7 (i := 12) (y := (yX8_remove, q_N 8)) rfl, fun h => absurd h (by decide +kernel), ⟨q_cc8.2.2.2.1, q_cc8.2.2.2.2, q_ds47⟩, by decide +kernel⟩
theorem q_m131 : q_mOK 131 := ⟨q_cc8.1, q_lw6 (i := 91) rfl, q_cc8.2.1, q_cc8.2.2.1, fun h => absurd h (by decide +kernel), fun _ => q_lw6 (i := 90) rfl, fun _ _ => q_lz7 (i := 10) (y := (yX8_renew, q_N 8)) rfl, fun h => absurd h (by decide +kernel), ⟨q_cc8.2.2.2.1, q_cc8.2.2.2.2, q_ds48⟩, by decide +kernel⟩
theorem q_m132 : q_mOK 132 := ⟨q_cc8.1, q_lw8 (i := 5) rfl, q_cc8.2.1, q_cc8.2.2.1, fun h => absurd h (by decide +kernel), fun _ => q_lw8 (i := 4) rfl, fun _ _ => q_lz12 (i := 0) (y := (yX8_indexCount, q_N 8)) rfl, fun h => absurd h (by decide +kernel), ⟨q_cc8.2.2.2.1, q_cc8.2.2.2.2, q_ds17⟩, by decide +kernel⟩
theorem q_m133 : q_mOK 133 := ⟨q_cc8.1, q_lw6 (i := 109) rfl, q_cc8.2.1, q_cc8.2.2.1, fun h => absurd h (by decide +kernel), fun _ => q_lw6 (i := 108) rfl, fun _ _ => q_lz7 (i := 14) (y := (yX8_freeIndex, q_N 8)) rfl, fun h => absurd h (by decide +kernel), ⟨q_cc8.2.2.2.1, q_cc8.2.2.2.2, q_ds17⟩, by decide +kernel⟩
theorem q_m134 : q_mOK 134 := ⟨q_cc9.1, q_lw1 (i := 208) rfl, q_cc9.2.1, q_cc9.2.2.1, fun h => absurd h (by decide +kernel), fun _ => q_lw1 (i := 207) rfl, fun _ h => absurd h (by decide +kernel), fun _ => rfl, ⟨q_cc9.2.2.2.1, q_cc9.2.2.2.2, q_ds0⟩, by decide +kernel⟩
theorem q_m135 : q_mOK 135 := ⟨q_cc9.1, q_lw6 (i := 147) rfl, q_cc9.2.1, q_cc9.2.2.1, fun h => absurd h (by decide +kernel), fun _ => q_lw6 (i := 146) rfl, fun _ _ => q_lz8 (i := 6) (y := (yX9_begin, q_N 9)) rfl, fun h => absurd h (by decide +kernel), ⟨q_cc9.2.2.2.1, q_cc9.2.2.2.2, q_ds49⟩, by decide +kernel⟩
theorem q_m136 : q_mOK 136 := ⟨q_cc9.1, q_lw6 (i := 153) rfl, q_cc9.2.1, q_cc9.2.2.1, fun h => absurd h (by decide +kernel), fun _ => q_lw6 (i := 152) rfl, fun _ _ => q_lz8 (i := 7) (y := (yX9_isMatch, q_N 9)) rfl, fun h => absurd h (by decide +kernel), ⟨q_cc9.2.2.2.1, q_cc9.2.2.2.2, q_ds5⟩, by decide +kernel⟩
theorem q_m137 : q_mOK 137 := ⟨q_cc9.1, q_lw6 (i := 162) rfl, q_cc9.2.1, q_cc9.2.2.1, fun h => absurd h (by decide +kernel), fun _ => q_lw6 (i := 161) rfl, fun _ _ => q_lz8 (i := 8) (y := (yX9_match, q_N 9)) rfl, fun h => absurd h (by decide +kernel), ⟨q_cc9.2.2.2.1, q_cc9.2.2.2.2, q_ds50⟩, by decide +kernel⟩
theorem q_m138 : q_mOK 138 := ⟨q_cc9.1, q_lw6 (i := 170) rfl, q_cc9.2.1, q_cc9.2.2.1, fun _ => q_lw6 (i := 169) rfl, fun h => absurd h (by decide +kernel), fun h => absurd h (by decide +kernel), fun h => absurd h (by decide +kernel), ⟨q_cc9.2.2.2.1, q_cc9.2.2.2.2, q_ds14⟩, by decide +kernel⟩
theorem q_m139 : q_mOK 139 := ⟨q_cc9.1, q_lw6 (i := 167) rfl, q_cc9.2.1, q_cc9.2.2.1, fun h => absurd h (by decide +kernel), fun _ => q_lw6 (i := 166) rfl, fun _ _ => q_lz8 (i := 9) (y := (yX9_does, q_N 9)) rfl, fun h => absurd h (by decide +kernel), ⟨q_cc9.2.2.2.1, q_cc9.2.2.2.2, q_ds18⟩, by decide +kernel⟩
theorem q_m140 : q_mOK 140 := ⟨q_cc9.1, q_lw6 (i := 208) rfl, q_cc9.2.1, q_cc9.2.2.1, fun h => absurd h (by decide +kernel), fun _ => q_lw6 (i := 207) rfl, fun _ _ => q_lz9 (i := 0) (y := (yX9_beginFresh, q_N 9)) rfl, fun h => absurd h (by decide +kernel), ⟨q_cc9.2.2.2.1, q_cc9.2.2.2.2, q_ds35⟩, by decide +kernel⟩
theorem q_m141 : q_mOK 141 := ⟨q_cc9.1, q_lw6 (i := 215) rfl, q_cc9.2.1, q_cc9.2.2.1, fun h => absurd h (by decide +kernel), fun _ => q_lw6 (i := 214) rfl, fun _ _ => q_lz9 (i := 1) (y := (yX9_openDocument, q_N 9)) rfl, fun h => absurd h (by decide +kernel), ⟨q_cc9.2.2.2.1, q_cc9.2.2.2.2, q_ds17⟩, by decide +kernel⟩
theorem q_m142 : q_mOK 142 := ⟨q_cc9.1, q_lw6 (i := 236) rfl, q_cc9.2.1, q_cc9.2.2.1, fun h => absurd h (by decide +kernel), fun _ => q_lw6 (i := 235) rfl, fun _ _ => q_lz9 (i := 4) (y := (yX9_closeDocument, q_N 9)) rfl, fun h => absurd h (by decide +kernel), ⟨q_cc9.2.2.2.1, q_cc9.2.2.2.2, q_ds15⟩, by decide +kernel⟩
theorem q_m143 : q_mOK 143 := ⟨q_cc9.1, q_lw7 (i := 0) rfl, q_cc9.2.1, q_cc9.2.2.1, fun h => absurd h (by decide +kernel), fun _ => q_lw6 (i := 239) rfl, fun _ _ => q_lz9 (i := 5) (y := (yX9_finishDocument, q_N 9)) rfl, fun h => absurd h (by decide +kernel), ⟨q_cc9.2.2.2.1, q_cc9.2.2.2.2, q_ds15⟩, by decide +kernel⟩
theorem q_m144 : q_mOK 144 := ⟨q_cc9.1, q_lw7 (i := 6) rfl, q_cc9.2.1, q_cc9.2.2.1, fun h => absurd h (by decide +kernel), fun _ => q_lw7 (i := 5) rfl, fun _ _ => q_lz9 (i := 6) (y := (yX9_endFresh, q_N 9)) rfl, fun h => absurd h (by decide +kernel), ⟨q_cc9.2.2.2.1, q_cc9.2.2.2.2, q_ds17⟩, by decide +kernel⟩
theorem q_m145 : q_mOK 145 := ⟨q_cc9.1, q_lw6 (i := 194) rfl, q_cc9.2.1, q_cc9.2.2.1, fun h => absurd h (by decide +kernel), fun _ => q_lw6 (i := 193) rfl, fun _ _ => q_lz8 (i := 13) (y := (yX9_isPlain, q_N 9)) rfl, fun h => absurd h (by decide +kernel), ⟨q_cc9.2.2.2.1, q_cc9.2.2.2.2, q_ds7⟩, by decide +kernel⟩
theorem q_m146 : q_mOK 146 := ⟨q_cc9.1, q_lw6 (i := 189) rfl, q_cc9.2.1, q_cc9.2.2.1, fun h => absurd h (by decide +kernel), fun _ => q_lw6 (i := 188) rfl, fun _ _ => q_lz8 (i := 12) (y := (yX9_hasPlainName, q_N 9)) rfl, fun h => absurd h (by decide +kernel), ⟨q_cc9.2.2.2.1, q_cc9.2.2.2.2, q_ds5⟩, by decide +kernel⟩
theorem q_m147 : q_mOK 147 := ⟨q_cc9.1, q_lw6 (i := 202) rfl, q_cc9.2.1, q_cc9.2.2.1, fun h => absurd h (by decide +kernel), fun _ => q_lw6 (i := 201) rfl, fun _ _ => q_lz8 (i := 15) (y := (yX9_isDollarText, q_N 9)) rfl, fun h => absurd h (by decide +kernel), ⟨q_cc9.2.2.2.1, q_cc9.2.2.2.2, q_ds5⟩, by decide +kernel⟩
theorem q_m148 : q_mOK 148 := ⟨q_cc9.1, q_lw6 (i := 198) rfl, q_cc9.2.1, q_cc9.2.2.1, fun h => absurd h (by decide +kernel), fun _ => q_lw6 (i := 197) rfl, fun _ _ => q_lz8 (i := 14) (y := (yX9_isWrongExpression, q_N 9)) rfl, fun h => absurd h (by decide +kernel), ⟨q_cc9.2.2.2.1, q_cc9.2.2.2.2, q_ds5⟩, by decide +kernel⟩
theorem q_m149 : q_mOK 149 := ⟨q_cc9.1, q_lw6 (i := 223) rfl, q_cc9.2.1, q_cc9.2.2.1, fun h => absurd h (by decide +kernel), fun _ => q_lw6 (i := 222) rfl, fun _ _ => q_lz9 (i := 2) (y := (yX9_valueOf, q_N 9)) rfl, fun h => absurd h (by decide +kernel), ⟨q_cc9.2.2.2.1, q_cc9.2.2.2.2, q_ds16⟩, by decide +kernel⟩
theorem q_m150 : q_mOK 150 := ⟨q_cc9.1, q_lw6 (i := 227) rfl, q_cc9.2.1, q_cc9.2.2.1, fun h => absurd h (by decide +kernel), fun _ => q_lw6 (i := 226) rfl, fun _ _ => q_lz9 (i := 3) (y := (yX9_writeRow, q_N 9)) rfl, fun h => absurd h (by decide +kernel), ⟨q_cc9.2.2.2.1, q_cc9.2.2.2.2, q_ds51⟩, by decide +kernel⟩
theorem q_m151 : q_mOK 151 := ⟨q_cc9.1, q_lw6 (i := 185) rfl, q_cc9.2.1, q_cc9.2.2.1, fun h => absurd h (by decide +kernel), fun _ => q_lw6 (i := 184) rfl, fun _ _ => q_lz8 (i := 11) (y := (yX9_wrongInProject, q_N 9)) rfl, fun h => absurd h (by decide +kernel), ⟨q_cc9.2.2.2.1, q_cc9.2.2.2.2, q_ds18⟩, by decide +kernel⟩
theorem q_m152 : q_mOK 152 := ⟨q_cc9.1, q_lw6 (i := 181) rfl, q_cc9.2.1, q_cc9.2.2.1, fun h => absurd h (by decide +kernel), fun _ => q_lw6 (i := 180) rfl, fun _ _ => q_lz8 (i := 10) (y := (yX9_project, q_N 9)) rfl, fun h => absurd h (by decide +kernel), ⟨q_cc9.2.2.2.1, q_cc9.2.2.2.2, q_ds18⟩, by decide +kernel⟩
theorem q_m153 : q_mOK 153 := ⟨q_cc9.1, q_lw7 (i := 10) rfl, q_cc9.2.1, q_cc9.2.2.1, fun h => absurd h (by decide +kernel), fun _ => q_lw7 (i := 9) rfl, fun _ _ => q_lz9 (i := 7) (y := (yX9_unwind, q_N 9)) rfl, fun h => absurd h (by decide +kernel), ⟨q_cc9.2.2.2.1, q_cc9.2.2.2.2, q_ds18⟩, by decide +kernel⟩
theorem q_m154 : q_mOK 154 := ⟨q_cc9.1, q_lw7 (i := 15) rfl, q_cc9.2.1, q_cc9.2.2.1, fun h => absurd h (by decide +kernel), fun _ => q_lw7 (i := 14) rfl, fun _ _ => q_lz9 (i := 8) (y := (yX9_unwindItem, q_N 9)) rfl, fun h => absurd h (by decide +kernel), ⟨q_cc9.2.2.2.1, q_cc9.2.2.2.2, q_ds51⟩, by decide +kernel⟩
theorem q_m155 : q_mOK 155 := ⟨q_cc9.1, q_lw7 (i := 28) rfl, q_cc9.2.1, q_cc9.2.2.1, fun _ => q_lw7 (i := 27) rfl, fun h => absurd h (by decide +kernel), fun h => absurd h (by decide +kernel), fun h => absurd h (by decide +kernel), ⟨q_cc9.2.2.2.1, q_cc9.2.2.2.2, q_ds14⟩, by decide +kernel⟩
theorem q_m156 : q_mOK 156 := ⟨q_cc9.1, q_lw7 (i := 24) rfl, q_cc9.2.1, q_cc9.2.2.1, fun h => absurd h (by decide +kernel), fun _ => q_lw7 (i := 23) rfl, fun _ _ => q_lz9 (i := 10) (y := (yX9_wrongInGroup, q_N 9)) rfl, fun h => absurd h (by decide +kernel), ⟨q_cc9.2.2.2.1, q_cc9.2.2.2.2, q_ds18⟩, by decide +kernel⟩
theorem q_m157 : q_mOK 157 := ⟨q_cc9.1, q_lw7 (i := 20) rfl, q_cc9.2.1, q_cc9.2.2.1, fun h => absurd h (by decide +kernel), fun _ => q_lw7 (i := 19) rfl, fun _ _ => q_lz9 (i := 9) (y := (yX9_group, q_N 9)) rfl, fun h => absurd h (by decide +kernel), ⟨q_cc9.2.2.2.1, q_cc9.2.2.2.2, q_ds18⟩, by decide +kernel⟩
theorem q_m158 : q_mOK 158 := ⟨q_cc9.1, q_lw7 (i := 42) rfl, q_cc9.2.1, q_cc9.2.2.1, fun h => absurd h (by decide +kernel), fun _ => q_lw7 (i := 41) rfl, fun _ _ => q_lz9 (i := 11) (y := (yX9_writeGathered, q_N 9)) rfl, fun h => absurd h (by decide +kernel), ⟨q_cc9.2.2.2.1, q_cc9.2.2.2.2, q_ds10⟩, by decide +kernel⟩
theorem q_m159 : q_mOK 159 := ⟨q_cc9.1, q_lw7 (i := 46) rfl, q_cc9.2.1, q_cc9.2.2.1, fun h => absurd h (by decide +kernel), fun _ => q_lw7 (i := 45) rfl, fun _ _ => q_lz9 (i := 12) (y := (yX9_sum, q_N 9)) rfl, fun h => absurd h (by decide +kernel), ⟨q_cc9.2.2.2.1, q_cc9.2.2.2.2, q_ds52⟩, by decide +kernel⟩
theorem q_m160 : q_mOK 160 := ⟨q_cc9.1, q_lw7 (i := 59) rfl, q_cc9.2.1, q_cc9.2.2.1, fun h => absurd h (by decide +kernel), fun _ => q_lw7 (i := 58) rfl, fun _ _ => q_lz9 (i := 14) (y := (yX9_extreme, q_N 9)) rfl, fun h => absurd h (by decide +kernel), ⟨q_cc9.2.2.2.1, q_cc9.2.2.2.2, q_ds16⟩, by decide +kernel⟩
theorem q_m161 : q_mOK 161 := ⟨q_cc9.1, q_lw7 (i := 54) rfl, q_cc9.2.1, q_cc9.2.2.1, fun h => absurd h (by decide +kernel), fun _ => q_lw7 (i := 53) rfl, fun _ _ => q_lz9 (i := 13) (y := (yX9_writeValues, q_N 9)) rfl, fun h => absurd h (by decide +kernel), ⟨q_cc9.2.2.2.1, q_cc9.2.2.2.2, q_ds53⟩, by decide +kernel⟩
theorem q_m162 : q_mOK 162 := ⟨q_cc9.1, q_lw7 (i := 67) rfl, q_cc9.2.1, q_cc9.2.2.1, fun h => absurd h (by decide +kernel), fun _ => q_lw7 (i := 66) rfl, fun _ _ => q_lz10 (i := 0) (y := (yX9_wrongInSort, q_N 9)) rfl, fun h => absurd h (by decide +kernel), ⟨q_cc9.2.2.2.1, q_cc9.2.2.2.2, q_ds18⟩, by decide +kernel⟩
theorem q_m163 : q_mOK 163 := ⟨q_cc9.1, q_lw7 (i := 63) rfl, q_cc9.2.1, q_cc9.2.2.1, fun h => absurd h (by decide +kernel), fun _ => q_lw7 (i := 62) rfl, fun _ _ => q_lz9 (i := 15) (y := (yX9_sort, q_N 9)) rfl, fun h => absurd h (by decide +kernel), ⟨q_cc9.2.2.2.1, q_cc9.2.2.2.2, q_ds18⟩, by decide +kernel⟩
theorem q_m164 : q_mOK 164 := ⟨q_cc9.1, q_lw7 (i := 74) rfl, q_cc9.2.1, q_cc9.2.2.1, fun h => absurd h (by decide +kernel), fun _ => q_lw7 (i := 73) rfl, fun _ _ => q_lz10 (i := 1) (y := (yX9_sortKey, q_N 9)) rfl, fun h => absurd h (by decide +kernel), ⟨q_cc9.2.2.2.1, q_cc9.2.2.2.2, q_ds16⟩, by decide +kernel⟩
theorem q_m165 : q_mOK 165 := ⟨q_cc9.1, q_lw7 (i := 90) rfl, q_cc9.2.1, q_cc9.2.2.1, fun h => absurd h (by decide +kernel), fun _ => q_lw7 (i := 89) rfl, fun _ _ => q_lz10 (i := 4) (y := (yX9_compareSorted, q_N 9)) rfl, fun h => absurd h (by decide +kernel), ⟨q_cc9.2.2.2.1, q_cc9.2.2.2.2, q_ds19⟩, by decide +kernel⟩
theorem q_m166 : q_mOK 166 := ⟨q_cc9.1, q_lw7 (i := 94) rfl, q_cc9.2.1, q_cc9.2.2.1, fun h => absurd h (by decide +kernel), fun _ => q_lw7 (i := 93) rfl, fun _ _ => q_lz10 (i := 5) (y := (yX9_skip, q_N 9)) rfl, fun h => absurd h (by decide +kernel), ⟨q_cc9.2.2.2.1, q_cc9.2.2.2.2, q_ds18⟩, by decide +kernel⟩
theorem q_m167 : q_mOK 167 := ⟨q_cc9.1, q_lw7 (i := 101) rfl, q_cc9.2.1, q_cc9.2.2.1, fun h => absurd h (by decide +kernel), fun _ => q_lw7 (i := 100) rfl, fun _ _ => q_lz10 (i := 6) (y := (yX9_limit, q_N 9)) rfl, fun h => absurd h (by decide +kernel), ⟨q_cc9.2.2.2.1, q_cc9.2.2.2.2, q_ds18⟩, by decide +kernel⟩
theorem q_m168 : q_mOK 168 := ⟨q_cc9.1, q_lw7 (i := 109) rfl, q_cc9.2.1, q_cc9.2.2.1, fun h => absurd h (by decide +kernel), fun _ => q_lw7 (i := 108) rfl, fun _ _ => q_lz10 (i := 8) (y := (yX9_wrongInLookup, q_N 9)) rfl, fun h => absurd h (by decide +kernel), ⟨q_cc9.2.2.2.1, q_cc9.2.2.2.2, q_ds38⟩, by decide +kernel⟩
theorem q_m169 : q_mOK 169 := ⟨q_cc9.1, q_lw7 (i := 105) rfl, q_cc9.2.1, q_cc9.2.2.1, fun h => absurd h (by decide +kernel), fun _ => q_lw7 (i := 104) rfl, fun _ _ => q_lz10 (i := 7) (y := (yX9_lookup, q_N 9)) rfl, fun h => absurd h (by decide +kernel), ⟨q_cc9.2.2.2.1, q_cc9.2.2.2.2, q_ds18⟩, by decide +kernel⟩
theorem q_m170 : q_mOK 170 := ⟨q_cc9.1, q_lw7 (i := 116) rfl, q_cc9.2.1, q_cc9.2.2.1, fun h => absurd h (by decide +kernel), fun _ => q_lw7 (i := 115) rfl, fun _ _ => q_lz10 (i := 9) (y := (yX9_writeFound, q_N 9)) rfl, fun h => absurd h (by decide +kernel), ⟨q_cc9.2.2.2.1, q_cc9.2.2.2.2, q_ds15⟩, by decide +kernel⟩
theorem q_m171 : q_mOK 171 := ⟨q_cc9.1, q_lw7 (i := 120) rfl, q_cc9.2.1, q_cc9.2.2.1, fun h => absurd h (by decide +kernel), fun _ => q_lw7 (i := 119) rfl, fun _ _ => q_lz10 (i := 10) (y := (yX9_someSame, q_N 9)) rfl, fun h => absurd h (by decide +kernel), ⟨q_cc9.2.2.2.1, q_cc9.2.2.2.2, q_ds7⟩, by decide +kernel⟩
theorem q_m172 : q_mOK 172 := ⟨q_cc10.1, q_lw2 (i := 94) rfl, q_cc10.2.1, q_cc10.2.2.1, fun h => absurd h (by decide +kernel), fun _ => q_lw2 (i := 93) rfl, fun _ h => absurd h (by decide +kernel), fun _ => rfl, ⟨q_cc10.2.2.2.1, q_cc10.2.2.2.2, q_ds35⟩, by decide +kernel⟩
theorem q_m173 : q_mOK 173 := ⟨q_cc10.1, q_lw6 (i := 125) rfl, q_cc10.2.1, q_cc10.2.2.1, fun h => absurd h (by decide +kernel), fun _ => q_lw6 (i := 124) rfl, fun _ _ => q_lz8 (i := 1) (y := (yX10_clear, q_N 10)) rfl, fun h => absurd h (by decide +kernel), ⟨q_cc10.2.2.2.1, q_cc10.2.2.2.2, q_ds10⟩, by decide +kernel⟩
theorem q_m174 : q_mOK 174 := ⟨q_cc10.1, q_lw4 (i := 182) rfl, q_cc10.2.1, q_cc10.2.2.1, fun h => absurd h (by decide +kernel), fun _ => q_lw4 (i := 181) rfl, fun _ _ => q_lz3 (i := 6) (y := (yX10_newSlot, q_N 10)) rfl, fun h => absurd h (by decide +kernel), ⟨q_cc10.2.2.2.1, q_cc10.2.2.2.2, q_ds17⟩, by decide +kernel⟩
theorem q_m175 : q_mOK 175 := ⟨q_cc10.1, q_lw6 (i := 67) rfl, q_cc10.2.1, q_cc10.2.2.1, fun h => absurd h (by decide +kernel), fun _ => q_lw6 (i := 66) rfl, fun _ _ => q_lz7 (i := 4) (y := (yX10_freeSlot, q_N 10)) rfl, fun h => absurd h (by decide +kernel), ⟨q_cc10.2.2.2.1, q_cc10.2.2.2.2, q_ds15⟩, by decide +kernel⟩
theorem q_m176 : q_mOK 176 := ⟨q_cc10.1, q_lw4 (i := 199) rfl, q_cc10.2.1, q_cc10.2.2.1, fun h => absurd h (by decide +kernel), fun _ => q_lw4 (i := 198) rfl, fun _ _ => q_lz3 (i := 8) (y := (yX10_newNode, q_N 10)) rfl, fun h => absurd h (by decide +kernel), ⟨q_cc10.2.2.2.1, q_cc10.2.2.2.2, q_ds54⟩, by decide +kernel⟩
theorem q_m177 : q_mOK 177 := ⟨q_cc10.1, q_lw6 (i := 87) rfl, q_cc10.2.1, q_cc10.2.2.1, fun h => absurd h (by decide +kernel), fun _ => q_lw6 (i := 86) rfl, fun _ _ => q_lz7 (i := 9) (y := (yX10_freeNode, q_N 10)) rfl, fun h => absurd h (by decide +kernel), ⟨q_cc10.2.2.2.1, q_cc10.2.2.2.2, q_ds15⟩, by decide +kernel⟩
theorem q_m178 : q_mOK 178 := ⟨q_cc10.1, q_lw4 (i := 159) rfl, q_cc10.2.1, q_cc10.2.2.1, fun h => absurd h (by decide +kernel), fun _ => q_lw4 (i := 158) rfl, fun _ _ => q_lz3 (i := 2) (y := (yX10_fill, q_N 10)) rfl, fun h => absurd h (by decide +kernel), ⟨q_cc10.2.2.2.1, q_cc10.2.2.2.2, q_ds55⟩, by decide +kernel⟩
theorem q_m179 : q_mOK 179 := ⟨q_cc10.1, q_lw4 (i := 203) rfl, q_cc10.2.1, q_cc10.2.2.1, fun h => absurd h (by decide +kernel), fun _ => q_lw4 (i := 202) rfl, fun _ _ => q_lz3 (i := 9) (y := (yX10_markLike, q_N 10)) rfl, fun h => absurd h (by decide +kernel), ⟨q_cc10.2.2.2.1, q_cc10.2.2.2.2, q_ds18⟩, by decide +kernel⟩
theorem q_m180 : q_mOK 180 := ⟨q_cc10.1, q_lw4 (i := 172) rfl, q_cc10.2.1, q_cc10.2.2.1, fun h => absurd h (by decide +kernel), fun _ => q_lw4 (i := 171) rfl, fun _ _ => q_lz3 (i := 4) (y := (yX10_compareSlots, q_N 10)) rfl, fun h => absurd h (by decide +kernel), ⟨q_cc10.2.2.2.1, q_cc10.2.2.2.2, q_ds16⟩, by decide +kernel⟩
theorem q_m181 : q_mOK 181 := ⟨q_cc10.1, q_lw7 (i := 223) rfl, q_cc10.2.1, q_cc10.2.2.1, fun h => absurd h (by decide +kernel), fun _ => q_lw7 (i := 222) rfl, fun _ _ => q_lz11 (i := 14) (y := (yX10_levels, q_N 10)) rfl, fun h => absurd h (by decide +kernel), ⟨q_cc10.2.2.2.1, q_cc10.2.2.2.2, q_ds17⟩, by decide +kernel⟩
theorem q_m182 : q_mOK 182 := ⟨q_cc10.1, q_lw4 (i := 168) rfl, q_cc10.2.1, q_cc10.2.2.1, fun h => absurd h (by decide +kernel), fun _ => q_lw4 (i := 167) rfl, fun _ _ => q_lz3 (i := 3) (y := (yX10_descend, q_N 10)) rfl, fun h => absurd h (by decide +kernel), ⟨q_cc10.2.2.2.1, q_cc10.2.2.2.2, q_ds17⟩, by decide +kernel⟩
theorem q_m183 : q_mOK 183 := ⟨q_cc10.1, q_lw4 (i := 155) rfl, q_cc10.2.1, q_cc10.2.2.1, fun h => absurd h (by decide +kernel), fun _ => q_lw4 (i := 154) rfl, fun _ _ => q_lz3 (i := 1) (y := (yX10_comes, q_N 10)) rfl, fun h => absurd h (by decide +kernel), ⟨q_cc10.2.2.2.1, q_cc10.2.2.2.2, q_ds56⟩, by decide +kernel⟩
theorem q_m184 : q_mOK 184 := ⟨q_cc10.1, q_lw4 (i := 178) rfl, q_cc10.2.1, q_cc10.2.2.1, fun h => absurd h (by decide +kernel), fun _ => q_lw4 (i := 177) rfl, fun _ _ => q_lz3 (i := 5) (y := (yX10_insertKid, q_N 10)) rfl, fun h => absurd h (by decide +kernel), ⟨q_cc10.2.2.2.1, q_cc10.2.2.2.2, q_ds51⟩, by decide +kernel⟩
theorem q_m185 : q_mOK 185 := ⟨q_cc10.1, q_lw6 (i := 63) rfl, q_cc10.2.1, q_cc10.2.2.1, fun h => absurd h (by decide +kernel), fun _ => q_lw6 (i := 62) rfl, fun _ _ => q_lz7 (i := 3) (y := (yX10_removeKid, q_N 10)) rfl, fun h => absurd h (by decide +kernel), ⟨q_cc10.2.2.2.1, q_cc10.2.2.2.2, q_ds10⟩, by decide +kernel⟩
theorem q_m186 : q_mOK 186 := ⟨q_cc10.1, q_lw4 (i := 195) rfl, q_cc10.2.1, q_cc10.2.2.1, fun h => absurd h (by decide +kernel), fun _ => q_lw4 (i := 194) rfl, fun _ _ => q_lz3 (i := 7) (y := (yX10_split, q_N 10)) rfl, fun h => absurd h (by decide +kernel), ⟨q_cc10.2.2.2.1, q_cc10.2.2.2.2, q_ds15⟩, by decide +kernel⟩
theorem q_m187 : q_mOK 187 := ⟨q_cc10.1, q_lw6 (i := 59) rfl, q_cc10.2.1, q_cc10.2.2.1, fun h => absurd h (by decide +kernel), fun _ => q_lw6 (i := 58) rfl, fun _ _ => q_lz7 (i := 2) (y := (yX10_goes, q_N 10)) rfl, fun h => absurd h (by decide +kernel), ⟨q_cc10.2.2.2.1, q_cc10.2.2.2.2, q_ds56⟩, by decide +kernel⟩
theorem q_m188 : q_mOK 188 := ⟨q_cc10.1, q_lw6 (i := 71) rfl, q_cc10.2.1, q_cc10.2.2.1, fun h => absurd h (by decide +kernel), fun _ => q_lw6 (i := 70) rfl, fun _ _ => q_lz7 (i := 5) (y := (yX10_mend, q_N 10)) rfl, fun h => absurd h (by decide +kernel), ⟨q_cc10.2.2.2.1, q_cc10.2.2.2.2, q_ds15⟩, by decide +kernel⟩
theorem q_m189 : q_mOK 189 := ⟨q_cc10.1, q_lw6 (i := 75) rfl, q_cc10.2.1, q_cc10.2.2.1, fun h => absurd h (by decide +kernel), fun _ => q_lw6 (i := 74) rfl, fun _ _ => q_lz7 (i := 6) (y := (yX10_takeLast, q_N 10)) rfl, fun h => absurd h (by decide +kernel), ⟨q_cc10.2.2.2.1, q_cc10.2.2.2.2, q_ds51⟩, by decide +kernel⟩
theorem q_m190 : q_mOK 190 := ⟨q_cc10.1, q_lw6 (i := 79) rfl, q_cc10.2.1, q_cc10.2.2.1, fun h => absurd h (by decide +kernel), fun _ => q_lw6 (i := 78) rfl, fun _ _ => q_lz7 (i := 7) (y := (yX10_takeFirst, q_N 10)) rfl, fun h => absurd h (by decide +kernel), ⟨q_cc10.2.2.2.1, q_cc10.2.2.2.2, q_ds51⟩, by decide +kernel⟩
theorem q_m191 : q_mOK 191 := ⟨q_cc10.1, q_lw6 (i := 83) rfl, q_cc10.2.1, q_cc10.2.2.1, fun h => absurd h (by decide +kernel), fun _ => q_lw6 (i := 82) rfl, fun _ _ => q_lz7 (i := 8) (y := (yX10_join, q_N 10)) rfl, fun h => absurd h (by decide +kernel), ⟨q_cc10.2.2.2.1, q_cc10.2.2.2.2, q_ds10⟩, by decide +kernel⟩
theorem q_m192 : q_mOK 192 := ⟨q_cc11.1, q_lw1 (i := 27) rfl, q_cc11.2.1, q_cc11.2.2.1, fun h => absurd h (by decide +kernel), fun _ => q_lw1 (i := 26) rfl, fun _ h => absurd h (by decide +kernel), fun _ => rfl, ⟨q_cc11.2.2.2.1, q_cc11.2.2.2.2, q_ds35⟩, by decide +kernel⟩
theorem q_m193 : q_mOK 193 := ⟨q_cc11.1, q_lw3 (i := 82) rfl, q_cc11.2.1, q_cc11.2.2.1, fun h => absurd h (by decide +kernel), fun _ => q_lw3 (i := 80) rfl, fun _ _ => q_lw3 (i := 81) rfl, fun h => absurd h (by decide +kernel), ⟨q_cc11.2.2.2.1, q_cc11.2.2.2.2, q_ds39⟩, by decide +kernel⟩
theorem q_m194 : q_mOK 194 := ⟨q_cc11.1, q_lw3 (i := 86) rfl, q_cc11.2.1, q_cc11.2.2.1, fun h => absurd h (by decide +kernel), fun _ => q_lw3 (i := 85) rfl, fun _ _ => q_lz1 (i := 0) (y := (yX11_putOnTape, q_N 11)) rfl, fun h => absurd h (by decide +kernel), ⟨q_cc11.2.2.2.1, q_cc11.2.2.2.2, q_ds15⟩, by decide +kernel⟩
theorem q_m195 : q_mOK 195 := ⟨q_cc11.1, q_lw3 (i := 90) rfl, q_cc11.2.1, q_cc11.2.2.1, fun h => absurd h (by decide +kernel), fun _ => q_lw3 (i := 88) rfl, fun _ _ => q_lw3 (i := 89) rfl, fun h => absurd h (by decide +kernel), ⟨q_cc11.2.2.2.1, q_cc11.2.2.2.2, q_ds18⟩, by decide +kernel⟩
theorem q_m196 : q_mOK 196 := ⟨q_cc11.1, q_lw7 (i := 231) rfl, q_cc11.2.1, q_cc11.2.2.1, fun h => absurd h (by decide +kernel), fun _ => q_lw7 (i := 230) rfl, fun _ _ => q_lz11 (i := 15) (y := (yX11_tellFault, q_N 11)) rfl, fun h => absurd h (by decide +kernel), ⟨q_cc11.2.2.2.1, q_cc11.2.2.2.2, q_ds35⟩, by decide +kernel⟩
theorem q_m197 : q_mOK 197 := ⟨q_cc11.1, q_lw3 (i := 168) rfl, q_cc11.2.1, q_cc11.2.2.1, fun h => absurd h (by decide +kernel), fun _ => q_lw3 (i := 167) rfl, fun _ _ => q_lz1 (i := 11) (y := (yX11_fail, q_N 11)) rfl, fun h => absurd h (by decide +kernel), ⟨q_cc11.2.2.2.1, q_cc11.2.2.2.2, q_ds10⟩, by decide +kernel⟩
theorem q_m198 : q_mOK 198 := ⟨q_cc11.1, q_lw4 (i := 75) rfl, q_cc11.2.1, q_cc11.2.2.1, fun h => absurd h (by decide +kernel), fun _ => q_lw4 (i := 74) rfl, fun _ _ => q_lz2 (i := 6) (y := (yX11_failAt, q_N 11)) rfl, fun h => absurd h (by decide +kernel), ⟨q_cc11.2.2.2.1, q_cc11.2.2.2.2, q_ds10⟩, by decide +kernel⟩
theorem q_m199 : q_mOK 199 := ⟨q_cc11.1, q_lw7 (i := 237) rfl, q_cc11.2.1, q_cc11.2.2.1, fun h => absurd h (by decide +kernel), fun _ => q_lw7 (i := 235) rfl, fun _ _ => q_lw7 (i := 236) rfl, fun h => absurd h (by decide +kernel), ⟨q_cc11.2.2.2.1, q_cc11.2.2.2.2, q_ds18⟩, by decide +kernel⟩
theorem q_m200 : q_mOK 200 := ⟨q_cc11.1, q_lw8 (i := 1) rfl, q_cc11.2.1, q_cc11.2.2.1, fun h => absurd h (by decide +kernel), fun _ => q_lw7 (i := 239) rfl, fun _ _ => q_lw8 (i := 0) rfl, fun h => absurd h (by decide +kernel), ⟨q_cc11.2.2.2.1, q_cc11.2.2.2.2, q_ds18⟩, by decide +kernel⟩
theorem q_m201 : q_mOK 201 := ⟨q_cc11.1, q_lw8 (i := 9) rfl, q_cc11.2.1, q_cc11.2.2.1, fun h => absurd h (by decide +kernel), fun _ => q_lw8 (i := 7) rfl, fun _ _ => q_lw8 (i := 8) rfl, fun h => absurd h (by decide +kernel), ⟨q_cc11.2.2.2.1, q_cc11.2.2.2.2, q_ds16⟩, by decide +kernel⟩
theorem q_m202 : q_mOK 202 := ⟨q_cc11.1, q_lw8 (i := 17) rfl, q_cc11.2.1, q_cc11.2.2.1, fun h => absurd h (by decide +kernel), fun _ => q_lw8 (i := 15) rfl, fun _ _ => q_lw8 (i := 16) rfl, fun h => absurd h (by decide +kernel), ⟨q_cc11.2.2.2.1, q_cc11.2.2.2.2, q_ds16⟩, by decide +kernel⟩
theorem q_m203 : q_mOK 203 := ⟨q_cc11.1, q_lw8 (i := 21) rfl, q_cc11.2.1, q_cc11.2.2.1, fun h => absurd h (by decide +kernel), fun _ => q_lw8 (i := 19) rfl, fun _ _ => q_lw8 (i := 20) rfl, fun h => absurd h (by decide +kernel), ⟨q_cc11.2.2.2.1, q_cc11.2.2.2.2, q_ds19⟩, by decide +kernel⟩
theorem q_m204 : q_mOK 204 := ⟨q_cc11.1, q_lw8 (i := 13) rfl, q_cc11.2.1, q_cc11.2.2.1, fun h => absurd h (by decide +kernel), fun _ => q_lw8 (i := 12) rfl, fun _ _ => q_lz12 (i := 1) (y := (yX11_standsOn, q_N 11)) rfl, fun h => absurd h (by decide +kernel), ⟨q_cc11.2.2.2.1, q_cc11.2.2.2.2, q_ds7⟩, by decide +kernel⟩
theorem q_m205 : q_mOK 205 := ⟨q_cc11.1, q_lw3 (i := 172) rfl, q_cc11.2.1, q_cc11.2.2.1, fun h => absurd h (by decide +kernel), fun _ => q_lw3 (i := 171) rfl, fun _ _ => q_lz1 (i := 12) (y := (yX11_wrongInRequest, q_N 11)) rfl, fun h => absurd h (by decide +kernel), ⟨q_cc11.2.2.2.1, q_cc11.2.2.2.2, q_ds17⟩, by decide +kernel⟩
theorem q_m206 : q_mOK 206 := ⟨q_cc11.1, q_lw3 (i := 179) rfl, q_cc11.2.1, q_cc11.2.2.1, fun h => absurd h (by decide +kernel), fun _ => q_lw3 (i := 178) rfl, fun _ _ => q_lz1 (i := 13) (y := (yX11_operationOf, q_N 11)) rfl, fun h => absurd h (by decide +kernel), ⟨q_cc11.2.2.2.1, q_cc11.2.2.2.2, q_ds18⟩, by decide +kernel⟩
theorem q_m207 : q_mOK 207 := ⟨q_cc11.1, q_lw4 (i := 53) rfl, q_cc11.2.1, q_cc11.2.2.1, fun h => absurd h (by decide +kernel), fun _ => q_lw4 (i := 52) rfl, fun _ _ => q_lz2 (i := 3) (y := (yX11_isShelf, q_N 11)) rfl, fun h => absurd h (by decide +kernel), ⟨q_cc11.2.2.2.1, q_cc11.2.2.2.2, q_ds5⟩, by decide +kernel⟩
theorem q_m208 : q_mOK 208 := ⟨q_cc11.1, q_lw4 (i := 7) rfl, q_cc11.2.1, q_cc11.2.2.1, fun h => absurd h (by decide +kernel), fun _ => q_lw4 (i := 6) rfl, fun _ _ => q_lz1 (i := 14) (y := (yX11_wrongInHead, q_N 11)) rfl, fun h => absurd h (by decide +kernel), ⟨q_cc11.2.2.2.1, q_cc11.2.2.2.2, q_ds17⟩, by decide +kernel⟩
theorem q_m209 : q_mOK 209 := ⟨q_cc11.1, q_lw4 (i := 15) rfl, q_cc11.2.1, q_cc11.2.2.1, fun h => absurd h (by decide +kernel), fun _ => q_lw4 (i := 14) rfl, fun _ _ => q_lz1 (i := 15) (y := (yX11_wrongPipeline, q_N 11)) rfl, fun h => absurd h (by decide +kernel), ⟨q_cc11.2.2.2.1, q_cc11.2.2.2.2, q_ds17⟩, by decide +kernel⟩
theorem q_m210 : q_mOK 210 := ⟨q_cc11.1, q_lw4 (i := 21) rfl, q_cc11.2.1, q_cc11.2.2.1, fun h => absurd h (by decide +kernel), fun _ => q_lw4 (i := 20) rfl, fun _ _ => q_lz2 (i := 0) (y := (yX11_wrongPaths, q_N 11)) rfl, fun h => absurd h (by decide +kernel), ⟨q_cc11.2.2.2.1, q_cc11.2.2.2.2, q_ds17⟩, by decide +kernel⟩
theorem q_m211 : q_mOK 211 := ⟨q_cc11.1, q_lw4 (i := 61) rfl, q_cc11.2.1, q_cc11.2.2.1, fun h => absurd h (by decide +kernel), fun _ => q_lw4 (i := 60) rfl, fun _ _ => q_lz2 (i := 4) (y := (yX11_wrongChange, q_N 11)) rfl, fun h => absurd h (by decide +kernel), ⟨q_cc11.2.2.2.1, q_cc11.2.2.2.2, q_ds17⟩, by decide +kernel⟩
theorem q_m212 : q_mOK 212 := ⟨q_cc11.1, q_lw4 (i := 66) rfl, q_cc11.2.1, q_cc11.2.2.1, fun h => absurd h (by decide +kernel), fun _ => q_lw4 (i := 65) rfl, fun _ _ => q_lz2 (i := 5) (y := (yX11_wrongDown, q_N 11)) rfl, fun h => absurd h (by decide +kernel), ⟨q_cc11.2.2.2.1, q_cc11.2.2.2.2, q_ds17⟩, by decide +kernel⟩
theorem q_m213 : q_mOK 213 := ⟨q_cc11.1, q_lw4 (i := 79) rfl, q_cc11.2.1, q_cc11.2.2.1, fun h => absurd h (by decide +kernel), fun _ => q_lw4 (i := 78) rfl, fun _ _ => q_lz2 (i := 7) (y := (yX11_insert, q_N 11)) rfl, fun h => absurd h (by decide +kernel), ⟨q_cc11.2.2.2.1, q_cc11.2.2.2.2, q_ds35⟩, by decide +kernel⟩
theorem q_m214 : q_mOK 214 := ⟨q_cc11.1, q_lw4 (i := 226) rfl, q_cc11.2.1, q_cc11.2.2.1, fun h => absurd h (by decide +kernel), fun _ => q_lw4 (i := 225) rfl, fun _ _ => q_lz3 (i := 14) (y := (yX11_hitsOfFilter, q_N 11)) rfl, fun h => absurd h (by decide +kernel), ⟨q_cc11.2.2.2.1, q_cc11.2.2.2.2, q_ds17⟩, by decide +kernel⟩
theorem q_m215 : q_mOK 215 := ⟨q_cc11.1, q_lw4 (i := 222) rfl, q_cc11.2.1, q_cc11.2.2.1, fun h => absurd h (by decide +kernel), fun _ => q_lw4 (i := 221) rfl, fun _ _ => q_lz3 (i := 13) (y := (yX11_find, q_N 11)) rfl, fun h => absurd h (by decide +kernel), ⟨q_cc11.2.2.2.1, q_cc11.2.2.2.2, q_ds35⟩, by decide +kernel⟩
theorem q_m216 : q_mOK 216 := ⟨q_cc11.1, q_lw5 (i := 157) rfl, q_cc11.2.1, q_cc11.2.2.1, fun h => absurd h (by decide +kernel), fun _ => q_lw5 (i := 156) rfl, fun _ _ => q_lz5 (i := 11) (y := (yX11_count, q_N 11)) rfl, fun h => absurd h (by decide +kernel), ⟨q_cc11.2.2.2.1, q_cc11.2.2.2.2, q_ds35⟩, by decide +kernel⟩
theorem q_m217 : q_mOK 217 := ⟨q_cc11.1, q_lw6 (i := 97) rfl, q_cc11.2.1, q_cc11.2.2.1, fun h => absurd h (by decide +kernel), fun _ => q_lw6 (i := 96) rfl, fun _ _ => q_lz7 (i := 11) (y := (yX11_delete, q_N 11)) rfl, fun h => absurd h (by decide +kernel), ⟨q_cc11.2.2.2.1, q_cc11.2.2.2.2, q_ds35⟩, by decide +kernel⟩
theorem q_m218 : q_mOK 218 := ⟨q_cc11.1, q_lw5 (i := 161) rfl, q_cc11.2.1, q_cc11.2.2.1, fun h => absurd h (by decide +kernel), fun _ => q_lw5 (i := 160) rfl, fun _ _ => q_lz5 (i := 12) (y := (yX11_update, q_N 11)) rfl, fun h => absurd h (by decide +kernel), ⟨q_cc11.2.2.2.1, q_cc11.2.2.2.2, q_ds35⟩, by decide +kernel⟩
theorem q_m219 : q_mOK 219 := ⟨q_cc11.1, q_lw6 (i := 105) rfl, q_cc11.2.1, q_cc11.2.2.1, fun h => absurd h (by decide +kernel), fun _ => q_lw6 (i := 104) rfl, fun _ _ => q_lz7 (i := 13) (y := (yX11_makeIndex, q_N 11)) rfl, fun h => absurd h (by decide +kernel), ⟨q_cc11.2.2.2.1, q_cc11.2.2.2.2, q_ds35⟩, by decide +kernel⟩
theorem q_m220 : q_mOK 220 := ⟨q_cc11.1, q_lw6 (i := 133) rfl, q_cc11.2.1, q_cc11.2.2.1, fun h => absurd h (by decide +kernel), fun _ => q_lw6 (i := 132) rfl, fun _ _ => q_lz8 (i := 3) (y := (yX11_askedIndex, q_N 11)) rfl, fun h => absurd h (by decide +kernel), ⟨q_cc11.2.2.2.1, q_cc11.2.2.2.2, q_ds57⟩, by decide +kernel⟩
theorem q_m221 : q_mOK 221 := ⟨q_cc11.1, q_lw6 (i := 129) rfl, q_cc11.2.1, q_cc11.2.2.1, fun h => absurd h (by decide +kernel), fun _ => q_lw6 (i := 128) rfl, fun _ _ => q_lz8 (i := 2) (y := (yX11_drop, q_N 11)) rfl, fun h => absurd h (by decide +kernel), ⟨q_cc11.2.2.2.1, q_cc11.2.2.2.2, q_ds35⟩, by decide +kernel⟩
theorem q_m222 : q_mOK 222 := ⟨q_cc11.1, q_lw7 (i := 217) rfl, q_cc11.2.1, q_cc11.2.2.1, fun h => absurd h (by decide +kernel), fun _ => q_lw7 (i := 216) rfl, fun _ _ => q_lz11 (i := 13) (y := (yX11_shape, q_N 11)) rfl, fun h => absurd h (by decide +kernel), ⟨q_cc11.2.2.2.1, q_cc11.2.2.2.2, q_ds35⟩, by decide +kernel⟩
theorem q_m223 : q_mOK 223 := ⟨q_cc11.1, q_lw6 (i := 143) rfl, q_cc11.2.1, q_cc11.2.2.1, fun h => absurd h (by decide +kernel), fun _ => q_lw6 (i := 142) rfl, fun _ _ => q_lz8 (i := 5) (y := (yX11_pipeline, q_N 11)) rfl, fun h => absurd h (by decide +kernel), ⟨q_cc11.2.2.2.1, q_cc11.2.2.2.2, q_ds35⟩, by decide +kernel⟩
theorem q_m224 : q_mOK 224 := ⟨q_cc11.1, q_lw7 (i := 124) rfl, q_cc11.2.1, q_cc11.2.2.1, fun h => absurd h (by decide +kernel), fun _ => q_lw7 (i := 123) rfl, fun _ _ => q_lz10 (i := 11) (y := (yX11_explain, q_N 11)) rfl, fun h => absurd h (by decide +kernel), ⟨q_cc11.2.2.2.1, q_cc11.2.2.2.2, q_ds35⟩, by decide +kernel⟩
theorem q_m225 : q_mOK 225 := ⟨q_cc12.1, q_lw8 (i := 26) rfl, q_cc12.2.1, q_cc12.2.2.1, fun h => absurd h (by decide +kernel), fun _ => q_lw8 (i := 25) rfl, fun _ h => absurd h (by decide +kernel), fun _ => rfl, ⟨q_cc12.2.2.2.1, q_cc12.2.2.2.2, q_ds35⟩, by decide +kernel⟩
theorem q_m226 : q_mOK 226 := ⟨q_cc12.1, q_lw9 (i := 62) rfl, q_cc12.2.1, q_cc12.2.2.1, fun h => absurd h (by decide +kernel), fun _ => q_lw9 (i := 61) rfl, fun _ _ => q_lz12 (i := 8) (y := (yX12_at, q_N 12)) rfl, fun h => absurd h (by decide +kernel), ⟨q_cc12.2.2.2.1, q_cc12.2.2.2.2, q_ds18⟩, by decide +kernel⟩
theorem q_m227 : q_mOK 227 := ⟨q_cc12.1, q_lw9 (i := 58) rfl, q_cc12.2.1, q_cc12.2.2.1, fun h => absurd h (by decide +kernel), fun _ => q_lw9 (i := 57) rfl, fun _ _ => q_lz12 (i := 7) (y := (yX12_int4, q_N 12)) rfl, fun h => absurd h (by decide +kernel), ⟨q_cc12.2.2.2.1, q_cc12.2.2.2.2, q_ds18⟩, by decide +kernel⟩
theorem q_m228 : q_mOK 228 := ⟨q_cc12.1, q_lw9 (i := 219) rfl, q_cc12.2.1, q_cc12.2.2.1, fun h => absurd h (by decide +kernel), fun _ => q_lw9 (i := 218) rfl, fun _ _ => q_lz14 (i := 9) (y := (yX12_long8, q_N 12)) rfl, fun h => absurd h (by decide +kernel), ⟨q_cc12.2.2.2.1, q_cc12.2.2.2.2, q_ds52⟩, by decide +kernel⟩
theorem q_m229 : q_mOK 229 := ⟨q_cc12.1, q_lw10 (i := 76) rfl, q_cc12.2.1, q_cc12.2.2.1, fun h => absurd h (by decide +kernel), fun _ => q_lw10 (i := 75) rfl, fun _ _ => q_lz15 (i := 14) (y := (yX12_setInt4, q_N 12)) rfl, fun h => absurd h (by decide +kernel), ⟨q_cc12.2.2.2.1, q_cc12.2.2.2.2, q_ds10⟩, by decide +kernel⟩
theorem q_m230 : q_mOK 230 := ⟨q_cc12.1, q_lw9 (i := 106) rfl, q_cc12.2.1, q_cc12.2.2.1, fun h => absurd h (by decide +kernel), fun _ => q_lw9 (i := 105) rfl, fun _ _ => q_lz13 (i := 0) (y := (yX12_isSameBytes, q_N 12)) rfl, fun h => absurd h (by decide +kernel), ⟨q_cc12.2.2.2.1, q_cc12.2.2.2.2, q_ds21⟩, by decide +kernel⟩
theorem q_m231 : q_mOK 231 := ⟨q_cc12.1, q_lw9 (i := 156) rfl, q_cc12.2.1, q_cc12.2.2.1, fun h => absurd h (by decide +kernel), fun _ => q_lw9 (i := 155) rfl, fun _ _ => q_lz13 (i := 12) (y := (yX12_is, q_N 12)) rfl, fun h => absurd h (by decide +kernel), ⟨q_cc12.2.2.2.1, q_cc12.2.2.2.2, q_ds58⟩, by decide +kernel⟩
theorem q_m232 : q_mOK 232 := ⟨q_cc12.1, q_lw9 (i := 102) rfl, q_cc12.2.1, q_cc12.2.2.1, fun h => absurd h (by decide +kernel), fun _ => q_lw9 (i := 101) rfl, fun _ _ => q_lz12 (i := 15) (y := (yX12_nameEnd, q_N 12)) rfl, fun h => absurd h (by decide +kernel), ⟨q_cc12.2.2.2.1, q_cc12.2.2.2.2, q_ds18⟩, by decide +kernel⟩
theorem q_m233 : q_mOK 233 := ⟨q_cc12.1, q_lw9 (i := 114) rfl, q_cc12.2.1, q_cc12.2.2.1, fun h => absurd h (by decide +kernel), fun _ => q_lw9 (i := 113) rfl, fun _ _ => q_lz13 (i := 2) (y := (yX12_value, q_N 12)) rfl, fun h => absurd h (by decide +kernel), ⟨q_cc12.2.2.2.1, q_cc12.2.2.2.2, q_ds18⟩, by decide +kernel⟩
theorem q_m234 : q_mOK 234 := ⟨q_cc12.1, q_lw9 (i := 118) rfl, q_cc12.2.1, q_cc12.2.2.1, fun h => absurd h (by decide +kernel), fun _ => q_lw9 (i := 117) rfl, fun _ _ => q_lz13 (i := 3) (y := (yX12_lengthOf, q_N 12)) rfl, fun h => absurd h (by decide +kernel), ⟨q_cc12.2.2.2.1, q_cc12.2.2.2.2, q_ds16⟩, by decide +kernel⟩
theorem q_m235 : q_mOK 235 := ⟨q_cc12.1, q_lw9 (i := 110) rfl, q_cc12.2.1, q_cc12.2.2.1, fun h => absurd h (by decide +kernel), fun _ => q_lw9 (i := 109) rfl, fun _ _ => q_lz13 (i := 1) (y := (yX12_behind, q_N 12)) rfl, fun h => absurd h (by decide +kernel), ⟨q_cc12.2.2.2.1, q_cc12.2.2.2.2, q_ds18⟩, by decide +kernel⟩
theorem q_m236 : q_mOK 236 := ⟨q_cc12.1, q_lw9 (i := 152) rfl, q_cc12.2.1, q_cc12.2.2.1, fun h => absurd h (by decide +kernel), fun _ => q_lw9 (i := 151) rfl, fun _ _ => q_lz13 (i := 11) (y := (yX12_isName, q_N 12)) rfl, fun h => absurd h (by decide +kernel), ⟨q_cc12.2.2.2.1, q_cc12.2.2.2.2, q_ds59⟩, by decide +kernel⟩
theorem q_m237 : q_mOK 237 := ⟨q_cc12.1, q_lw9 (i := 75) rfl, q_cc12.2.1, q_cc12.2.2.1, fun _ => q_lw9 (i := 74) rfl, fun h => absurd h (by decide +kernel), fun h => absurd h (by decide +kernel), fun h => absurd h (by decide +kernel), ⟨q_cc12.2.2.2.1, q_cc12.2.2.2.2, q_ds18⟩, by decide +kernel⟩
theorem q_m238 : q_mOK 238 := ⟨q_cc12.1, q_lw9 (i := 72) rfl, q_cc12.2.1, q_cc12.2.2.1, fun h => absurd h (by decide +kernel), fun _ => q_lw9 (i := 71) rfl, fun _ _ => q_lz12 (i := 10) (y := (yX12_last, q_N 12)) rfl, fun h => absurd h (by decide +kernel), ⟨q_cc12.2.2.2.1, q_cc12.2.2.2.2, q_ds18⟩, by decide +kernel⟩
theorem q_m239 : q_mOK 239 := ⟨q_cc12.1, q_lw9 (i := 179) rfl, q_cc12.2.1, q_cc12.2.2.1, fun h => absurd h (by decide +kernel), fun _ => q_lw9 (i := 178) rfl, fun _ _ => q_lz13 (i := 15) (y := (yX12_count, q_N 12)) rfl, fun h => absurd h (by decide +kernel), ⟨q_cc12.2.2.2.1, q_cc12.2.2.2.2, q_ds18⟩, by decide +kernel⟩
theorem q_m240 : q_mOK 240 := ⟨q_cc12.1, q_lw10 (i := 109) rfl, q_cc12.2.1, q_cc12.2.2.1, fun h => absurd h (by decide +kernel), fun _ => q_lw10 (i := 108) rfl, fun _ _ => q_lz16 (i := 6) (y := (yX12_find, q_N 12)) rfl, fun h => absurd h (by decide +kernel), ⟨q_cc12.2.2.2.1, q_cc12.2.2.2.2, q_ds19⟩, by decide +kernel⟩
theorem q_m241 : q_mOK 241 := ⟨q_cc12.1, q_lw9 (i := 135) rfl, q_cc12.2.1, q_cc12.2.2.1, fun h => absurd h (by decide +kernel), fun _ => q_lw9 (i := 134) rfl, fun _ _ => q_lz13 (i := 7) (y := (yX12_item, q_N 12)) rfl, fun h => absurd h (by decide +kernel), ⟨q_cc12.2.2.2.1, q_cc12.2.2.2.2, q_ds16⟩, by decide +kernel⟩
theorem q_m242 : q_mOK 242 := ⟨q_cc12.1, q_lw9 (i := 169) rfl, q_cc12.2.1, q_cc12.2.2.1, fun h => absurd h (by decide +kernel), fun _ => q_lw9 (i := 168) rfl, fun _ _ => q_lz13 (i := 13) (y := (yX12_isNumber, q_N 12)) rfl, fun h => absurd h (by decide +kernel), ⟨q_cc12.2.2.2.1, q_cc12.2.2.2.2, q_ds5⟩, by decide +kernel⟩
theorem q_m243 : q_mOK 243 := ⟨q_cc12.1, q_lw9 (i := 215) rfl, q_cc12.2.1, q_cc12.2.2.1, fun h => absurd h (by decide +kernel), fun _ => q_lw9 (i := 214) rfl, fun _ _ => q_lz14 (i := 8) (y := (yX12_number, q_N 12)) rfl, fun h => absurd h (by decide +kernel), ⟨q_cc12.2.2.2.1, q_cc12.2.2.2.2, q_ds52⟩, by decide +kernel⟩
theorem q_m244 : q_mOK 244 := ⟨q_cc12.1, q_lw11 (i := 235) rfl, q_cc12.2.1, q_cc12.2.2.1, fun h => absurd h (by decide +kernel), fun _ => q_lw11 (i := 234) rfl, fun _ _ => q_lz21 (i := 6) (y := (yX12_depth, q_N 12)) rfl, fun h => absurd h (by decide +kernel), ⟨q_cc12.2.2.2.1, q_cc12.2.2.2.2, q_ds18⟩, by decide +kernel⟩
theorem q_m245 : q_mOK 245 := ⟨q_cc12.1, q_lw10 (i := 17) rfl, q_cc12.2.1, q_cc12.2.2.1, fun h => absurd h (by decide +kernel), fun _ => q_lw10 (i := 16) rfl, fun _ _ => q_lz15 (i := 1) (y := (yX12_write, q_N 12)) rfl, fun h => absurd h (by decide +kernel), ⟨q_cc12.2.2.2.1, q_cc12.2.2.2.2, q_ds10⟩, by decide +kernel⟩
theorem q_m246 : q_mOK 246 := ⟨q_cc12.1, q_lw10 (i := 29) rfl, q_cc12.2.1, q_cc12.2.2.1, fun h => absurd h (by decide +kernel), fun _ => q_lw10 (i := 28) rfl, fun _ _ => q_lz15 (i := 4) (y := (yX12_put, q_N 12)) rfl, fun h => absurd h (by decide +kernel), ⟨q_cc12.2.2.2.1, q_cc12.2.2.2.2, q_ds15⟩, by decide +kernel⟩
theorem q_m247 : q_mOK 247 := ⟨q_cc12.1, q_lw10 (i := 25) rfl, q_cc12.2.1, q_cc12.2.2.1, fun h => absurd h (by decide +kernel), fun _ => q_lw10 (i := 24) rfl, fun _ _ => q_lz15 (i := 3) (y := (yX12_putInt, q_N 12)) rfl, fun h => absurd h (by decide +kernel), ⟨q_cc12.2.2.2.1, q_cc12.2.2.2.2, q_ds15⟩, by decide +kernel⟩
theorem q_m248 : q_mOK 248 := ⟨q_cc12.1, q_lw10 (i := 171) rfl, q_cc12.2.1, q_cc12.2.2.1, fun h => absurd h (by decide +kernel), fun _ => q_lw10 (i := 170) rfl, fun _ _ => q_lz17 (i := 5) (y := (yX12_putBytes, q_N 12)) rfl, fun h => absurd h (by decide +kernel), ⟨q_cc12.2.2.2.1, q_cc12.2.2.2.2, q_ds10⟩, by decide +kernel⟩
theorem q_m249 : q_mOK 249 := ⟨q_cc12.1, q_lw10 (i := 38) rfl, q_cc12.2.1, q_cc12.2.2.1, fun h => absurd h (by decide +kernel), fun _ => q_lw10 (i := 37) rfl, fun _ _ => q_lz15 (i := 6) (y := (yX12_putWord, q_N 12)) rfl, fun h => absurd h (by decide +kernel), ⟨q_cc12.2.2.2.1, q_cc12.2.2.2.2, q_ds60⟩, by decide +kernel⟩
theorem q_m250 : q_mOK 250 := ⟨q_cc12.1, q_lw11 (i := 186) rfl, q_cc12.2.1, q_cc12.2.2.1, fun h => absurd h (by decide +kernel), fun _ => q_lw11 (i := 185) rfl, fun _ _ => q_lz20 (i := 11) (y := (yX12_putDigits, q_N 12)) rfl, fun h => absurd h (by decide +kernel), ⟨q_cc12.2.2.2.1, q_cc12.2.2.2.2, q_ds15⟩, by decide +kernel⟩
theorem q_m251 : q_mOK 251 := ⟨q_cc12.1, q_lw10 (i := 21) rfl, q_cc12.2.1, q_cc12.2.2.1, fun h => absurd h (by decide +kernel), fun _ => q_lw10 (i := 20) rfl, fun _ _ => q_lz15 (i := 2) (y := (yX12_open, q_N 12)) rfl, fun h => absurd h (by decide +kernel), ⟨q_cc12.2.2.2.1, q_cc12.2.2.2.2, q_ds17⟩, by decide +kernel⟩
theorem q_m252 : q_mOK 252 := ⟨q_cc12.1, q_lw10 (i := 72) rfl, q_cc12.2.1, q_cc12.2.2.1, fun h => absurd h (by decide +kernel), fun _ => q_lw10 (i := 71) rfl, fun _ _ => q_lz15 (i := 13) (y := (yX12_close, q_N 12)) rfl, fun h => absurd h (by decide +kernel), ⟨q_cc12.2.2.2.1, q_cc12.2.2.2.2, q_ds15⟩, by decide +kernel⟩
theorem q_m253 : q_mOK 253 := ⟨q_cc12.1, q_lw10 (i := 167) rfl, q_cc12.2.1, q_cc12.2.2.1, fun h => absurd h (by decide +kernel), fun _ => q_lw10 (i := 166) rfl, fun _ _ => q_lz17 (i := 4) (y := (yX12_putValue, q_N 12)) rfl, fun h => absurd h (by decide +kernel), ⟨q_cc12.2.2.2.1, q_cc12.2.2.2.2, q_ds15⟩, by decide +kernel⟩
theorem q_m254 : q_mOK 254 := ⟨q_cc12.1, q_lw11 (i := 193) rfl, q_cc12.2.1, q_cc12.2.2.1, fun h => absurd h (by decide +kernel), fun _ => q_lw11 (i := 192) rfl, fun _ _ => q_lz20 (i := 12) (y := (yX12_putAs, q_N 12)) rfl, fun h => absurd h (by decide +kernel), ⟨q_cc12.2.2.2.1, q_cc12.2.2.2.2, q_ds51⟩, by decide +kernel⟩
theorem q_m255 : q_mOK 255 := ⟨q_cc12.1, q_lw10 (i := 43) rfl, q_cc12.2.1, q_cc12.2.2.1, fun h => absurd h (by decide +kernel), fun _ => q_lw10 (i := 42) rfl, fun _ _ => q_lz15 (i := 7) (y := (yX12_putNumber, q_N 12)) rfl, fun h => absurd h (by decide +kernel), ⟨q_cc12.2.2.2.1, q_cc12.2.2.2.2, q_ds33⟩, by decide +kernel⟩
theorem q_m256 : q_mOK 256 := ⟨q_cc12.1, q_lw10 (i := 34) rfl, q_cc12.2.1, q_cc12.2.2.1, fun h => absurd h (by decide +kernel), fun _ => q_lw10 (i := 33) rfl, fun _ _ => q_lz15 (i := 5) (y := (yX12_putTruth, q_N 12)) rfl, fun h => absurd h (by decide +kernel), ⟨q_cc12.2.2.2.1, q_cc12.2.2.2.2, q_ds34⟩, by decide +kernel⟩
theorem q_m257 : q_mOK 257 := ⟨q_cc12.1, q_lw9 (i := 54) rfl, q_cc12.2.1, q_cc12.2.2.1, fun h => absurd h (by decide +kernel), fun _ => q_lw9 (i := 53) rfl, fun _ _ => q_lz12 (i := 6) (y := (yX12_fails, q_N 12)) rfl, fun h => absurd h (by decide +kernel), ⟨q_cc12.2.2.2.1, q_cc12.2.2.2.2, q_ds7⟩, by decide +kernel⟩
theorem q_m258 : q_mOK 258 := ⟨q_cc12.1, q_lw9 (i := 86) rfl, q_cc12.2.1, q_cc12.2.2.1, fun h => absurd h (by decide +kernel), fun _ => q_lw9 (i := 85) rfl, fun _ _ => q_lz12 (i := 12) (y := (yX12_character, q_N 12)) rfl, fun h => absurd h (by decide +kernel), ⟨q_cc12.2.2.2.1, q_cc12.2.2.2.2, q_ds16⟩, by decide +kernel⟩
theorem q_m259 : q_mOK 259 := ⟨q_cc12.1, q_lw9 (i := 82) rfl, q_cc12.2.1, q_cc12.2.2.1, fun h => absurd h (by decide +kernel), fun _ => q_lw9 (i := 81) rfl, fun _ _ => q_lz12 (i := 11) (y := (yX12_isRight, q_N 12)) rfl, fun h => absurd h (by decide +kernel), ⟨q_cc12.2.2.2.1, q_cc12.2.2.2.2, q_ds7⟩, by decide +kernel⟩
theorem q_m260 : q_mOK 260 := ⟨q_cc12.1, q_lw9 (i := 50) rfl, q_cc12.2.1, q_cc12.2.2.1, fun h => absurd h (by decide +kernel), fun _ => q_lw9 (i := 49) rfl, fun _ _ => q_lz12 (i := 5) (y := (yX12_readAll, q_N 12)) rfl, fun h => absurd h (by decide +kernel), ⟨q_cc12.2.2.2.1, q_cc12.2.2.2.2, q_ds5⟩, by decide +kernel⟩
theorem q_m261 : q_mOK 261 := ⟨q_cc12.1, q_lw9 (i := 126) rfl, q_cc12.2.1, q_cc12.2.2.1, fun h => absurd h (by decide +kernel), fun _ => q_lw9 (i := 125) rfl, fun _ _ => q_lz13 (i := 5) (y := (yX12_readContainer, q_N 12)) rfl, fun h => absurd h (by decide +kernel), ⟨q_cc12.2.2.2.1, q_cc12.2.2.2.2, q_ds61⟩, by decide +kernel⟩
theorem q_m262 : q_mOK 262 := ⟨q_cc12.1, q_lw9 (i := 68) rfl, q_cc12.2.1, q_cc12.2.2.1, fun h => absurd h (by decide +kernel), fun _ => q_lw9 (i := 67) rfl, fun _ _ => q_lz12 (i := 9) (y := (yX12_readElements, q_N 12)) rfl, fun h => absurd h (by decide +kernel), ⟨q_cc12.2.2.2.1, q_cc12.2.2.2.2, q_ds62⟩, by decide +kernel⟩
theorem q_m263 : q_mOK 263 := ⟨q_cc12.1, q_lw9 (i := 78) rfl, q_cc12.2.1, q_cc12.2.2.1, fun _ => q_lw9 (i := 77) rfl, fun h => absurd h (by decide +kernel), fun h => absurd h (by decide +kernel), fun h => absurd h (by decide +kernel), ⟨q_cc12.2.2.2.1, q_cc12.2.2.2.2, q_ds5⟩, by decide +kernel⟩
theorem q_m264 : q_mOK 264 := ⟨q_cc12.1, q_lw9 (i := 94) rfl, q_cc12.2.1, q_cc12.2.2.1, fun h => absurd h (by decide +kernel), fun _ => q_lw9 (i := 93) rfl, fun _ _ => q_lz12 (i := 13) (y := (yX12_isDigits, q_N 12)) rfl, fun h => absurd h (by decide +kernel), ⟨q_cc12.2.2.2.1, q_cc12.2.2.2.2, q_ds9⟩, by decide +kernel⟩
theorem q_m265 : q_mOK 265 := ⟨q_cc12.1, q_lw9 (i := 98) rfl, q_cc12.2.1, q_cc12.2.2.1, fun h => absurd h (by decide +kernel), fun _ => q_lw9 (i := 97) rfl, fun _ _ => q_lz12 (i := 14) (y := (yX12_isThere, q_N 12)) rfl, fun h => absurd h (by decide +kernel), ⟨q_cc12.2.2.2.1, q_cc12.2.2.2.2, q_ds21⟩, by decide +kernel⟩
theorem q_m266 : q_mOK 266 := ⟨q_cc12.1, q_lw9 (i := 122) rfl, q_cc12.2.1, q_cc12.2.2.1, fun h => absurd h (by decide +kernel), fun _ => q_lw9 (i := 121) rfl, fun _ _ => q_lz13 (i := 4) (y := (yX12_readValue, q_N 12)) rfl, fun h => absurd h (by decide +kernel), ⟨q_cc12.2.2.2.1, q_cc12.2.2.2.2, q_ds21⟩, by decide +kernel⟩
theorem q_m267 : q_mOK 267 := ⟨q_cc12.1, q_lw9 (i := 211) rfl, q_cc12.2.1, q_cc12.2.2.1, fun h => absurd h (by decide +kernel), fun _ => q_lw9 (i := 210) rfl, fun _ _ => q_lz14 (i := 7) (y := (yX12_classOf, q_N 12)) rfl, fun h => absurd h (by decide +kernel), ⟨q_cc12.2.2.2.1, q_cc12.2.2.2.2, q_ds18⟩, by decide +kernel⟩
theorem q_m268 : q_mOK 268 := ⟨q_cc12.1, q_lw9 (i := 223) rfl, q_cc12.2.1, q_cc12.2.2.1, fun h => absurd h (by decide +kernel), fun _ => q_lw9 (i := 222) rfl, fun _ _ => q_lz14 (i := 10) (y := (yX12_compareBytes, q_N 12)) rfl, fun h => absurd h (by decide +kernel), ⟨q_cc12.2.2.2.1, q_cc12.2.2.2.2, q_ds38⟩, by decide +kernel⟩
theorem q_m269 : q_mOK 269 := ⟨q_cc12.1, q_lw9 (i := 207) rfl, q_cc12.2.1, q_cc12.2.2.1, fun h => absurd h (by decide +kernel), fun _ => q_lw9 (i := 206) rfl, fun _ _ => q_lz14 (i := 6) (y := (yX12_compare, q_N 12)) rfl, fun h => absurd h (by decide +kernel), ⟨q_cc12.2.2.2.1, q_cc12.2.2.2.2, q_ds16⟩, by decide +kernel⟩
theorem q_m270 : q_mOK 270 := ⟨q_cc12.1, q_lw9 (i := 227) rfl, q_cc12.2.1, q_cc12.2.2.1, fun h => absurd h (by decide +kernel), fun _ => q_lw9 (i := 226) rfl, fun _ _ => q_lz14 (i := 11) (y := (yX12_compareAll, q_N 12)) rfl, fun h => absurd h (by decide +kernel), ⟨q_cc12.2.2.2.1, q_cc12.2.2.2.2, q_ds63⟩, by decide +kernel⟩
theorem q_m271 : q_mOK 271 := ⟨q_cc12.1, q_lw9 (i := 203) rfl, q_cc12.2.1, q_cc12.2.2.1, fun h => absurd h (by decide +kernel), fun _ => q_lw9 (i := 202) rfl, fun _ _ => q_lz14 (i := 5) (y := (yX12_isSame, q_N 12)) rfl, fun h => absurd h (by decide +kernel), ⟨q_cc12.2.2.2.1, q_cc12.2.2.2.2, q_ds7⟩, by decide +kernel⟩
theorem q_m272 : q_mOK 272 := ⟨q_cc12.1, q_lw9 (i := 195) rfl, q_cc12.2.1, q_cc12.2.2.1, fun h => absurd h (by decide +kernel), fun _ => q_lw9 (i := 194) rfl, fun _ _ => q_lz14 (i := 3) (y := (yX12_stepEnd, q_N 12)) rfl, fun h => absurd h (by decide +kernel), ⟨q_cc12.2.2.2.1, q_cc12.2.2.2.2, q_ds16⟩, by decide +kernel⟩
theorem q_m273 : q_mOK 273 := ⟨q_cc12.1, q_lw9 (i := 191) rfl, q_cc12.2.1, q_cc12.2.2.1, fun h => absurd h (by decide +kernel), fun _ => q_lw9 (i := 190) rfl, fun _ _ => q_lz14 (i := 2) (y := (yX12_isPath, q_N 12)) rfl, fun h => absurd h (by decide +kernel), ⟨q_cc12.2.2.2.1, q_cc12.2.2.2.2, q_ds7⟩, by decide +kernel⟩
theorem q_m274 : q_mOK 274 := ⟨q_cc12.1, q_lw9 (i := 199) rfl, q_cc12.2.1, q_cc12.2.2.1, fun h => absurd h (by decide +kernel), fun _ => q_lw9 (i := 198) rfl, fun _ _ => q_lz14 (i := 4) (y := (yX12_hasDollar, q_N 12)) rfl, fun h => absurd h (by decide +kernel), ⟨q_cc12.2.2.2.1, q_cc12.2.2.2.2, q_ds7⟩, by decide +kernel⟩
theorem q_m275 : q_mOK 275 := ⟨q_cc12.1, q_lw9 (i := 187) rfl, q_cc12.2.1, q_cc12.2.2.1, fun h => absurd h (by decide +kernel), fun _ => q_lw9 (i := 186) rfl, fun _ _ => q_lz14 (i := 1) (y := (yX12_isPlainPath, q_N 12)) rfl, fun h => absurd h (by decide +kernel), ⟨q_cc12.2.2.2.1, q_cc12.2.2.2.2, q_ds7⟩, by decide +kernel⟩
theorem q_m276 : q_mOK 276 := ⟨q_cc12.1, q_lw10 (i := 125) rfl, q_cc12.2.1, q_cc12.2.2.1, fun h => absurd h (by decide +kernel), fun _ => q_lw10 (i := 124) rfl, fun _ _ => q_lz16 (i := 10) (y := (yX12_stepNumber, q_N 12)) rfl, fun h => absurd h (by decide +kernel), ⟨q_cc12.2.2.2.1, q_cc12.2.2.2.2, q_ds16⟩, by decide +kernel⟩
theorem q_m277 : q_mOK 277 := ⟨q_cc12.1, q_lw10 (i := 113) rfl, q_cc12.2.1, q_cc12.2.2.1, fun h => absurd h (by decide +kernel), fun _ => q_lw10 (i := 112) rfl, fun _ _ => q_lz16 (i := 7) (y := (yX12_addLeaf, q_N 12)) rfl, fun h => absurd h (by decide +kernel), ⟨q_cc12.2.2.2.1, q_cc12.2.2.2.2, q_ds15⟩, by decide +kernel⟩
theorem q_m278 : q_mOK 278 := ⟨q_cc12.1, q_lw10 (i := 117) rfl, q_cc12.2.1, q_cc12.2.2.1, fun h => absurd h (by decide +kernel), fun _ => q_lw10 (i := 116) rfl, fun _ _ => q_lz16 (i := 8) (y := (yX12_go, q_N 12)) rfl, fun h => absurd h (by decide +kernel), ⟨q_cc12.2.2.2.1, q_cc12.2.2.2.2, q_ds51⟩, by decide +kernel⟩
theorem q_m279 : q_mOK 279 := ⟨q_cc12.1, q_lw10 (i := 105) rfl, q_cc12.2.1, q_cc12.2.2.1, fun h => absurd h (by decide +kernel), fun _ => q_lw10 (i := 104) rfl, fun _ _ => q_lz16 (i := 5) (y := (yX12_goDocument, q_N 12)) rfl, fun h => absurd h (by decide +kernel), ⟨q_cc12.2.2.2.1, q_cc12.2.2.2.2, q_ds51⟩, by decide +kernel⟩
theorem q_m280 : q_mOK 280 := ⟨q_cc12.1, q_lw10 (i := 121) rfl, q_cc12.2.1, q_cc12.2.2.1, fun h => absurd h (by decide +kernel), fun _ => q_lw10 (i := 120) rfl, fun _ _ => q_lz16 (i := 9) (y := (yX12_goRow, q_N 12)) rfl, fun h => absurd h (by decide +kernel), ⟨q_cc12.2.2.2.1, q_cc12.2.2.2.2, q_ds51⟩, by decide +kernel⟩
theorem q_m281 : q_mOK 281 := ⟨q_cc12.1, q_lw11 (i := 147) rfl, q_cc12.2.1, q_cc12.2.2.1, fun h => absurd h (by decide +kernel), fun _ => q_lw11 (i := 146) rfl, fun _ _ => q_lz20 (i := 2) (y := (yX12_withItems, q_N 12)) rfl, fun h => absurd h (by decide +kernel), ⟨q_cc12.2.2.2.1, q_cc12.2.2.2.2, q_ds19⟩, by decide +kernel⟩
theorem q_m282 : q_mOK 282 := ⟨q_cc12.1, q_lw10 (i := 236) rfl, q_cc12.2.1, q_cc12.2.2.1, fun h => absurd h (by decide +kernel), fun _ => q_lw10 (i := 235) rfl, fun _ _ => q_lz18 (i := 5) (y := (yX12_begins, q_N 12)) rfl, fun h => absurd h (by decide +kernel), ⟨q_cc12.2.2.2.1, q_cc12.2.2.2.2, q_ds7⟩, by decide +kernel⟩
theorem q_m283 : q_mOK 283 := ⟨q_cc12.1, q_lw11 (i := 4) rfl, q_cc12.2.1, q_cc12.2.2.1, fun h => absurd h (by decide +kernel), fun _ => q_lw11 (i := 3) rfl, fun _ _ => q_lz18 (i := 7) (y := (yX12_isJoining, q_N 12)) rfl, fun h => absurd h (by decide +kernel), ⟨q_cc12.2.2.2.1, q_cc12.2.2.2.2, q_ds5⟩, by decide +kernel⟩
theorem q_m284 : q_mOK 284 := ⟨q_cc12.1, q_lw11 (i := 15) rfl, q_cc12.2.1, q_cc12.2.2.1, fun h => absurd h (by decide +kernel), fun _ => q_lw11 (i := 14) rfl, fun _ _ => q_lz18 (i := 9) (y := (yX12_areConditions, q_N 12)) rfl, fun h => absurd h (by decide +kernel), ⟨q_cc12.2.2.2.1, q_cc12.2.2.2.2, q_ds5⟩, by decide +kernel⟩
theorem q_m285 : q_mOK 285 := ⟨q_cc12.1, q_lw11 (i := 43) rfl, q_cc12.2.1, q_cc12.2.2.1, fun h => absurd h (by decide +kernel), fun _ => q_lw11 (i := 42) rfl, fun _ _ => q_lz18 (i := 13) (y := (yX12_areOfItems, q_N 12)) rfl, fun h => absurd h (by decide +kernel), ⟨q_cc12.2.2.2.1, q_cc12.2.2.2.2, q_ds5⟩, by decide +kernel⟩
theorem q_m286 : q_mOK 286 := ⟨q_cc12.1, q_lw11 (i := 11) rfl, q_cc12.2.1, q_cc12.2.2.1, fun h => absurd h (by decide +kernel), fun _ => q_lw11 (i := 10) rfl, fun _ _ => q_lz18 (i := 8) (y := (yX12_counts, q_N 12)) rfl, fun h => absurd h (by decide +kernel), ⟨q_cc12.2.2.2.1, q_cc12.2.2.2.2, q_ds7⟩, by decide +kernel⟩
theorem q_m287 : q_mOK 287 := ⟨q_cc12.1, q_lw10 (i := 228) rfl, q_cc12.2.1, q_cc12.2.2.1, fun h => absurd h (by decide +kernel), fun _ => q_lw10 (i := 227) rfl, fun _ _ => q_lz18 (i := 3) (y := (yX12_isFilter, q_N 12)) rfl, fun h => absurd h (by decide +kernel), ⟨q_cc12.2.2.2.1, q_cc12.2.2.2.2, q_ds5⟩, by decide +kernel⟩
theorem q_m288 : q_mOK 288 := ⟨q_cc12.1, q_lw10 (i := 232) rfl, q_cc12.2.1, q_cc12.2.2.1, fun h => absurd h (by decide +kernel), fun _ => q_lw10 (i := 231) rfl, fun _ _ => q_lz18 (i := 4) (y := (yX12_checkFilter, q_N 12)) rfl, fun h => absurd h (by decide +kernel), ⟨q_cc12.2.2.2.1, q_cc12.2.2.2.2, q_ds5⟩, by decide +kernel⟩
theorem q_m289 : q_mOK 289 := ⟨q_cc12.1, q_lw11 (i := 0) rfl, q_cc12.2.1, q_cc12.2.2.1, fun h => absurd h (by decide +kernel), fun _ => q_lw10 (i := 239) rfl, fun _ _ => q_lz18 (i := 6) (y := (yX12_checkJoining, q_N 12)) rfl, fun h => absurd h (by decide +kernel), ⟨q_cc12.2.2.2.1, q_cc12.2.2.2.2, q_ds5⟩, by decide +kernel⟩
theorem q_m290 : q_mOK 290 := ⟨q_cc12.1, q_lw11 (i := 23) rfl, q_cc12.2.1, q_cc12.2.2.1, fun h => absurd h (by decide +kernel), fun _ => q_lw11 (i := 22) rfl, fun _ _ => q_lz18 (i := 11) (y := (yX12_isCondition, q_N 12)) rfl, fun h => absurd h (by decide +kernel), ⟨q_cc12.2.2.2.1, q_cc12.2.2.2.2, q_ds5⟩, by decide +kernel⟩
theorem q_m291 : q_mOK 291 := ⟨q_cc12.1, q_lw11 (i := 39) rfl, q_cc12.2.1, q_cc12.2.2.1, fun h => absurd h (by decide +kernel), fun _ => q_lw11 (i := 38) rfl, fun _ _ => q_lz18 (i := 12) (y := (yX12_hasRightValue, q_N 12)) rfl, fun h => absurd h (by decide +kernel), ⟨q_cc12.2.2.2.1, q_cc12.2.2.2.2, q_ds5⟩, by decide +kernel⟩
theorem q_m292 : q_mOK 292 := ⟨q_cc12.1, q_lw11 (i := 19) rfl, q_cc12.2.1, q_cc12.2.2.1, fun h => absurd h (by decide +kernel), fun _ => q_lw11 (i := 18) rfl, fun _ _ => q_lz18 (i := 10) (y := (yX12_checkConditions, q_N 12)) rfl, fun h => absurd h (by decide +kernel), ⟨q_cc12.2.2.2.1, q_cc12.2.2.2.2, q_ds5⟩, by decide +kernel⟩
theorem q_m293 : q_mOK 293 := ⟨q_cc12.1, q_lw11 (i := 47) rfl, q_cc12.2.1, q_cc12.2.2.1, fun h => absurd h (by decide +kernel), fun _ => q_lw11 (i := 46) rfl, fun _ _ => q_lz18 (i := 14) (y := (yX12_holds, q_N 12)) rfl, fun h => absurd h (by decide +kernel), ⟨q_cc12.2.2.2.1, q_cc12.2.2.2.2, q_ds7⟩, by decide +kernel⟩
theorem q_m294 : q_mOK 294 := ⟨q_cc12.1, q_lw11 (i := 51) rfl, q_cc12.2.1, q_cc12.2.2.1, fun h => absurd h (by decide +kernel), fun _ => q_lw11 (i := 50) rfl, fun _ _ => q_lz18 (i := 15) (y := (yX12_holdsOne, q_N 12)) rfl, fun h => absurd h (by decide +kernel), ⟨q_cc12.2.2.2.1, q_cc12.2.2.2.2, q_ds7⟩, by decide +kernel⟩
theorem q_m295 : q_mOK 295 := ⟨q_cc12.1, q_lw11 (i := 55) rfl, q_cc12.2.1, q_cc12.2.2.1, fun h => absurd h (by decide +kernel), fun _ => q_lw11 (i := 54) rfl, fun _ _ => q_lz19 (i := 0) (y := (yX12_hold, q_N 12)) rfl, fun h => absurd h (by decide +kernel), ⟨q_cc12.2.2.2.1, q_cc12.2.2.2.2, q_ds9⟩, by decide +kernel⟩
theorem q_m296 : q_mOK 296 := ⟨q_cc12.1, q_lw11 (i := 59) rfl, q_cc12.2.1, q_cc12.2.2.1, fun h => absurd h (by decide +kernel), fun _ => q_lw11 (i := 58) rfl, fun _ _ => q_lz19 (i := 1) (y := (yX12_holdsCondition, q_N 12)) rfl, fun h => absurd h (by decide +kernel), ⟨q_cc12.2.2.2.1, q_cc12.2.2.2.2, q_ds9⟩, by decide +kernel⟩
theorem q_m297 : q_mOK 297 := ⟨q_cc12.1, q_lw11 (i := 71) rfl, q_cc12.2.1, q_cc12.2.2.1, fun h => absurd h (by decide +kernel), fun _ => q_lw11 (i := 70) rfl, fun _ _ => q_lz19 (i := 4) (y := (yX12_hasItem, q_N 12)) rfl, fun h => absurd h (by decide +kernel), ⟨q_cc12.2.2.2.1, q_cc12.2.2.2.2, q_ds7⟩, by decide +kernel⟩
theorem q_m298 : q_mOK 298 := ⟨q_cc12.1, q_lw11 (i := 63) rfl, q_cc12.2.1, q_cc12.2.2.1, fun h => absurd h (by decide +kernel), fun _ => q_lw11 (i := 62) rfl, fun _ _ => q_lz19 (i := 2) (y := (yX12_equals, q_N 12)) rfl, fun h => absurd h (by decide +kernel), ⟨q_cc12.2.2.2.1, q_cc12.2.2.2.2, q_ds9⟩, by decide +kernel⟩
theorem q_m299 : q_mOK 299 := ⟨q_cc12.1, q_lw11 (i := 67) rfl, q_cc12.2.1, q_cc12.2.2.1, fun h => absurd h (by decide +kernel), fun _ => q_lw11 (i := 66) rfl, fun _ _ => q_lz19 (i := 3) (y := (yX12_equalsSome, q_N 12)) rfl, fun h => absurd h (by decide +kernel), ⟨q_cc12.2.2.2.1, q_cc12.2.2.2.2, q_ds9⟩, by decide +kernel⟩
theorem q_m300 : q_mOK 300 := ⟨q_cc12.1, q_lw11 (i := 75) rfl, q_cc12.2.1, q_cc12.2.2.1, fun h => absurd h (by decide +kernel), fun _ => q_lw11 (i := 74) rfl, fun _ _ => q_lz19 (i := 5) (y := (yX12_compares, q_N 12)) rfl, fun h => absurd h (by decide +kernel), ⟨q_cc12.2.2.2.1, q_cc12.2.2.2.2, q_ds9⟩, by decide +kernel⟩
theorem q_m301 : q_mOK 301 := ⟨q_cc12.1, q_lw11 (i := 79) rfl, q_cc12.2.1, q_cc12.2.2.1, fun h => absurd h (by decide +kernel), fun _ => q_lw11 (i := 78) rfl, fun _ _ => q_lz19 (i := 6) (y := (yX12_isBeside, q_N 12)) rfl, fun h => absurd h (by decide +kernel), ⟨q_cc12.2.2.2.1, q_cc12.2.2.2.2, q_ds7⟩, by decide +kernel⟩
theorem q_m302 : q_mOK 302 := ⟨q_cc12.1, q_lw12 (i := 112) rfl, q_cc12.2.1, q_cc12.2.2.1, fun h => absurd h (by decide +kernel), fun _ => q_lw12 (i := 111) rfl, fun _ _ => q_lz23 (i := 0) (y := (yX12_isOperator, q_N 12)) rfl, fun h => absurd h (by decide +kernel), ⟨q_cc12.2.2.2.1, q_cc12.2.2.2.2, q_ds5⟩, by decide +kernel⟩
theorem q_m303 : q_mOK 303 := ⟨q_cc12.1, q_lw12 (i := 124) rfl, q_cc12.2.1, q_cc12.2.2.1, fun h => absurd h (by decide +kernel), fun _ => q_lw12 (i := 123) rfl, fun _ _ => q_lz23 (i := 2) (y := (yX12_areAlong, q_N 12)) rfl, fun h => absurd h (by decide +kernel), ⟨q_cc12.2.2.2.1, q_cc12.2.2.2.2, q_ds7⟩, by decide +kernel⟩
theorem q_m304 : q_mOK 304 := ⟨q_cc12.1, q_lw12 (i := 120) rfl, q_cc12.2.1, q_cc12.2.2.1, fun h => absurd h (by decide +kernel), fun _ => q_lw12 (i := 119) rfl, fun _ _ => q_lz23 (i := 1) (y := (yX12_isTaken, q_N 12)) rfl, fun h => absurd h (by decide +kernel), ⟨q_cc12.2.2.2.1, q_cc12.2.2.2.2, q_ds7⟩, by decide +kernel⟩
theorem q_m305 : q_mOK 305 := ⟨q_cc12.1, q_lw12 (i := 108) rfl, q_cc12.2.1, q_cc12.2.2.1, fun h => absurd h (by decide +kernel), fun _ => q_lw12 (i := 107) rfl, fun _ _ => q_lz22 (i := 15) (y := (yX12_isChange, q_N 12)) rfl, fun h => absurd h (by decide +kernel), ⟨q_cc12.2.2.2.1, q_cc12.2.2.2.2, q_ds5⟩, by decide +kernel⟩
theorem q_m306 : q_mOK 306 := ⟨q_cc12.1, q_lw12 (i := 167) rfl, q_cc12.2.1, q_cc12.2.2.1, fun h => absurd h (by decide +kernel), fun _ => q_lw12 (i := 166) rfl, fun _ _ => q_lz23 (i := 12) (y := (yX12_splice, q_N 12)) rfl, fun h => absurd h (by decide +kernel), ⟨q_cc12.2.2.2.1, q_cc12.2.2.2.2, q_ds10⟩, by decide +kernel⟩
theorem q_m307 : q_mOK 307 := ⟨q_cc12.1, q_lw12 (i := 158) rfl, q_cc12.2.1, q_cc12.2.2.1, fun h => absurd h (by decide +kernel), fun _ => q_lw12 (i := 157) rfl, fun _ _ => q_lz23 (i := 10) (y := (yX12_writeLoose, q_N 12)) rfl, fun h => absurd h (by decide +kernel), ⟨q_cc12.2.2.2.1, q_cc12.2.2.2.2, q_ds35⟩, by decide +kernel⟩
theorem q_m308 : q_mOK 308 := ⟨q_cc12.1, q_lw12 (i := 171) rfl, q_cc12.2.1, q_cc12.2.2.1, fun h => absurd h (by decide +kernel), fun _ => q_lw12 (i := 170) rfl, fun _ _ => q_lz23 (i := 13) (y := (yX12_append, q_N 12)) rfl, fun h => absurd h (by decide +kernel), ⟨q_cc12.2.2.2.1, q_cc12.2.2.2.2, q_ds17⟩, by decide +kernel⟩
theorem q_m309 : q_mOK 309 := ⟨q_cc12.1, q_lw12 (i := 154) rfl, q_cc12.2.1, q_cc12.2.2.1, fun h => absurd h (by decide +kernel), fun _ => q_lw12 (i := 153) rfl, fun _ _ => q_lz23 (i := 9) (y := (yX12_into, q_N 12)) rfl, fun h => absurd h (by decide +kernel), ⟨q_cc12.2.2.2.1, q_cc12.2.2.2.2, q_ds15⟩, by decide +kernel⟩
theorem q_m310 : q_mOK 310 := ⟨q_cc12.1, q_lw12 (i := 146) rfl, q_cc12.2.1, q_cc12.2.2.1, fun h => absurd h (by decide +kernel), fun _ => q_lw12 (i := 145) rfl, fun _ _ => q_lz23 (i := 7) (y := (yX12_fromOutermost, q_N 12)) rfl, fun h => absurd h (by decide +kernel), ⟨q_cc12.2.2.2.1, q_cc12.2.2.2.2, q_ds35⟩, by decide +kernel⟩
theorem q_m311 : q_mOK 311 := ⟨q_cc12.1, q_lw12 (i := 150) rfl, q_cc12.2.1, q_cc12.2.2.1, fun h => absurd h (by decide +kernel), fun _ => q_lw12 (i := 149) rfl, fun _ _ => q_lz23 (i := 8) (y := (yX12_meet, q_N 12)) rfl, fun h => absurd h (by decide +kernel), ⟨q_cc12.2.2.2.1, q_cc12.2.2.2.2, q_ds16⟩, by decide +kernel⟩
theorem q_m312 : q_mOK 312 := ⟨q_cc12.1, q_lw12 (i := 179) rfl, q_cc12.2.1, q_cc12.2.2.1, fun h => absurd h (by decide +kernel), fun _ => q_lw12 (i := 178) rfl, fun _ _ => q_lz23 (i := 15) (y := (yX12_make, q_N 12)) rfl, fun h => absurd h (by decide +kernel), ⟨q_cc12.2.2.2.1, q_cc12.2.2.2.2, q_ds16⟩, by decide +kernel⟩
theorem q_m313 : q_mOK 313 := ⟨q_cc12.1, q_lw12 (i := 142) rfl, q_cc12.2.1, q_cc12.2.2.1, fun h => absurd h (by decide +kernel), fun _ => q_lw12 (i := 141) rfl, fun _ _ => q_lz23 (i := 6) (y := (yX12_reach, q_N 12)) rfl, fun h => absurd h (by decide +kernel), ⟨q_cc12.2.2.2.1, q_cc12.2.2.2.2, q_ds16⟩, by decide +kernel⟩
theorem q_m314 : q_mOK 314 := ⟨q_cc12.1, q_lw12 (i := 163) rfl, q_cc12.2.1, q_cc12.2.2.1, fun h => absurd h (by decide +kernel), fun _ => q_lw12 (i := 162) rfl, fun _ _ => q_lz23 (i := 11) (y := (yX12_come, q_N 12)) rfl, fun h => absurd h (by decide +kernel), ⟨q_cc12.2.2.2.1, q_cc12.2.2.2.2, q_ds10⟩, by decide +kernel⟩
theorem q_m315 : q_mOK 315 := ⟨q_cc12.1, q_lw12 (i := 138) rfl, q_cc12.2.1, q_cc12.2.2.1, fun h => absurd h (by decide +kernel), fun _ => q_lw12 (i := 137) rfl, fun _ _ => q_lz23 (i := 5) (y := (yX12_doPath, q_N 12)) rfl, fun h => absurd h (by decide +kernel), ⟨q_cc12.2.2.2.1, q_cc12.2.2.2.2, q_ds16⟩, by decide +kernel⟩
theorem q_m316 : q_mOK 316 := ⟨q_cc12.1, q_lw12 (i := 183) rfl, q_cc12.2.1, q_cc12.2.2.1, fun h => absurd h (by decide +kernel), fun _ => q_lw12 (i := 182) rfl, fun _ _ => q_lz24 (i := 0) (y := (yX12_add, q_N 12)) rfl, fun h => absurd h (by decide +kernel), ⟨q_cc12.2.2.2.1, q_cc12.2.2.2.2, q_ds16⟩, by decide +kernel⟩
theorem q_m317 : q_mOK 317 := ⟨q_cc12.1, q_lw12 (i := 187) rfl, q_cc12.2.1, q_cc12.2.2.1, fun h => absurd h (by decide +kernel), fun _ => q_lw12 (i := 186) rfl, fun _ _ => q_lz24 (i := 1) (y := (yX12_push, q_N 12)) rfl, fun h => absurd h (by decide +kernel), ⟨q_cc12.2.2.2.1, q_cc12.2.2.2.2, q_ds63⟩, by decide +kernel⟩
theorem q_m318 : q_mOK 318 := ⟨q_cc12.1, q_lw12 (i := 175) rfl, q_cc12.2.1, q_cc12.2.2.1, fun h => absurd h (by decide +kernel), fun _ => q_lw12 (i := 174) rfl, fun _ _ => q_lz23 (i := 14) (y := (yX12_pull, q_N 12)) rfl, fun h => absurd h (by decide +kernel), ⟨q_cc12.2.2.2.1, q_cc12.2.2.2.2, q_ds16⟩, by decide +kernel⟩
theorem q_m319 : q_mOK 319 := ⟨q_cc12.1, q_lw10 (i := 89) rfl, q_cc12.2.1, q_cc12.2.2.1, fun h => absurd h (by decide +kernel), fun _ => q_lw10 (i := 88) rfl, fun _ _ => q_lz16 (i := 1) (y := (yX12_copy, q_N 12)) rfl, fun h => absurd h (by decide +kernel), ⟨q_cc12.2.2.2.1, q_cc12.2.2.2.2, q_ds51⟩, by decide +kernel⟩
theorem q_m320 : q_mOK 320 := ⟨q_cc12.1, q_lw12 (i := 132) rfl, q_cc12.2.1, q_cc12.2.2.1, fun h => absurd h (by decide +kernel), fun _ => q_lw12 (i := 131) rfl, fun _ _ => q_lz23 (i := 4) (y := (yX12_change, q_N 12)) rfl, fun h => absurd h (by decide +kernel), ⟨q_cc12.2.2.2.1, q_cc12.2.2.2.2, q_ds7⟩, by decide +kernel⟩
theorem q_m321 : q_mOK 321 := ⟨q_cc12.1, q_lw11 (i := 92) rfl, q_cc12.2.1, q_cc12.2.2.1, fun h => absurd h (by decide +kernel), fun _ => q_lw11 (i := 91) rfl, fun _ _ => q_lz19 (i := 9) (y := (yX12_isPlain, q_N 12)) rfl, fun h => absurd h (by decide +kernel), ⟨q_cc12.2.2.2.1, q_cc12.2.2.2.2, q_ds7⟩, by decide +kernel⟩
theorem q_m322 : q_mOK 322 := ⟨q_cc12.1, q_lw9 (i := 183) rfl, q_cc12.2.1, q_cc12.2.2.1, fun h => absurd h (by decide +kernel), fun _ => q_lw9 (i := 182) rfl, fun _ _ => q_lz14 (i := 0) (y := (yX12_textEnd, q_N 12)) rfl, fun h => absurd h (by decide +kernel), ⟨q_cc12.2.2.2.1, q_cc12.2.2.2.2, q_ds18⟩, by decide +kernel⟩
theorem q_m323 : q_mOK 323 := ⟨q_cc12.1, q_lw11 (i := 100) rfl, q_cc12.2.1, q_cc12.2.2.1, fun h => absurd h (by decide +kernel), fun _ => q_lw11 (i := 99) rfl, fun _ _ => q_lz19 (i := 11) (y := (yX12_isReference, q_N 12)) rfl, fun h => absurd h (by decide +kernel), ⟨q_cc12.2.2.2.1, q_cc12.2.2.2.2, q_ds5⟩, by decide +kernel⟩
theorem q_m324 : q_mOK 324 := ⟨q_cc12.1, q_lw11 (i := 96) rfl, q_cc12.2.1, q_cc12.2.2.1, fun h => absurd h (by decide +kernel), fun _ => q_lw11 (i := 95) rfl, fun _ _ => q_lz19 (i := 10) (y := (yX12_expressionFault, q_N 12)) rfl, fun h => absurd h (by decide +kernel), ⟨q_cc12.2.2.2.1, q_cc12.2.2.2.2, q_ds18⟩, by decide +kernel⟩
theorem q_m325 : q_mOK 325 := ⟨q_cc12.1, q_lw11 (i := 178) rfl, q_cc12.2.1, q_cc12.2.2.1, fun h => absurd h (by decide +kernel), fun _ => q_lw11 (i := 177) rfl, fun _ _ => q_lz20 (i := 9) (y := (yX12_resolve, q_N 12)) rfl, fun h => absurd h (by decide +kernel), ⟨q_cc12.2.2.2.1, q_cc12.2.2.2.2, q_ds51⟩, by decide +kernel⟩
theorem q_m326 : q_mOK 326 := ⟨q_cc12.1, q_lw11 (i := 182) rfl, q_cc12.2.1, q_cc12.2.2.1, fun h => absurd h (by decide +kernel), fun _ => q_lw11 (i := 181) rfl, fun _ _ => q_lz20 (i := 10) (y := (yX12_putValues, q_N 12)) rfl, fun h => absurd h (by decide +kernel), ⟨q_cc12.2.2.2.1, q_cc12.2.2.2.2, q_ds51⟩, by decide +kernel⟩
theorem q_m327 : q_mOK 327 := ⟨q_cc12.1, q_lw11 (i := 174) rfl, q_cc12.2.1, q_cc12.2.2.1, fun h => absurd h (by decide +kernel), fun _ => q_lw11 (i := 173) rfl, fun _ _ => q_lz20 (i := 8) (y := (yX12_valueAt, q_N 12)) rfl, fun h => absurd h (by decide +kernel), ⟨q_cc12.2.2.2.1, q_cc12.2.2.2.2, q_ds16⟩, by decide +kernel⟩
theorem q_m328 : q_mOK 328 := ⟨q_cc12.1, q_lw11 (i := 169) rfl, q_cc12.2.1, q_cc12.2.2.1, fun h => absurd h (by decide +kernel), fun _ => q_lw11 (i := 168) rfl, fun _ _ => q_lz20 (i := 7) (y := (yX12_fresh, q_N 12)) rfl, fun h => absurd h (by decide +kernel), ⟨q_cc12.2.2.2.1, q_cc12.2.2.2.2, q_ds16⟩, by decide +kernel⟩
theorem q_m329 : q_mOK 329 := ⟨q_cc12.1, q_lw11 (i := 189) rfl, q_cc12.2.1, q_cc12.2.2.1, fun _ => q_lw11 (i := 188) rfl, fun h => absurd h (by decide +kernel), fun h => absurd h (by decide +kernel), fun h => absurd h (by decide +kernel), ⟨q_cc12.2.2.2.1, q_cc12.2.2.2.2, q_ds18⟩, by decide +kernel⟩
theorem q_m330 : q_mOK 330 := ⟨q_cc12.1, q_lw11 (i := 83) rfl, q_cc12.2.1, q_cc12.2.2.1, fun h => absurd h (by decide +kernel), fun _ => q_lw11 (i := 82) rfl, fun _ _ => q_lz19 (i := 7) (y := (yX12_stageFault, q_N 12)) rfl, fun h => absurd h (by decide +kernel), ⟨q_cc12.2.2.2.1, q_cc12.2.2.2.2, q_ds18⟩, by decide +kernel⟩
theorem q_m331 : q_mOK 331 := ⟨q_cc12.1, q_lw11 (i := 88) rfl, q_cc12.2.1, q_cc12.2.2.1, fun h => absurd h (by decide +kernel), fun _ => q_lw11 (i := 87) rfl, fun _ _ => q_lz19 (i := 8) (y := (yX12_projectFault, q_N 12)) rfl, fun h => absurd h (by decide +kernel), ⟨q_cc12.2.2.2.1, q_cc12.2.2.2.2, q_ds18⟩, by decide +kernel⟩
theorem q_m332 : q_mOK 332 := ⟨q_cc12.1, q_lw11 (i := 111) rfl, q_cc12.2.1, q_cc12.2.2.1, fun h => absurd h (by decide +kernel), fun _ => q_lw11 (i := 110) rfl, fun _ _ => q_lz19 (i := 13) (y := (yX12_isGathering, q_N 12)) rfl, fun h => absurd h (by decide +kernel), ⟨q_cc12.2.2.2.1, q_cc12.2.2.2.2, q_ds5⟩, by decide +kernel⟩
theorem q_m333 : q_mOK 333 := ⟨q_cc12.1, q_lw11 (i := 106) rfl, q_cc12.2.1, q_cc12.2.2.1, fun h => absurd h (by decide +kernel), fun _ => q_lw11 (i := 105) rfl, fun _ _ => q_lz19 (i := 12) (y := (yX12_groupFault, q_N 12)) rfl, fun h => absurd h (by decide +kernel), ⟨q_cc12.2.2.2.1, q_cc12.2.2.2.2, q_ds18⟩, by decide +kernel⟩
theorem q_m334 : q_mOK 334 := ⟨q_cc12.1, q_lw11 (i := 124) rfl, q_cc12.2.1, q_cc12.2.2.1, fun h => absurd h (by decide +kernel), fun _ => q_lw11 (i := 123) rfl, fun _ _ => q_lz19 (i := 14) (y := (yX12_sortFault, q_N 12)) rfl, fun h => absurd h (by decide +kernel), ⟨q_cc12.2.2.2.1, q_cc12.2.2.2.2, q_ds18⟩, by decide +kernel⟩
theorem q_m335 : q_mOK 335 := ⟨q_cc12.1, q_lw11 (i := 132) rfl, q_cc12.2.1, q_cc12.2.2.1, fun h => absurd h (by decide +kernel), fun _ => q_lw11 (i := 131) rfl, fun _ _ => q_lz19 (i := 15) (y := (yX12_lookupFault, q_N 12)) rfl, fun h => absurd h (by decide +kernel), ⟨q_cc12.2.2.2.1, q_cc12.2.2.2.2, q_ds18⟩, by decide +kernel⟩
theorem q_m336 : q_mOK 336 := ⟨q_cc12.1, q_lw11 (i := 227) rfl, q_cc12.2.1, q_cc12.2.2.1, fun h => absurd h (by decide +kernel), fun _ => q_lw11 (i := 226) rfl, fun _ _ => q_lz21 (i := 4) (y := (yX12_deliver, q_N 12)) rfl, fun h => absurd h (by decide +kernel), ⟨q_cc12.2.2.2.1, q_cc12.2.2.2.2, q_ds15⟩, by decide +kernel⟩
theorem q_m337 : q_mOK 337 := ⟨q_cc12.1, q_lw11 (i := 155) rfl, q_cc12.2.1, q_cc12.2.2.1, fun h => absurd h (by decide +kernel), fun _ => q_lw11 (i := 154) rfl, fun _ _ => q_lz20 (i := 4) (y := (yX12_beginMaking, q_N 12)) rfl, fun h => absurd h (by decide +kernel), ⟨q_cc12.2.2.2.1, q_cc12.2.2.2.2, q_ds35⟩, by decide +kernel⟩
theorem q_m338 : q_mOK 338 := ⟨q_cc12.1, q_lw11 (i := 231) rfl, q_cc12.2.1, q_cc12.2.2.1, fun h => absurd h (by decide +kernel), fun _ => q_lw11 (i := 230) rfl, fun _ _ => q_lz21 (i := 5) (y := (yX12_endMaking, q_N 12)) rfl, fun h => absurd h (by decide +kernel), ⟨q_cc12.2.2.2.1, q_cc12.2.2.2.2, q_ds17⟩, by decide +kernel⟩
theorem q_m339 : q_mOK 339 := ⟨q_cc12.1, q_lw11 (i := 139) rfl, q_cc12.2.1, q_cc12.2.2.1, fun h => absurd h (by decide +kernel), fun _ => q_lw11 (i := 138) rfl, fun _ _ => q_lz20 (i := 0) (y := (yX12_stage, q_N 12)) rfl, fun h => absurd h (by decide +kernel), ⟨q_cc12.2.2.2.1, q_cc12.2.2.2.2, q_ds18⟩, by decide +kernel⟩
theorem q_m340 : q_mOK 340 := ⟨q_cc12.1, q_lw12 (i := 0) rfl, q_cc12.2.1, q_cc12.2.2.1, fun h => absurd h (by decide +kernel), fun _ => q_lw11 (i := 239) rfl, fun _ _ => q_lz21 (i := 7) (y := (yX12_project, q_N 12)) rfl, fun h => absurd h (by decide +kernel), ⟨q_cc12.2.2.2.1, q_cc12.2.2.2.2, q_ds10⟩, by decide +kernel⟩
theorem q_m341 : q_mOK 341 := ⟨q_cc12.1, q_lw12 (i := 8) rfl, q_cc12.2.1, q_cc12.2.2.1, fun h => absurd h (by decide +kernel), fun _ => q_lw12 (i := 7) rfl, fun _ _ => q_lz21 (i := 9) (y := (yX12_through, q_N 12)) rfl, fun h => absurd h (by decide +kernel), ⟨q_cc12.2.2.2.1, q_cc12.2.2.2.2, q_ds19⟩, by decide +kernel⟩
theorem q_m342 : q_mOK 342 := ⟨q_cc12.1, q_lw12 (i := 4) rfl, q_cc12.2.1, q_cc12.2.2.1, fun h => absurd h (by decide +kernel), fun _ => q_lw12 (i := 3) rfl, fun _ _ => q_lz21 (i := 8) (y := (yX12_unwind, q_N 12)) rfl, fun h => absurd h (by decide +kernel), ⟨q_cc12.2.2.2.1, q_cc12.2.2.2.2, q_ds10⟩, by decide +kernel⟩
theorem q_m343 : q_mOK 343 := ⟨q_cc12.1, q_lw12 (i := 12) rfl, q_cc12.2.1, q_cc12.2.2.1, fun h => absurd h (by decide +kernel), fun _ => q_lw12 (i := 11) rfl, fun _ _ => q_lz21 (i := 10) (y := (yX12_putUnwound, q_N 12)) rfl, fun h => absurd h (by decide +kernel), ⟨q_cc12.2.2.2.1, q_cc12.2.2.2.2, q_ds51⟩, by decide +kernel⟩
theorem q_m344 : q_mOK 344 := ⟨q_cc12.1, q_lw12 (i := 16) rfl, q_cc12.2.1, q_cc12.2.2.1, fun h => absurd h (by decide +kernel), fun _ => q_lw12 (i := 15) rfl, fun _ _ => q_lz21 (i := 11) (y := (yX12_lookup, q_N 12)) rfl, fun h => absurd h (by decide +kernel), ⟨q_cc12.2.2.2.1, q_cc12.2.2.2.2, q_ds10⟩, by decide +kernel⟩
theorem q_m345 : q_mOK 345 := ⟨q_cc12.1, q_lw12 (i := 24) rfl, q_cc12.2.1, q_cc12.2.2.1, fun h => absurd h (by decide +kernel), fun _ => q_lw12 (i := 23) rfl, fun _ _ => q_lz21 (i := 13) (y := (yX12_once, q_N 12)) rfl, fun h => absurd h (by decide +kernel), ⟨q_cc12.2.2.2.1, q_cc12.2.2.2.2, q_ds15⟩, by decide +kernel⟩
theorem q_m346 : q_mOK 346 := ⟨q_cc12.1, q_lw12 (i := 20) rfl, q_cc12.2.1, q_cc12.2.2.1, fun h => absurd h (by decide +kernel), fun _ => q_lw12 (i := 19) rfl, fun _ _ => q_lz21 (i := 12) (y := (yX12_putJoined, q_N 12)) rfl, fun h => absurd h (by decide +kernel), ⟨q_cc12.2.2.2.1, q_cc12.2.2.2.2, q_ds11⟩, by decide +kernel⟩
theorem q_m347 : q_mOK 347 := ⟨q_cc12.1, q_lw11 (i := 165) rfl, q_cc12.2.1, q_cc12.2.2.1, fun h => absurd h (by decide +kernel), fun _ => q_lw11 (i := 164) rfl, fun _ _ => q_lz20 (i := 6) (y := (yX12_haveSameKey, q_N 12)) rfl, fun h => absurd h (by decide +kernel), ⟨q_cc12.2.2.2.1, q_cc12.2.2.2.2, q_ds9⟩, by decide +kernel⟩
theorem q_m348 : q_mOK 348 := ⟨q_cc12.1, q_lw11 (i := 161) rfl, q_cc12.2.1, q_cc12.2.2.1, fun h => absurd h (by decide +kernel), fun _ => q_lw11 (i := 160) rfl, fun _ _ => q_lz20 (i := 5) (y := (yX12_group, q_N 12)) rfl, fun h => absurd h (by decide +kernel), ⟨q_cc12.2.2.2.1, q_cc12.2.2.2.2, q_ds5⟩, by decide +kernel⟩
theorem q_m349 : q_mOK 349 := ⟨q_cc12.1, q_lw11 (i := 207) rfl, q_cc12.2.1, q_cc12.2.2.1, fun h => absurd h (by decide +kernel), fun _ => q_lw11 (i := 206) rfl, fun _ _ => q_lz20 (i := 15) (y := (yX12_putName, q_N 12)) rfl, fun h => absurd h (by decide +kernel), ⟨q_cc12.2.2.2.1, q_cc12.2.2.2.2, q_ds10⟩, by decide +kernel⟩
theorem q_m350 : q_mOK 350 := ⟨q_cc12.1, q_lw11 (i := 197) rfl, q_cc12.2.1, q_cc12.2.2.1, fun h => absurd h (by decide +kernel), fun _ => q_lw11 (i := 196) rfl, fun _ _ => q_lz20 (i := 13) (y := (yX12_gather, q_N 12)) rfl, fun h => absurd h (by decide +kernel), ⟨q_cc12.2.2.2.1, q_cc12.2.2.2.2, q_ds51⟩, by decide +kernel⟩
theorem q_m351 : q_mOK 351 := ⟨q_cc12.1, q_lw11 (i := 219) rfl, q_cc12.2.1, q_cc12.2.2.1, fun h => absurd h (by decide +kernel), fun _ => q_lw11 (i := 218) rfl, fun _ _ => q_lz21 (i := 2) (y := (yX12_end, q_N 12)) rfl, fun h => absurd h (by decide +kernel), ⟨q_cc12.2.2.2.1, q_cc12.2.2.2.2, q_ds64⟩, by decide +kernel⟩
theorem q_m352 : q_mOK 352 := ⟨q_cc12.1, q_lw11 (i := 223) rfl, q_cc12.2.1, q_cc12.2.2.1, fun h => absurd h (by decide +kernel), fun _ => q_lw11 (i := 222) rfl, fun _ _ => q_lz21 (i := 3) (y := (yX12_most, q_N 12)) rfl, fun h => absurd h (by decide +kernel), ⟨q_cc12.2.2.2.1, q_cc12.2.2.2.2, q_ds63⟩, by decide +kernel⟩
theorem q_m353 : q_mOK 353 := ⟨q_cc12.1, q_lw11 (i := 201) rfl, q_cc12.2.1, q_cc12.2.2.1, fun h => absurd h (by decide +kernel), fun _ => q_lw11 (i := 200) rfl, fun _ _ => q_lz20 (i := 14) (y := (yX12_putTotal, q_N 12)) rfl, fun h => absurd h (by decide +kernel), ⟨q_cc12.2.2.2.1, q_cc12.2.2.2.2, q_ds51⟩, by decide +kernel⟩
theorem q_m354 : q_mOK 354 := ⟨q_cc12.1, q_lw11 (i := 211) rfl, q_cc12.2.1, q_cc12.2.2.1, fun h => absurd h (by decide +kernel), fun _ => q_lw11 (i := 210) rfl, fun _ _ => q_lz21 (i := 0) (y := (yX12_putGathered, q_N 12)) rfl, fun h => absurd h (by decide +kernel), ⟨q_cc12.2.2.2.1, q_cc12.2.2.2.2, q_ds65⟩, by decide +kernel⟩
theorem q_m355 : q_mOK 355 := ⟨q_cc12.1, q_lw11 (i := 215) rfl, q_cc12.2.1, q_cc12.2.2.1, fun h => absurd h (by decide +kernel), fun _ => q_lw11 (i := 214) rfl, fun _ _ => q_lz21 (i := 1) (y := (yX12_isAhead, q_N 12)) rfl, fun h => absurd h (by decide +kernel), ⟨q_cc12.2.2.2.1, q_cc12.2.2.2.2, q_ds21⟩, by decide +kernel⟩
theorem q_m356 : q_mOK 356 := ⟨q_cc12.1, q_lw11 (i := 143) rfl, q_cc12.2.1, q_cc12.2.2.1, fun h => absurd h (by decide +kernel), fun _ => q_lw11 (i := 142) rfl, fun _ _ => q_lz20 (i := 1) (y := (yX12_sort, q_N 12)) rfl, fun h => absurd h (by decide +kernel), ⟨q_cc12.2.2.2.1, q_cc12.2.2.2.2, q_ds18⟩, by decide +kernel⟩
theorem q_m357 : q_mOK 357 := ⟨q_cc12.1, q_lw11 (i := 151) rfl, q_cc12.2.1, q_cc12.2.2.1, fun h => absurd h (by decide +kernel), fun _ => q_lw11 (i := 150) rfl, fun _ _ => q_lz20 (i := 3) (y := (yX12_compareKeys, q_N 12)) rfl, fun h => absurd h (by decide +kernel), ⟨q_cc12.2.2.2.1, q_cc12.2.2.2.2, q_ds38⟩, by decide +kernel⟩
theorem q_m358 : q_mOK 358 := ⟨q_cc12.1, q_lw10 (i := 84) rfl, q_cc12.2.1, q_cc12.2.2.1, fun h => absurd h (by decide +kernel), fun _ => q_lw10 (i := 83) rfl, fun _ _ => q_lz16 (i := 0) (y := (yX12_pathOf, q_N 12)) rfl, fun h => absurd h (by decide +kernel), ⟨q_cc12.2.2.2.1, q_cc12.2.2.2.2, q_ds16⟩, by decide +kernel⟩
theorem q_m359 : q_mOK 359 := ⟨q_cc12.1, q_lw10 (i := 130) rfl, q_cc12.2.1, q_cc12.2.2.1, fun h => absurd h (by decide +kernel), fun _ => q_lw10 (i := 129) rfl, fun _ _ => q_lz16 (i := 11) (y := (yX12_addKey, q_N 12)) rfl, fun h => absurd h (by decide +kernel), ⟨q_cc12.2.2.2.1, q_cc12.2.2.2.2, q_ds10⟩, by decide +kernel⟩
theorem q_m360 : q_mOK 360 := ⟨q_cc12.1, q_lw10 (i := 101) rfl, q_cc12.2.1, q_cc12.2.2.1, fun h => absurd h (by decide +kernel), fun _ => q_lw10 (i := 100) rfl, fun _ _ => q_lz16 (i := 4) (y := (yX12_keys, q_N 12)) rfl, fun h => absurd h (by decide +kernel), ⟨q_cc12.2.2.2.1, q_cc12.2.2.2.2, q_ds19⟩, by decide +kernel⟩
theorem q_m361 : q_mOK 361 := ⟨q_cc12.1, q_lw10 (i := 97) rfl, q_cc12.2.1, q_cc12.2.2.1, fun h => absurd h (by decide +kernel), fun _ => q_lw10 (i := 96) rfl, fun _ _ => q_lz16 (i := 3) (y := (yX12_entriesOf, q_N 12)) rfl, fun h => absurd h (by decide +kernel), ⟨q_cc12.2.2.2.1, q_cc12.2.2.2.2, q_ds16⟩, by decide +kernel⟩
theorem q_m362 : q_mOK 362 := ⟨q_cc12.1, q_lw10 (i := 134) rfl, q_cc12.2.1, q_cc12.2.2.1, fun h => absurd h (by decide +kernel), fun _ => q_lw10 (i := 133) rfl, fun _ _ => q_lz16 (i := 12) (y := (yX12_marks, q_N 12)) rfl, fun h => absurd h (by decide +kernel), ⟨q_cc12.2.2.2.1, q_cc12.2.2.2.2, q_ds10⟩, by decide +kernel⟩
theorem q_m363 : q_mOK 363 := ⟨q_cc12.1, q_lw10 (i := 162) rfl, q_cc12.2.1, q_cc12.2.2.1, fun h => absurd h (by decide +kernel), fun _ => q_lw10 (i := 161) rfl, fun _ _ => q_lz17 (i := 3) (y := (yX12_keyAt, q_N 12)) rfl, fun h => absurd h (by decide +kernel), ⟨q_cc12.2.2.2.1, q_cc12.2.2.2.2, q_ds19⟩, by decide +kernel⟩
theorem q_m364 : q_mOK 364 := ⟨q_cc12.1, q_lw10 (i := 150) rfl, q_cc12.2.1, q_cc12.2.2.1, fun h => absurd h (by decide +kernel), fun _ => q_lw10 (i := 149) rfl, fun _ _ => q_lz17 (i := 0) (y := (yX12_newEntry, q_N 12)) rfl, fun h => absurd h (by decide +kernel), ⟨q_cc12.2.2.2.1, q_cc12.2.2.2.2, q_ds38⟩, by decide +kernel⟩
theorem q_m365 : q_mOK 365 := ⟨q_cc12.1, q_lw10 (i := 154) rfl, q_cc12.2.1, q_cc12.2.2.1, fun h => absurd h (by decide +kernel), fun _ => q_lw10 (i := 153) rfl, fun _ _ => q_lz17 (i := 1) (y := (yX12_sweep, q_N 12)) rfl, fun h => absurd h (by decide +kernel), ⟨q_cc12.2.2.2.1, q_cc12.2.2.2.2, q_ds15⟩, by decide +kernel⟩
theorem q_m366 : q_mOK 366 := ⟨q_cc12.1, q_lw10 (i := 183) rfl, q_cc12.2.1, q_cc12.2.2.1, fun h => absurd h (by decide +kernel), fun _ => q_lw10 (i := 182) rfl, fun _ _ => q_lz17 (i := 8) (y := (yX12_order, q_N 12)) rfl, fun h => absurd h (by decide +kernel), ⟨q_cc12.2.2.2.1, q_cc12.2.2.2.2, q_ds19⟩, by decide +kernel⟩
theorem q_m367 : q_mOK 367 := ⟨q_cc12.1, q_lw10 (i := 158) rfl, q_cc12.2.1, q_cc12.2.2.1, fun h => absurd h (by decide +kernel), fun _ => q_lw10 (i := 157) rfl, fun _ _ => q_lz17 (i := 2) (y := (yX12_sizeOf, q_N 12)) rfl, fun h => absurd h (by decide +kernel), ⟨q_cc12.2.2.2.1, q_cc12.2.2.2.2, q_ds16⟩, by decide +kernel⟩
theorem q_m368 : q_mOK 368 := ⟨q_cc12.1, q_lw8 (i := 43) rfl, q_cc12.2.1, q_cc12.2.2.1, fun h => absurd h (by decide +kernel), fun _ => q_lw8 (i := 42) rfl, fun _ _ => q_lz12 (i := 4) (y := (yX12_setSize, q_N 12)) rfl, fun h => absurd h (by decide +kernel), ⟨q_cc12.2.2.2.1, q_cc12.2.2.2.2, q_ds51⟩, by decide +kernel⟩
theorem q_m369 : q_mOK 369 := ⟨q_cc12.1, q_lw10 (i := 56) rfl, q_cc12.2.1, q_cc12.2.2.1, fun h => absurd h (by decide +kernel), fun _ => q_lw10 (i := 55) rfl, fun _ _ => q_lz15 (i := 10) (y := (yX12_slot, q_N 12)) rfl, fun h => absurd h (by decide +kernel), ⟨q_cc12.2.2.2.1, q_cc12.2.2.2.2, q_ds19⟩, by decide +kernel⟩
theorem q_m370 : q_mOK 370 := ⟨q_cc12.1, q_lw8 (i := 39) rfl, q_cc12.2.1, q_cc12.2.2.1, fun h => absurd h (by decide +kernel), fun _ => q_lw8 (i := 38) rfl, fun _ _ => q_lz12 (i := 3) (y := (yX12_newNode, q_N 12)) rfl, fun h => absurd h (by decide +kernel), ⟨q_cc12.2.2.2.1, q_cc12.2.2.2.2, q_ds64⟩, by decide +kernel⟩
theorem q_m371 : q_mOK 371 := ⟨q_cc12.1, q_lw8 (i := 35) rfl, q_cc12.2.1, q_cc12.2.2.1, fun h => absurd h (by decide +kernel), fun _ => q_lw8 (i := 34) rfl, fun _ _ => q_lz12 (i := 2) (y := (yX12_dropTree, q_N 12)) rfl, fun h => absurd h (by decide +kernel), ⟨q_cc12.2.2.2.1, q_cc12.2.2.2.2, q_ds15⟩, by decide +kernel⟩
theorem q_m372 : q_mOK 372 := ⟨q_cc12.1, q_lw10 (i := 187) rfl, q_cc12.2.1, q_cc12.2.2.1, fun h => absurd h (by decide +kernel), fun _ => q_lw10 (i := 186) rfl, fun _ _ => q_lz17 (i := 9) (y := (yX12_insertAt, q_N 12)) rfl, fun h => absurd h (by decide +kernel), ⟨q_cc12.2.2.2.1, q_cc12.2.2.2.2, q_ds11⟩, by decide +kernel⟩
theorem q_m373 : q_mOK 373 := ⟨q_cc12.1, q_lw10 (i := 203) rfl, q_cc12.2.1, q_cc12.2.2.1, fun h => absurd h (by decide +kernel), fun _ => q_lw10 (i := 202) rfl, fun _ _ => q_lz17 (i := 13) (y := (yX12_removeAt, q_N 12)) rfl, fun h => absurd h (by decide +kernel), ⟨q_cc12.2.2.2.1, q_cc12.2.2.2.2, q_ds51⟩, by decide +kernel⟩
theorem q_m374 : q_mOK 374 := ⟨q_cc12.1, q_lw10 (i := 191) rfl, q_cc12.2.1, q_cc12.2.2.1, fun h => absurd h (by decide +kernel), fun _ => q_lw10 (i := 190) rfl, fun _ _ => q_lz17 (i := 10) (y := (yX12_downTo, q_N 12)) rfl, fun h => absurd h (by decide +kernel), ⟨q_cc12.2.2.2.1, q_cc12.2.2.2.2, q_ds19⟩, by decide +kernel⟩
theorem q_m375 : q_mOK 375 := ⟨q_cc12.1, q_lw10 (i := 179) rfl, q_cc12.2.1, q_cc12.2.2.1, fun h => absurd h (by decide +kernel), fun _ => q_lw10 (i := 178) rfl, fun _ _ => q_lz17 (i := 7) (y := (yX12_placeIn, q_N 12)) rfl, fun h => absurd h (by decide +kernel), ⟨q_cc12.2.2.2.1, q_cc12.2.2.2.2, q_ds19⟩, by decide +kernel⟩
theorem q_m376 : q_mOK 376 := ⟨q_cc12.1, q_lw10 (i := 52) rfl, q_cc12.2.1, q_cc12.2.2.1, fun h => absurd h (by decide +kernel), fun _ => q_lw10 (i := 51) rfl, fun _ _ => q_lz15 (i := 9) (y := (yX12_isLeafNode, q_N 12)) rfl, fun h => absurd h (by decide +kernel), ⟨q_cc12.2.2.2.1, q_cc12.2.2.2.2, q_ds7⟩, by decide +kernel⟩
theorem q_m377 : q_mOK 377 := ⟨q_cc12.1, q_lw10 (i := 175) rfl, q_cc12.2.1, q_cc12.2.2.1, fun h => absurd h (by decide +kernel), fun _ => q_lw10 (i := 174) rfl, fun _ _ => q_lz17 (i := 6) (y := (yX12_comes, q_N 12)) rfl, fun h => absurd h (by decide +kernel), ⟨q_cc12.2.2.2.1, q_cc12.2.2.2.2, q_ds9⟩, by decide +kernel⟩
theorem q_m378 : q_mOK 378 := ⟨q_cc12.1, q_lw10 (i := 146) rfl, q_cc12.2.1, q_cc12.2.2.1, fun h => absurd h (by decide +kernel), fun _ => q_lw10 (i := 145) rfl, fun _ _ => q_lz16 (i := 15) (y := (yX12_enter, q_N 12)) rfl, fun h => absurd h (by decide +kernel), ⟨q_cc12.2.2.2.1, q_cc12.2.2.2.2, q_ds66⟩, by decide +kernel⟩
theorem q_m379 : q_mOK 379 := ⟨q_cc12.1, q_lw10 (i := 199) rfl, q_cc12.2.1, q_cc12.2.2.1, fun h => absurd h (by decide +kernel), fun _ => q_lw10 (i := 198) rfl, fun _ _ => q_lz17 (i := 12) (y := (yX12_goes, q_N 12)) rfl, fun h => absurd h (by decide +kernel), ⟨q_cc12.2.2.2.1, q_cc12.2.2.2.2, q_ds51⟩, by decide +kernel⟩
theorem q_m380 : q_mOK 380 := ⟨q_cc12.1, q_lw10 (i := 207) rfl, q_cc12.2.1, q_cc12.2.2.1, fun h => absurd h (by decide +kernel), fun _ => q_lw10 (i := 206) rfl, fun _ _ => q_lz17 (i := 14) (y := (yX12_fromAhead, q_N 12)) rfl, fun h => absurd h (by decide +kernel), ⟨q_cc12.2.2.2.1, q_cc12.2.2.2.2, q_ds51⟩, by decide +kernel⟩
theorem q_m381 : q_mOK 381 := ⟨q_cc12.1, q_lw10 (i := 211) rfl, q_cc12.2.1, q_cc12.2.2.1, fun h => absurd h (by decide +kernel), fun _ => q_lw10 (i := 210) rfl, fun _ _ => q_lz17 (i := 15) (y := (yX12_fromBehind, q_N 12)) rfl, fun h => absurd h (by decide +kernel), ⟨q_cc12.2.2.2.1, q_cc12.2.2.2.2, q_ds51⟩, by decide +kernel⟩
theorem q_m382 : q_mOK 382 := ⟨q_cc12.1, q_lw10 (i := 215) rfl, q_cc12.2.1, q_cc12.2.2.1, fun h => absurd h (by decide +kernel), fun _ => q_lw10 (i := 214) rfl, fun _ _ => q_lz18 (i := 0) (y := (yX12_join, q_N 12)) rfl, fun h => absurd h (by decide +kernel), ⟨q_cc12.2.2.2.1, q_cc12.2.2.2.2, q_ds51⟩, by decide +kernel⟩
theorem q_m383 : q_mOK 383 := ⟨q_cc12.1, q_lw10 (i := 195) rfl, q_cc12.2.1, q_cc12.2.2.1, fun h => absurd h (by decide +kernel), fun _ => q_lw10 (i := 194) rfl, fun _ _ => q_lz17 (i := 11) (y := (yX12_leave, q_N 12)) rfl, fun h => absurd h (by decide +kernel), ⟨q_cc12.2.2.2.1, q_cc12.2.2.2.2, q_ds66⟩, by decide +kernel⟩
theorem q_m384 : q_mOK 384 := ⟨q_cc12.1, q_lw10 (i := 138) rfl, q_cc12.2.1, q_cc12.2.2.1, fun h => absurd h (by decide +kernel), fun _ => q_lw10 (i := 137) rfl, fun _ _ => q_lz16 (i := 13) (y := (yX12_enterAll, q_N 12)) rfl, fun h => absurd h (by decide +kernel), ⟨q_cc12.2.2.2.1, q_cc12.2.2.2.2, q_ds67⟩, by decide +kernel⟩
theorem q_m385 : q_mOK 385 := ⟨q_cc12.1, q_lw10 (i := 142) rfl, q_cc12.2.1, q_cc12.2.2.1, fun h => absurd h (by decide +kernel), fun _ => q_lw10 (i := 141) rfl, fun _ _ => q_lz16 (i := 14) (y := (yX12_arrange, q_N 12)) rfl, fun h => absurd h (by decide +kernel), ⟨q_cc12.2.2.2.1, q_cc12.2.2.2.2, q_ds65⟩, by decide +kernel⟩
theorem q_m386 : q_mOK 386 := ⟨q_cc12.1, q_lw10 (i := 48) rfl, q_cc12.2.1, q_cc12.2.2.1, fun h => absurd h (by decide +kernel), fun _ => q_lw10 (i := 47) rfl, fun _ _ => q_lz15 (i := 8) (y := (yX12_levels, q_N 12)) rfl, fun h => absurd h (by decide +kernel), ⟨q_cc12.2.2.2.1, q_cc12.2.2.2.2, q_ds18⟩, by decide +kernel⟩
theorem q_m387 : q_mOK 387 := ⟨q_cc12.1, q_lw10 (i := 61) rfl, q_cc12.2.1, q_cc12.2.2.1, fun h => absurd h (by decide +kernel), fun _ => q_lw10 (i := 60) rfl, fun _ _ => q_lz15 (i := 11) (y := (yX12_nodes, q_N 12)) rfl, fun h => absurd h (by decide +kernel), ⟨q_cc12.2.2.2.1, q_cc12.2.2.2.2, q_ds64⟩, by decide +kernel⟩
theorem q_m388 : q_mOK 388 := ⟨q_cc12.1, q_lw12 (i := 66) rfl, q_cc12.2.1, q_cc12.2.2.1, fun _ => q_lw12 (i := 65) rfl, fun h => absurd h (by decide +kernel), fun h => absurd h (by decide +kernel), fun h => absurd h (by decide +kernel), ⟨q_cc12.2.2.2.1, q_cc12.2.2.2.2, q_ds18⟩, by decide +kernel⟩
theorem q_m389 : q_mOK 389 := ⟨q_cc12.1, q_lw12 (i := 69) rfl, q_cc12.2.1, q_cc12.2.2.1, fun _ => q_lw12 (i := 68) rfl, fun h => absurd h (by decide +kernel), fun h => absurd h (by decide +kernel), fun h => absurd h (by decide +kernel), ⟨q_cc12.2.2.2.1, q_cc12.2.2.2.2, q_ds18⟩, by decide +kernel⟩
theorem q_m390 : q_mOK 390 := ⟨q_cc12.1, q_lw12 (i := 85) rfl, q_cc12.2.1, q_cc12.2.2.1, fun h => absurd h (by decide +kernel), fun _ => q_lw12 (i := 84) rfl, fun _ _ => q_lz22 (i := 10) (y := (yX12_classOfEnd, q_N 12)) rfl, fun h => absurd h (by decide +kernel), ⟨q_cc12.2.2.2.1, q_cc12.2.2.2.2, q_ds18⟩, by decide +kernel⟩
theorem q_m391 : q_mOK 391 := ⟨q_cc12.1, q_lw12 (i := 81) rfl, q_cc12.2.1, q_cc12.2.2.1, fun h => absurd h (by decide +kernel), fun _ => q_lw12 (i := 80) rfl, fun _ _ => q_lz22 (i := 9) (y := (yX12_compareEnds, q_N 12)) rfl, fun h => absurd h (by decide +kernel), ⟨q_cc12.2.2.2.1, q_cc12.2.2.2.2, q_ds16⟩, by decide +kernel⟩
theorem q_m392 : q_mOK 392 := ⟨q_cc12.1, q_lw12 (i := 63) rfl, q_cc12.2.1, q_cc12.2.2.1, fun h => absurd h (by decide +kernel), fun _ => q_lw12 (i := 62) rfl, fun _ _ => q_lz22 (i := 6) (y := (yX12_addInterval, q_N 12)) rfl, fun h => absurd h (by decide +kernel), ⟨q_cc12.2.2.2.1, q_cc12.2.2.2.2, q_ds68⟩, by decide +kernel⟩
theorem q_m393 : q_mOK 393 := ⟨q_cc12.1, q_lw12 (i := 59) rfl, q_cc12.2.1, q_cc12.2.2.1, fun h => absurd h (by decide +kernel), fun _ => q_lw12 (i := 58) rfl, fun _ _ => q_lz22 (i := 5) (y := (yX12_addPoint, q_N 12)) rfl, fun h => absurd h (by decide +kernel), ⟨q_cc12.2.2.2.1, q_cc12.2.2.2.2, q_ds10⟩, by decide +kernel⟩
theorem q_m394 : q_mOK 394 := ⟨q_cc12.1, q_lw12 (i := 55) rfl, q_cc12.2.1, q_cc12.2.2.1, fun h => absurd h (by decide +kernel), fun _ => q_lw12 (i := 54) rfl, fun _ _ => q_lz22 (i := 4) (y := (yX12_boundsOf, q_N 12)) rfl, fun h => absurd h (by decide +kernel), ⟨q_cc12.2.2.2.1, q_cc12.2.2.2.2, q_ds69⟩, by decide +kernel⟩
theorem q_m395 : q_mOK 395 := ⟨q_cc12.1, q_lw12 (i := 73) rfl, q_cc12.2.1, q_cc12.2.2.1, fun h => absurd h (by decide +kernel), fun _ => q_lw12 (i := 72) rfl, fun _ _ => q_lz22 (i := 7) (y := (yX12_boundsOfAny, q_N 12)) rfl, fun h => absurd h (by decide +kernel), ⟨q_cc12.2.2.2.1, q_cc12.2.2.2.2, q_ds69⟩, by decide +kernel⟩
theorem q_m396 : q_mOK 396 := ⟨q_cc12.1, q_lw12 (i := 77) rfl, q_cc12.2.1, q_cc12.2.2.1, fun h => absurd h (by decide +kernel), fun _ => q_lw12 (i := 76) rfl, fun _ _ => q_lz22 (i := 8) (y := (yX12_meetAll, q_N 12)) rfl, fun h => absurd h (by decide +kernel), ⟨q_cc12.2.2.2.1, q_cc12.2.2.2.2, q_ds10⟩, by decide +kernel⟩
theorem q_m397 : q_mOK 397 := ⟨q_cc12.1, q_lw12 (i := 51) rfl, q_cc12.2.1, q_cc12.2.2.1, fun h => absurd h (by decide +kernel), fun _ => q_lw12 (i := 50) rfl, fun _ _ => q_lz22 (i := 3) (y := (yX12_collect, q_N 12)) rfl, fun h => absurd h (by decide +kernel), ⟨q_cc12.2.2.2.1, q_cc12.2.2.2.2, q_ds51⟩, by decide +kernel⟩
theorem q_m398 : q_mOK 398 := ⟨q_cc12.1, q_lw12 (i := 47) rfl, q_cc12.2.1, q_cc12.2.2.1, fun h => absurd h (by decide +kernel), fun _ => q_lw12 (i := 46) rfl, fun _ _ => q_lz22 (i := 2) (y := (yX12_bounds, q_N 12)) rfl, fun h => absurd h (by decide +kernel), ⟨q_cc12.2.2.2.1, q_cc12.2.2.2.2, q_ds9⟩, by decide +kernel⟩
theorem q_m399 : q_mOK 399 := ⟨q_cc12.1, q_lw12 (i := 89) rfl, q_cc12.2.1, q_cc12.2.2.1, fun h => absurd h (by decide +kernel), fun _ => q_lw12 (i := 88) rfl, fun _ _ => q_lz22 (i := 11) (y := (yX12_isPoint, q_N 12)) rfl, fun h => absurd h (by decide +kernel), ⟨q_cc12.2.2.2.1, q_cc12.2.2.2.2, q_ds5⟩, by decide +kernel⟩
theorem q_m400 : q_mOK 400 := ⟨q_cc12.1, q_lw12 (i := 97) rfl, q_cc12.2.1, q_cc12.2.2.1, fun h => absurd h (by decide +kernel), fun _ => q_lw12 (i := 96) rfl, fun _ _ => q_lz22 (i := 13) (y := (yX12_isWithin, q_N 12)) rfl, fun h => absurd h (by decide +kernel), ⟨q_cc12.2.2.2.1, q_cc12.2.2.2.2, q_ds9⟩, by decide +kernel⟩
theorem q_m401 : q_mOK 401 := ⟨q_cc12.1, q_lw12 (i := 43) rfl, q_cc12.2.1, q_cc12.2.2.1, fun h => absurd h (by decide +kernel), fun _ => q_lw12 (i := 42) rfl, fun _ _ => q_lz22 (i := 1) (y := (yX12_weigh, q_N 12)) rfl, fun h => absurd h (by decide +kernel), ⟨q_cc12.2.2.2.1, q_cc12.2.2.2.2, q_ds10⟩, by decide +kernel⟩
theorem q_m402 : q_mOK 402 := ⟨q_cc12.1, q_lw12 (i := 39) rfl, q_cc12.2.1, q_cc12.2.2.1, fun h => absurd h (by decide +kernel), fun _ => q_lw12 (i := 38) rfl, fun _ _ => q_lz22 (i := 0) (y := (yX12_choose, q_N 12)) rfl, fun h => absurd h (by decide +kernel), ⟨q_cc12.2.2.2.1, q_cc12.2.2.2.2, q_ds16⟩, by decide +kernel⟩
theorem q_m403 : q_mOK 403 := ⟨q_cc12.1, q_lw12 (i := 93) rfl, q_cc12.2.1, q_cc12.2.2.1, fun h => absurd h (by decide +kernel), fun _ => q_lw12 (i := 92) rfl, fun _ _ => q_lz22 (i := 12) (y := (yX12_isLookedAt, q_N 12)) rfl, fun h => absurd h (by decide +kernel), ⟨q_cc12.2.2.2.1, q_cc12.2.2.2.2, q_ds7⟩, by decide +kernel⟩
theorem q_m404 : q_mOK 404 := ⟨q_cc12.1, q_lw10 (i := 93) rfl, q_cc12.2.1, q_cc12.2.2.1, fun h => absurd h (by decide +kernel), fun _ => q_lw10 (i := 92) rfl, fun _ _ => q_lz16 (i := 2) (y := (yX12_document, q_N 12)) rfl, fun h => absurd h (by decide +kernel), ⟨q_cc12.2.2.2.1, q_cc12.2.2.2.2, q_ds16⟩, by decide +kernel⟩
theorem q_m405 : q_mOK 405 := ⟨q_cc12.1, q_lw9 (i := 143) rfl, q_cc12.2.1, q_cc12.2.2.1, fun h => absurd h (by decide +kernel), fun _ => q_lw9 (i := 142) rfl, fun _ _ => q_lz13 (i := 9) (y := (yX12_refuses, q_N 12)) rfl, fun h => absurd h (by decide +kernel), ⟨q_cc12.2.2.2.1, q_cc12.2.2.2.2, q_ds7⟩, by decide +kernel⟩
theorem q_m406 : q_mOK 406 := ⟨q_cc12.1, q_lw9 (i := 139) rfl, q_cc12.2.1, q_cc12.2.2.1, fun h => absurd h (by decide +kernel), fun _ => q_lw9 (i := 138) rfl, fun _ _ => q_lz13 (i := 8) (y := (yX12_isNone, q_N 12)) rfl, fun h => absurd h (by decide +kernel), ⟨q_cc12.2.2.2.1, q_cc12.2.2.2.2, q_ds5⟩, by decide +kernel⟩
theorem q_m407 : q_mOK 407 := ⟨q_cc12.1, q_lw9 (i := 231) rfl, q_cc12.2.1, q_cc12.2.2.1, fun h => absurd h (by decide +kernel), fun _ => q_lw9 (i := 230) rfl, fun _ _ => q_lz14 (i := 12) (y := (yX12_isShelf, q_N 12)) rfl, fun h => absurd h (by decide +kernel), ⟨q_cc12.2.2.2.1, q_cc12.2.2.2.2, q_ds5⟩, by decide +kernel⟩
theorem q_m408 : q_mOK 408 := ⟨q_cc12.1, q_lw9 (i := 147) rfl, q_cc12.2.1, q_cc12.2.2.1, fun h => absurd h (by decide +kernel), fun _ => q_lw9 (i := 146) rfl, fun _ _ => q_lz13 (i := 10) (y := (yX12_takesDocument, q_N 12)) rfl, fun h => absurd h (by decide +kernel), ⟨q_cc12.2.2.2.1, q_cc12.2.2.2.2, q_ds5⟩, by decide +kernel⟩
theorem q_m409 : q_mOK 409 := ⟨q_cc12.1, q_lw9 (i := 131) rfl, q_cc12.2.1, q_cc12.2.2.1, fun h => absurd h (by decide +kernel), fun _ => q_lw9 (i := 130) rfl, fun _ _ => q_lz13 (i := 6) (y := (yX12_isRequest, q_N 12)) rfl, fun h => absurd h (by decide +kernel), ⟨q_cc12.2.2.2.1, q_cc12.2.2.2.2, q_ds70⟩, by decide +kernel⟩
theorem q_m410 : q_mOK 410 := ⟨q_cc12.1, q_lw9 (i := 175) rfl, q_cc12.2.1, q_cc12.2.2.1, fun h => absurd h (by decide +kernel), fun _ => q_lw9 (i := 174) rfl, fun _ _ => q_lz13 (i := 14) (y := (yX12_arePaths, q_N 12)) rfl, fun h => absurd h (by decide +kernel), ⟨q_cc12.2.2.2.1, q_cc12.2.2.2.2, q_ds5⟩, by decide +kernel⟩
theorem q_m411 : q_mOK 411 := ⟨q_cc12.1, q_lw9 (i := 237) rfl, q_cc12.2.1, q_cc12.2.2.1, fun h => absurd h (by decide +kernel), fun _ => q_lw9 (i := 236) rfl, fun _ _ => q_lz14 (i := 13) (y := (yX12_areDirections, q_N 12)) rfl, fun h => absurd h (by decide +kernel), ⟨q_cc12.2.2.2.1, q_cc12.2.2.2.2, q_ds7⟩, by decide +kernel⟩
theorem q_m412 : q_mOK 412 := ⟨q_cc12.1, q_lw10 (i := 224) rfl, q_cc12.2.1, q_cc12.2.2.1, fun h => absurd h (by decide +kernel), fun _ => q_lw10 (i := 223) rfl, fun _ _ => q_lz18 (i := 2) (y := (yX12_filterIsRight, q_N 12)) rfl, fun h => absurd h (by decide +kernel), ⟨q_cc12.2.2.2.1, q_cc12.2.2.2.2, q_ds5⟩, by decide +kernel⟩
theorem q_m413 : q_mOK 413 := ⟨q_cc12.1, q_lw12 (i := 128) rfl, q_cc12.2.1, q_cc12.2.2.1, fun h => absurd h (by decide +kernel), fun _ => q_lw12 (i := 127) rfl, fun _ _ => q_lz23 (i := 3) (y := (yX12_match, q_N 12)) rfl, fun h => absurd h (by decide +kernel), ⟨q_cc12.2.2.2.1, q_cc12.2.2.2.2, q_ds16⟩, by decide +kernel⟩
theorem q_m414 : q_mOK 414 := ⟨q_cc12.1, q_lw10 (i := 11) rfl, q_cc12.2.1, q_cc12.2.2.1, fun h => absurd h (by decide +kernel), fun _ => q_lw10 (i := 10) rfl, fun _ _ => q_lz15 (i := 0) (y := (yX12_beginAnswer, q_N 12)) rfl, fun h => absurd h (by decide +kernel), ⟨q_cc12.2.2.2.1, q_cc12.2.2.2.2, q_ds35⟩, by decide +kernel⟩
theorem q_m415 : q_mOK 415 := ⟨q_cc12.1, q_lw10 (i := 68) rfl, q_cc12.2.1, q_cc12.2.2.1, fun h => absurd h (by decide +kernel), fun _ => q_lw10 (i := 67) rfl, fun _ _ => q_lz15 (i := 12) (y := (yX12_endAnswer, q_N 12)) rfl, fun h => absurd h (by decide +kernel), ⟨q_cc12.2.2.2.1, q_cc12.2.2.2.2, q_ds70⟩, by decide +kernel⟩
theorem q_m416 : q_mOK 416 := ⟨q_cc12.1, q_lw10 (i := 2) rfl, q_cc12.2.1, q_cc12.2.2.1, fun h => absurd h (by decide +kernel), fun _ => q_lw10 (i := 1) rfl, fun _ _ => q_lz14 (i := 14) (y := (yX12_does, q_N 12)) rfl, fun h => absurd h (by decide +kernel), ⟨q_cc12.2.2.2.1, q_cc12.2.2.2.2, q_ds70⟩, by decide +kernel⟩
theorem q_m417 : q_mOK 417 := ⟨q_cc12.1, q_lw12 (i := 192) rfl, q_cc12.2.1, q_cc12.2.2.1, fun h => absurd h (by decide +kernel), fun _ => q_lw12 (i := 191) rfl, fun _ _ => q_lz24 (i := 2) (y := (yX12_putFound, q_N 12)) rfl, fun h => absurd h (by decide +kernel), ⟨q_cc12.2.2.2.1, q_cc12.2.2.2.2, q_ds15⟩, by decide +kernel⟩
theorem q_m418 : q_mOK 418 := ⟨q_cc12.1, q_lw12 (i := 197) rfl, q_cc12.2.1, q_cc12.2.2.1, fun h => absurd h (by decide +kernel), fun _ => q_lw12 (i := 196) rfl, fun _ _ => q_lz24 (i := 3) (y := (yX12_takeOut, q_N 12)) rfl, fun h => absurd h (by decide +kernel), ⟨q_cc12.2.2.2.1, q_cc12.2.2.2.2, q_ds15⟩, by decide +kernel⟩
theorem q_m419 : q_mOK 419 := ⟨q_cc12.1, q_lw12 (i := 30) rfl, q_cc12.2.1, q_cc12.2.2.1, fun h => absurd h (by decide +kernel), fun _ => q_lw12 (i := 29) rfl, fun _ _ => q_lz21 (i := 14) (y := (yX12_insert, q_N 12)) rfl, fun h => absurd h (by decide +kernel), ⟨q_cc12.2.2.2.1, q_cc12.2.2.2.2, q_ds7⟩, by decide +kernel⟩
theorem q_m420 : q_mOK 420 := ⟨q_cc12.1, q_lw12 (i := 104) rfl, q_cc12.2.1, q_cc12.2.2.1, fun h => absurd h (by decide +kernel), fun _ => q_lw12 (i := 103) rfl, fun _ _ => q_lz22 (i := 14) (y := (yX12_update, q_N 12)) rfl, fun h => absurd h (by decide +kernel), ⟨q_cc12.2.2.2.1, q_cc12.2.2.2.2, q_ds7⟩, by decide +kernel⟩
theorem q_m421 : q_mOK 421 := ⟨q_cc12.1, q_lw10 (i := 80) rfl, q_cc12.2.1, q_cc12.2.2.1, fun h => absurd h (by decide +kernel), fun _ => q_lw10 (i := 79) rfl, fun _ _ => q_lz15 (i := 15) (y := (yX12_newIndex, q_N 12)) rfl, fun h => absurd h (by decide +kernel), ⟨q_cc12.2.2.2.1, q_cc12.2.2.2.2, q_ds7⟩, by decide +kernel⟩
theorem q_m422 : q_mOK 422 := ⟨q_cc12.1, q_lw10 (i := 6) rfl, q_cc12.2.1, q_cc12.2.2.1, fun h => absurd h (by decide +kernel), fun _ => q_lw10 (i := 5) rfl, fun _ _ => q_lz14 (i := 15) (y := (yX12_withIndex, q_N 12)) rfl, fun h => absurd h (by decide +kernel), ⟨q_cc12.2.2.2.1, q_cc12.2.2.2.2, q_ds7⟩, by decide +kernel⟩
theorem q_m423 : q_mOK 423 := ⟨q_cc12.1, q_lw12 (i := 35) rfl, q_cc12.2.1, q_cc12.2.2.1, fun h => absurd h (by decide +kernel), fun _ => q_lw12 (i := 34) rfl, fun _ _ => q_lz21 (i := 15) (y := (yX12_explain, q_N 12)) rfl, fun h => absurd h (by decide +kernel), ⟨q_cc12.2.2.2.1, q_cc12.2.2.2.2, q_ds7⟩, by decide +kernel⟩
theorem q_m424 : q_mOK 424 := ⟨q_cc12.1, q_lw10 (i := 219) rfl, q_cc12.2.1, q_cc12.2.2.1, fun h => absurd h (by decide +kernel), fun _ => q_lw10 (i := 218) rfl, fun _ _ => q_lz18 (i := 1) (y := (yX12_pipeline, q_N 12)) rfl, fun h => absurd h (by decide +kernel), ⟨q_cc12.2.2.2.1, q_cc12.2.2.2.2, q_ds7⟩, by decide +kernel⟩
theorem q_m425 : q_mOK 425 := ⟨q_cc12.1, q_lw9 (i := 42) rfl, q_cc12.2.1, q_cc12.2.2.1, fun h => absurd h (by decide +kernel), fun _ => q_lw9 (i := 40) rfl, fun _ _ => q_lw9 (i := 41) rfl, fun h => absurd h (by decide +kernel), ⟨q_cc12.2.2.2.1, q_cc12.2.2.2.2, q_ds39⟩, by decide +kernel⟩
theorem q_m426 : q_mOK 426 := ⟨q_cc12.1, q_lw9 (i := 46) rfl, q_cc12.2.1, q_cc12.2.2.1, fun h => absurd h (by decide +kernel), fun _ => q_lw9 (i := 44) rfl, fun _ _ => q_lw9 (i := 45) rfl, fun h => absurd h (by decide +kernel), ⟨q_cc12.2.2.2.1, q_cc12.2.2.2.2, q_ds18⟩, by decide +kernel⟩
theorem q_m427 : q_mOK 427 := ⟨q_cc12.1, q_lw12 (i := 203) rfl, q_cc12.2.1, q_cc12.2.2.1, fun h => absurd h (by decide +kernel), fun _ => q_lw12 (i := 201) rfl, fun _ _ => q_lw12 (i := 202) rfl, fun h => absurd h (by decide +kernel), ⟨q_cc12.2.2.2.1, q_cc12.2.2.2.2, q_ds18⟩, by decide +kernel⟩
theorem q_m428 : q_mOK 428 := ⟨q_cc12.1, q_lw12 (i := 207) rfl, q_cc12.2.1, q_cc12.2.2.1, fun h => absurd h (by decide +kernel), fun _ => q_lw12 (i := 205) rfl, fun _ _ => q_lw12 (i := 206) rfl, fun h => absurd h (by decide +kernel), ⟨q_cc12.2.2.2.1, q_cc12.2.2.2.2, q_ds18⟩, by decide +kernel⟩
theorem q_m429 : q_mOK 429 := ⟨q_cc12.1, q_lw12 (i := 215) rfl, q_cc12.2.1, q_cc12.2.2.1, fun h => absurd h (by decide +kernel), fun _ => q_lw12 (i := 214) rfl, fun _ _ => q_lz24 (i := 4) (y := (yX12_isThereOne, q_N 12)) rfl, fun h => absurd h (by decide +kernel), ⟨q_cc12.2.2.2.1, q_cc12.2.2.2.2, q_ds7⟩, by decide +kernel⟩
theorem q_m430 : q_mOK 430 := ⟨q_cc12.1, q_lw12 (i := 211) rfl, q_cc12.2.1, q_cc12.2.2.1, fun h => absurd h (by decide +kernel), fun _ => q_lw12 (i := 209) rfl, fun _ _ => q_lw12 (i := 210) rfl, fun h => absurd h (by decide +kernel), ⟨q_cc12.2.2.2.1, q_cc12.2.2.2.2, q_ds16⟩, by decide +kernel⟩
theorem q_m431 : q_mOK 431 := ⟨q_cc12.1, q_lw12 (i := 219) rfl, q_cc12.2.1, q_cc12.2.2.1, fun h => absurd h (by decide +kernel), fun _ => q_lw12 (i := 217) rfl, fun _ _ => q_lw12 (i := 218) rfl, fun h => absurd h (by decide +kernel), ⟨q_cc12.2.2.2.1, q_cc12.2.2.2.2, q_ds16⟩, by decide +kernel⟩
theorem q_m432 : q_mOK 432 := ⟨q_cc12.1, q_lw12 (i := 223) rfl, q_cc12.2.1, q_cc12.2.2.1, fun h => absurd h (by decide +kernel), fun _ => q_lw12 (i := 221) rfl, fun _ _ => q_lw12 (i := 222) rfl, fun h => absurd h (by decide +kernel), ⟨q_cc12.2.2.2.1, q_cc12.2.2.2.2, q_ds19⟩, by decide +kernel⟩
theorem q_m433 : q_mOK 433 := ⟨q_cc14.1, q_lw3 (i := 190) rfl, q_cc14.2.1, q_cc14.2.2.1, fun h => absurd h (by decide +kernel), fun _ => q_lw3 (i := 188) rfl, fun _ _ => q_lw3 (i := 189) rfl, fun h => absurd h (by decide +kernel), ⟨q_cc14.2.2.2.1, q_cc14.2.2.2.2, q_ds17⟩, by decide +kernel⟩
theorem q_m434 : q_mOK 434 := ⟨q_cc14.1, q_lw3 (i := 200) rfl, q_cc14.2.1, q_cc14.2.2.1, fun h => absurd h (by decide +kernel), fun _ => q_lw3 (i := 198) rfl, fun _ _ => q_lw3 (i := 199) rfl, fun h => absurd h (by decide +kernel), ⟨q_cc14.2.2.2.1, q_cc14.2.2.2.2, q_ds71⟩, by decide +kernel⟩
theorem q_m435 : q_mOK 435 := ⟨q_cc14.1, q_lw3 (i := 194) rfl, q_cc14.2.1, q_cc14.2.2.1, fun h => absurd h (by decide +kernel), fun _ => q_lw3 (i := 192) rfl, fun _ _ => q_lw3 (i := 193) rfl, fun h => absurd h (by decide +kernel), ⟨q_cc14.2.2.2.1, q_cc14.2.2.2.2, q_ds72⟩, by decide +kernel⟩
theorem q_m436 : q_mOK 436 := ⟨q_cc14.1, q_lw3 (i := 204) rfl, q_cc14.2.1, q_cc14.2.2.1, fun h => absurd h (by decide +kernel), fun _ => q_lw3 (i := 202) rfl, fun _ _ => q_lw3 (i := 203) rfl, fun h => absurd h (by decide +kernel), ⟨q_cc14.2.2.2.1, q_cc14.2.2.2.2, q_ds70⟩, by decide +kernel⟩
theorem q_m437 : q_mOK 437 := ⟨q_cc15.1, q_lw3 (i := 207) rfl, q_cc15.2.1, q_cc15.2.2.1, fun _ => q_lw3 (i := 206) rfl, fun h => absurd h (by decide +kernel), fun h => absurd h (by decide +kernel), fun h => absurd h (by decide +kernel), ⟨q_cc15.2.2.2.1, q_cc15.2.2.2.2, q_ds73⟩, by decide +kernel⟩
theorem q_m438 : q_mOK 438 := ⟨q_cc16.1, q_lw4 (i := 186) rfl, q_cc16.2.1, q_cc16.2.2.1, fun _ => q_lw4 (i := 185) rfl, fun h => absurd h (by decide +kernel), fun h => absurd h (by decide +kernel), fun h => absurd h (by decide +kernel), ⟨q_cc16.2.2.2.1, q_cc16.2.2.2.2, q_ds74⟩, by decide +kernel⟩
theorem q_m439 : q_mOK 439 := ⟨q_cc16.1, q_lw4 (i := 104) rfl, q_cc16.2.1, q_cc16.2.2.1, fun _ => q_lw4 (i := 103) rfl, fun h => absurd h (by decide +kernel), fun h => absurd h (by decide +kernel), fun h => absurd h (by decide +kernel), ⟨q_cc16.2.2.2.1, q_cc16.2.2.2.2, q_ds75⟩, by decide +kernel⟩
theorem q_m440 : q_mOK 440 := ⟨q_cc17.1, q_lw3 (i := 153) rfl, q_cc17.2.1, q_cc17.2.2.1, fun _ => q_lw3 (i := 152) rfl, fun h => absurd h (by decide +kernel), fun h => absurd h (by decide +kernel), fun h => absurd h (by decide +kernel), ⟨q_cc17.2.2.2.1, q_cc17.2.2.2.2, q_ds16⟩, by decide +kernel⟩
theorem q_m441 : q_mOK 441 := ⟨q_cc18.1, q_lw4 (i := 43) rfl, q_cc18.2.1, q_cc18.2.2.1, fun _ => q_lw4 (i := 42) rfl, fun h => absurd h (by decide +kernel), fun h => absurd h (by decide +kernel), fun h => absurd h (by decide +kernel), ⟨q_cc18.2.2.2.1, q_cc18.2.2.2.2, q_ds76⟩, by decide +kernel⟩
theorem q_mc0 : ∀ j, j < 20 → q_mOK (0 + j)
  | 0, _ => q_m0
  | 1, _ => q_m1
  | 2, _ => q_m2
  | 3, _ => q_m3
  | 4, _ => q_m4
  | 5, _ => q_m5
  | 6, _ => q_m6
  | 7, _ => q_m7
  | 8, _ => q_m8
  | 9, _ => q_m9
  | 10, _ => q_m10
  | 11, _ => q_m11
  | 12, _ => q_m12
  | 13, _ => q_m13
  | 14, _ => q_m14
  | 15, _ => q_m15
  | 16, _ => q_m16
  | 17, _ => q_m17
  | 18, _ => q_m18
  | 19, _ => q_m19
  | j + 20, h => absurd h (by omega)
theorem q_mc1 : ∀ j, j < 20 → q_mOK (20 + j)
  | 0, _ => q_m20
  | 1, _ => q_m21
  | 2, _ => q_m22
  | 3, _ => q_m23
  | 4, _ => q_m24
  | 5, _ => q_m25
  | 6, _ => q_m26
  | 7, _ => q_m27
  | 8, _ => q_m28
  | 9, _ => q_m29
  | 10, _ => q_m30
  | 11, _ => q_m31
  | 12, _ => q_m32
  | 13, _ => q_m33
  | 14, _ => q_m34
  | 15, _ => q_m35
  | 16, _ => q_m36
  | 17, _ => q_m37
  | 18, _ => q_m38
  | 19, _ => q_m39
  | j + 20, h => absurd h (by omega)
theorem q_mc2 : ∀ j, j < 20 → q_mOK (40 + j)
  | 0, _ => q_m40
  | 1, _ => q_m41
  | 2, _ => q_m42
  | 3, _ => q_m43
  | 4, _ => q_m44
  | 5, _ => q_m45
  | 6, _ => q_m46
  | 7, _ => q_m47
  | 8, _ => q_m48
  | 9, _ => q_m49
  | 10, _ => q_m50
  | 11, _ => q_m51
  | 12, _ => q_m52
  | 13, _ => q_m53
  | 14, _ => q_m54
  | 15, _ => q_m55
  | 16, _ => q_m56
  | 17, _ => q_m57
  | 18, _ => q_m58
  | 19, _ => q_m59
  | j + 20, h => absurd h (by omega)
theorem q_mc3 : ∀ j, j < 20 → q_mOK (60 + j)
  | 0, _ => q_m60
  | 1, _ => q_m61
  | 2, _ => q_m62
  | 3, _ => q_m63
  | 4, _ => q_m64
  | 5, _ => q_m65
  | 6, _ => q_m66
  | 7, _ => q_m67
  | 8, _ => q_m68
  | 9, _ => q_m69
  | 10, _ => q_m70
  | 11, _ => q_m71
  | 12, _ => q_m72
  | 13, _ => q_m73
  | 14, _ => q_m74
  | 15, _ => q_m75
  | 16, _ => q_m76
  | 17, _ => q_m77
  | 18, _ => q_m78
  | 19, _ => q_m79
  | j + 20, h => absurd h (by omega)
theorem q_mc4 : ∀ j, j < 20 → q_mOK (80 + j)
  | 0, _ => q_m80
  | 1, _ => q_m81
  | 2, _ => q_m82
  | 3, _ => q_m83
  | 4, _ => q_m84
  | 5, _ => q_m85
  | 6, _ => q_m86
  | 7, _ => q_m87
  | 8, _ => q_m88
  | 9, _ => q_m89
  | 10, _ => q_m90
  | 11, _ => q_m91
  | 12, _ => q_m92
  | 13, _ => q_m93
  | 14, _ => q_m94
  | 15, _ => q_m95
  | 16, _ => q_m96
  | 17, _ => q_m97
  | 18, _ => q_m98
  | 19, _ => q_m99
  | j + 20, h => absurd h (by omega)
theorem q_mc5 : ∀ j, j < 20 → q_mOK (100 + j)
  | 0, _ => q_m100
  | 1, _ => q_m101
  | 2, _ => q_m102
  | 3, _ => q_m103
  | 4, _ => q_m104
  | 5, _ => q_m105
  | 6, _ => q_m106
  | 7, _ => q_m107
  | 8, _ => q_m108
  | 9, _ => q_m109
  | 10, _ => q_m110
  | 11, _ => q_m111
  | 12, _ => q_m112
  | 13, _ => q_m113
  | 14, _ => q_m114
  | 15, _ => q_m115
  | 16, _ => q_m116
  | 17, _ => q_m117
  | 18, _ => q_m118
  | 19, _ => q_m119
  | j + 20, h => absurd h (by omega)
theorem q_mc6 : ∀ j, j < 20 → q_mOK (120 + j)
  | 0, _ => q_m120
  | 1, _ => q_m121
  | 2, _ => q_m122
  | 3, _ => q_m123
  | 4, _ => q_m124
  | 5, _ => q_m125
  | 6, _ => q_m126
  | 7, _ => q_m127
  | 8, _ => q_m128
  | 9, _ => q_m129
  | 10, _ => q_m130
  | 11, _ => q_m131
  | 12, _ => q_m132
  | 13, _ => q_m133
  | 14, _ => q_m134
  | 15, _ => q_m135
  | 16, _ => q_m136
  | 17, _ => q_m137
  | 18, _ => q_m138
  | 19, _ => q_m139
  | j + 20, h => absurd h (by omega)
theorem q_mc7 : ∀ j, j < 20 → q_mOK (140 + j)
  | 0, _ => q_m140
  | 1, _ => q_m141
  | 2, _ => q_m142
  | 3, _ => q_m143
  | 4, _ => q_m144
  | 5, _ => q_m145
  | 6, _ => q_m146
  | 7, _ => q_m147
  | 8, _ => q_m148
  | 9, _ => q_m149
  | 10, _ => q_m150
  | 11, _ => q_m151
  | 12, _ => q_m152
  | 13, _ => q_m153
  | 14, _ => q_m154
  | 15, _ => q_m155
  | 16, _ => q_m156
  | 17, _ => q_m157
  | 18, _ => q_m158
  | 19, _ => q_m159
  | j + 20, h => absurd h (by omega)
theorem q_mc8 : ∀ j, j < 20 → q_mOK (160 + j)
  | 0, _ => q_m160
  | 1, _ => q_m161
  | 2, _ => q_m162
  | 3, _ => q_m163
  | 4, _ => q_m164
  | 5, _ => q_m165
  | 6, _ => q_m166
  | 7, _ => q_m167
  | 8, _ => q_m168
  | 9, _ => q_m169
  | 10, _ => q_m170
  | 11, _ => q_m171
  | 12, _ => q_m172
  | 13, _ => q_m173
  | 14, _ => q_m174
  | 15, _ => q_m175
  | 16, _ => q_m176
  | 17, _ => q_m177
  | 18, _ => q_m178
  | 19, _ => q_m179
  | j + 20, h => absurd h (by omega)
theorem q_mc9 : ∀ j, j < 20 → q_mOK (180 + j)
  | 0, _ => q_m180
  | 1, _ => q_m181
  | 2, _ => q_m182
  | 3, _ => q_m183
  | 4, _ => q_m184
  | 5, _ => q_m185
  | 6, _ => q_m186
  | 7, _ => q_m187
  | 8, _ => q_m188
  | 9, _ => q_m189
  | 10, _ => q_m190
  | 11, _ => q_m191
  | 12, _ => q_m192
  | 13, _ => q_m193
  | 14, _ => q_m194
  | 15, _ => q_m195
  | 16, _ => q_m196
  | 17, _ => q_m197
  | 18, _ => q_m198
  | 19, _ => q_m199
  | j + 20, h => absurd h (by omega)
theorem q_mc10 : ∀ j, j < 20 → q_mOK (200 + j)
  | 0, _ => q_m200
  | 1, _ => q_m201
  | 2, _ => q_m202
  | 3, _ => q_m203
  | 4, _ => q_m204
  | 5, _ => q_m205
  | 6, _ => q_m206
  | 7, _ => q_m207
  | 8, _ => q_m208
  | 9, _ => q_m209
  | 10, _ => q_m210
  | 11, _ => q_m211
  | 12, _ => q_m212
  | 13, _ => q_m213
  | 14, _ => q_m214
  | 15, _ => q_m215
  | 16, _ => q_m216
  | 17, _ => q_m217
  | 18, _ => q_m218
  | 19, _ => q_m219
  | j + 20, h => absurd h (by omega)
theorem q_mc11 : ∀ j, j < 20 → q_mOK (220 + j)
  | 0, _ => q_m220
  | 1, _ => q_m221
  | 2, _ => q_m222
  | 3, _ => q_m223
  | 4, _ => q_m224
  | 5, _ => q_m225
  | 6, _ => q_m226
  | 7, _ => q_m227
  | 8, _ => q_m228
  | 9, _ => q_m229
  | 10, _ => q_m230
  | 11, _ => q_m231
  | 12, _ => q_m232
  | 13, _ => q_m233
  | 14, _ => q_m234
  | 15, _ => q_m235
  | 16, _ => q_m236
  | 17, _ => q_m237
  | 18, _ => q_m238
  | 19, _ => q_m239
  | j + 20, h => absurd h (by omega)
theorem q_mc12 : ∀ j, j < 20 → q_mOK (240 + j)
  | 0, _ => q_m240
  | 1, _ => q_m241
  | 2, _ => q_m242
  | 3, _ => q_m243
  | 4, _ => q_m244
  | 5, _ => q_m245
  | 6, _ => q_m246
  | 7, _ => q_m247
  | 8, _ => q_m248
  | 9, _ => q_m249
  | 10, _ => q_m250
  | 11, _ => q_m251
  | 12, _ => q_m252
  | 13, _ => q_m253
  | 14, _ => q_m254
  | 15, _ => q_m255
  | 16, _ => q_m256
  | 17, _ => q_m257
  | 18, _ => q_m258
  | 19, _ => q_m259
  | j + 20, h => absurd h (by omega)
theorem q_mc13 : ∀ j, j < 20 → q_mOK (260 + j)
  | 0, _ => q_m260
  | 1, _ => q_m261
  | 2, _ => q_m262
  | 3, _ => q_m263
  | 4, _ => q_m264
  | 5, _ => q_m265
  | 6, _ => q_m266
  | 7, _ => q_m267
  | 8, _ => q_m268
  | 9, _ => q_m269
  | 10, _ => q_m270
  | 11, _ => q_m271
  | 12, _ => q_m272
  | 13, _ => q_m273
  | 14, _ => q_m274
  | 15, _ => q_m275
  | 16, _ => q_m276
  | 17, _ => q_m277
  | 18, _ => q_m278
  | 19, _ => q_m279
  | j + 20, h => absurd h (by omega)
theorem q_mc14 : ∀ j, j < 20 → q_mOK (280 + j)
  | 0, _ => q_m280
  | 1, _ => q_m281
  | 2, _ => q_m282
  | 3, _ => q_m283
  | 4, _ => q_m284
  | 5, _ => q_m285
  | 6, _ => q_m286
  | 7, _ => q_m287
  | 8, _ => q_m288
  | 9, _ => q_m289
  | 10, _ => q_m290
  | 11, _ => q_m291
  | 12, _ => q_m292
  | 13, _ => q_m293
  | 14, _ => q_m294
  | 15, _ => q_m295
  | 16, _ => q_m296
  | 17, _ => q_m297
  | 18, _ => q_m298
  | 19, _ => q_m299
  | j + 20, h => absurd h (by omega)
theorem q_mc15 : ∀ j, j < 20 → q_mOK (300 + j)
  | 0, _ => q_m300
  | 1, _ => q_m301
  | 2, _ => q_m302
  | 3, _ => q_m303
  | 4, _ => q_m304
  | 5, _ => q_m305
  | 6, _ => q_m306
  | 7, _ => q_m307
  | 8, _ => q_m308
  | 9, _ => q_m309
  | 10, _ => q_m310
  | 11, _ => q_m311
  | 12, _ => q_m312
  | 13, _ => q_m313
  | 14, _ => q_m314
  | 15, _ => q_m315
  | 16, _ => q_m316
  | 17, _ => q_m317
  | 18, _ => q_m318
  | 19, _ => q_m319
  | j + 20, h => absurd h (by omega)
theorem q_mc16 : ∀ j, j < 20 → q_mOK (320 + j)
  | 0, _ => q_m320
  | 1, _ => q_m321
  | 2, _ => q_m322
  | 3, _ => q_m323
  | 4, _ => q_m324
  | 5, _ => q_m325
  | 6, _ => q_m326
  | 7, _ => q_m327
  | 8, _ => q_m328
  | 9, _ => q_m329
  | 10, _ => q_m330
  | 11, _ => q_m331
  | 12, _ => q_m332
  | 13, _ => q_m333
  | 14, _ => q_m334
  | 15, _ => q_m335
  | 16, _ => q_m336
  | 17, _ => q_m337
  | 18, _ => q_m338
  | 19, _ => q_m339
  | j + 20, h => absurd h (by omega)
theorem q_mc17 : ∀ j, j < 20 → q_mOK (340 + j)
  | 0, _ => q_m340
  | 1, _ => q_m341
  | 2, _ => q_m342
  | 3, _ => q_m343
  | 4, _ => q_m344
  | 5, _ => q_m345
  | 6, _ => q_m346
  | 7, _ => q_m347
  | 8, _ => q_m348
  | 9, _ => q_m349
  | 10, _ => q_m350
  | 11, _ => q_m351
  | 12, _ => q_m352
  | 13, _ => q_m353
  | 14, _ => q_m354
  | 15, _ => q_m355
  | 16, _ => q_m356
  | 17, _ => q_m357
  | 18, _ => q_m358
  | 19, _ => q_m359
  | j + 20, h => absurd h (by omega)
theorem q_mc18 : ∀ j, j < 20 → q_mOK (360 + j)
  | 0, _ => q_m360
  | 1, _ => q_m361
  | 2, _ => q_m362
  | 3, _ => q_m363
  | 4, _ => q_m364
  | 5, _ => q_m365
  | 6, _ => q_m366
  | 7, _ => q_m367
  | 8, _ => q_m368
  | 9, _ => q_m369
  | 10, _ => q_m370
  | 11, _ => q_m371
  | 12, _ => q_m372
  | 13, _ => q_m373
  | 14, _ => q_m374
  | 15, _ => q_m375
  | 16, _ => q_m376
  | 17, _ => q_m377
  | 18, _ => q_m378
  | 19, _ => q_m379
  | j + 20, h => absurd h (by omega)
theorem q_mc19 : ∀ j, j < 20 → q_mOK (380 + j)
  | 0, _ => q_m380
  | 1, _ => q_m381
  | 2, _ => q_m382
  | 3, _ => q_m383
  | 4, _ => q_m384
  | 5, _ => q_m385
  | 6, _ => q_m386
  | 7, _ => q_m387
  | 8, _ => q_m388
  | 9, _ => q_m389
  | 10, _ => q_m390
  | 11, _ => q_m391
  | 12, _ => q_m392
  | 13, _ => q_m393
  | 14, _ => q_m394
  | 15, _ => q_m395
  | 16, _ => q_m396
  | 17, _ => q_m397
  | 18, _ => q_m398
  | 19, _ => q_m399
  | j + 20, h => absurd h (by omega)
theorem q_mc20 : ∀ j, j < 20 → q_mOK (400 + j)
  | 0, _ => q_m400
  | 1, _ => q_m401
  | 2, _ => q_m402
  | 3, _ => q_m403
  | 4, _ => q_m404
  | 5, _ => q_m405
  | 6, _ => q_m406
  | 7, _ => q_m407
  | 8, _ => q_m408
  | 9, _ => q_m409
  | 10, _ => q_m410
  | 11, _ => q_m411
  | 12, _ => q_m412
  | 13, _ => q_m413
  | 14, _ => q_m414
  | 15, _ => q_m415
  | 16, _ => q_m416
  | 17, _ => q_m417
  | 18, _ => q_m418
  | 19, _ => q_m419
  | j + 20, h => absurd h (by omega)
theorem q_mc21 : ∀ j, j < 20 → q_mOK (420 + j)
  | 0, _ => q_m420
  | 1, _ => q_m421
  | 2, _ => q_m422
  | 3, _ => q_m423
  | 4, _ => q_m424
  | 5, _ => q_m425
  | 6, _ => q_m426
  | 7, _ => q_m427
  | 8, _ => q_m428
  | 9, _ => q_m429
  | 10, _ => q_m430
  | 11, _ => q_m431
  | 12, _ => q_m432
  | 13, _ => q_m433
  | 14, _ => q_m434
  | 15, _ => q_m435
  | 16, _ => q_m436
  | 17, _ => q_m437
  | 18, _ => q_m438
  | 19, _ => q_m439
  | j + 20, h => absurd h (by omega)
theorem q_mc22 : ∀ j, j < 2 → q_mOK (440 + j)
  | 0, _ => q_m440
  | 1, _ => q_m441
  | j + 2, h => absurd h (by omega)
theorem q_m_ok : ∀ y, y < 442 → q_mOK y := by
  intro y h
  obtain ⟨j, k, hj, rfl⟩ : ∃ j k, j < 20 ∧ y = 20 * k + j := ⟨y % 20, y / 20, Nat.mod_lt _ (by decide), (Nat.div_add_mod y 20).symm⟩
  have hk : k < 23 := by omega
  by_cases h0 : k = 0
  · subst h0; exact q_mc0 j (by omega)
  by_cases h1 : k = 1
  · subst h1; exact q_mc1 j (by omega)
  by_cases h2 : k = 2
  · subst h2; exact q_mc2 j (by omega)
  by_cases h3 : k = 3
  · subst h3; exact q_mc3 j (by omega)
  by_cases h4 : k = 4
  · subst h4; exact q_mc4 j (by omega)
  by_cases h5 : k = 5
  · subst h5; exact q_mc5 j (by omega)
  by_cases h6 : k = 6
  · subst h6; exact q_mc6 j (by omega)
  by_cases h7 : k = 7
  · subst h7; exact q_mc7 j (by omega)
  by_cases h8 : k = 8
  · subst h8; exact q_mc8 j (by omega)
  by_cases h9 : k = 9
  · subst h9; exact q_mc9 j (by omega)
  by_cases h10 : k = 10
  · subst h10; exact q_mc10 j (by omega)
  by_cases h11 : k = 11
  · subst h11; exact q_mc11 j (by omega)
  by_cases h12 : k = 12
  · subst h12; exact q_mc12 j (by omega)
  by_cases h13 : k = 13
  · subst h13; exact q_mc13 j (by omega)
  by_cases h14 : k = 14
  · subst h14; exact q_mc14 j (by omega)
  by_cases h15 : k = 15
  · subst h15; exact q_mc15 j (by omega)
  by_cases h16 : k = 16
  · subst h16; exact q_mc16 j (by omega)
  by_cases h17 : k = 17
  · subst h17; exact q_mc17 j (by omega)
  by_cases h18 : k = 18
  · subst h18; exact q_mc18 j (by omega)
  by_cases h19 : k = 19
  · subst h19; exact q_mc19 j (by omega)
  by_cases h20 : k = 20
  · subst h20; exact q_mc20 j (by omega)
  by_cases h21 : k = 21
  · subst h21; exact q_mc21 j (by omega)
  by_cases h22 : k = 22
  · subst h22; exact q_mc22 j (by omega)
  omega
