/-! by program: the methods, the words, the classes -/
def zt_zi : zMs := [(yX1_cardAt, cX1_cardAt, 2, (some .int)), (yJ0_coder_7d493, cJ0_coder_7d493, 1, (some .byte)), (yJ0_checkIndex_df160, cJ0_checkIndex_df160, 2, none), (yJ3_checkIndex_8e157, cJ3_checkIndex_8e157, 3, (some .int)), (yJ9_min_7cf53, cJ9_min_7cf53, 2, (some .int)), (yX2_mix, cX2_mix, 4, (some .long)), (yJ5_ensureCapacityInternal_d00df, cJ5_ensureCapacityInternal_d00df, 3, none), (yJ4_length_8abf5, cJ4_length_8abf5, 1, (some .int)), (yJ5_length_8abf5, cJ5_length_8abf5, 1, (some .int)), (yX4_one, cX4_one, 1, (some .int)), (yJ4_charAt_5068e, cJ4_charAt_5068e, 2, (some .char)), (yJ5_charAt_5068e, cJ5_charAt_5068e, 5, (some .char)), (yJ0_length_8abf5, cJ0_length_8abf5, 1, (some .int)), (yJ5_isLatin1_aae02, cJ5_isLatin1_aae02, 1, (some .boolean)), (yX4_add_, cX4_add_, 4, (some .long)), (yJ0_charAt_5068e, cJ0_charAt_5068e, 2, (some .char)), (yJ0_isLatin1_aae02, cJ0_isLatin1_aae02, 1, (some .boolean)), (yJ1_charAt_3b067, cJ1_charAt_3b067, 2, (some .char)), (yJ4_append_bf812, cJ4_append_bf812, 2, (some (.object "java/lang/StringBuilder"))), (yJ5_append_c97b9, cJ5_append_c97b9, 4, (some (.object "java/lang/AbstractStringBuilder"))), (yJ6_stringSize_0f7a4, cJ6_stringSize_0f7a4, 4, (some .int)), (yJ6_getChars_ba4f3, cJ6_getChars_ba4f3, 7, (some .int)), (yJ4_append_15ec4, cJ4_append_15ec4, 2, (some (.object "java/lang/StringBuilder"))), (yJ5_append_cf1ce, cJ5_append_cf1ce, 3, (some (.object "java/lang/AbstractStringBuilder"))), (yJ5_putStringAt_47b60, cJ5_putStringAt_47b60, 3, none), (yJ5_inflateIfNeededFor_a7421, cJ5_inflateIfNeededFor_a7421, 2, none), (yJ0_getBytes_840e7, cJ0_getBytes_840e7, 4, none), (yX1_valueAt, cX1_valueAt, 2, (some .int)), (yX1_put, cX1_put, 3, none), (yJ9_max_7cf53, cJ9_max_7cf53, 2, (some .int)), (yJ4_append_cf468, cJ4_append_cf468, 2, (some (.object "java/lang/StringBuilder"))), (yJ5_append_3fe6f, cJ5_append_3fe6f, 2, (some (.object "java/lang/AbstractStringBuilder"))), (yJ1_canEncode_fc78d, cJ1_canEncode_fc78d, 1, (some .boolean)), (yX1_markAt, cX1_markAt, 2, (some .int)), (yJ5_newCapacity_0f7a4, cJ5_newCapacity_0f7a4, 6, (some .int)), (yJ8_newLength_cabcc, cJ8_newLength_cabcc, 4, (some .int)), (yJ7_copyOf_9075b, cJ7_copyOf_9075b, 3, (some (.array .byte))), (yX1_firstPlaceOf, cX1_firstPlaceOf, 3, (some .int)), (yX1_exchange, cX1_exchange, 4, none), (yX4_count, cX4_count, 5, (some .int)), (yJ4_init_da8c8, cJ4_init_da8c8, 1, none), (yJ5_init_d00df, cJ5_init_d00df, 2, none), (yJ4_toString_0e30d, cJ4_toString_0e30d, 1, (some (.object "java/lang/String"))), (yJ0_init_81219, cJ0_init_81219, 2, none), (yJ0_init_db425, cJ0_init_db425, 5, none), (yJ5_getValue_6d5f1, cJ5_getValue_6d5f1, 1, (some (.array .byte))), (yJ7_copyOfRange_39247, cJ7_copyOfRange_39247, 3, (some (.array .byte))), (yJ7_copyOfRangeByte_39247, cJ7_copyOfRangeByte_39247, 5, (some (.array .byte))), (yJ7_checkLength_df160, cJ7_checkLength_df160, 2, none), (yX1_howOften, cX1_howOften, 4, (some .int)), (yX1_putBehind, cX1_putBehind, 2, none), (yX1_hasFrom, cX1_hasFrom, 6, (some .boolean)), (yX1_placeOf, cX1_placeOf, 8, (some .int)), (yX2_haveNoneInCommon, cX2_haveNoneInCommon, 3, (some .boolean)), (yX2_placeOfRow, cX2_placeOfRow, 2, (some .int)), (yX1_settle, cX1_settle, 6, none), (yX2_comesBefore, cX2_comesBefore, 3, (some .boolean)), (yX1_turn, cX1_turn, 5, none), (yX4_placeOf, cX4_placeOf, 9, (some .int)), (yX2_extremeOf, cX2_extremeOf, 5, (some .int)), (yX4_put, cX4_put, 5, none), (yX1_push, cX1_push, 6, none), (yX4_areApart, cX4_areApart, 5, (some .boolean)), (yX4_rowIn, cX4_rowIn, 3, (some .int)), (yJ4_setLength_d00df, cJ4_setLength_d00df, 2, none), (yJ5_setLength_d00df, cJ5_setLength_d00df, 2, none), (yX2_writeSpan, cX2_writeSpan, 5, none), (yX2_mixText, cX2_mixText, 6, (some .long)), (yX4_isIn, cX4_isIn, 3, (some .boolean)), (yX0_isWithin, cX0_isWithin, 3, (some .boolean)), (yX4_mostOf, cX4_mostOf, 5, (some .int)), (yX2_mixRow, cX2_mixRow, 6, (some .long)), (yX2_stepsLeft, cX2_stepsLeft, 1, (some .int)), (yX2_isRowSound, cX2_isRowSound, 4, (some .boolean)), (yX1_becomeLike, cX1_becomeLike, 2, none), (yX1_putAllBehind, cX1_putAllBehind, 4, none), (yX1_isLike, cX1_isLike, 2, (some .boolean)), (yX1_arrange, cX1_arrange, 5, none), (yX4_turn, cX4_turn, 5, none), (yX4_push, cX4_push, 8, none), (yX4_textOf, cX4_textOf, 6, (some (.object "java/lang/String"))), (yX4_codes, cX4_codes, 6, (some .long)), (yX0_isThere, cX0_isThere, 1, (some .boolean)), (yX2_writePart, cX2_writePart, 3, none), (yX2_isPartSound, cX2_isPartSound, 2, (some .boolean)), (yX1_init, cX1_init, 1, none), (yX4_isNoRow, cX4_isNoRow, 1, (some .boolean)), (yX2_rowOf, cX2_rowOf, 2, (some (.object "Rowtricks$Row"))), (yX4_start, cX4_start, 4, (some .boolean)), (yX4_thrown, cX4_thrown, 1, (some .int)), (yJ9_floorMod_7cf53, cJ9_floorMod_7cf53, 3, (some .int)), (yX4_houseOf, cX4_houseOf, 4, (some .int)), (yX4_walkOf, cX4_walkOf, 2, (some .int)), (yX4_sort, cX4_sort, 8, none), (yX0_init, cX0_init, 1, none), (yX2_part, cX2_part, 7, (some .int)), (yX2_partOf, cX2_partOf, 2, (some (.object "Rowtricks$Part"))), (yX2_isSpan, cX2_isSpan, 3, (some .boolean)), (yX2_lose, cX2_lose, 6, none), (yX0_lay, cX0_lay, 5, none), (yX0_many, cX0_many, 1, (some .int)), (yX4_part, cX4_part, 5, (some .int)), (yX4_isNoPart, cX4_isNoPart, 1, (some .boolean)), (yX4_lay, cX4_lay, 6, (some .int)), (yX4_lose, cX4_lose, 3, none), (yX4_partText, cX4_partText, 2, (some (.object "java/lang/String"))), (yX2_digest, cX2_digest, 12, (some .long)), (yX2_mixHouse, cX2_mixHouse, 5, (some .long)), (yX2_allCards, cX2_allCards, 6, (some .int)), (yX2_allParts, cX2_allParts, 6, (some .int)), (yX2_allWalks, cX2_allWalks, 6, (some .int)), (yX2_isSound, cX2_isSound, 5, (some .boolean)), (yX2_init, cX2_init, 2, none), (yX4_init, cX4_init, 1, none), (yX3_init, cX3_init, 1, none), (yX2_addCopies, cX2_addCopies, 7, (some .int)), (yX2_needCopies, cX2_needCopies, 1, none), (yX2_cardOf, cX2_cardOf, 2, (some .int)), (yX2_needValue, cX2_needValue, 1, none), (yX2_needRoom, cX2_needRoom, 2, none), (yX1_putCopiesBehind, cX1_putCopiesBehind, 4, none), (yX2_changeBy, cX2_changeBy, 3, none), (yX2_reshape, cX2_reshape, 6, none), (yX4_addCopies, cX4_addCopies, 5, (some .int)), (yX4_isNoCard, cX4_isNoCard, 2, (some .boolean)), (yX4_addMany, cX4_addMany, 5, (some .int)), (yX4_reshape, cX4_reshape, 3, none), (yX4_digest, cX4_digest, 5, (some .long)), (yX4_areSound, cX4_areSound, 7, (some .boolean))]
theorem zz_0 : zt_zi[0]? = some (yX1_cardAt, cX1_cardAt, 2, (some .int)) := rfl
theorem zz_1 : zt_zi[1]? = some (yJ0_coder_7d493, cJ0_coder_7d493, 1, (some .byte)) := rfl
theorem zz_2 : zt_zi[2]? = some (yJ0_checkIndex_df160, cJ0_checkIndex_df160, 2, none) := rfl
theorem zz_3 : zt_zi[3]? = some (yJ3_checkIndex_8e157, cJ3_checkIndex_8e157, 3, (some .int)) := rfl
theorem zz_4 : zt_zi[4]? = some (yJ9_min_7cf53, cJ9_min_7cf53, 2, (some .int)) := rfl
theorem zz_5 : zt_zi[5]? = some (yX2_mix, cX2_mix, 4, (some .long)) := rfl
theorem zz_6 : zt_zi[6]? = some (yJ5_ensureCapacityInternal_d00df, cJ5_ensureCapacityInternal_d00df, 3, none) := rfl
theorem zz_7 : zt_zi[7]? = some (yJ4_length_8abf5, cJ4_length_8abf5, 1, (some .int)) := rfl
theorem zz_8 : zt_zi[8]? = some (yJ5_length_8abf5, cJ5_length_8abf5, 1, (some .int)) := rfl
theorem zz_9 : zt_zi[9]? = some (yX4_one, cX4_one, 1, (some .int)) := rfl
theorem zz_10 : zt_zi[10]? = some (yJ4_charAt_5068e, cJ4_charAt_5068e, 2, (some .char)) := rfl
theorem zz_11 : zt_zi[11]? = some (yJ5_charAt_5068e, cJ5_charAt_5068e, 5, (some .char)) := rfl
theorem zz_12 : zt_zi[12]? = some (yJ0_length_8abf5, cJ0_length_8abf5, 1, (some .int)) := rfl
theorem zz_13 : zt_zi[13]? = some (yJ5_isLatin1_aae02, cJ5_isLatin1_aae02, 1, (some .boolean)) := rfl
theorem zz_14 : zt_zi[14]? = some (yX4_add_, cX4_add_, 4, (some .long)) := rfl
theorem zz_15 : zt_zi[15]? = some (yJ0_charAt_5068e, cJ0_charAt_5068e, 2, (some .char)) := rfl
theorem zz_16 : zt_zi[16]? = some (yJ0_isLatin1_aae02, cJ0_isLatin1_aae02, 1, (some .boolean)) := rfl
theorem zz_17 : zt_zi[17]? = some (yJ1_charAt_3b067, cJ1_charAt_3b067, 2, (some .char)) := rfl
theorem zz_18 : zt_zi[18]? = some (yJ4_append_bf812, cJ4_append_bf812, 2, (some (.object "java/lang/StringBuilder"))) := rfl
theorem zz_19 : zt_zi[19]? = some (yJ5_append_c97b9, cJ5_append_c97b9, 4, (some (.object "java/lang/AbstractStringBuilder"))) := rfl
theorem zz_20 : zt_zi[20]? = some (yJ6_stringSize_0f7a4, cJ6_stringSize_0f7a4, 4, (some .int)) := rfl
theorem zz_21 : zt_zi[21]? = some (yJ6_getChars_ba4f3, cJ6_getChars_ba4f3, 7, (some .int)) := rfl
theorem zz_22 : zt_zi[22]? = some (yJ4_append_15ec4, cJ4_append_15ec4, 2, (some (.object "java/lang/StringBuilder"))) := rfl
theorem zz_23 : zt_zi[23]? = some (yJ5_append_cf1ce, cJ5_append_cf1ce, 3, (some (.object "java/lang/AbstractStringBuilder"))) := rfl
theorem zz_24 : zt_zi[24]? = some (yJ5_putStringAt_47b60, cJ5_putStringAt_47b60, 3, none) := rfl
theorem zz_25 : zt_zi[25]? = some (yJ5_inflateIfNeededFor_a7421, cJ5_inflateIfNeededFor_a7421, 2, none) := rfl
theorem zz_26 : zt_zi[26]? = some (yJ0_getBytes_840e7, cJ0_getBytes_840e7, 4, none) := rfl
theorem zz_27 : zt_zi[27]? = some (yX1_valueAt, cX1_valueAt, 2, (some .int)) := rfl
theorem zz_28 : zt_zi[28]? = some (yX1_put, cX1_put, 3, none) := rfl
theorem zz_29 : zt_zi[29]? = some (yJ9_max_7cf53, cJ9_max_7cf53, 2, (some .int)) := rfl
theorem zz_30 : zt_zi[30]? = some (yJ4_append_cf468, cJ4_append_cf468, 2, (some (.object "java/lang/StringBuilder"))) := rfl
theorem zz_31 : zt_zi[31]? = some (yJ5_append_3fe6f, cJ5_append_3fe6f, 2, (some (.object "java/lang/AbstractStringBuilder"))) := rfl
theorem zz_32 : zt_zi[32]? = some (yJ1_canEncode_fc78d, cJ1_canEncode_fc78d, 1, (some .boolean)) := rfl
theorem zz_33 : zt_zi[33]? = some (yX1_markAt, cX1_markAt, 2, (some .int)) := rfl
theorem zz_34 : zt_zi[34]? = some (yJ5_newCapacity_0f7a4, cJ5_newCapacity_0f7a4, 6, (some .int)) := rfl
theorem zz_35 : zt_zi[35]? = some (yJ8_newLength_cabcc, cJ8_newLength_cabcc, 4, (some .int)) := rfl
theorem zz_36 : zt_zi[36]? = some (yJ7_copyOf_9075b, cJ7_copyOf_9075b, 3, (some (.array .byte))) := rfl
theorem zz_37 : zt_zi[37]? = some (yX1_firstPlaceOf, cX1_firstPlaceOf, 3, (some .int)) := rfl
theorem zz_38 : zt_zi[38]? = some (yX1_exchange, cX1_exchange, 4, none) := rfl
theorem zz_39 : zt_zi[39]? = some (yX4_count, cX4_count, 5, (some .int)) := rfl
theorem zz_40 : zt_zi[40]? = some (yJ4_init_da8c8, cJ4_init_da8c8, 1, none) := rfl
theorem zz_41 : zt_zi[41]? = some (yJ5_init_d00df, cJ5_init_d00df, 2, none) := rfl
theorem zz_42 : zt_zi[42]? = some (yJ4_toString_0e30d, cJ4_toString_0e30d, 1, (some (.object "java/lang/String"))) := rfl
theorem zz_43 : zt_zi[43]? = some (yJ0_init_81219, cJ0_init_81219, 2, none) := rfl
theorem zz_44 : zt_zi[44]? = some (yJ0_init_db425, cJ0_init_db425, 5, none) := rfl
theorem zz_45 : zt_zi[45]? = some (yJ5_getValue_6d5f1, cJ5_getValue_6d5f1, 1, (some (.array .byte))) := rfl
theorem zz_46 : zt_zi[46]? = some (yJ7_copyOfRange_39247, cJ7_copyOfRange_39247, 3, (some (.array .byte))) := rfl
theorem zz_47 : zt_zi[47]? = some (yJ7_copyOfRangeByte_39247, cJ7_copyOfRangeByte_39247, 5, (some (.array .byte))) := rfl
theorem zz_48 : zt_zi[48]? = some (yJ7_checkLength_df160, cJ7_checkLength_df160, 2, none) := rfl
theorem zz_49 : zt_zi[49]? = some (yX1_howOften, cX1_howOften, 4, (some .int)) := rfl
theorem zz_50 : zt_zi[50]? = some (yX1_putBehind, cX1_putBehind, 2, none) := rfl
theorem zz_51 : zt_zi[51]? = some (yX1_hasFrom, cX1_hasFrom, 6, (some .boolean)) := rfl
theorem zz_52 : zt_zi[52]? = some (yX1_placeOf, cX1_placeOf, 8, (some .int)) := rfl
theorem zz_53 : zt_zi[53]? = some (yX2_haveNoneInCommon, cX2_haveNoneInCommon, 3, (some .boolean)) := rfl
theorem zz_54 : zt_zi[54]? = some (yX2_placeOfRow, cX2_placeOfRow, 2, (some .int)) := rfl
theorem zz_55 : zt_zi[55]? = some (yX1_settle, cX1_settle, 6, none) := rfl
theorem zz_56 : zt_zi[56]? = some (yX2_comesBefore, cX2_comesBefore, 3, (some .boolean)) := rfl
theorem zz_57 : zt_zi[57]? = some (yX1_turn, cX1_turn, 5, none) := rfl
theorem zz_58 : zt_zi[58]? = some (yX4_placeOf, cX4_placeOf, 9, (some .int)) := rfl
theorem zz_59 : zt_zi[59]? = some (yX2_extremeOf, cX2_extremeOf, 5, (some .int)) := rfl
theorem zz_60 : zt_zi[60]? = some (yX4_put, cX4_put, 5, none) := rfl
theorem zz_61 : zt_zi[61]? = some (yX1_push, cX1_push, 6, none) := rfl
theorem zz_62 : zt_zi[62]? = some (yX4_areApart, cX4_areApart, 5, (some .boolean)) := rfl
theorem zz_63 : zt_zi[63]? = some (yX4_rowIn, cX4_rowIn, 3, (some .int)) := rfl
theorem zz_64 : zt_zi[64]? = some (yJ4_setLength_d00df, cJ4_setLength_d00df, 2, none) := rfl
theorem zz_65 : zt_zi[65]? = some (yJ5_setLength_d00df, cJ5_setLength_d00df, 2, none) := rfl
theorem zz_66 : zt_zi[66]? = some (yX2_writeSpan, cX2_writeSpan, 5, none) := rfl
theorem zz_67 : zt_zi[67]? = some (yX2_mixText, cX2_mixText, 6, (some .long)) := rfl
theorem zz_68 : zt_zi[68]? = some (yX4_isIn, cX4_isIn, 3, (some .boolean)) := rfl
theorem zz_69 : zt_zi[69]? = some (yX0_isWithin, cX0_isWithin, 3, (some .boolean)) := rfl
theorem zz_70 : zt_zi[70]? = some (yX4_mostOf, cX4_mostOf, 5, (some .int)) := rfl
theorem zz_71 : zt_zi[71]? = some (yX2_mixRow, cX2_mixRow, 6, (some .long)) := rfl
theorem zz_72 : zt_zi[72]? = some (yX2_stepsLeft, cX2_stepsLeft, 1, (some .int)) := rfl
theorem zz_73 : zt_zi[73]? = some (yX2_isRowSound, cX2_isRowSound, 4, (some .boolean)) := rfl
theorem zz_74 : zt_zi[74]? = some (yX1_becomeLike, cX1_becomeLike, 2, none) := rfl
theorem zz_75 : zt_zi[75]? = some (yX1_putAllBehind, cX1_putAllBehind, 4, none) := rfl
theorem zz_76 : zt_zi[76]? = some (yX1_isLike, cX1_isLike, 2, (some .boolean)) := rfl
theorem zz_77 : zt_zi[77]? = some (yX1_arrange, cX1_arrange, 5, none) := rfl
theorem zz_78 : zt_zi[78]? = some (yX4_turn, cX4_turn, 5, none) := rfl
theorem zz_79 : zt_zi[79]? = some (yX4_push, cX4_push, 8, none) := rfl
theorem zz_80 : zt_zi[80]? = some (yX4_textOf, cX4_textOf, 6, (some (.object "java/lang/String"))) := rfl
theorem zz_81 : zt_zi[81]? = some (yX4_codes, cX4_codes, 6, (some .long)) := rfl
theorem zz_82 : zt_zi[82]? = some (yX0_isThere, cX0_isThere, 1, (some .boolean)) := rfl
theorem zz_83 : zt_zi[83]? = some (yX2_writePart, cX2_writePart, 3, none) := rfl
theorem zz_84 : zt_zi[84]? = some (yX2_isPartSound, cX2_isPartSound, 2, (some .boolean)) := rfl
theorem zz_85 : zt_zi[85]? = some (yX1_init, cX1_init, 1, none) := rfl
theorem zz_86 : zt_zi[86]? = some (yX4_isNoRow, cX4_isNoRow, 1, (some .boolean)) := rfl
theorem zz_87 : zt_zi[87]? = some (yX2_rowOf, cX2_rowOf, 2, (some (.object "Rowtricks$Row"))) := rfl
theorem zz_88 : zt_zi[88]? = some (yX4_start, cX4_start, 4, (some .boolean)) := rfl
theorem zz_89 : zt_zi[89]? = some (yX4_thrown, cX4_thrown, 1, (some .int)) := rfl
theorem zz_90 : zt_zi[90]? = some (yJ9_floorMod_7cf53, cJ9_floorMod_7cf53, 3, (some .int)) := rfl
theorem zz_91 : zt_zi[91]? = some (yX4_houseOf, cX4_houseOf, 4, (some .int)) := rfl
theorem zz_92 : zt_zi[92]? = some (yX4_walkOf, cX4_walkOf, 2, (some .int)) := rfl
theorem zz_93 : zt_zi[93]? = some (yX4_sort, cX4_sort, 8, none) := rfl
theorem zz_94 : zt_zi[94]? = some (yX0_init, cX0_init, 1, none) := rfl
theorem zz_95 : zt_zi[95]? = some (yX2_part, cX2_part, 7, (some .int)) := rfl
theorem zz_96 : zt_zi[96]? = some (yX2_partOf, cX2_partOf, 2, (some (.object "Rowtricks$Part"))) := rfl
theorem zz_97 : zt_zi[97]? = some (yX2_isSpan, cX2_isSpan, 3, (some .boolean)) := rfl
theorem zz_98 : zt_zi[98]? = some (yX2_lose, cX2_lose, 6, none) := rfl
theorem zz_99 : zt_zi[99]? = some (yX0_lay, cX0_lay, 5, none) := rfl
theorem zz_100 : zt_zi[100]? = some (yX0_many, cX0_many, 1, (some .int)) := rfl
theorem zz_101 : zt_zi[101]? = some (yX4_part, cX4_part, 5, (some .int)) := rfl
theorem zz_102 : zt_zi[102]? = some (yX4_isNoPart, cX4_isNoPart, 1, (some .boolean)) := rfl
theorem zz_103 : zt_zi[103]? = some (yX4_lay, cX4_lay, 6, (some .int)) := rfl
theorem zz_104 : zt_zi[104]? = some (yX4_lose, cX4_lose, 3, none) := rfl
theorem zz_105 : zt_zi[105]? = some (yX4_partText, cX4_partText, 2, (some (.object "java/lang/String"))) := rfl
theorem zz_106 : zt_zi[106]? = some (yX2_digest, cX2_digest, 12, (some .long)) := rfl
theorem zz_107 : zt_zi[107]? = some (yX2_mixHouse, cX2_mixHouse, 5, (some .long)) := rfl
theorem zz_108 : zt_zi[108]? = some (yX2_allCards, cX2_allCards, 6, (some .int)) := rfl
theorem zz_109 : zt_zi[109]? = some (yX2_allParts, cX2_allParts, 6, (some .int)) := rfl
theorem zz_110 : zt_zi[110]? = some (yX2_allWalks, cX2_allWalks, 6, (some .int)) := rfl
theorem zz_111 : zt_zi[111]? = some (yX2_isSound, cX2_isSound, 5, (some .boolean)) := rfl
theorem zz_112 : zt_zi[112]? = some (yX2_init, cX2_init, 2, none) := rfl
theorem zz_113 : zt_zi[113]? = some (yX4_init, cX4_init, 1, none) := rfl
theorem zz_114 : zt_zi[114]? = some (yX3_init, cX3_init, 1, none) := rfl
theorem zz_115 : zt_zi[115]? = some (yX2_addCopies, cX2_addCopies, 7, (some .int)) := rfl
theorem zz_116 : zt_zi[116]? = some (yX2_needCopies, cX2_needCopies, 1, none) := rfl
theorem zz_117 : zt_zi[117]? = some (yX2_cardOf, cX2_cardOf, 2, (some .int)) := rfl
theorem zz_118 : zt_zi[118]? = some (yX2_needValue, cX2_needValue, 1, none) := rfl
theorem zz_119 : zt_zi[119]? = some (yX2_needRoom, cX2_needRoom, 2, none) := rfl
theorem zz_120 : zt_zi[120]? = some (yX1_putCopiesBehind, cX1_putCopiesBehind, 4, none) := rfl
theorem zz_121 : zt_zi[121]? = some (yX2_changeBy, cX2_changeBy, 3, none) := rfl
theorem zz_122 : zt_zi[122]? = some (yX2_reshape, cX2_reshape, 6, none) := rfl
theorem zz_123 : zt_zi[123]? = some (yX4_addCopies, cX4_addCopies, 5, (some .int)) := rfl
theorem zz_124 : zt_zi[124]? = some (yX4_isNoCard, cX4_isNoCard, 2, (some .boolean)) := rfl
theorem zz_125 : zt_zi[125]? = some (yX4_addMany, cX4_addMany, 5, (some .int)) := rfl
theorem zz_126 : zt_zi[126]? = some (yX4_reshape, cX4_reshape, 3, none) := rfl
theorem zz_127 : zt_zi[127]? = some (yX4_digest, cX4_digest, 5, (some .long)) := rfl
theorem zz_128 : zt_zi[128]? = some (yX4_areSound, cX4_areSound, 7, (some .boolean)) := rfl
theorem zw_0 : Cond.selects RX2 yX2_isRowSound yX2_isRowSound ∈ zTS := zTS_in 0 (by decide +kernel) rfl
theorem zw_1 : Cond.selects RX1 yX1_becomeLike yX1_becomeLike ∈ zTS := zTS_in 1 (by decide +kernel) rfl
theorem zw_2 : Cond.selects RX1 yX1_putAllBehind yX1_putAllBehind ∈ zTS := zTS_in 2 (by decide +kernel) rfl
theorem zw_3 : Cond.selects RX1 yX1_cardAt yX1_cardAt ∈ zTS := zTS_in 3 (by decide +kernel) rfl
theorem zw_4 : Cond.selects RX1 yX1_putBehind yX1_putBehind ∈ zTS := zTS_in 4 (by decide +kernel) rfl
theorem zw_5 : Cond.selects RX1 yX1_put yX1_put ∈ zTS := zTS_in 5 (by decide +kernel) rfl
theorem zw_6 : Cond.selects RX1 yX1_turn yX1_turn ∈ zTS := zTS_in 6 (by decide +kernel) rfl
theorem zw_7 : Cond.selects RX1 yX1_exchange yX1_exchange ∈ zTS := zTS_in 7 (by decide +kernel) rfl
theorem zw_8 : Cond.selects RX1 yX1_push yX1_push ∈ zTS := zTS_in 8 (by decide +kernel) rfl
theorem zw_9 : Cond.selects RX1 yX1_isLike yX1_isLike ∈ zTS := zTS_in 9 (by decide +kernel) rfl
theorem zw_10 : Cond.selects RX1 yX1_hasFrom yX1_hasFrom ∈ zTS := zTS_in 10 (by decide +kernel) rfl
theorem zw_11 : Cond.selects RX1 yX1_arrange yX1_arrange ∈ zTS := zTS_in 11 (by decide +kernel) rfl
theorem zw_12 : Cond.selects RX1 yX1_settle yX1_settle ∈ zTS := zTS_in 12 (by decide +kernel) rfl
theorem zw_13 : Cond.selects RX1 yX1_valueAt yX1_valueAt ∈ zTS := zTS_in 13 (by decide +kernel) rfl
theorem zw_14 : Cond.selects RX1 yX1_howOften yX1_howOften ∈ zTS := zTS_in 14 (by decide +kernel) rfl
theorem zw_15 : Cond.selects RX1 yX1_placeOf yX1_placeOf ∈ zTS := zTS_in 15 (by decide +kernel) rfl
theorem zw_16 : Cond.selects RX2 yX2_mixHouse yX2_mixHouse ∈ zTS := zTS_in 16 (by decide +kernel) rfl
theorem zw_17 : Cond.selects RX2 yX2_allCards yX2_allCards ∈ zTS := zTS_in 17 (by decide +kernel) rfl
theorem zw_18 : Cond.selects RX2 yX2_allParts yX2_allParts ∈ zTS := zTS_in 18 (by decide +kernel) rfl
theorem zw_19 : Cond.selects RX0 yX0_isThere yX0_isThere ∈ zTS := zTS_in 19 (by decide +kernel) rfl
theorem zw_20 : Cond.selects RX2 yX2_allWalks yX2_allWalks ∈ zTS := zTS_in 20 (by decide +kernel) rfl
theorem zw_22 : Cond.selects RX1 yX1_markAt yX1_markAt ∈ zTS := zTS_in 22 (by decide +kernel) rfl
theorem zw_23 : Cond.selects RX1 yX1_firstPlaceOf yX1_firstPlaceOf ∈ zTS := zTS_in 23 (by decide +kernel) rfl
theorem zw_24 : Cond.selects RX2 yX2_rowOf yX2_rowOf ∈ zTS := zTS_in 24 (by decide +kernel) rfl
theorem zw_25 : Cond.selects RX2 yX2_reshape yX2_reshape ∈ zTS := zTS_in 25 (by decide +kernel) rfl
theorem zw_29 : Cond.selects RX2 yX2_changeBy yX2_changeBy ∈ zTS := zTS_in 29 (by decide +kernel) rfl
theorem zw_30 : Cond.selects RX1 yX1_putCopiesBehind yX1_putCopiesBehind ∈ zTS := zTS_in 30 (by decide +kernel) rfl
theorem zw_33 : Cond.selects RX2 yX2_partOf yX2_partOf ∈ zTS := zTS_in 33 (by decide +kernel) rfl
theorem zw_34 : Cond.selects RX2 yX2_lose yX2_lose ∈ zTS := zTS_in 34 (by decide +kernel) rfl
theorem zw_35 : Cond.selects RX0 yX0_isWithin yX0_isWithin ∈ zTS := zTS_in 35 (by decide +kernel) rfl
theorem zw_36 : Cond.selects RX0 yX0_lay yX0_lay ∈ zTS := zTS_in 36 (by decide +kernel) rfl
theorem zw_37 : Cond.selects RX0 yX0_many yX0_many ∈ zTS := zTS_in 37 (by decide +kernel) rfl
theorem zw_40 : Cond.selects RX4 yX4_start yX4_start ∈ zTS := zTS_in 40 (by decide +kernel) rfl
theorem zw_41 : Cond.selects RX4 yX4_addMany yX4_addMany ∈ zTS := zTS_in 41 (by decide +kernel) rfl
theorem zw_42 : Cond.selects RX4 yX4_put yX4_put ∈ zTS := zTS_in 42 (by decide +kernel) rfl
theorem zw_43 : Cond.selects RX4 yX4_reshape yX4_reshape ∈ zTS := zTS_in 43 (by decide +kernel) rfl
theorem zw_49 : Cond.selects RX4 yX4_textOf yX4_textOf ∈ zTS := zTS_in 49 (by decide +kernel) rfl
theorem zw_50 : Cond.selects RX4 yX4_count yX4_count ∈ zTS := zTS_in 50 (by decide +kernel) rfl
theorem zw_51 : Cond.selects RX4 yX4_areApart yX4_areApart ∈ zTS := zTS_in 51 (by decide +kernel) rfl
theorem zw_53 : Cond.selects RX4 yX4_rowIn yX4_rowIn ∈ zTS := zTS_in 53 (by decide +kernel) rfl
theorem zw_54 : Cond.selects RX4 yX4_mostOf yX4_mostOf ∈ zTS := zTS_in 54 (by decide +kernel) rfl
theorem zw_55 : Cond.selects RX4 yX4_lay yX4_lay ∈ zTS := zTS_in 55 (by decide +kernel) rfl
theorem zw_56 : Cond.selects RX4 yX4_lose yX4_lose ∈ zTS := zTS_in 56 (by decide +kernel) rfl
theorem zw_61 : Cond.selects RX4 yX4_partText yX4_partText ∈ zTS := zTS_in 61 (by decide +kernel) rfl
theorem zw_62 : Cond.selects RX4 yX4_walkOf yX4_walkOf ∈ zTS := zTS_in 62 (by decide +kernel) rfl
theorem zw_63 : Cond.selects RX4 yX4_houseOf yX4_houseOf ∈ zTS := zTS_in 63 (by decide +kernel) rfl
theorem zw_64 : Cond.selects RX4 yX4_areSound yX4_areSound ∈ zTS := zTS_in 64 (by decide +kernel) rfl
theorem zw_66 : Cond.initialized RX2 ∈ zTS := zTS_in 66 (by decide +kernel) rfl
theorem zw_67 : Cond.initialized RX1 ∈ zTS := zTS_in 67 (by decide +kernel) rfl
theorem zw_68 : Cond.initialized yX0_init.cls ∈ zTS := zTS_in 68 (by decide +kernel) rfl
theorem zw_69 : Cond.initialized yX4_placeOf.cls ∈ zTS := zTS_in 69 (by decide +kernel) rfl
theorem zw_77 : Cond.initialized yJ9_max_7cf53.cls ∈ zTS := zTS_in 77 (by decide +kernel) rfl
theorem zw_78 : Cond.initialized yJ5_ensureCapacityInternal_d00df.cls ∈ zTS := zTS_in 78 (by decide +kernel) rfl
theorem zw_79 : Cond.initialized RJ4 ∈ zTS := zTS_in 79 (by decide +kernel) rfl
theorem zw_80 : Cond.initialized RJ0 ∈ zTS := zTS_in 80 (by decide +kernel) rfl
theorem zw_82 : Cond.initialized yJ8_newLength_cabcc.cls ∈ zTS := zTS_in 82 (by decide +kernel) rfl
theorem zw_83 : Cond.initialized yJ7_checkLength_df160.cls ∈ zTS := zTS_in 83 (by decide +kernel) rfl
theorem zw_84 : Cond.initialized "java/lang/System" ∈ zTS := zTS_in 84 (by decide +kernel) rfl
theorem zw_85 : Cond.initialized yJ1_canEncode_fc78d.cls ∈ zTS := zTS_in 85 (by decide +kernel) rfl
theorem zw_86 : Cond.initialized yJ3_checkIndex_8e157.cls ∈ zTS := zTS_in 86 (by decide +kernel) rfl
theorem zw_87 : Cond.initialized yJ6_getChars_ba4f3.cls ∈ zTS := zTS_in 87 (by decide +kernel) rfl
theorem zw_94 : Cond.code yX2_init cX2_init 2 none ∈ zTS := zTS_in 94 (by decide +kernel) rfl
theorem zw_95 : Cond.methodLink "Rowtricks" 1 Lib.objectInit ∈ zTS := zTS_in 95 (by decide +kernel) rfl
theorem zw_96 : Cond.instanceMethod Lib.objectInit ∈ zTS := zTS_in 96 (by decide +kernel) rfl
theorem zw_97 : Cond.code Lib.objectInit ⟨#[0xb1]⟩ 1 none ∈ zTS := zTS_in 97 (by decide +kernel) rfl
theorem zw_98 : Cond.classLink "Rowtricks" 9 "Rowtricks$Row" ∈ zTS := zTS_in 98 (by decide +kernel) rfl
theorem zw_100 : Cond.instantiable "Rowtricks$Row" 4 ∈ zTS := zTS_in 100 (by decide +kernel) rfl
theorem zw_102 : Cond.instanceMethod yX1_init ∈ zTS := zTS_in 102 (by decide +kernel) rfl
theorem zw_103 : Cond.code yX1_init cX1_init 1 none ∈ zTS := zTS_in 103 (by decide +kernel) rfl
theorem zw_104 : Cond.methodLink "Rowtricks$Row" 3 Lib.objectInit ∈ zTS := zTS_in 104 (by decide +kernel) rfl
theorem zw_105 : Cond.fieldLink "Rowtricks$Row" 9 "Rowtricks$Row" "cards" "[I" ∈ zTS := zTS_in 105 (by decide +kernel) rfl
theorem zw_106 : Cond.fieldLink "Rowtricks$Row" 15 "Rowtricks$Row" "count" "I" ∈ zTS := zTS_in 106 (by decide +kernel) rfl
theorem zw_108 : Cond.fieldLink "Rowtricks$Row" 19 "Rowtricks$Row" "state" "I" ∈ zTS := zTS_in 108 (by decide +kernel) rfl
theorem zw_110 : Cond.fieldLink "Rowtricks$Row" 22 "Rowtricks$Row" "next" "I" ∈ zTS := zTS_in 110 (by decide +kernel) rfl
theorem zw_121 : Cond.arrayClass .int ∈ zTS := zTS_in 121 (by decide +kernel) rfl
theorem zw_122 : Cond.classLink "Rowtricks" 16 "Rowtricks$Part" ∈ zTS := zTS_in 122 (by decide +kernel) rfl
theorem zw_124 : Cond.instantiable "Rowtricks$Part" 4 ∈ zTS := zTS_in 124 (by decide +kernel) rfl
theorem zw_126 : Cond.instanceMethod yX0_init ∈ zTS := zTS_in 126 (by decide +kernel) rfl
theorem zw_127 : Cond.code yX0_init cX0_init 1 none ∈ zTS := zTS_in 127 (by decide +kernel) rfl
theorem zw_128 : Cond.methodLink "Rowtricks$Part" 1 Lib.objectInit ∈ zTS := zTS_in 128 (by decide +kernel) rfl
theorem zw_129 : Cond.fieldLink "Rowtricks$Part" 7 "Rowtricks$Part" "row" "LRowtricks$Row;" ∈ zTS := zTS_in 129 (by decide +kernel) rfl
theorem zw_131 : Cond.fieldLink "Rowtricks$Part" 13 "Rowtricks$Part" "whole" "LRowtricks$Part;" ∈ zTS := zTS_in 131 (by decide +kernel) rfl
theorem zw_132 : Cond.fieldLink "Rowtricks$Part" 17 "Rowtricks$Part" "from" "I" ∈ zTS := zTS_in 132 (by decide +kernel) rfl
theorem zw_134 : Cond.fieldLink "Rowtricks$Part" 21 "Rowtricks$Part" "to" "I" ∈ zTS := zTS_in 134 (by decide +kernel) rfl
theorem zw_145 : Cond.fieldLink "Rowtricks" 11 "Rowtricks" "rows" "[LRowtricks$Row;" ∈ zTS := zTS_in 145 (by decide +kernel) rfl
theorem zw_146 : Cond.fieldLink "Rowtricks" 18 "Rowtricks" "parts" "[LRowtricks$Part;" ∈ zTS := zTS_in 146 (by decide +kernel) rfl
theorem zw_147 : Cond.fieldLink "Rowtricks" 23 "Rowtricks" "spare" "LRowtricks$Row;" ∈ zTS := zTS_in 147 (by decide +kernel) rfl
theorem zw_148 : Cond.fieldLink "Rowtricks" 27 "Rowtricks" "knocks" "I" ∈ zTS := zTS_in 148 (by decide +kernel) rfl
theorem zw_163 : Cond.instanceMethod yX2_isSound ∈ zTS := zTS_in 163 (by decide +kernel) rfl
theorem zw_164 : Cond.selects RX2 yX2_isSound yX2_isSound ∈ zTS := zTS_in 164 (by decide +kernel) rfl
theorem zw_165 : Cond.code yX2_isSound cX2_isSound 5 (some .boolean) ∈ zTS := zTS_in 165 (by decide +kernel) rfl
theorem zw_166 : Cond.methodLink "Rowtricks" 259 yX2_isRowSound ∈ zTS := zTS_in 166 (by decide +kernel) rfl
theorem zw_168 : Cond.instanceMethod yX2_isRowSound ∈ zTS := zTS_in 168 (by decide +kernel) rfl
theorem zw_169 : Cond.code yX2_isRowSound cX2_isRowSound 4 (some .boolean) ∈ zTS := zTS_in 169 (by decide +kernel) rfl
theorem zw_172 : Cond.instanceMethod yX1_becomeLike ∈ zTS := zTS_in 172 (by decide +kernel) rfl
theorem zw_173 : Cond.code yX1_becomeLike cX1_becomeLike 2 none ∈ zTS := zTS_in 173 (by decide +kernel) rfl
theorem zw_174 : Cond.methodLink "Rowtricks$Row" 40 yX1_putAllBehind ∈ zTS := zTS_in 174 (by decide +kernel) rfl
theorem zw_176 : Cond.instanceMethod yX1_putAllBehind ∈ zTS := zTS_in 176 (by decide +kernel) rfl
theorem zw_177 : Cond.code yX1_putAllBehind cX1_putAllBehind 4 none ∈ zTS := zTS_in 177 (by decide +kernel) rfl
theorem zw_178 : Cond.methodLink "Rowtricks$Row" 25 yX1_cardAt ∈ zTS := zTS_in 178 (by decide +kernel) rfl
theorem zw_180 : Cond.instanceMethod yX1_cardAt ∈ zTS := zTS_in 180 (by decide +kernel) rfl
theorem zw_181 : Cond.code yX1_cardAt cX1_cardAt 2 (some .int) ∈ zTS := zTS_in 181 (by decide +kernel) rfl
theorem zw_182 : Cond.methodLink "Rowtricks$Row" 36 yX1_putBehind ∈ zTS := zTS_in 182 (by decide +kernel) rfl
theorem zw_184 : Cond.instanceMethod yX1_putBehind ∈ zTS := zTS_in 184 (by decide +kernel) rfl
theorem zw_185 : Cond.code yX1_putBehind cX1_putBehind 2 none ∈ zTS := zTS_in 185 (by decide +kernel) rfl
theorem zw_186 : Cond.methodLink "Rowtricks$Row" 32 yX1_put ∈ zTS := zTS_in 186 (by decide +kernel) rfl
theorem zw_188 : Cond.instanceMethod yX1_put ∈ zTS := zTS_in 188 (by decide +kernel) rfl
theorem zw_189 : Cond.code yX1_put cX1_put 3 none ∈ zTS := zTS_in 189 (by decide +kernel) rfl
theorem zw_192 : Cond.instanceMethod yX1_turn ∈ zTS := zTS_in 192 (by decide +kernel) rfl
theorem zw_193 : Cond.code yX1_turn cX1_turn 5 none ∈ zTS := zTS_in 193 (by decide +kernel) rfl
theorem zw_194 : Cond.methodLink "Rowtricks$Row" 44 yX1_exchange ∈ zTS := zTS_in 194 (by decide +kernel) rfl
theorem zw_196 : Cond.instanceMethod yX1_exchange ∈ zTS := zTS_in 196 (by decide +kernel) rfl
theorem zw_197 : Cond.code yX1_exchange cX1_exchange 4 none ∈ zTS := zTS_in 197 (by decide +kernel) rfl
theorem zw_200 : Cond.instanceMethod yX1_push ∈ zTS := zTS_in 200 (by decide +kernel) rfl
theorem zw_201 : Cond.code yX1_push cX1_push 6 none ∈ zTS := zTS_in 201 (by decide +kernel) rfl
theorem zw_202 : Cond.methodLink "Rowtricks$Row" 47 yJ9_floorMod_7cf53 ∈ zTS := zTS_in 202 (by decide +kernel) rfl
theorem zw_203 : Cond.static yJ9_floorMod_7cf53 ∈ zTS := zTS_in 203 (by decide +kernel) rfl
theorem zw_204 : Cond.code yJ9_floorMod_7cf53 cJ9_floorMod_7cf53 3 (some .int) ∈ zTS := zTS_in 204 (by decide +kernel) rfl
theorem zw_205 : Cond.methodLink "Rowtricks$Row" 53 yX1_turn ∈ zTS := zTS_in 205 (by decide +kernel) rfl
theorem zw_208 : Cond.instanceMethod yX1_isLike ∈ zTS := zTS_in 208 (by decide +kernel) rfl
theorem zw_209 : Cond.code yX1_isLike cX1_isLike 2 (some .boolean) ∈ zTS := zTS_in 209 (by decide +kernel) rfl
theorem zw_210 : Cond.methodLink "Rowtricks$Row" 64 yX1_hasFrom ∈ zTS := zTS_in 210 (by decide +kernel) rfl
theorem zw_212 : Cond.instanceMethod yX1_hasFrom ∈ zTS := zTS_in 212 (by decide +kernel) rfl
theorem zw_213 : Cond.code yX1_hasFrom cX1_hasFrom 6 (some .boolean) ∈ zTS := zTS_in 213 (by decide +kernel) rfl
theorem zw_216 : Cond.instanceMethod yX1_arrange ∈ zTS := zTS_in 216 (by decide +kernel) rfl
theorem zw_217 : Cond.code yX1_arrange cX1_arrange 5 none ∈ zTS := zTS_in 217 (by decide +kernel) rfl
theorem zw_218 : Cond.methodLink "Rowtricks$Row" 56 yX1_settle ∈ zTS := zTS_in 218 (by decide +kernel) rfl
theorem zw_220 : Cond.instanceMethod yX1_settle ∈ zTS := zTS_in 220 (by decide +kernel) rfl
theorem zw_221 : Cond.code yX1_settle cX1_settle 6 none ∈ zTS := zTS_in 221 (by decide +kernel) rfl
theorem zw_222 : Cond.methodLink "Rowtricks$Row" 29 yX1_valueAt ∈ zTS := zTS_in 222 (by decide +kernel) rfl
theorem zw_224 : Cond.instanceMethod yX1_valueAt ∈ zTS := zTS_in 224 (by decide +kernel) rfl
theorem zw_225 : Cond.code yX1_valueAt cX1_valueAt 2 (some .int) ∈ zTS := zTS_in 225 (by decide +kernel) rfl
theorem zw_227 : Cond.static yX2_comesBefore ∈ zTS := zTS_in 227 (by decide +kernel) rfl
theorem zw_228 : Cond.code yX2_comesBefore cX2_comesBefore 3 (some .boolean) ∈ zTS := zTS_in 228 (by decide +kernel) rfl
theorem zw_232 : Cond.instanceMethod yX1_howOften ∈ zTS := zTS_in 232 (by decide +kernel) rfl
theorem zw_233 : Cond.code yX1_howOften cX1_howOften 4 (some .int) ∈ zTS := zTS_in 233 (by decide +kernel) rfl
theorem zw_235 : Cond.methodLink "Rowtricks" 151 yX2_extremeOf ∈ zTS := zTS_in 235 (by decide +kernel) rfl
theorem zw_236 : Cond.static yX2_extremeOf ∈ zTS := zTS_in 236 (by decide +kernel) rfl
theorem zw_237 : Cond.code yX2_extremeOf cX2_extremeOf 5 (some .int) ∈ zTS := zTS_in 237 (by decide +kernel) rfl
theorem zw_238 : Cond.methodLink "Rowtricks" 321 yJ9_min_7cf53 ∈ zTS := zTS_in 238 (by decide +kernel) rfl
theorem zw_239 : Cond.static yJ9_min_7cf53 ∈ zTS := zTS_in 239 (by decide +kernel) rfl
theorem zw_240 : Cond.code yJ9_min_7cf53 cJ9_min_7cf53 2 (some .int) ∈ zTS := zTS_in 240 (by decide +kernel) rfl
theorem zw_241 : Cond.methodLink "Rowtricks" 326 yJ9_max_7cf53 ∈ zTS := zTS_in 241 (by decide +kernel) rfl
theorem zw_242 : Cond.static yJ9_max_7cf53 ∈ zTS := zTS_in 242 (by decide +kernel) rfl
theorem zw_243 : Cond.code yJ9_max_7cf53 cJ9_max_7cf53 2 (some .int) ∈ zTS := zTS_in 243 (by decide +kernel) rfl
theorem zw_244 : Cond.methodLink "Rowtricks" 262 yX2_isPartSound ∈ zTS := zTS_in 244 (by decide +kernel) rfl
theorem zw_245 : Cond.static yX2_isPartSound ∈ zTS := zTS_in 245 (by decide +kernel) rfl
theorem zw_246 : Cond.code yX2_isPartSound cX2_isPartSound 2 (some .boolean) ∈ zTS := zTS_in 246 (by decide +kernel) rfl
theorem zw_249 : Cond.instanceMethod yX1_placeOf ∈ zTS := zTS_in 249 (by decide +kernel) rfl
theorem zw_250 : Cond.code yX1_placeOf cX1_placeOf 8 (some .int) ∈ zTS := zTS_in 250 (by decide +kernel) rfl
theorem zw_254 : Cond.code yX2_digest cX2_digest 12 (some .long) ∈ zTS := zTS_in 254 (by decide +kernel) rfl
theorem zw_255 : Cond.classLink "Rowtricks" 222 "java/lang/StringBuilder" ∈ zTS := zTS_in 255 (by decide +kernel) rfl
theorem zw_256 : Cond.instantiable "java/lang/StringBuilder" 4 ∈ zTS := zTS_in 256 (by decide +kernel) rfl
theorem zw_257 : Cond.methodLink "Rowtricks" 224 yJ4_init_da8c8 ∈ zTS := zTS_in 257 (by decide +kernel) rfl
theorem zw_258 : Cond.instanceMethod yJ4_init_da8c8 ∈ zTS := zTS_in 258 (by decide +kernel) rfl
theorem zw_259 : Cond.code yJ4_init_da8c8 cJ4_init_da8c8 1 none ∈ zTS := zTS_in 259 (by decide +kernel) rfl
theorem zw_260 : Cond.methodLink "java/lang/StringBuilder" 1 yJ5_init_d00df ∈ zTS := zTS_in 260 (by decide +kernel) rfl
theorem zw_261 : Cond.instanceMethod yJ5_init_d00df ∈ zTS := zTS_in 261 (by decide +kernel) rfl
theorem zw_262 : Cond.code yJ5_init_d00df cJ5_init_d00df 2 none ∈ zTS := zTS_in 262 (by decide +kernel) rfl
theorem zw_263 : Cond.methodLink "java/lang/AbstractStringBuilder" 3 Lib.objectInit ∈ zTS := zTS_in 263 (by decide +kernel) rfl
theorem zw_264 : Cond.fieldLink "java/lang/AbstractStringBuilder" 18 "java/lang/String" "COMPACT_STRINGS" "Z" ∈ zTS := zTS_in 264 (by decide +kernel) rfl
theorem zw_273 : Cond.fieldLink "java/lang/AbstractStringBuilder" 15 "java/lang/AbstractStringBuilder" "value" "[B" ∈ zTS := zTS_in 273 (by decide +kernel) rfl
theorem zw_274 : Cond.fieldLink "java/lang/AbstractStringBuilder" 22 "java/lang/AbstractStringBuilder" "coder" "B" ∈ zTS := zTS_in 274 (by decide +kernel) rfl
theorem zw_275 : Cond.fieldLink "java/lang/AbstractStringBuilder" 73 "java/lang/AbstractStringBuilder" "maybeLatin1" "Z" ∈ zTS := zTS_in 275 (by decide +kernel) rfl
theorem zw_277 : Cond.fieldLink "java/lang/AbstractStringBuilder" 79 "java/lang/AbstractStringBuilder" "count" "I" ∈ zTS := zTS_in 277 (by decide +kernel) rfl
theorem zw_286 : Cond.superclass "java/lang/StringBuilder" "java/lang/AbstractStringBuilder" ∈ zTS := zTS_in 286 (by decide +kernel) rfl
theorem zw_287 : Cond.arrayClass .byte ∈ zTS := zTS_in 287 (by decide +kernel) rfl
theorem zw_288 : Cond.constantLong "Rowtricks" 265 (7710) ∈ zTS := zTS_in 288 (by decide +kernel) rfl
theorem zw_289 : Cond.methodLink "Rowtricks" 267 yX2_mixHouse ∈ zTS := zTS_in 289 (by decide +kernel) rfl
theorem zw_291 : Cond.instanceMethod yX2_mixHouse ∈ zTS := zTS_in 291 (by decide +kernel) rfl
theorem zw_292 : Cond.code yX2_mixHouse cX2_mixHouse 5 (some .long) ∈ zTS := zTS_in 292 (by decide +kernel) rfl
theorem zw_293 : Cond.methodLink "Rowtricks" 248 yX2_allCards ∈ zTS := zTS_in 293 (by decide +kernel) rfl
theorem zw_295 : Cond.instanceMethod yX2_allCards ∈ zTS := zTS_in 295 (by decide +kernel) rfl
theorem zw_296 : Cond.code yX2_allCards cX2_allCards 6 (some .int) ∈ zTS := zTS_in 296 (by decide +kernel) rfl
theorem zw_297 : Cond.methodLink "Rowtricks" 275 yX2_mix ∈ zTS := zTS_in 297 (by decide +kernel) rfl
theorem zw_298 : Cond.static yX2_mix ∈ zTS := zTS_in 298 (by decide +kernel) rfl
theorem zw_299 : Cond.code yX2_mix cX2_mix 4 (some .long) ∈ zTS := zTS_in 299 (by decide +kernel) rfl
theorem zw_300 : Cond.constantLong "Rowtricks" 345 (31) ∈ zTS := zTS_in 300 (by decide +kernel) rfl
theorem zw_301 : Cond.methodLink "Rowtricks" 251 yX2_allParts ∈ zTS := zTS_in 301 (by decide +kernel) rfl
theorem zw_303 : Cond.instanceMethod yX2_allParts ∈ zTS := zTS_in 303 (by decide +kernel) rfl
theorem zw_304 : Cond.code yX2_allParts cX2_allParts 6 (some .int) ∈ zTS := zTS_in 304 (by decide +kernel) rfl
theorem zw_307 : Cond.instanceMethod yX0_isThere ∈ zTS := zTS_in 307 (by decide +kernel) rfl
theorem zw_308 : Cond.code yX0_isThere cX0_isThere 1 (some .boolean) ∈ zTS := zTS_in 308 (by decide +kernel) rfl
theorem zw_309 : Cond.methodLink "Rowtricks" 254 yX2_allWalks ∈ zTS := zTS_in 309 (by decide +kernel) rfl
theorem zw_311 : Cond.instanceMethod yX2_allWalks ∈ zTS := zTS_in 311 (by decide +kernel) rfl
theorem zw_312 : Cond.code yX2_allWalks cX2_allWalks 6 (some .int) ∈ zTS := zTS_in 312 (by decide +kernel) rfl
theorem zw_313 : Cond.methodLink "Rowtricks" 271 yX2_mixRow ∈ zTS := zTS_in 313 (by decide +kernel) rfl
theorem zw_314 : Cond.static yX2_mixRow ∈ zTS := zTS_in 314 (by decide +kernel) rfl
theorem zw_315 : Cond.code yX2_mixRow cX2_mixRow 6 (some .long) ∈ zTS := zTS_in 315 (by decide +kernel) rfl
theorem zw_316 : Cond.methodLink "Rowtricks" 279 yJ4_setLength_d00df ∈ zTS := zTS_in 316 (by decide +kernel) rfl
theorem zw_317 : Cond.instanceMethod yJ4_setLength_d00df ∈ zTS := zTS_in 317 (by decide +kernel) rfl
theorem zw_318 : Cond.selects RJ4 yJ4_setLength_d00df yJ4_setLength_d00df ∈ zTS := zTS_in 318 (by decide +kernel) rfl
theorem zw_319 : Cond.code yJ4_setLength_d00df cJ4_setLength_d00df 2 none ∈ zTS := zTS_in 319 (by decide +kernel) rfl
theorem zw_320 : Cond.methodLink "java/lang/StringBuilder" 333 yJ5_setLength_d00df ∈ zTS := zTS_in 320 (by decide +kernel) rfl
theorem zw_321 : Cond.instanceMethod yJ5_setLength_d00df ∈ zTS := zTS_in 321 (by decide +kernel) rfl
theorem zw_322 : Cond.code yJ5_setLength_d00df cJ5_setLength_d00df 2 none ∈ zTS := zTS_in 322 (by decide +kernel) rfl
theorem zw_332 : Cond.instanceMethod yJ4_append_15ec4 ∈ zTS := zTS_in 332 (by decide +kernel) rfl
theorem zw_333 : Cond.selects RJ4 yJ4_append_15ec4 yJ4_append_15ec4 ∈ zTS := zTS_in 333 (by decide +kernel) rfl
theorem zw_334 : Cond.code yJ4_append_15ec4 cJ4_append_15ec4 2 (some (.object "java/lang/StringBuilder")) ∈ zTS := zTS_in 334 (by decide +kernel) rfl
theorem zw_335 : Cond.methodLink "java/lang/StringBuilder" 29 yJ5_append_cf1ce ∈ zTS := zTS_in 335 (by decide +kernel) rfl
theorem zw_336 : Cond.instanceMethod yJ5_append_cf1ce ∈ zTS := zTS_in 336 (by decide +kernel) rfl
theorem zw_337 : Cond.code yJ5_append_cf1ce cJ5_append_cf1ce 3 (some (.object "java/lang/AbstractStringBuilder")) ∈ zTS := zTS_in 337 (by decide +kernel) rfl
theorem zw_342 : Cond.methodLink "java/lang/AbstractStringBuilder" 100 yJ5_ensureCapacityInternal_d00df ∈ zTS := zTS_in 342 (by decide +kernel) rfl
theorem zw_344 : Cond.instanceMethod yJ5_ensureCapacityInternal_d00df ∈ zTS := zTS_in 344 (by decide +kernel) rfl
theorem zw_345 : Cond.code yJ5_ensureCapacityInternal_d00df cJ5_ensureCapacityInternal_d00df 3 none ∈ zTS := zTS_in 345 (by decide +kernel) rfl
theorem zw_346 : Cond.methodLink "java/lang/AbstractStringBuilder" 104 yJ5_newCapacity_0f7a4 ∈ zTS := zTS_in 346 (by decide +kernel) rfl
theorem zw_348 : Cond.instanceMethod yJ5_newCapacity_0f7a4 ∈ zTS := zTS_in 348 (by decide +kernel) rfl
theorem zw_349 : Cond.code yJ5_newCapacity_0f7a4 cJ5_newCapacity_0f7a4 6 (some .int) ∈ zTS := zTS_in 349 (by decide +kernel) rfl
theorem zw_350 : Cond.methodLink "java/lang/AbstractStringBuilder" 114 yJ8_newLength_cabcc ∈ zTS := zTS_in 350 (by decide +kernel) rfl
theorem zw_351 : Cond.static yJ8_newLength_cabcc ∈ zTS := zTS_in 351 (by decide +kernel) rfl
theorem zw_352 : Cond.code yJ8_newLength_cabcc cJ8_newLength_cabcc 4 (some .int) ∈ zTS := zTS_in 352 (by decide +kernel) rfl
theorem zw_353 : Cond.methodLink "jdk/internal/util/ArraysSupport" 194 yJ9_max_7cf53 ∈ zTS := zTS_in 353 (by decide +kernel) rfl
theorem zw_354 : Cond.constant "jdk/internal/util/ArraysSupport" 200 (2147483639) ∈ zTS := zTS_in 354 (by decide +kernel) rfl
theorem zw_358 : Cond.constant "java/lang/AbstractStringBuilder" 39 (2147483647) ∈ zTS := zTS_in 358 (by decide +kernel) rfl
theorem zw_359 : Cond.methodLink "java/lang/AbstractStringBuilder" 108 yJ7_copyOf_9075b ∈ zTS := zTS_in 359 (by decide +kernel) rfl
theorem zw_360 : Cond.static yJ7_copyOf_9075b ∈ zTS := zTS_in 360 (by decide +kernel) rfl
theorem zw_361 : Cond.code yJ7_copyOf_9075b cJ7_copyOf_9075b 3 (some (.array .byte)) ∈ zTS := zTS_in 361 (by decide +kernel) rfl
theorem zw_364 : Cond.native ⟨"java/lang/Object", "clone", "()Ljava/lang/Object;"⟩ ∈ zTS := zTS_in 364 (by decide +kernel) rfl
theorem zw_365 : Cond.instanceMethod ⟨"java/lang/Object", "clone", "()Ljava/lang/Object;"⟩ ∈ zTS := zTS_in 365 (by decide +kernel) rfl
theorem zw_369 : Cond.methodLink "java/util/Arrays" 304 yJ9_min_7cf53 ∈ zTS := zTS_in 369 (by decide +kernel) rfl
theorem zw_370 : Cond.methodLink "java/util/Arrays" 150 arraycopyName ∈ zTS := zTS_in 370 (by decide +kernel) rfl
theorem zw_371 : Cond.static arraycopyName ∈ zTS := zTS_in 371 (by decide +kernel) rfl
theorem zw_372 : Cond.native arraycopyName ∈ zTS := zTS_in 372 (by decide +kernel) rfl
theorem zw_373 : Cond.methodLink "java/lang/AbstractStringBuilder" 83 yJ5_isLatin1_aae02 ∈ zTS := zTS_in 373 (by decide +kernel) rfl
theorem zw_374 : Cond.instanceMethod yJ5_isLatin1_aae02 ∈ zTS := zTS_in 374 (by decide +kernel) rfl
theorem zw_375 : Cond.sameMethod "java/lang/AbstractStringBuilder" "java/lang/AbstractStringBuilder" "isLatin1" "()Z" ∈ zTS := zTS_in 375 (by decide +kernel) rfl
theorem zw_376 : Cond.selects RJ4 yJ5_isLatin1_aae02 yJ5_isLatin1_aae02 ∈ zTS := zTS_in 376 (by decide +kernel) rfl
theorem zw_377 : Cond.code yJ5_isLatin1_aae02 cJ5_isLatin1_aae02 1 (some .boolean) ∈ zTS := zTS_in 377 (by decide +kernel) rfl
theorem zw_390 : Cond.fieldLink "java/lang/String" 1053 "jdk/internal/util/Preconditions" "SIOOBE_FORMATTER" "Ljava/util/function/BiFunction;" ∈ zTS := zTS_in 390 (by decide +kernel) rfl
theorem zw_404 : Cond.methodLink "java/lang/AbstractStringBuilder" 32 yJ0_length_8abf5 ∈ zTS := zTS_in 404 (by decide +kernel) rfl
theorem zw_405 : Cond.instanceMethod yJ0_length_8abf5 ∈ zTS := zTS_in 405 (by decide +kernel) rfl
theorem zw_406 : Cond.selects RJ0 yJ0_length_8abf5 yJ0_length_8abf5 ∈ zTS := zTS_in 406 (by decide +kernel) rfl
theorem zw_407 : Cond.code yJ0_length_8abf5 cJ0_length_8abf5 1 (some .int) ∈ zTS := zTS_in 407 (by decide +kernel) rfl
theorem zw_408 : Cond.methodLink "java/lang/String" 335 yJ0_coder_7d493 ∈ zTS := zTS_in 408 (by decide +kernel) rfl
theorem zw_409 : Cond.instanceMethod yJ0_coder_7d493 ∈ zTS := zTS_in 409 (by decide +kernel) rfl
theorem zw_410 : Cond.selects RJ0 yJ0_coder_7d493 yJ0_coder_7d493 ∈ zTS := zTS_in 410 (by decide +kernel) rfl
theorem zw_411 : Cond.code yJ0_coder_7d493 cJ0_coder_7d493 1 (some .byte) ∈ zTS := zTS_in 411 (by decide +kernel) rfl
theorem zw_412 : Cond.fieldLink "java/lang/String" 38 "java/lang/String" "COMPACT_STRINGS" "Z" ∈ zTS := zTS_in 412 (by decide +kernel) rfl
theorem zw_413 : Cond.methodLink "java/lang/AbstractStringBuilder" 208 yJ5_putStringAt_47b60 ∈ zTS := zTS_in 413 (by decide +kernel) rfl
theorem zw_415 : Cond.instanceMethod yJ5_putStringAt_47b60 ∈ zTS := zTS_in 415 (by decide +kernel) rfl
theorem zw_416 : Cond.code yJ5_putStringAt_47b60 cJ5_putStringAt_47b60 3 none ∈ zTS := zTS_in 416 (by decide +kernel) rfl
theorem zw_417 : Cond.methodLink "java/lang/AbstractStringBuilder" 397 yJ5_inflateIfNeededFor_a7421 ∈ zTS := zTS_in 417 (by decide +kernel) rfl
theorem zw_419 : Cond.instanceMethod yJ5_inflateIfNeededFor_a7421 ∈ zTS := zTS_in 419 (by decide +kernel) rfl
theorem zw_420 : Cond.code yJ5_inflateIfNeededFor_a7421 cJ5_inflateIfNeededFor_a7421 2 none ∈ zTS := zTS_in 420 (by decide +kernel) rfl
theorem zw_421 : Cond.methodLink "java/lang/AbstractStringBuilder" 40 yJ0_coder_7d493 ∈ zTS := zTS_in 421 (by decide +kernel) rfl
theorem zw_441 : Cond.methodLink "java/lang/AbstractStringBuilder" 399 yJ0_getBytes_840e7 ∈ zTS := zTS_in 441 (by decide +kernel) rfl
theorem zw_442 : Cond.instanceMethod yJ0_getBytes_840e7 ∈ zTS := zTS_in 442 (by decide +kernel) rfl
theorem zw_443 : Cond.selects RJ0 yJ0_getBytes_840e7 yJ0_getBytes_840e7 ∈ zTS := zTS_in 443 (by decide +kernel) rfl
theorem zw_444 : Cond.code yJ0_getBytes_840e7 cJ0_getBytes_840e7 4 none ∈ zTS := zTS_in 444 (by decide +kernel) rfl
theorem zw_445 : Cond.methodLink "java/lang/String" 212 arraycopyName ∈ zTS := zTS_in 445 (by decide +kernel) rfl
theorem zw_448 : Cond.instanceMethod yJ4_append_bf812 ∈ zTS := zTS_in 448 (by decide +kernel) rfl
theorem zw_449 : Cond.selects RJ4 yJ4_append_bf812 yJ4_append_bf812 ∈ zTS := zTS_in 449 (by decide +kernel) rfl
theorem zw_450 : Cond.code yJ4_append_bf812 cJ4_append_bf812 2 (some (.object "java/lang/StringBuilder")) ∈ zTS := zTS_in 450 (by decide +kernel) rfl
theorem zw_451 : Cond.methodLink "java/lang/StringBuilder" 53 yJ5_append_c97b9 ∈ zTS := zTS_in 451 (by decide +kernel) rfl
theorem zw_452 : Cond.instanceMethod yJ5_append_c97b9 ∈ zTS := zTS_in 452 (by decide +kernel) rfl
theorem zw_453 : Cond.code yJ5_append_c97b9 cJ5_append_c97b9 4 (some (.object "java/lang/AbstractStringBuilder")) ∈ zTS := zTS_in 453 (by decide +kernel) rfl
theorem zw_454 : Cond.methodLink "java/lang/AbstractStringBuilder" 245 yJ6_stringSize_0f7a4 ∈ zTS := zTS_in 454 (by decide +kernel) rfl
theorem zw_455 : Cond.static yJ6_stringSize_0f7a4 ∈ zTS := zTS_in 455 (by decide +kernel) rfl
theorem zw_456 : Cond.code yJ6_stringSize_0f7a4 cJ6_stringSize_0f7a4 4 (some .int) ∈ zTS := zTS_in 456 (by decide +kernel) rfl
theorem zw_457 : Cond.methodLink "java/lang/AbstractStringBuilder" 248 yJ6_getChars_ba4f3 ∈ zTS := zTS_in 457 (by decide +kernel) rfl
theorem zw_458 : Cond.static yJ6_getChars_ba4f3 ∈ zTS := zTS_in 458 (by decide +kernel) rfl
theorem zw_459 : Cond.code yJ6_getChars_ba4f3 cJ6_getChars_ba4f3 7 (some .int) ∈ zTS := zTS_in 459 (by decide +kernel) rfl
theorem zw_460 : Cond.fieldLink "java/lang/Integer" 83 "java/lang/Integer" "DigitOnes" "[B" ∈ zTS := zTS_in 460 (by decide +kernel) rfl
theorem zw_462 : Cond.fieldLink "java/lang/Integer" 87 "java/lang/Integer" "DigitTens" "[B" ∈ zTS := zTS_in 462 (by decide +kernel) rfl
theorem zw_473 : Cond.instanceMethod yJ4_toString_0e30d ∈ zTS := zTS_in 473 (by decide +kernel) rfl
theorem zw_474 : Cond.selects RJ4 yJ4_toString_0e30d yJ4_toString_0e30d ∈ zTS := zTS_in 474 (by decide +kernel) rfl
theorem zw_475 : Cond.code yJ4_toString_0e30d cJ4_toString_0e30d 1 (some (.object "java/lang/String")) ∈ zTS := zTS_in 475 (by decide +kernel) rfl
theorem zw_476 : Cond.classLink "java/lang/StringBuilder" 18 "java/lang/String" ∈ zTS := zTS_in 476 (by decide +kernel) rfl
theorem zw_477 : Cond.instantiable "java/lang/String" 4 ∈ zTS := zTS_in 477 (by decide +kernel) rfl
theorem zw_478 : Cond.methodLink "java/lang/StringBuilder" 137 yJ0_init_81219 ∈ zTS := zTS_in 478 (by decide +kernel) rfl
theorem zw_479 : Cond.instanceMethod yJ0_init_81219 ∈ zTS := zTS_in 479 (by decide +kernel) rfl
theorem zw_480 : Cond.code yJ0_init_81219 cJ0_init_81219 2 none ∈ zTS := zTS_in 480 (by decide +kernel) rfl
theorem zw_481 : Cond.methodLink "java/lang/String" 489 yJ0_init_db425 ∈ zTS := zTS_in 481 (by decide +kernel) rfl
theorem zw_482 : Cond.instanceMethod yJ0_init_db425 ∈ zTS := zTS_in 482 (by decide +kernel) rfl
theorem zw_483 : Cond.code yJ0_init_db425 cJ0_init_db425 5 none ∈ zTS := zTS_in 483 (by decide +kernel) rfl
theorem zw_484 : Cond.methodLink "java/lang/String" 1 Lib.objectInit ∈ zTS := zTS_in 484 (by decide +kernel) rfl
theorem zw_485 : Cond.methodLink "java/lang/String" 552 yJ5_getValue_6d5f1 ∈ zTS := zTS_in 485 (by decide +kernel) rfl
theorem zw_486 : Cond.instanceMethod yJ5_getValue_6d5f1 ∈ zTS := zTS_in 486 (by decide +kernel) rfl
theorem zw_487 : Cond.sameMethod "java/lang/AbstractStringBuilder" "java/lang/AbstractStringBuilder" "getValue" "()[B" ∈ zTS := zTS_in 487 (by decide +kernel) rfl
theorem zw_488 : Cond.selects RJ4 yJ5_getValue_6d5f1 yJ5_getValue_6d5f1 ∈ zTS := zTS_in 488 (by decide +kernel) rfl
theorem zw_489 : Cond.code yJ5_getValue_6d5f1 cJ5_getValue_6d5f1 1 (some (.array .byte)) ∈ zTS := zTS_in 489 (by decide +kernel) rfl
theorem zw_490 : Cond.methodLink "java/lang/String" 549 ⟨"java/lang/AbstractStringBuilder", "length", "()I"⟩ ∈ zTS := zTS_in 490 (by decide +kernel) rfl
theorem zw_491 : Cond.instanceMethod ⟨"java/lang/AbstractStringBuilder", "length", "()I"⟩ ∈ zTS := zTS_in 491 (by decide +kernel) rfl
theorem zw_492 : Cond.sameMethod "java/lang/AbstractStringBuilder" "java/lang/AbstractStringBuilder" "length" "()I" ∈ zTS := zTS_in 492 (by decide +kernel) rfl
theorem zw_493 : Cond.selects "java/lang/StringBuilder" ⟨"java/lang/AbstractStringBuilder", "length", "()I"⟩ yJ4_length_8abf5 ∈ zTS := zTS_in 493 (by decide +kernel) rfl
theorem zw_494 : Cond.instanceMethod yJ4_length_8abf5 ∈ zTS := zTS_in 494 (by decide +kernel) rfl
theorem zw_495 : Cond.code yJ4_length_8abf5 cJ4_length_8abf5 1 (some .int) ∈ zTS := zTS_in 495 (by decide +kernel) rfl
theorem zw_496 : Cond.methodLink "java/lang/StringBuilder" 343 yJ5_length_8abf5 ∈ zTS := zTS_in 496 (by decide +kernel) rfl
theorem zw_497 : Cond.code yJ5_length_8abf5 cJ5_length_8abf5 1 (some .int) ∈ zTS := zTS_in 497 (by decide +kernel) rfl
theorem zw_498 : Cond.methodLink "java/lang/String" 1047 yJ5_isLatin1_aae02 ∈ zTS := zTS_in 498 (by decide +kernel) rfl
theorem zw_499 : Cond.methodLink "java/lang/String" 54 yJ7_copyOfRange_39247 ∈ zTS := zTS_in 499 (by decide +kernel) rfl
theorem zw_500 : Cond.static yJ7_copyOfRange_39247 ∈ zTS := zTS_in 500 (by decide +kernel) rfl
theorem zw_501 : Cond.code yJ7_copyOfRange_39247 cJ7_copyOfRange_39247 3 (some (.array .byte)) ∈ zTS := zTS_in 501 (by decide +kernel) rfl
theorem zw_502 : Cond.methodLink "java/util/Arrays" 339 yJ7_copyOfRangeByte_39247 ∈ zTS := zTS_in 502 (by decide +kernel) rfl
theorem zw_503 : Cond.static yJ7_copyOfRangeByte_39247 ∈ zTS := zTS_in 503 (by decide +kernel) rfl
theorem zw_504 : Cond.code yJ7_copyOfRangeByte_39247 cJ7_copyOfRangeByte_39247 5 (some (.array .byte)) ∈ zTS := zTS_in 504 (by decide +kernel) rfl
theorem zw_505 : Cond.methodLink "java/util/Arrays" 343 yJ7_checkLength_df160 ∈ zTS := zTS_in 505 (by decide +kernel) rfl
theorem zw_506 : Cond.static yJ7_checkLength_df160 ∈ zTS := zTS_in 506 (by decide +kernel) rfl
theorem zw_507 : Cond.code yJ7_checkLength_df160 cJ7_checkLength_df160 2 none ∈ zTS := zTS_in 507 (by decide +kernel) rfl
theorem zw_595 : Cond.fieldLink "java/lang/String" 9 "java/lang/String" "value" "[B" ∈ zTS := zTS_in 595 (by decide +kernel) rfl
theorem zw_596 : Cond.fieldLink "java/lang/String" 15 "java/lang/String" "coder" "B" ∈ zTS := zTS_in 596 (by decide +kernel) rfl
theorem zw_656 : Cond.methodLink "Rowtricks" 329 yX2_writeSpan ∈ zTS := zTS_in 656 (by decide +kernel) rfl
theorem zw_657 : Cond.static yX2_writeSpan ∈ zTS := zTS_in 657 (by decide +kernel) rfl
theorem zw_658 : Cond.code yX2_writeSpan cX2_writeSpan 5 none ∈ zTS := zTS_in 658 (by decide +kernel) rfl
theorem zw_659 : Cond.methodLink "Rowtricks" 333 yJ4_append_cf468 ∈ zTS := zTS_in 659 (by decide +kernel) rfl
theorem zw_660 : Cond.instanceMethod yJ4_append_cf468 ∈ zTS := zTS_in 660 (by decide +kernel) rfl
theorem zw_661 : Cond.selects RJ4 yJ4_append_cf468 yJ4_append_cf468 ∈ zTS := zTS_in 661 (by decide +kernel) rfl
theorem zw_662 : Cond.code yJ4_append_cf468 cJ4_append_cf468 2 (some (.object "java/lang/StringBuilder")) ∈ zTS := zTS_in 662 (by decide +kernel) rfl
theorem zw_663 : Cond.methodLink "java/lang/StringBuilder" 50 yJ5_append_3fe6f ∈ zTS := zTS_in 663 (by decide +kernel) rfl
theorem zw_664 : Cond.instanceMethod yJ5_append_3fe6f ∈ zTS := zTS_in 664 (by decide +kernel) rfl
theorem zw_665 : Cond.code yJ5_append_3fe6f cJ5_append_3fe6f 2 (some (.object "java/lang/AbstractStringBuilder")) ∈ zTS := zTS_in 665 (by decide +kernel) rfl
theorem zw_666 : Cond.methodLink "java/lang/AbstractStringBuilder" 191 yJ1_canEncode_fc78d ∈ zTS := zTS_in 666 (by decide +kernel) rfl
theorem zw_667 : Cond.static yJ1_canEncode_fc78d ∈ zTS := zTS_in 667 (by decide +kernel) rfl
theorem zw_668 : Cond.code yJ1_canEncode_fc78d cJ1_canEncode_fc78d 1 (some .boolean) ∈ zTS := zTS_in 668 (by decide +kernel) rfl
theorem zw_676 : Cond.static yJ0_checkIndex_df160 ∈ zTS := zTS_in 676 (by decide +kernel) rfl
theorem zw_677 : Cond.code yJ0_checkIndex_df160 cJ0_checkIndex_df160 2 none ∈ zTS := zTS_in 677 (by decide +kernel) rfl
theorem zw_678 : Cond.methodLink "java/lang/String" 1059 yJ3_checkIndex_8e157 ∈ zTS := zTS_in 678 (by decide +kernel) rfl
theorem zw_679 : Cond.static yJ3_checkIndex_8e157 ∈ zTS := zTS_in 679 (by decide +kernel) rfl
theorem zw_680 : Cond.code yJ3_checkIndex_8e157 cJ3_checkIndex_8e157 3 (some .int) ∈ zTS := zTS_in 680 (by decide +kernel) rfl
theorem zw_682 : Cond.methodLink "Rowtricks" 339 yJ4_append_15ec4 ∈ zTS := zTS_in 682 (by decide +kernel) rfl
theorem zw_683 : Cond.methodLink "Rowtricks" 342 yJ4_append_bf812 ∈ zTS := zTS_in 683 (by decide +kernel) rfl
theorem zw_686 : Cond.instanceMethod yX1_markAt ∈ zTS := zTS_in 686 (by decide +kernel) rfl
theorem zw_687 : Cond.code yX1_markAt cX1_markAt 2 (some .int) ∈ zTS := zTS_in 687 (by decide +kernel) rfl
theorem zw_688 : Cond.methodLink "Rowtricks" 282 yX2_mixText ∈ zTS := zTS_in 688 (by decide +kernel) rfl
theorem zw_689 : Cond.static yX2_mixText ∈ zTS := zTS_in 689 (by decide +kernel) rfl
theorem zw_690 : Cond.code yX2_mixText cX2_mixText 6 (some .long) ∈ zTS := zTS_in 690 (by decide +kernel) rfl
theorem zw_691 : Cond.methodLink "Rowtricks" 347 yJ4_length_8abf5 ∈ zTS := zTS_in 691 (by decide +kernel) rfl
theorem zw_692 : Cond.methodLink "Rowtricks" 350 yJ4_charAt_5068e ∈ zTS := zTS_in 692 (by decide +kernel) rfl
theorem zw_693 : Cond.instanceMethod yJ4_charAt_5068e ∈ zTS := zTS_in 693 (by decide +kernel) rfl
theorem zw_694 : Cond.selects RJ4 yJ4_charAt_5068e yJ4_charAt_5068e ∈ zTS := zTS_in 694 (by decide +kernel) rfl
theorem zw_695 : Cond.code yJ4_charAt_5068e cJ4_charAt_5068e 2 (some .char) ∈ zTS := zTS_in 695 (by decide +kernel) rfl
theorem zw_696 : Cond.methodLink "java/lang/StringBuilder" 329 yJ5_charAt_5068e ∈ zTS := zTS_in 696 (by decide +kernel) rfl
theorem zw_697 : Cond.instanceMethod yJ5_charAt_5068e ∈ zTS := zTS_in 697 (by decide +kernel) rfl
theorem zw_698 : Cond.code yJ5_charAt_5068e cJ5_charAt_5068e 5 (some .char) ∈ zTS := zTS_in 698 (by decide +kernel) rfl
theorem zw_699 : Cond.methodLink "java/lang/AbstractStringBuilder" 138 yJ9_min_7cf53 ∈ zTS := zTS_in 699 (by decide +kernel) rfl
theorem zw_700 : Cond.methodLink "java/lang/AbstractStringBuilder" 144 yJ0_checkIndex_df160 ∈ zTS := zTS_in 700 (by decide +kernel) rfl
theorem zw_702 : Cond.methodLink "Rowtricks" 244 yX2_stepsLeft ∈ zTS := zTS_in 702 (by decide +kernel) rfl
theorem zw_703 : Cond.static yX2_stepsLeft ∈ zTS := zTS_in 703 (by decide +kernel) rfl
theorem zw_704 : Cond.code yX2_stepsLeft cX2_stepsLeft 1 (some .int) ∈ zTS := zTS_in 704 (by decide +kernel) rfl
theorem zw_705 : Cond.methodLink "Rowtricks" 139 yX2_haveNoneInCommon ∈ zTS := zTS_in 705 (by decide +kernel) rfl
theorem zw_706 : Cond.static yX2_haveNoneInCommon ∈ zTS := zTS_in 706 (by decide +kernel) rfl
theorem zw_707 : Cond.code yX2_haveNoneInCommon cX2_haveNoneInCommon 3 (some .boolean) ∈ zTS := zTS_in 707 (by decide +kernel) rfl
theorem zw_710 : Cond.instanceMethod yX1_firstPlaceOf ∈ zTS := zTS_in 710 (by decide +kernel) rfl
theorem zw_711 : Cond.code yX1_firstPlaceOf cX1_firstPlaceOf 3 (some .int) ∈ zTS := zTS_in 711 (by decide +kernel) rfl
theorem zw_712 : Cond.methodLink "Rowtricks" 147 yX2_placeOfRow ∈ zTS := zTS_in 712 (by decide +kernel) rfl
theorem zw_713 : Cond.static yX2_placeOfRow ∈ zTS := zTS_in 713 (by decide +kernel) rfl
theorem zw_714 : Cond.code yX2_placeOfRow cX2_placeOfRow 2 (some .int) ∈ zTS := zTS_in 714 (by decide +kernel) rfl
theorem zw_715 : Cond.methodLink "Rowtricks" 225 yX2_writePart ∈ zTS := zTS_in 715 (by decide +kernel) rfl
theorem zw_716 : Cond.static yX2_writePart ∈ zTS := zTS_in 716 (by decide +kernel) rfl
theorem zw_717 : Cond.code yX2_writePart cX2_writePart 3 none ∈ zTS := zTS_in 717 (by decide +kernel) rfl
theorem zw_718 : Cond.methodLink "Rowtricks" 286 yX2_isSound ∈ zTS := zTS_in 718 (by decide +kernel) rfl
theorem zw_723 : Cond.code yX3_init cX3_init 1 none ∈ zTS := zTS_in 723 (by decide +kernel) rfl
theorem zw_724 : Cond.methodLink "RowtricksLaw$Out" 1 Lib.objectInit ∈ zTS := zTS_in 724 (by decide +kernel) rfl
theorem zw_742 : Cond.methodLink "Rowtricks" 31 yX2_rowOf ∈ zTS := zTS_in 742 (by decide +kernel) rfl
theorem zw_744 : Cond.instanceMethod yX2_rowOf ∈ zTS := zTS_in 744 (by decide +kernel) rfl
theorem zw_745 : Cond.code yX2_rowOf cX2_rowOf 2 (some (.object "Rowtricks$Row")) ∈ zTS := zTS_in 745 (by decide +kernel) rfl
theorem zw_759 : Cond.methodLink "Rowtricks" 35 yX2_cardOf ∈ zTS := zTS_in 759 (by decide +kernel) rfl
theorem zw_760 : Cond.static yX2_cardOf ∈ zTS := zTS_in 760 (by decide +kernel) rfl
theorem zw_761 : Cond.code yX2_cardOf cX2_cardOf 2 (some .int) ∈ zTS := zTS_in 761 (by decide +kernel) rfl
theorem zw_762 : Cond.methodLink "Rowtricks" 155 yX2_needValue ∈ zTS := zTS_in 762 (by decide +kernel) rfl
theorem zw_763 : Cond.static yX2_needValue ∈ zTS := zTS_in 763 (by decide +kernel) rfl
theorem zw_764 : Cond.code yX2_needValue cX2_needValue 1 none ∈ zTS := zTS_in 764 (by decide +kernel) rfl
theorem zw_769 : Cond.methodLink "Rowtricks" 39 yX2_needRoom ∈ zTS := zTS_in 769 (by decide +kernel) rfl
theorem zw_770 : Cond.static yX2_needRoom ∈ zTS := zTS_in 770 (by decide +kernel) rfl
theorem zw_771 : Cond.code yX2_needRoom cX2_needRoom 2 none ∈ zTS := zTS_in 771 (by decide +kernel) rfl
theorem zw_789 : Cond.methodLink "Rowtricks" 47 yX2_reshape ∈ zTS := zTS_in 789 (by decide +kernel) rfl
theorem zw_791 : Cond.instanceMethod yX2_reshape ∈ zTS := zTS_in 791 (by decide +kernel) rfl
theorem zw_792 : Cond.code yX2_reshape cX2_reshape 6 none ∈ zTS := zTS_in 792 (by decide +kernel) rfl
theorem zw_842 : Cond.methodLink "Rowtricks" 79 yX2_changeBy ∈ zTS := zTS_in 842 (by decide +kernel) rfl
theorem zw_844 : Cond.instanceMethod yX2_changeBy ∈ zTS := zTS_in 844 (by decide +kernel) rfl
theorem zw_845 : Cond.code yX2_changeBy cX2_changeBy 3 none ∈ zTS := zTS_in 845 (by decide +kernel) rfl
theorem zw_859 : Cond.code yX2_addCopies cX2_addCopies 7 (some .int) ∈ zTS := zTS_in 859 (by decide +kernel) rfl
theorem zw_860 : Cond.methodLink "Rowtricks" 82 yX2_needCopies ∈ zTS := zTS_in 860 (by decide +kernel) rfl
theorem zw_861 : Cond.static yX2_needCopies ∈ zTS := zTS_in 861 (by decide +kernel) rfl
theorem zw_862 : Cond.code yX2_needCopies cX2_needCopies 1 none ∈ zTS := zTS_in 862 (by decide +kernel) rfl
theorem zw_866 : Cond.instanceMethod yX1_putCopiesBehind ∈ zTS := zTS_in 866 (by decide +kernel) rfl
theorem zw_867 : Cond.code yX1_putCopiesBehind cX1_putCopiesBehind 4 none ∈ zTS := zTS_in 867 (by decide +kernel) rfl
theorem zw_1057 : Cond.code yX2_part cX2_part 7 (some .int) ∈ zTS := zTS_in 1057 (by decide +kernel) rfl
theorem zw_1058 : Cond.methodLink "Rowtricks" 167 yX2_partOf ∈ zTS := zTS_in 1058 (by decide +kernel) rfl
theorem zw_1060 : Cond.instanceMethod yX2_partOf ∈ zTS := zTS_in 1060 (by decide +kernel) rfl
theorem zw_1061 : Cond.code yX2_partOf cX2_partOf 2 (some (.object "Rowtricks$Part")) ∈ zTS := zTS_in 1061 (by decide +kernel) rfl
theorem zw_1063 : Cond.methodLink "Rowtricks" 171 yX2_isSpan ∈ zTS := zTS_in 1063 (by decide +kernel) rfl
theorem zw_1064 : Cond.static yX2_isSpan ∈ zTS := zTS_in 1064 (by decide +kernel) rfl
theorem zw_1065 : Cond.code yX2_isSpan cX2_isSpan 3 (some .boolean) ∈ zTS := zTS_in 1065 (by decide +kernel) rfl
theorem zw_1067 : Cond.methodLink "Rowtricks" 177 yX2_lose ∈ zTS := zTS_in 1067 (by decide +kernel) rfl
theorem zw_1069 : Cond.instanceMethod yX2_lose ∈ zTS := zTS_in 1069 (by decide +kernel) rfl
theorem zw_1070 : Cond.code yX2_lose cX2_lose 6 none ∈ zTS := zTS_in 1070 (by decide +kernel) rfl
theorem zw_1073 : Cond.instanceMethod yX0_isWithin ∈ zTS := zTS_in 1073 (by decide +kernel) rfl
theorem zw_1074 : Cond.code yX0_isWithin cX0_isWithin 3 (some .boolean) ∈ zTS := zTS_in 1074 (by decide +kernel) rfl
theorem zw_1077 : Cond.instanceMethod yX0_lay ∈ zTS := zTS_in 1077 (by decide +kernel) rfl
theorem zw_1078 : Cond.code yX0_lay cX0_lay 5 none ∈ zTS := zTS_in 1078 (by decide +kernel) rfl
theorem zw_1081 : Cond.instanceMethod yX0_many ∈ zTS := zTS_in 1081 (by decide +kernel) rfl
theorem zw_1082 : Cond.code yX0_many cX0_many 1 (some .int) ∈ zTS := zTS_in 1082 (by decide +kernel) rfl
theorem zw_1231 : Cond.code yX4_init cX4_init 1 none ∈ zTS := zTS_in 1231 (by decide +kernel) rfl
theorem zw_1232 : Cond.methodLink "RowtricksModel" 1 Lib.objectInit ∈ zTS := zTS_in 1232 (by decide +kernel) rfl
theorem zw_1235 : Cond.fieldLink "RowtricksModel" 36 "RowtricksModel" "thrown" "I" ∈ zTS := zTS_in 1235 (by decide +kernel) rfl
theorem zw_1236 : Cond.fieldLink "RowtricksModel" 11 "RowtricksModel" "rows" "[[I" ∈ zTS := zTS_in 1236 (by decide +kernel) rfl
theorem zw_1237 : Cond.fieldLink "RowtricksModel" 14 "RowtricksModel" "sizes" "[I" ∈ zTS := zTS_in 1237 (by decide +kernel) rfl
theorem zw_1238 : Cond.fieldLink "RowtricksModel" 18 "RowtricksModel" "states" "[I" ∈ zTS := zTS_in 1238 (by decide +kernel) rfl
theorem zw_1239 : Cond.fieldLink "RowtricksModel" 21 "RowtricksModel" "walks" "[I" ∈ zTS := zTS_in 1239 (by decide +kernel) rfl
theorem zw_1240 : Cond.fieldLink "RowtricksModel" 24 "RowtricksModel" "partRows" "[I" ∈ zTS := zTS_in 1240 (by decide +kernel) rfl
theorem zw_1241 : Cond.fieldLink "RowtricksModel" 27 "RowtricksModel" "froms" "[I" ∈ zTS := zTS_in 1241 (by decide +kernel) rfl
theorem zw_1242 : Cond.fieldLink "RowtricksModel" 30 "RowtricksModel" "tos" "[I" ∈ zTS := zTS_in 1242 (by decide +kernel) rfl
theorem zw_1243 : Cond.fieldLink "RowtricksModel" 33 "RowtricksModel" "wholes" "[I" ∈ zTS := zTS_in 1243 (by decide +kernel) rfl
theorem zw_1244 : Cond.fieldLink "RowtricksModel" 194 "RowtricksModel" "knocks" "I" ∈ zTS := zTS_in 1244 (by decide +kernel) rfl
theorem zw_1269 : Cond.code yX4_thrown cX4_thrown 1 (some .int) ∈ zTS := zTS_in 1269 (by decide +kernel) rfl
theorem zw_1274 : Cond.methodLink "RowtricksModel" 44 yX4_isNoRow ∈ zTS := zTS_in 1274 (by decide +kernel) rfl
theorem zw_1275 : Cond.static yX4_isNoRow ∈ zTS := zTS_in 1275 (by decide +kernel) rfl
theorem zw_1276 : Cond.code yX4_isNoRow cX4_isNoRow 1 (some .boolean) ∈ zTS := zTS_in 1276 (by decide +kernel) rfl
theorem zw_1277 : Cond.methodLink "RowtricksModel" 40 yX4_isIn ∈ zTS := zTS_in 1277 (by decide +kernel) rfl
theorem zw_1278 : Cond.static yX4_isIn ∈ zTS := zTS_in 1278 (by decide +kernel) rfl
theorem zw_1279 : Cond.code yX4_isIn cX4_isIn 3 (some .boolean) ∈ zTS := zTS_in 1279 (by decide +kernel) rfl
theorem zw_1280 : Cond.methodLink "RowtricksModel" 59 yX4_isNoCard ∈ zTS := zTS_in 1280 (by decide +kernel) rfl
theorem zw_1281 : Cond.static yX4_isNoCard ∈ zTS := zTS_in 1281 (by decide +kernel) rfl
theorem zw_1282 : Cond.code yX4_isNoCard cX4_isNoCard 2 (some .boolean) ∈ zTS := zTS_in 1282 (by decide +kernel) rfl
theorem zw_1283 : Cond.methodLink "RowtricksModel" 63 yX4_start ∈ zTS := zTS_in 1283 (by decide +kernel) rfl
theorem zw_1285 : Cond.instanceMethod yX4_start ∈ zTS := zTS_in 1285 (by decide +kernel) rfl
theorem zw_1286 : Cond.code yX4_start cX4_start 4 (some .boolean) ∈ zTS := zTS_in 1286 (by decide +kernel) rfl
theorem zw_1287 : Cond.methodLink "RowtricksModel" 67 yX4_addMany ∈ zTS := zTS_in 1287 (by decide +kernel) rfl
theorem zw_1289 : Cond.instanceMethod yX4_addMany ∈ zTS := zTS_in 1289 (by decide +kernel) rfl
theorem zw_1290 : Cond.code yX4_addMany cX4_addMany 5 (some .int) ∈ zTS := zTS_in 1290 (by decide +kernel) rfl
theorem zw_1291 : Cond.methodLink "RowtricksModel" 52 yX4_put ∈ zTS := zTS_in 1291 (by decide +kernel) rfl
theorem zw_1293 : Cond.instanceMethod yX4_put ∈ zTS := zTS_in 1293 (by decide +kernel) rfl
theorem zw_1294 : Cond.code yX4_put cX4_put 5 none ∈ zTS := zTS_in 1294 (by decide +kernel) rfl
theorem zw_1295 : Cond.methodLink "RowtricksModel" 56 yX4_reshape ∈ zTS := zTS_in 1295 (by decide +kernel) rfl
theorem zw_1297 : Cond.instanceMethod yX4_reshape ∈ zTS := zTS_in 1297 (by decide +kernel) rfl
theorem zw_1298 : Cond.code yX4_reshape cX4_reshape 3 none ∈ zTS := zTS_in 1298 (by decide +kernel) rfl
theorem zw_1334 : Cond.code yX4_addCopies cX4_addCopies 5 (some .int) ∈ zTS := zTS_in 1334 (by decide +kernel) rfl
theorem zw_1355 : Cond.methodLink "RowtricksModel" 82 yX4_turn ∈ zTS := zTS_in 1355 (by decide +kernel) rfl
theorem zw_1356 : Cond.static yX4_turn ∈ zTS := zTS_in 1356 (by decide +kernel) rfl
theorem zw_1357 : Cond.code yX4_turn cX4_turn 5 none ∈ zTS := zTS_in 1357 (by decide +kernel) rfl
theorem zw_1366 : Cond.methodLink "RowtricksModel" 89 yX4_push ∈ zTS := zTS_in 1366 (by decide +kernel) rfl
theorem zw_1367 : Cond.static yX4_push ∈ zTS := zTS_in 1367 (by decide +kernel) rfl
theorem zw_1368 : Cond.code yX4_push cX4_push 8 none ∈ zTS := zTS_in 1368 (by decide +kernel) rfl
theorem zw_1381 : Cond.methodLink "RowtricksModel" 96 yX4_sort ∈ zTS := zTS_in 1381 (by decide +kernel) rfl
theorem zw_1382 : Cond.static yX4_sort ∈ zTS := zTS_in 1382 (by decide +kernel) rfl
theorem zw_1383 : Cond.code yX4_sort cX4_sort 8 none ∈ zTS := zTS_in 1383 (by decide +kernel) rfl
theorem zw_1392 : Cond.methodLink "RowtricksModel" 124 yX4_textOf ∈ zTS := zTS_in 1392 (by decide +kernel) rfl
theorem zw_1394 : Cond.instanceMethod yX4_textOf ∈ zTS := zTS_in 1394 (by decide +kernel) rfl
theorem zw_1395 : Cond.code yX4_textOf cX4_textOf 6 (some (.object "java/lang/String")) ∈ zTS := zTS_in 1395 (by decide +kernel) rfl
theorem zw_1397 : Cond.classLink "RowtricksModel" 102 "java/lang/StringBuilder" ∈ zTS := zTS_in 1397 (by decide +kernel) rfl
theorem zw_1398 : Cond.methodLink "RowtricksModel" 104 yJ4_init_da8c8 ∈ zTS := zTS_in 1398 (by decide +kernel) rfl
theorem zw_1399 : Cond.methodLink "RowtricksModel" 105 yJ4_append_15ec4 ∈ zTS := zTS_in 1399 (by decide +kernel) rfl
theorem zw_1402 : Cond.methodLink "RowtricksModel" 113 yJ4_append_bf812 ∈ zTS := zTS_in 1402 (by decide +kernel) rfl
theorem zw_1404 : Cond.methodLink "RowtricksModel" 118 yJ4_toString_0e30d ∈ zTS := zTS_in 1404 (by decide +kernel) rfl
theorem zw_1414 : Cond.methodLink "RowtricksModel" 132 yX4_count ∈ zTS := zTS_in 1414 (by decide +kernel) rfl
theorem zw_1416 : Cond.instanceMethod yX4_count ∈ zTS := zTS_in 1416 (by decide +kernel) rfl
theorem zw_1417 : Cond.code yX4_count cX4_count 5 (some .int) ∈ zTS := zTS_in 1417 (by decide +kernel) rfl
theorem zw_1418 : Cond.methodLink "RowtricksModel" 128 yX4_one ∈ zTS := zTS_in 1418 (by decide +kernel) rfl
theorem zw_1419 : Cond.static yX4_one ∈ zTS := zTS_in 1419 (by decide +kernel) rfl
theorem zw_1420 : Cond.code yX4_one cX4_one 1 (some .int) ∈ zTS := zTS_in 1420 (by decide +kernel) rfl
theorem zw_1429 : Cond.methodLink "RowtricksModel" 135 yX4_areApart ∈ zTS := zTS_in 1429 (by decide +kernel) rfl
theorem zw_1431 : Cond.instanceMethod yX4_areApart ∈ zTS := zTS_in 1431 (by decide +kernel) rfl
theorem zw_1432 : Cond.code yX4_areApart cX4_areApart 5 (some .boolean) ∈ zTS := zTS_in 1432 (by decide +kernel) rfl
theorem zw_1441 : Cond.methodLink "RowtricksModel" 138 yX4_placeOf ∈ zTS := zTS_in 1441 (by decide +kernel) rfl
theorem zw_1442 : Cond.static yX4_placeOf ∈ zTS := zTS_in 1442 (by decide +kernel) rfl
theorem zw_1443 : Cond.code yX4_placeOf cX4_placeOf 9 (some .int) ∈ zTS := zTS_in 1443 (by decide +kernel) rfl
theorem zw_1448 : Cond.methodLink "RowtricksModel" 145 yX4_rowIn ∈ zTS := zTS_in 1448 (by decide +kernel) rfl
theorem zw_1450 : Cond.instanceMethod yX4_rowIn ∈ zTS := zTS_in 1450 (by decide +kernel) rfl
theorem zw_1451 : Cond.code yX4_rowIn cX4_rowIn 3 (some .int) ∈ zTS := zTS_in 1451 (by decide +kernel) rfl
theorem zw_1456 : Cond.methodLink "RowtricksModel" 156 yX4_mostOf ∈ zTS := zTS_in 1456 (by decide +kernel) rfl
theorem zw_1458 : Cond.instanceMethod yX4_mostOf ∈ zTS := zTS_in 1458 (by decide +kernel) rfl
theorem zw_1459 : Cond.code yX4_mostOf cX4_mostOf 5 (some .int) ∈ zTS := zTS_in 1459 (by decide +kernel) rfl
theorem zw_1460 : Cond.methodLink "RowtricksModel" 148 yJ9_min_7cf53 ∈ zTS := zTS_in 1460 (by decide +kernel) rfl
theorem zw_1461 : Cond.methodLink "RowtricksModel" 153 yJ9_max_7cf53 ∈ zTS := zTS_in 1461 (by decide +kernel) rfl
theorem zw_1485 : Cond.code yX4_part cX4_part 5 (some .int) ∈ zTS := zTS_in 1485 (by decide +kernel) rfl
theorem zw_1486 : Cond.methodLink "RowtricksModel" 160 yX4_isNoPart ∈ zTS := zTS_in 1486 (by decide +kernel) rfl
theorem zw_1487 : Cond.static yX4_isNoPart ∈ zTS := zTS_in 1487 (by decide +kernel) rfl
theorem zw_1488 : Cond.code yX4_isNoPart cX4_isNoPart 1 (some .boolean) ∈ zTS := zTS_in 1488 (by decide +kernel) rfl
theorem zw_1489 : Cond.methodLink "RowtricksModel" 163 yX4_lay ∈ zTS := zTS_in 1489 (by decide +kernel) rfl
theorem zw_1491 : Cond.instanceMethod yX4_lay ∈ zTS := zTS_in 1491 (by decide +kernel) rfl
theorem zw_1492 : Cond.code yX4_lay cX4_lay 6 (some .int) ∈ zTS := zTS_in 1492 (by decide +kernel) rfl
theorem zw_1493 : Cond.methodLink "RowtricksModel" 48 yX4_lose ∈ zTS := zTS_in 1493 (by decide +kernel) rfl
theorem zw_1495 : Cond.instanceMethod yX4_lose ∈ zTS := zTS_in 1495 (by decide +kernel) rfl
theorem zw_1496 : Cond.code yX4_lose cX4_lose 3 none ∈ zTS := zTS_in 1496 (by decide +kernel) rfl
theorem zw_1549 : Cond.methodLink "RowtricksModel" 181 yX4_partText ∈ zTS := zTS_in 1549 (by decide +kernel) rfl
theorem zw_1551 : Cond.instanceMethod yX4_partText ∈ zTS := zTS_in 1551 (by decide +kernel) rfl
theorem zw_1552 : Cond.code yX4_partText cX4_partText 2 (some (.object "java/lang/String")) ∈ zTS := zTS_in 1552 (by decide +kernel) rfl
theorem zw_1588 : Cond.methodLink "RowtricksModel" 191 yX4_walkOf ∈ zTS := zTS_in 1588 (by decide +kernel) rfl
theorem zw_1590 : Cond.instanceMethod yX4_walkOf ∈ zTS := zTS_in 1590 (by decide +kernel) rfl
theorem zw_1591 : Cond.code yX4_walkOf cX4_walkOf 2 (some .int) ∈ zTS := zTS_in 1591 (by decide +kernel) rfl
theorem zw_1596 : Cond.methodLink "RowtricksModel" 197 yX4_houseOf ∈ zTS := zTS_in 1596 (by decide +kernel) rfl
theorem zw_1598 : Cond.instanceMethod yX4_houseOf ∈ zTS := zTS_in 1598 (by decide +kernel) rfl
theorem zw_1599 : Cond.code yX4_houseOf cX4_houseOf 4 (some .int) ∈ zTS := zTS_in 1599 (by decide +kernel) rfl
theorem zw_1608 : Cond.methodLink "RowtricksModel" 205 yX4_areSound ∈ zTS := zTS_in 1608 (by decide +kernel) rfl
theorem zw_1610 : Cond.instanceMethod yX4_areSound ∈ zTS := zTS_in 1610 (by decide +kernel) rfl
theorem zw_1611 : Cond.code yX4_areSound cX4_areSound 7 (some .boolean) ∈ zTS := zTS_in 1611 (by decide +kernel) rfl
theorem zw_1612 : Cond.methodLink "RowtricksModel" 200 ⟨"[I", "clone", "()Ljava/lang/Object;"⟩ ∈ zTS := zTS_in 1612 (by decide +kernel) rfl
theorem zw_1613 : Cond.sameMethod "[I" "java/lang/Object" "clone" "()Ljava/lang/Object;" ∈ zTS := zTS_in 1613 (by decide +kernel) rfl
theorem zw_1614 : Cond.selects "[I" ⟨"[I", "clone", "()Ljava/lang/Object;"⟩ ⟨"java/lang/Object", "clone", "()Ljava/lang/Object;"⟩ ∈ zTS := zTS_in 1614 (by decide +kernel) rfl
theorem zw_1616 : Cond.classLink "RowtricksModel" 201 "[I" ∈ zTS := zTS_in 1616 (by decide +kernel) rfl
theorem zw_1620 : Cond.code yX4_digest cX4_digest 5 (some .long) ∈ zTS := zTS_in 1620 (by decide +kernel) rfl
theorem zw_1621 : Cond.constantLong "RowtricksModel" 225 (7710) ∈ zTS := zTS_in 1621 (by decide +kernel) rfl
theorem zw_1622 : Cond.methodLink "RowtricksModel" 221 yX4_add_ ∈ zTS := zTS_in 1622 (by decide +kernel) rfl
theorem zw_1623 : Cond.static yX4_add_ ∈ zTS := zTS_in 1623 (by decide +kernel) rfl
theorem zw_1624 : Cond.code yX4_add_ cX4_add_ 4 (some .long) ∈ zTS := zTS_in 1624 (by decide +kernel) rfl
theorem zw_1625 : Cond.constantLong "RowtricksModel" 209 (31) ∈ zTS := zTS_in 1625 (by decide +kernel) rfl
theorem zw_1626 : Cond.methodLink "RowtricksModel" 227 yX4_codes ∈ zTS := zTS_in 1626 (by decide +kernel) rfl
theorem zw_1627 : Cond.static yX4_codes ∈ zTS := zTS_in 1627 (by decide +kernel) rfl
theorem zw_1628 : Cond.code yX4_codes cX4_codes 6 (some .long) ∈ zTS := zTS_in 1628 (by decide +kernel) rfl
theorem zw_1629 : Cond.methodLink "RowtricksModel" 211 yJ0_length_8abf5 ∈ zTS := zTS_in 1629 (by decide +kernel) rfl
theorem zw_1630 : Cond.methodLink "RowtricksModel" 217 yJ0_charAt_5068e ∈ zTS := zTS_in 1630 (by decide +kernel) rfl
theorem zw_1631 : Cond.instanceMethod yJ0_charAt_5068e ∈ zTS := zTS_in 1631 (by decide +kernel) rfl
theorem zw_1632 : Cond.selects RJ0 yJ0_charAt_5068e yJ0_charAt_5068e ∈ zTS := zTS_in 1632 (by decide +kernel) rfl
theorem zw_1633 : Cond.code yJ0_charAt_5068e cJ0_charAt_5068e 2 (some .char) ∈ zTS := zTS_in 1633 (by decide +kernel) rfl
theorem zw_1634 : Cond.methodLink "java/lang/String" 492 yJ0_isLatin1_aae02 ∈ zTS := zTS_in 1634 (by decide +kernel) rfl
theorem zw_1635 : Cond.instanceMethod yJ0_isLatin1_aae02 ∈ zTS := zTS_in 1635 (by decide +kernel) rfl
theorem zw_1636 : Cond.selects RJ0 yJ0_isLatin1_aae02 yJ0_isLatin1_aae02 ∈ zTS := zTS_in 1636 (by decide +kernel) rfl
theorem zw_1637 : Cond.code yJ0_isLatin1_aae02 cJ0_isLatin1_aae02 1 (some .boolean) ∈ zTS := zTS_in 1637 (by decide +kernel) rfl
theorem zw_1638 : Cond.methodLink "java/lang/String" 495 yJ1_charAt_3b067 ∈ zTS := zTS_in 1638 (by decide +kernel) rfl
theorem zw_1639 : Cond.static yJ1_charAt_3b067 ∈ zTS := zTS_in 1639 (by decide +kernel) rfl
theorem zw_1640 : Cond.code yJ1_charAt_3b067 cJ1_charAt_3b067 2 (some .char) ∈ zTS := zTS_in 1640 (by decide +kernel) rfl
theorem zw_1641 : Cond.methodLink "java/lang/StringLatin1" 9 yJ0_checkIndex_df160 ∈ zTS := zTS_in 1641 (by decide +kernel) rfl
theorem zw_1645 : Cond.sameMethod "java/lang/AbstractStringBuilder" "java/lang/AbstractStringBuilder" "setLength" "(I)V" ∈ zTS := zTS_in 1645 (by decide +kernel) rfl
theorem zw_1646 : Cond.sameMethod "java/lang/AbstractStringBuilder" "java/lang/AbstractStringBuilder" "append" "(Ljava/lang/String;)Ljava/lang/AbstractStringBuilder;" ∈ zTS := zTS_in 1646 (by decide +kernel) rfl
theorem zw_1648 : Cond.sameMethod yJ5_ensureCapacityInternal_d00df.cls yJ5_ensureCapacityInternal_d00df.cls yJ5_ensureCapacityInternal_d00df.name yJ5_ensureCapacityInternal_d00df.desc ∈ zTS := zTS_in 1648 (by decide +kernel) rfl
theorem zw_1649 : Cond.sameMethod yJ5_newCapacity_0f7a4.cls yJ5_newCapacity_0f7a4.cls yJ5_newCapacity_0f7a4.name yJ5_newCapacity_0f7a4.desc ∈ zTS := zTS_in 1649 (by decide +kernel) rfl
theorem zw_1650 : Cond.sameMethod yJ5_putStringAt_47b60.cls yJ5_putStringAt_47b60.cls yJ5_putStringAt_47b60.name yJ5_putStringAt_47b60.desc ∈ zTS := zTS_in 1650 (by decide +kernel) rfl
theorem zw_1651 : Cond.sameMethod yJ5_inflateIfNeededFor_a7421.cls yJ5_inflateIfNeededFor_a7421.cls yJ5_inflateIfNeededFor_a7421.name yJ5_inflateIfNeededFor_a7421.desc ∈ zTS := zTS_in 1651 (by decide +kernel) rfl
theorem zw_1653 : Cond.sameMethod "java/lang/AbstractStringBuilder" "java/lang/AbstractStringBuilder" "append" "(I)Ljava/lang/AbstractStringBuilder;" ∈ zTS := zTS_in 1653 (by decide +kernel) rfl
theorem zw_1655 : Cond.sameMethod "java/lang/AbstractStringBuilder" "java/lang/AbstractStringBuilder" "append" "(C)Ljava/lang/AbstractStringBuilder;" ∈ zTS := zTS_in 1655 (by decide +kernel) rfl
theorem zw_1656 : Cond.selects RJ4 yJ4_length_8abf5 yJ4_length_8abf5 ∈ zTS := zTS_in 1656 (by decide +kernel) rfl
theorem zw_1657 : Cond.sameMethod "java/lang/AbstractStringBuilder" "java/lang/AbstractStringBuilder" "charAt" "(I)C" ∈ zTS := zTS_in 1657 (by decide +kernel) rfl
theorem zcl_0 : zCl 0 RJ0 TJ0 4 := ⟨rfl, by decide +kernel, nmJ0⟩
theorem zdf_0 : ∀ (al : Nat → Nat) (tf : Nat × Nat) (j : Nat), j < 4 → defaultValue (tyJ0 j) = vp_V (([3, 0, 0, 0] : List Nat).map (zv al tf)) j := fun al tf j h => by
  match j, h with
  | 0, _ => rfl
  | 1, _ => rfl
  | 2, _ => rfl
  | 3, _ => rfl
theorem zcl_1 : zCl 1 RJ4 TJ4 4 := ⟨rfl, by decide +kernel, nmJ4⟩
theorem zdf_1 : ∀ (al : Nat → Nat) (tf : Nat × Nat) (j : Nat), j < 4 → defaultValue (tyJ4 j) = vp_V (([3, 0, 0, 0] : List Nat).map (zv al tf)) j := fun al tf j h => by
  match j, h with
  | 0, _ => rfl
  | 1, _ => rfl
  | 2, _ => rfl
  | 3, _ => rfl
theorem zcl_4 : zCl 4 RX0 TX0 4 := ⟨rfl, by decide +kernel, nmX0⟩
theorem zdf_4 : ∀ (al : Nat → Nat) (tf : Nat × Nat) (j : Nat), j < 4 → defaultValue (tyX0 j) = vp_V (([3, 3, 0, 0] : List Nat).map (zv al tf)) j := fun al tf j h => by
  match j, h with
  | 0, _ => rfl
  | 1, _ => rfl
  | 2, _ => rfl
  | 3, _ => rfl
theorem zcl_5 : zCl 5 RX1 TX1 4 := ⟨rfl, by decide +kernel, nmX1⟩
theorem zdf_5 : ∀ (al : Nat → Nat) (tf : Nat × Nat) (j : Nat), j < 4 → defaultValue (tyX1 j) = vp_V (([3, 0, 0, 0] : List Nat).map (zv al tf)) j := fun al tf j h => by
  match j, h with
  | 0, _ => rfl
  | 1, _ => rfl
  | 2, _ => rfl
  | 3, _ => rfl
theorem zcl_6 : zCl 6 RX2 TX2 4 := ⟨rfl, by decide +kernel, nmX2⟩
theorem zdf_6 : ∀ (al : Nat → Nat) (tf : Nat × Nat) (j : Nat), j < 4 → defaultValue (tyX2 j) = vp_V (([3, 3, 3, 0] : List Nat).map (zv al tf)) j := fun al tf j h => by
  match j, h with
  | 0, _ => rfl
  | 1, _ => rfl
  | 2, _ => rfl
  | 3, _ => rfl
theorem zcl_7 : zCl 7 RX3 TX3 2 := ⟨rfl, by decide +kernel, nmX3⟩
theorem zdf_7 : ∀ (al : Nat → Nat) (tf : Nat × Nat) (j : Nat), j < 2 → defaultValue (tyX3 j) = vp_V (([1, 3] : List Nat).map (zv al tf)) j := fun al tf j h => by
  match j, h with
  | 0, _ => rfl
  | 1, _ => rfl
theorem zcl_8 : zCl 8 RX4 TX4 10 := ⟨rfl, by decide +kernel, nmX4⟩
theorem zdf_8 : ∀ (al : Nat → Nat) (tf : Nat × Nat) (j : Nat), j < 10 → defaultValue (tyX4 j) = vp_V (([0, 3, 3, 3, 3, 3, 3, 3, 3, 0] : List Nat).map (zv al tf)) j := fun al tf j h => by
  match j, h with
  | 0, _ => rfl
  | 1, _ => rfl
  | 2, _ => rfl
  | 3, _ => rfl
  | 4, _ => rfl
  | 5, _ => rfl
  | 6, _ => rfl
  | 7, _ => rfl
  | 8, _ => rfl
  | 9, _ => rfl
