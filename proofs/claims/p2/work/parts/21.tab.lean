noncomputable def zt_tab : List ev_P := [(zc_X1_cardAt, 2, 1), (zc_J0_coder_7d493, 1, 3), (zc_J0_checkIndex_df160, 2, 0), (zc_J3_checkIndex_8e157, 3, 1), (zc_J9_min_7cf53, 2, 1), (zc_X2_mix, 4, 4), (zc_J5_ensureCapacityInternal_d00df, 3, 0), (zc_J4_length_8abf5, 1, 1), (zc_J5_length_8abf5, 1, 1), (zc_X4_one, 1, 1), (zc_J4_charAt_5068e, 2, 3), (zc_J5_charAt_5068e, 5, 3), (zc_J0_length_8abf5, 1, 1), (zc_J5_isLatin1_aae02, 1, 2), (zc_X4_add_, 4, 4), (zc_J0_charAt_5068e, 2, 3), (zc_J0_isLatin1_aae02, 1, 2), (zc_J1_charAt_3b067, 2, 3), (zc_J4_append_bf812, 2, 5), (zc_J5_append_c97b9, 4, 5), (zc_J6_stringSize_0f7a4, 4, 1), (zc_J6_getChars_ba4f3, 7, 1), (zc_J4_append_15ec4, 2, 5), (zc_J5_append_cf1ce, 3, 5), (zc_J5_putStringAt_47b60, 3, 0), (zc_J5_inflateIfNeededFor_a7421, 2, 0), (zc_J0_getBytes_840e7, 4, 0), (zc_X1_valueAt, 2, 1), (zc_X1_put, 3, 0), (zc_J9_max_7cf53, 2, 1), (zc_J4_append_cf468, 2, 5), (zc_J5_append_3fe6f, 2, 5), (zc_J1_canEncode_fc78d, 1, 2), (zc_X1_markAt, 2, 1), (zc_J5_newCapacity_0f7a4, 6, 1), (zc_J8_newLength_cabcc, 4, 1), (zc_J7_copyOf_9075b, 3, 5), (zc_X1_firstPlaceOf, 3, 1), (zc_X1_exchange, 4, 0), (zc_X4_count, 5, 1), (zc_J4_init_da8c8, 1, 0), (zc_J5_init_d00df, 2, 0), (zc_J4_toString_0e30d, 1, 5), (zc_J0_init_81219, 2, 0), (zc_J0_init_db425, 5, 0), (zc_J5_getValue_6d5f1, 1, 5), (zc_J7_copyOfRange_39247, 3, 5), (zc_J7_copyOfRangeByte_39247, 5, 5), (zc_J7_checkLength_df160, 2, 0), (zc_X1_howOften, 4, 1), (zc_X1_putBehind, 2, 0), (zc_X1_hasFrom, 6, 2), (zc_X1_placeOf, 8, 1), (zc_X2_haveNoneInCommon, 3, 2), (zc_X2_placeOfRow, 2, 1), (zc_X1_settle, 6, 0), (zc_X2_comesBefore, 3, 2), (zc_X1_turn, 5, 0), (zc_X4_placeOf, 9, 1), (zc_X2_extremeOf, 5, 1), (zc_X4_put, 5, 0), (zc_X1_push, 6, 0), (zc_X4_areApart, 5, 2), (zc_X4_rowIn, 3, 1), (zc_J4_setLength_d00df, 2, 0), (zc_J5_setLength_d00df, 2, 0), (zc_X2_writeSpan, 5, 0), (zc_X2_mixText, 6, 4), (zc_X4_isIn, 3, 2), (zc_X0_isWithin, 3, 2), (zc_X4_mostOf, 5, 1), (zc_X2_mixRow, 6, 4), (zc_X2_stepsLeft, 1, 1), (zc_X2_isRowSound, 4, 2), (zc_X1_becomeLike, 2, 0), (zc_X1_putAllBehind, 4, 0), (zc_X1_isLike, 2, 2), (zc_X1_arrange, 5, 0), (zc_X4_turn, 5, 0), (zc_X4_push, 8, 0), (zc_X4_textOf, 6, 5), (zc_X4_codes, 6, 4), (zc_X0_isThere, 1, 2), (zc_X2_writePart, 3, 0), (zc_X2_isPartSound, 2, 2), (zc_X1_init, 1, 0), (zc_X4_isNoRow, 1, 2), (zc_X2_rowOf, 2, 5), (zc_X4_start, 4, 2), (zc_X4_thrown, 1, 1), (zc_J9_floorMod_7cf53, 3, 1), (zc_X4_houseOf, 4, 1), (zc_X4_walkOf, 2, 1), (zc_X4_sort, 8, 0), (zc_X0_init, 1, 0), (zc_X2_part, 7, 1), (zc_X2_partOf, 2, 5), (zc_X2_isSpan, 3, 2), (zc_X2_lose, 6, 0), (zc_X0_lay, 5, 0), (zc_X0_many, 1, 1), (zc_X4_part, 5, 1), (zc_X4_isNoPart, 1, 2), (zc_X4_lay, 6, 1), (zc_X4_lose, 3, 0), (zc_X4_partText, 2, 5), (zc_X2_digest, 12, 4), (zc_X2_mixHouse, 5, 4), (zc_X2_allCards, 6, 1), (zc_X2_allParts, 6, 1), (zc_X2_allWalks, 6, 1), (zc_X2_isSound, 5, 2), (zc_X2_init, 2, 0), (zc_X4_init, 1, 0), (zc_X3_init, 1, 0), (zc_X2_addCopies, 7, 1), (zc_X2_needCopies, 1, 0), (zc_X2_cardOf, 2, 1), (zc_X2_needValue, 1, 0), (zc_X2_needRoom, 2, 0), (zc_X1_putCopiesBehind, 4, 0), (zc_X2_changeBy, 3, 0), (zc_X2_reshape, 6, 0), (zc_X4_addCopies, 5, 1), (zc_X4_isNoCard, 2, 2), (zc_X4_addMany, 5, 1), (zc_X4_reshape, 3, 0), (zc_X4_digest, 5, 4), (zc_X4_areSound, 7, 2)]
section ZC
variable {al : Nat → Nat} {t : Nat} {gm dC : Nat → ClassId} {dI : Nat → Nat → Nat} {d : Nat} {l : Launch}
theorem zt_0 : zTab zt_zi al (t, 30) gm dC dI 47 l 0 (zc_X1_cardAt, 2, 1) := ⟨yX1_cardAt, cX1_cardAt, 2, (some .int), zz_0, rfl, by decide, Or.inr (Or.inl ⟨rfl, rfl⟩), by decide +kernel, zw_181, fun d pc i h => zAll zm_X1_cardAt pc i h⟩
theorem zt_1 : zTab zt_zi al (t, 30) gm dC dI 47 l 1 (zc_J0_coder_7d493, 1, 3) := ⟨yJ0_coder_7d493, cJ0_coder_7d493, 1, (some .byte), zz_1, rfl, by decide, Or.inr (Or.inr (Or.inr (Or.inl ⟨rfl, Or.inl rfl⟩))), by decide +kernel, zw_411, fun d pc i h => zAll zm_J0_coder_7d493 pc i h⟩
theorem zt_2 : zTab zt_zi al (t, 30) gm dC dI 47 l 2 (zc_J0_checkIndex_df160, 2, 0) := ⟨yJ0_checkIndex_df160, cJ0_checkIndex_df160, 2, none, zz_2, rfl, by decide, Or.inl ⟨rfl, rfl⟩, by decide +kernel, zw_677, fun d pc i h => zAll zm_J0_checkIndex_df160 pc i h⟩
theorem zt_3 : zTab zt_zi al (t, 30) gm dC dI 47 l 3 (zc_J3_checkIndex_8e157, 3, 1) := ⟨yJ3_checkIndex_8e157, cJ3_checkIndex_8e157, 3, (some .int), zz_3, rfl, by decide, Or.inr (Or.inl ⟨rfl, rfl⟩), by decide +kernel, zw_680, fun d pc i h => zAll zm_J3_checkIndex_8e157 pc i h⟩
theorem zt_4 : zTab zt_zi al (t, 30) gm dC dI 47 l 4 (zc_J9_min_7cf53, 2, 1) := ⟨yJ9_min_7cf53, cJ9_min_7cf53, 2, (some .int), zz_4, rfl, by decide, Or.inr (Or.inl ⟨rfl, rfl⟩), by decide +kernel, zw_240, fun d pc i h => zAll zm_J9_min_7cf53 pc i h⟩
theorem zt_5 : zTab zt_zi al (t, 30) gm dC dI 47 l 5 (zc_X2_mix, 4, 4) := ⟨yX2_mix, cX2_mix, 4, (some .long), zz_5, rfl, by decide, Or.inr (Or.inr (Or.inr (Or.inr (Or.inl ⟨rfl, rfl⟩)))), by decide +kernel, zw_299, fun d pc i h => zAll zm_X2_mix pc i h⟩
theorem zt_6 : zTab zt_zi al (t, 30) gm dC dI 47 l 6 (zc_J5_ensureCapacityInternal_d00df, 3, 0) := ⟨yJ5_ensureCapacityInternal_d00df, cJ5_ensureCapacityInternal_d00df, 3, none, zz_6, rfl, by decide, Or.inl ⟨rfl, rfl⟩, by decide +kernel, zw_345, fun d pc i h => zAll zm_J5_ensureCapacityInternal_d00df pc i h⟩
theorem zt_7 : zTab zt_zi al (t, 30) gm dC dI 47 l 7 (zc_J4_length_8abf5, 1, 1) := ⟨yJ4_length_8abf5, cJ4_length_8abf5, 1, (some .int), zz_7, rfl, by decide, Or.inr (Or.inl ⟨rfl, rfl⟩), by decide +kernel, zw_495, fun d pc i h => zAll zm_J4_length_8abf5 pc i h⟩
theorem zt_8 : zTab zt_zi al (t, 30) gm dC dI 47 l 8 (zc_J5_length_8abf5, 1, 1) := ⟨yJ5_length_8abf5, cJ5_length_8abf5, 1, (some .int), zz_8, rfl, by decide, Or.inr (Or.inl ⟨rfl, rfl⟩), by decide +kernel, zw_497, fun d pc i h => zAll zm_J5_length_8abf5 pc i h⟩
theorem zt_9 : zTab zt_zi al (t, 30) gm dC dI 47 l 9 (zc_X4_one, 1, 1) := ⟨yX4_one, cX4_one, 1, (some .int), zz_9, rfl, by decide, Or.inr (Or.inl ⟨rfl, rfl⟩), by decide +kernel, zw_1420, fun d pc i h => zAll zm_X4_one pc i h⟩
theorem zt_10 : zTab zt_zi al (t, 30) gm dC dI 47 l 10 (zc_J4_charAt_5068e, 2, 3) := ⟨yJ4_charAt_5068e, cJ4_charAt_5068e, 2, (some .char), zz_10, rfl, by decide, Or.inr (Or.inr (Or.inr (Or.inl ⟨rfl, Or.inr rfl⟩))), by decide +kernel, zw_695, fun d pc i h => zAll zm_J4_charAt_5068e pc i h⟩
theorem zt_11 : zTab zt_zi al (t, 30) gm dC dI 47 l 11 (zc_J5_charAt_5068e, 5, 3) := ⟨yJ5_charAt_5068e, cJ5_charAt_5068e, 5, (some .char), zz_11, rfl, by decide, Or.inr (Or.inr (Or.inr (Or.inl ⟨rfl, Or.inr rfl⟩))), by decide +kernel, zw_698, fun d pc i h => zAll zm_J5_charAt_5068e pc i h⟩
theorem zt_12 : zTab zt_zi al (t, 30) gm dC dI 47 l 12 (zc_J0_length_8abf5, 1, 1) := ⟨yJ0_length_8abf5, cJ0_length_8abf5, 1, (some .int), zz_12, rfl, by decide, Or.inr (Or.inl ⟨rfl, rfl⟩), by decide +kernel, zw_407, fun d pc i h => zAll zm_J0_length_8abf5 pc i h⟩
theorem zt_13 : zTab zt_zi al (t, 30) gm dC dI 47 l 13 (zc_J5_isLatin1_aae02, 1, 2) := ⟨yJ5_isLatin1_aae02, cJ5_isLatin1_aae02, 1, (some .boolean), zz_13, rfl, by decide, Or.inr (Or.inr (Or.inl ⟨rfl, rfl⟩)), by decide +kernel, zw_377, fun d pc i h => zAll zm_J5_isLatin1_aae02 pc i h⟩
theorem zt_14 : zTab zt_zi al (t, 30) gm dC dI 47 l 14 (zc_X4_add_, 4, 4) := ⟨yX4_add_, cX4_add_, 4, (some .long), zz_14, rfl, by decide, Or.inr (Or.inr (Or.inr (Or.inr (Or.inl ⟨rfl, rfl⟩)))), by decide +kernel, zw_1624, fun d pc i h => zAll zm_X4_add_ pc i h⟩
theorem zt_15 : zTab zt_zi al (t, 30) gm dC dI 47 l 15 (zc_J0_charAt_5068e, 2, 3) := ⟨yJ0_charAt_5068e, cJ0_charAt_5068e, 2, (some .char), zz_15, rfl, by decide, Or.inr (Or.inr (Or.inr (Or.inl ⟨rfl, Or.inr rfl⟩))), by decide +kernel, zw_1633, fun d pc i h => zAll zm_J0_charAt_5068e pc i h⟩
theorem zt_16 : zTab zt_zi al (t, 30) gm dC dI 47 l 16 (zc_J0_isLatin1_aae02, 1, 2) := ⟨yJ0_isLatin1_aae02, cJ0_isLatin1_aae02, 1, (some .boolean), zz_16, rfl, by decide, Or.inr (Or.inr (Or.inl ⟨rfl, rfl⟩)), by decide +kernel, zw_1637, fun d pc i h => zAll zm_J0_isLatin1_aae02 pc i h⟩
theorem zt_17 : zTab zt_zi al (t, 30) gm dC dI 47 l 17 (zc_J1_charAt_3b067, 2, 3) := ⟨yJ1_charAt_3b067, cJ1_charAt_3b067, 2, (some .char), zz_17, rfl, by decide, Or.inr (Or.inr (Or.inr (Or.inl ⟨rfl, Or.inr rfl⟩))), by decide +kernel, zw_1640, fun d pc i h => zAll zm_J1_charAt_3b067 pc i h⟩
theorem zt_18 : zTab zt_zi al (t, 30) gm dC dI 47 l 18 (zc_J4_append_bf812, 2, 5) := ⟨yJ4_append_bf812, cJ4_append_bf812, 2, (some (.object "java/lang/StringBuilder")), zz_18, rfl, by decide, Or.inr (Or.inr (Or.inr (Or.inr (Or.inr ⟨Nat.le_refl 5, _, rfl, Or.inl ⟨_, rfl⟩⟩)))), by decide +kernel, zw_450, fun d pc i h => zAll zm_J4_append_bf812 pc i h⟩
theorem zt_19 : zTab zt_zi al (t, 30) gm dC dI 47 l 19 (zc_J5_append_c97b9, 4, 5) := ⟨yJ5_append_c97b9, cJ5_append_c97b9, 4, (some (.object "java/lang/AbstractStringBuilder")), zz_19, rfl, by decide, Or.inr (Or.inr (Or.inr (Or.inr (Or.inr ⟨Nat.le_refl 5, _, rfl, Or.inl ⟨_, rfl⟩⟩)))), by decide +kernel, zw_453, fun d pc i h => zAll zm_J5_append_c97b9 pc i h⟩
theorem zt_20 : zTab zt_zi al (t, 30) gm dC dI 47 l 20 (zc_J6_stringSize_0f7a4, 4, 1) := ⟨yJ6_stringSize_0f7a4, cJ6_stringSize_0f7a4, 4, (some .int), zz_20, rfl, by decide, Or.inr (Or.inl ⟨rfl, rfl⟩), by decide +kernel, zw_456, fun d pc i h => zAll zm_J6_stringSize_0f7a4 pc i h⟩
theorem zt_21 : zTab zt_zi al (t, 30) gm dC dI 47 l 21 (zc_J6_getChars_ba4f3, 7, 1) := ⟨yJ6_getChars_ba4f3, cJ6_getChars_ba4f3, 7, (some .int), zz_21, rfl, by decide, Or.inr (Or.inl ⟨rfl, rfl⟩), by decide +kernel, zw_459, fun d pc i h => zAll zm_J6_getChars_ba4f3 pc i h⟩
theorem zt_22 : zTab zt_zi al (t, 30) gm dC dI 47 l 22 (zc_J4_append_15ec4, 2, 5) := ⟨yJ4_append_15ec4, cJ4_append_15ec4, 2, (some (.object "java/lang/StringBuilder")), zz_22, rfl, by decide, Or.inr (Or.inr (Or.inr (Or.inr (Or.inr ⟨Nat.le_refl 5, _, rfl, Or.inl ⟨_, rfl⟩⟩)))), by decide +kernel, zw_334, fun d pc i h => zAll zm_J4_append_15ec4 pc i h⟩
theorem zt_23 : zTab zt_zi al (t, 30) gm dC dI 47 l 23 (zc_J5_append_cf1ce, 3, 5) := ⟨yJ5_append_cf1ce, cJ5_append_cf1ce, 3, (some (.object "java/lang/AbstractStringBuilder")), zz_23, rfl, by decide, Or.inr (Or.inr (Or.inr (Or.inr (Or.inr ⟨Nat.le_refl 5, _, rfl, Or.inl ⟨_, rfl⟩⟩)))), by decide +kernel, zw_337, fun d pc i h => zAll zm_J5_append_cf1ce pc i h⟩
theorem zt_24 : zTab zt_zi al (t, 30) gm dC dI 47 l 24 (zc_J5_putStringAt_47b60, 3, 0) := ⟨yJ5_putStringAt_47b60, cJ5_putStringAt_47b60, 3, none, zz_24, rfl, by decide, Or.inl ⟨rfl, rfl⟩, by decide +kernel, zw_416, fun d pc i h => zAll zm_J5_putStringAt_47b60 pc i h⟩
theorem zt_25 : zTab zt_zi al (t, 30) gm dC dI 47 l 25 (zc_J5_inflateIfNeededFor_a7421, 2, 0) := ⟨yJ5_inflateIfNeededFor_a7421, cJ5_inflateIfNeededFor_a7421, 2, none, zz_25, rfl, by decide, Or.inl ⟨rfl, rfl⟩, by decide +kernel, zw_420, fun d pc i h => zAll zm_J5_inflateIfNeededFor_a7421 pc i h⟩
theorem zt_26 : zTab zt_zi al (t, 30) gm dC dI 47 l 26 (zc_J0_getBytes_840e7, 4, 0) := ⟨yJ0_getBytes_840e7, cJ0_getBytes_840e7, 4, none, zz_26, rfl, by decide, Or.inl ⟨rfl, rfl⟩, by decide +kernel, zw_444, fun d pc i h => zAll zm_J0_getBytes_840e7 pc i h⟩
theorem zt_27 : zTab zt_zi al (t, 30) gm dC dI 47 l 27 (zc_X1_valueAt, 2, 1) := ⟨yX1_valueAt, cX1_valueAt, 2, (some .int), zz_27, rfl, by decide, Or.inr (Or.inl ⟨rfl, rfl⟩), by decide +kernel, zw_225, fun d pc i h => zAll zm_X1_valueAt pc i h⟩
theorem zt_28 : zTab zt_zi al (t, 30) gm dC dI 47 l 28 (zc_X1_put, 3, 0) := ⟨yX1_put, cX1_put, 3, none, zz_28, rfl, by decide, Or.inl ⟨rfl, rfl⟩, by decide +kernel, zw_189, fun d pc i h => zAll zm_X1_put pc i h⟩
theorem zt_29 : zTab zt_zi al (t, 30) gm dC dI 47 l 29 (zc_J9_max_7cf53, 2, 1) := ⟨yJ9_max_7cf53, cJ9_max_7cf53, 2, (some .int), zz_29, rfl, by decide, Or.inr (Or.inl ⟨rfl, rfl⟩), by decide +kernel, zw_243, fun d pc i h => zAll zm_J9_max_7cf53 pc i h⟩
theorem zt_30 : zTab zt_zi al (t, 30) gm dC dI 47 l 30 (zc_J4_append_cf468, 2, 5) := ⟨yJ4_append_cf468, cJ4_append_cf468, 2, (some (.object "java/lang/StringBuilder")), zz_30, rfl, by decide, Or.inr (Or.inr (Or.inr (Or.inr (Or.inr ⟨Nat.le_refl 5, _, rfl, Or.inl ⟨_, rfl⟩⟩)))), by decide +kernel, zw_662, fun d pc i h => zAll zm_J4_append_cf468 pc i h⟩
theorem zt_31 : zTab zt_zi al (t, 30) gm dC dI 47 l 31 (zc_J5_append_3fe6f, 2, 5) := ⟨yJ5_append_3fe6f, cJ5_append_3fe6f, 2, (some (.object "java/lang/AbstractStringBuilder")), zz_31, rfl, by decide, Or.inr (Or.inr (Or.inr (Or.inr (Or.inr ⟨Nat.le_refl 5, _, rfl, Or.inl ⟨_, rfl⟩⟩)))), by decide +kernel, zw_665, fun d pc i h => zAll zm_J5_append_3fe6f pc i h⟩
theorem zt_32 : zTab zt_zi al (t, 30) gm dC dI 47 l 32 (zc_J1_canEncode_fc78d, 1, 2) := ⟨yJ1_canEncode_fc78d, cJ1_canEncode_fc78d, 1, (some .boolean), zz_32, rfl, by decide, Or.inr (Or.inr (Or.inl ⟨rfl, rfl⟩)), by decide +kernel, zw_668, fun d pc i h => zAll zm_J1_canEncode_fc78d pc i h⟩
theorem zt_33 : zTab zt_zi al (t, 30) gm dC dI 47 l 33 (zc_X1_markAt, 2, 1) := ⟨yX1_markAt, cX1_markAt, 2, (some .int), zz_33, rfl, by decide, Or.inr (Or.inl ⟨rfl, rfl⟩), by decide +kernel, zw_687, fun d pc i h => zAll zm_X1_markAt pc i h⟩
theorem zt_34 : zTab zt_zi al (t, 30) gm dC dI 47 l 34 (zc_J5_newCapacity_0f7a4, 6, 1) := ⟨yJ5_newCapacity_0f7a4, cJ5_newCapacity_0f7a4, 6, (some .int), zz_34, rfl, by decide, Or.inr (Or.inl ⟨rfl, rfl⟩), by decide +kernel, zw_349, fun d pc i h => zAll zm_J5_newCapacity_0f7a4 pc i h⟩
theorem zt_35 : zTab zt_zi al (t, 30) gm dC dI 47 l 35 (zc_J8_newLength_cabcc, 4, 1) := ⟨yJ8_newLength_cabcc, cJ8_newLength_cabcc, 4, (some .int), zz_35, rfl, by decide, Or.inr (Or.inl ⟨rfl, rfl⟩), by decide +kernel, zw_352, fun d pc i h => zAll zm_J8_newLength_cabcc pc i h⟩
theorem zt_36 : zTab zt_zi al (t, 30) gm dC dI 47 l 36 (zc_J7_copyOf_9075b, 3, 5) := ⟨yJ7_copyOf_9075b, cJ7_copyOf_9075b, 3, (some (.array .byte)), zz_36, rfl, by decide, Or.inr (Or.inr (Or.inr (Or.inr (Or.inr ⟨Nat.le_refl 5, _, rfl, Or.inr ⟨_, rfl⟩⟩)))), by decide +kernel, zw_361, fun d pc i h => zAll zm_J7_copyOf_9075b pc i h⟩
theorem zt_37 : zTab zt_zi al (t, 30) gm dC dI 47 l 37 (zc_X1_firstPlaceOf, 3, 1) := ⟨yX1_firstPlaceOf, cX1_firstPlaceOf, 3, (some .int), zz_37, rfl, by decide, Or.inr (Or.inl ⟨rfl, rfl⟩), by decide +kernel, zw_711, fun d pc i h => zAll zm_X1_firstPlaceOf pc i h⟩
theorem zt_38 : zTab zt_zi al (t, 30) gm dC dI 47 l 38 (zc_X1_exchange, 4, 0) := ⟨yX1_exchange, cX1_exchange, 4, none, zz_38, rfl, by decide, Or.inl ⟨rfl, rfl⟩, by decide +kernel, zw_197, fun d pc i h => zAll zm_X1_exchange pc i h⟩
theorem zt_39 : zTab zt_zi al (t, 30) gm dC dI 47 l 39 (zc_X4_count, 5, 1) := ⟨yX4_count, cX4_count, 5, (some .int), zz_39, rfl, by decide, Or.inr (Or.inl ⟨rfl, rfl⟩), by decide +kernel, zw_1417, fun d pc i h => zAll zm_X4_count pc i h⟩
theorem zt_40 : zTab zt_zi al (t, 30) gm dC dI 47 l 40 (zc_J4_init_da8c8, 1, 0) := ⟨yJ4_init_da8c8, cJ4_init_da8c8, 1, none, zz_40, rfl, by decide, Or.inl ⟨rfl, rfl⟩, by decide +kernel, zw_259, fun d pc i h => zAll zm_J4_init_da8c8 pc i h⟩
theorem zt_41 : zTab zt_zi al (t, 30) gm dC dI 47 l 41 (zc_J5_init_d00df, 2, 0) := ⟨yJ5_init_d00df, cJ5_init_d00df, 2, none, zz_41, rfl, by decide, Or.inl ⟨rfl, rfl⟩, by decide +kernel, zw_262, fun d pc i h => zAll zm_J5_init_d00df pc i h⟩
theorem zt_42 : zTab zt_zi al (t, 30) gm dC dI 47 l 42 (zc_J4_toString_0e30d, 1, 5) := ⟨yJ4_toString_0e30d, cJ4_toString_0e30d, 1, (some (.object "java/lang/String")), zz_42, rfl, by decide, Or.inr (Or.inr (Or.inr (Or.inr (Or.inr ⟨Nat.le_refl 5, _, rfl, Or.inl ⟨_, rfl⟩⟩)))), by decide +kernel, zw_475, fun d pc i h => zAll zm_J4_toString_0e30d pc i h⟩
theorem zt_43 : zTab zt_zi al (t, 30) gm dC dI 47 l 43 (zc_J0_init_81219, 2, 0) := ⟨yJ0_init_81219, cJ0_init_81219, 2, none, zz_43, rfl, by decide, Or.inl ⟨rfl, rfl⟩, by decide +kernel, zw_480, fun d pc i h => zAll zm_J0_init_81219 pc i h⟩
theorem zt_44 : zTab zt_zi al (t, 30) gm dC dI 47 l 44 (zc_J0_init_db425, 5, 0) := ⟨yJ0_init_db425, cJ0_init_db425, 5, none, zz_44, rfl, by decide, Or.inl ⟨rfl, rfl⟩, by decide +kernel, zw_483, fun d pc i h => zAll zm_J0_init_db425 pc i h⟩
theorem zt_45 : zTab zt_zi al (t, 30) gm dC dI 47 l 45 (zc_J5_getValue_6d5f1, 1, 5) := ⟨yJ5_getValue_6d5f1, cJ5_getValue_6d5f1, 1, (some (.array .byte)), zz_45, rfl, by decide, Or.inr (Or.inr (Or.inr (Or.inr (Or.inr ⟨Nat.le_refl 5, _, rfl, Or.inr ⟨_, rfl⟩⟩)))), by decide +kernel, zw_489, fun d pc i h => zAll zm_J5_getValue_6d5f1 pc i h⟩
theorem zt_46 : zTab zt_zi al (t, 30) gm dC dI 47 l 46 (zc_J7_copyOfRange_39247, 3, 5) := ⟨yJ7_copyOfRange_39247, cJ7_copyOfRange_39247, 3, (some (.array .byte)), zz_46, rfl, by decide, Or.inr (Or.inr (Or.inr (Or.inr (Or.inr ⟨Nat.le_refl 5, _, rfl, Or.inr ⟨_, rfl⟩⟩)))), by decide +kernel, zw_501, fun d pc i h => zAll zm_J7_copyOfRange_39247 pc i h⟩
theorem zt_47 : zTab zt_zi al (t, 30) gm dC dI 47 l 47 (zc_J7_copyOfRangeByte_39247, 5, 5) := ⟨yJ7_copyOfRangeByte_39247, cJ7_copyOfRangeByte_39247, 5, (some (.array .byte)), zz_47, rfl, by decide, Or.inr (Or.inr (Or.inr (Or.inr (Or.inr ⟨Nat.le_refl 5, _, rfl, Or.inr ⟨_, rfl⟩⟩)))), by decide +kernel, zw_504, fun d pc i h => zAll zm_J7_copyOfRangeByte_39247 pc i h⟩
theorem zt_48 : zTab zt_zi al (t, 30) gm dC dI 47 l 48 (zc_J7_checkLength_df160, 2, 0) := ⟨yJ7_checkLength_df160, cJ7_checkLength_df160, 2, none, zz_48, rfl, by decide, Or.inl ⟨rfl, rfl⟩, by decide +kernel, zw_507, fun d pc i h => zAll zm_J7_checkLength_df160 pc i h⟩
theorem zt_49 : zTab zt_zi al (t, 30) gm dC dI 47 l 49 (zc_X1_howOften, 4, 1) := ⟨yX1_howOften, cX1_howOften, 4, (some .int), zz_49, rfl, by decide, Or.inr (Or.inl ⟨rfl, rfl⟩), by decide +kernel, zw_233, fun d pc i h => zAll zm_X1_howOften pc i h⟩
theorem zt_50 : zTab zt_zi al (t, 30) gm dC dI 47 l 50 (zc_X1_putBehind, 2, 0) := ⟨yX1_putBehind, cX1_putBehind, 2, none, zz_50, rfl, by decide, Or.inl ⟨rfl, rfl⟩, by decide +kernel, zw_185, fun d pc i h => zAll zm_X1_putBehind pc i h⟩
theorem zt_51 : zTab zt_zi al (t, 30) gm dC dI 47 l 51 (zc_X1_hasFrom, 6, 2) := ⟨yX1_hasFrom, cX1_hasFrom, 6, (some .boolean), zz_51, rfl, by decide, Or.inr (Or.inr (Or.inl ⟨rfl, rfl⟩)), by decide +kernel, zw_213, fun d pc i h => zAll zm_X1_hasFrom pc i h⟩
theorem zt_52 : zTab zt_zi al (t, 30) gm dC dI 47 l 52 (zc_X1_placeOf, 8, 1) := ⟨yX1_placeOf, cX1_placeOf, 8, (some .int), zz_52, rfl, by decide, Or.inr (Or.inl ⟨rfl, rfl⟩), by decide +kernel, zw_250, fun d pc i h => zAll zm_X1_placeOf pc i h⟩
theorem zt_53 : zTab zt_zi al (t, 30) gm dC dI 47 l 53 (zc_X2_haveNoneInCommon, 3, 2) := ⟨yX2_haveNoneInCommon, cX2_haveNoneInCommon, 3, (some .boolean), zz_53, rfl, by decide, Or.inr (Or.inr (Or.inl ⟨rfl, rfl⟩)), by decide +kernel, zw_707, fun d pc i h => zAll zm_X2_haveNoneInCommon pc i h⟩
theorem zt_54 : zTab zt_zi al (t, 30) gm dC dI 47 l 54 (zc_X2_placeOfRow, 2, 1) := ⟨yX2_placeOfRow, cX2_placeOfRow, 2, (some .int), zz_54, rfl, by decide, Or.inr (Or.inl ⟨rfl, rfl⟩), by decide +kernel, zw_714, fun d pc i h => zAll zm_X2_placeOfRow pc i h⟩
theorem zt_55 : zTab zt_zi al (t, 30) gm dC dI 47 l 55 (zc_X1_settle, 6, 0) := ⟨yX1_settle, cX1_settle, 6, none, zz_55, rfl, by decide, Or.inl ⟨rfl, rfl⟩, by decide +kernel, zw_221, fun d pc i h => zAll zm_X1_settle pc i h⟩
theorem zt_56 : zTab zt_zi al (t, 30) gm dC dI 47 l 56 (zc_X2_comesBefore, 3, 2) := ⟨yX2_comesBefore, cX2_comesBefore, 3, (some .boolean), zz_56, rfl, by decide, Or.inr (Or.inr (Or.inl ⟨rfl, rfl⟩)), by decide +kernel, zw_228, fun d pc i h => zAll zm_X2_comesBefore pc i h⟩
theorem zt_57 : zTab zt_zi al (t, 30) gm dC dI 47 l 57 (zc_X1_turn, 5, 0) := ⟨yX1_turn, cX1_turn, 5, none, zz_57, rfl, by decide, Or.inl ⟨rfl, rfl⟩, by decide +kernel, zw_193, fun d pc i h => zAll zm_X1_turn pc i h⟩
theorem zt_58 : zTab zt_zi al (t, 30) gm dC dI 47 l 58 (zc_X4_placeOf, 9, 1) := ⟨yX4_placeOf, cX4_placeOf, 9, (some .int), zz_58, rfl, by decide, Or.inr (Or.inl ⟨rfl, rfl⟩), by decide +kernel, zw_1443, fun d pc i h => zAll zm_X4_placeOf pc i h⟩
theorem zt_59 : zTab zt_zi al (t, 30) gm dC dI 47 l 59 (zc_X2_extremeOf, 5, 1) := ⟨yX2_extremeOf, cX2_extremeOf, 5, (some .int), zz_59, rfl, by decide, Or.inr (Or.inl ⟨rfl, rfl⟩), by decide +kernel, zw_237, fun d pc i h => zAll zm_X2_extremeOf pc i h⟩
theorem zt_60 : zTab zt_zi al (t, 30) gm dC dI 47 l 60 (zc_X4_put, 5, 0) := ⟨yX4_put, cX4_put, 5, none, zz_60, rfl, by decide, Or.inl ⟨rfl, rfl⟩, by decide +kernel, zw_1294, fun d pc i h => zAll zm_X4_put pc i h⟩
theorem zt_61 : zTab zt_zi al (t, 30) gm dC dI 47 l 61 (zc_X1_push, 6, 0) := ⟨yX1_push, cX1_push, 6, none, zz_61, rfl, by decide, Or.inl ⟨rfl, rfl⟩, by decide +kernel, zw_201, fun d pc i h => zAll zm_X1_push pc i h⟩
theorem zt_62 : zTab zt_zi al (t, 30) gm dC dI 47 l 62 (zc_X4_areApart, 5, 2) := ⟨yX4_areApart, cX4_areApart, 5, (some .boolean), zz_62, rfl, by decide, Or.inr (Or.inr (Or.inl ⟨rfl, rfl⟩)), by decide +kernel, zw_1432, fun d pc i h => zAll zm_X4_areApart pc i h⟩
theorem zt_63 : zTab zt_zi al (t, 30) gm dC dI 47 l 63 (zc_X4_rowIn, 3, 1) := ⟨yX4_rowIn, cX4_rowIn, 3, (some .int), zz_63, rfl, by decide, Or.inr (Or.inl ⟨rfl, rfl⟩), by decide +kernel, zw_1451, fun d pc i h => zAll zm_X4_rowIn pc i h⟩
theorem zt_64 : zTab zt_zi al (t, 30) gm dC dI 47 l 64 (zc_J4_setLength_d00df, 2, 0) := ⟨yJ4_setLength_d00df, cJ4_setLength_d00df, 2, none, zz_64, rfl, by decide, Or.inl ⟨rfl, rfl⟩, by decide +kernel, zw_319, fun d pc i h => zAll zm_J4_setLength_d00df pc i h⟩
theorem zt_65 : zTab zt_zi al (t, 30) gm dC dI 47 l 65 (zc_J5_setLength_d00df, 2, 0) := ⟨yJ5_setLength_d00df, cJ5_setLength_d00df, 2, none, zz_65, rfl, by decide, Or.inl ⟨rfl, rfl⟩, by decide +kernel, zw_322, fun d pc i h => zAll zm_J5_setLength_d00df pc i h⟩
theorem zt_66 : zTab zt_zi al (t, 30) gm dC dI 47 l 66 (zc_X2_writeSpan, 5, 0) := ⟨yX2_writeSpan, cX2_writeSpan, 5, none, zz_66, rfl, by decide, Or.inl ⟨rfl, rfl⟩, by decide +kernel, zw_658, fun d pc i h => zAll zm_X2_writeSpan pc i h⟩
theorem zt_67 : zTab zt_zi al (t, 30) gm dC dI 47 l 67 (zc_X2_mixText, 6, 4) := ⟨yX2_mixText, cX2_mixText, 6, (some .long), zz_67, rfl, by decide, Or.inr (Or.inr (Or.inr (Or.inr (Or.inl ⟨rfl, rfl⟩)))), by decide +kernel, zw_690, fun d pc i h => zAll zm_X2_mixText pc i h⟩
theorem zt_68 : zTab zt_zi al (t, 30) gm dC dI 47 l 68 (zc_X4_isIn, 3, 2) := ⟨yX4_isIn, cX4_isIn, 3, (some .boolean), zz_68, rfl, by decide, Or.inr (Or.inr (Or.inl ⟨rfl, rfl⟩)), by decide +kernel, zw_1279, fun d pc i h => zAll zm_X4_isIn pc i h⟩
theorem zt_69 : zTab zt_zi al (t, 30) gm dC dI 47 l 69 (zc_X0_isWithin, 3, 2) := ⟨yX0_isWithin, cX0_isWithin, 3, (some .boolean), zz_69, rfl, by decide, Or.inr (Or.inr (Or.inl ⟨rfl, rfl⟩)), by decide +kernel, zw_1074, fun d pc i h => zAll zm_X0_isWithin pc i h⟩
theorem zt_70 : zTab zt_zi al (t, 30) gm dC dI 47 l 70 (zc_X4_mostOf, 5, 1) := ⟨yX4_mostOf, cX4_mostOf, 5, (some .int), zz_70, rfl, by decide, Or.inr (Or.inl ⟨rfl, rfl⟩), by decide +kernel, zw_1459, fun d pc i h => zAll zm_X4_mostOf pc i h⟩
theorem zt_71 : zTab zt_zi al (t, 30) gm dC dI 47 l 71 (zc_X2_mixRow, 6, 4) := ⟨yX2_mixRow, cX2_mixRow, 6, (some .long), zz_71, rfl, by decide, Or.inr (Or.inr (Or.inr (Or.inr (Or.inl ⟨rfl, rfl⟩)))), by decide +kernel, zw_315, fun d pc i h => zAll zm_X2_mixRow pc i h⟩
theorem zt_72 : zTab zt_zi al (t, 30) gm dC dI 47 l 72 (zc_X2_stepsLeft, 1, 1) := ⟨yX2_stepsLeft, cX2_stepsLeft, 1, (some .int), zz_72, rfl, by decide, Or.inr (Or.inl ⟨rfl, rfl⟩), by decide +kernel, zw_704, fun d pc i h => zAll zm_X2_stepsLeft pc i h⟩
theorem zt_73 : zTab zt_zi al (t, 30) gm dC dI 47 l 73 (zc_X2_isRowSound, 4, 2) := ⟨yX2_isRowSound, cX2_isRowSound, 4, (some .boolean), zz_73, rfl, by decide, Or.inr (Or.inr (Or.inl ⟨rfl, rfl⟩)), by decide +kernel, zw_169, fun d pc i h => zAll zm_X2_isRowSound pc i h⟩
theorem zt_74 : zTab zt_zi al (t, 30) gm dC dI 47 l 74 (zc_X1_becomeLike, 2, 0) := ⟨yX1_becomeLike, cX1_becomeLike, 2, none, zz_74, rfl, by decide, Or.inl ⟨rfl, rfl⟩, by decide +kernel, zw_173, fun d pc i h => zAll zm_X1_becomeLike pc i h⟩
theorem zt_75 : zTab zt_zi al (t, 30) gm dC dI 47 l 75 (zc_X1_putAllBehind, 4, 0) := ⟨yX1_putAllBehind, cX1_putAllBehind, 4, none, zz_75, rfl, by decide, Or.inl ⟨rfl, rfl⟩, by decide +kernel, zw_177, fun d pc i h => zAll zm_X1_putAllBehind pc i h⟩
theorem zt_76 : zTab zt_zi al (t, 30) gm dC dI 47 l 76 (zc_X1_isLike, 2, 2) := ⟨yX1_isLike, cX1_isLike, 2, (some .boolean), zz_76, rfl, by decide, Or.inr (Or.inr (Or.inl ⟨rfl, rfl⟩)), by decide +kernel, zw_209, fun d pc i h => zAll zm_X1_isLike pc i h⟩
theorem zt_77 : zTab zt_zi al (t, 30) gm dC dI 47 l 77 (zc_X1_arrange, 5, 0) := ⟨yX1_arrange, cX1_arrange, 5, none, zz_77, rfl, by decide, Or.inl ⟨rfl, rfl⟩, by decide +kernel, zw_217, fun d pc i h => zAll zm_X1_arrange pc i h⟩
theorem zt_78 : zTab zt_zi al (t, 30) gm dC dI 47 l 78 (zc_X4_turn, 5, 0) := ⟨yX4_turn, cX4_turn, 5, none, zz_78, rfl, by decide, Or.inl ⟨rfl, rfl⟩, by decide +kernel, zw_1357, fun d pc i h => zAll zm_X4_turn pc i h⟩
theorem zt_79 : zTab zt_zi al (t, 30) gm dC dI 47 l 79 (zc_X4_push, 8, 0) := ⟨yX4_push, cX4_push, 8, none, zz_79, rfl, by decide, Or.inl ⟨rfl, rfl⟩, by decide +kernel, zw_1368, fun d pc i h => zAll zm_X4_push pc i h⟩
theorem zt_80 : zTab zt_zi al (t, 30) gm dC dI 47 l 80 (zc_X4_textOf, 6, 5) := ⟨yX4_textOf, cX4_textOf, 6, (some (.object "java/lang/String")), zz_80, rfl, by decide, Or.inr (Or.inr (Or.inr (Or.inr (Or.inr ⟨Nat.le_refl 5, _, rfl, Or.inl ⟨_, rfl⟩⟩)))), by decide +kernel, zw_1395, fun d pc i h => zAll zm_X4_textOf pc i h⟩
theorem zt_81 : zTab zt_zi al (t, 30) gm dC dI 47 l 81 (zc_X4_codes, 6, 4) := ⟨yX4_codes, cX4_codes, 6, (some .long), zz_81, rfl, by decide, Or.inr (Or.inr (Or.inr (Or.inr (Or.inl ⟨rfl, rfl⟩)))), by decide +kernel, zw_1628, fun d pc i h => zAll zm_X4_codes pc i h⟩
theorem zt_82 : zTab zt_zi al (t, 30) gm dC dI 47 l 82 (zc_X0_isThere, 1, 2) := ⟨yX0_isThere, cX0_isThere, 1, (some .boolean), zz_82, rfl, by decide, Or.inr (Or.inr (Or.inl ⟨rfl, rfl⟩)), by decide +kernel, zw_308, fun d pc i h => zAll zm_X0_isThere pc i h⟩
theorem zt_83 : zTab zt_zi al (t, 30) gm dC dI 47 l 83 (zc_X2_writePart, 3, 0) := ⟨yX2_writePart, cX2_writePart, 3, none, zz_83, rfl, by decide, Or.inl ⟨rfl, rfl⟩, by decide +kernel, zw_717, fun d pc i h => zAll zm_X2_writePart pc i h⟩
theorem zt_84 : zTab zt_zi al (t, 30) gm dC dI 47 l 84 (zc_X2_isPartSound, 2, 2) := ⟨yX2_isPartSound, cX2_isPartSound, 2, (some .boolean), zz_84, rfl, by decide, Or.inr (Or.inr (Or.inl ⟨rfl, rfl⟩)), by decide +kernel, zw_246, fun d pc i h => zAll zm_X2_isPartSound pc i h⟩
theorem zt_85 : zTab zt_zi al (t, 30) gm dC dI 47 l 85 (zc_X1_init, 1, 0) := ⟨yX1_init, cX1_init, 1, none, zz_85, rfl, by decide, Or.inl ⟨rfl, rfl⟩, by decide +kernel, zw_103, fun d pc i h => zAll zm_X1_init pc i h⟩
theorem zt_86 : zTab zt_zi al (t, 30) gm dC dI 47 l 86 (zc_X4_isNoRow, 1, 2) := ⟨yX4_isNoRow, cX4_isNoRow, 1, (some .boolean), zz_86, rfl, by decide, Or.inr (Or.inr (Or.inl ⟨rfl, rfl⟩)), by decide +kernel, zw_1276, fun d pc i h => zAll zm_X4_isNoRow pc i h⟩
theorem zt_87 : zTab zt_zi al (t, 30) gm dC dI 47 l 87 (zc_X2_rowOf, 2, 5) := ⟨yX2_rowOf, cX2_rowOf, 2, (some (.object "Rowtricks$Row")), zz_87, rfl, by decide, Or.inr (Or.inr (Or.inr (Or.inr (Or.inr ⟨Nat.le_refl 5, _, rfl, Or.inl ⟨_, rfl⟩⟩)))), by decide +kernel, zw_745, fun d pc i h => zAll zm_X2_rowOf pc i h⟩
theorem zt_88 : zTab zt_zi al (t, 30) gm dC dI 47 l 88 (zc_X4_start, 4, 2) := ⟨yX4_start, cX4_start, 4, (some .boolean), zz_88, rfl, by decide, Or.inr (Or.inr (Or.inl ⟨rfl, rfl⟩)), by decide +kernel, zw_1286, fun d pc i h => zAll zm_X4_start pc i h⟩
theorem zt_89 : zTab zt_zi al (t, 30) gm dC dI 47 l 89 (zc_X4_thrown, 1, 1) := ⟨yX4_thrown, cX4_thrown, 1, (some .int), zz_89, rfl, by decide, Or.inr (Or.inl ⟨rfl, rfl⟩), by decide +kernel, zw_1269, fun d pc i h => zAll zm_X4_thrown pc i h⟩
theorem zt_90 : zTab zt_zi al (t, 30) gm dC dI 47 l 90 (zc_J9_floorMod_7cf53, 3, 1) := ⟨yJ9_floorMod_7cf53, cJ9_floorMod_7cf53, 3, (some .int), zz_90, rfl, by decide, Or.inr (Or.inl ⟨rfl, rfl⟩), by decide +kernel, zw_204, fun d pc i h => zAll zm_J9_floorMod_7cf53 pc i h⟩
theorem zt_91 : zTab zt_zi al (t, 30) gm dC dI 47 l 91 (zc_X4_houseOf, 4, 1) := ⟨yX4_houseOf, cX4_houseOf, 4, (some .int), zz_91, rfl, by decide, Or.inr (Or.inl ⟨rfl, rfl⟩), by decide +kernel, zw_1599, fun d pc i h => zAll zm_X4_houseOf pc i h⟩
theorem zt_92 : zTab zt_zi al (t, 30) gm dC dI 47 l 92 (zc_X4_walkOf, 2, 1) := ⟨yX4_walkOf, cX4_walkOf, 2, (some .int), zz_92, rfl, by decide, Or.inr (Or.inl ⟨rfl, rfl⟩), by decide +kernel, zw_1591, fun d pc i h => zAll zm_X4_walkOf pc i h⟩
theorem zt_93 : zTab zt_zi al (t, 30) gm dC dI 47 l 93 (zc_X4_sort, 8, 0) := ⟨yX4_sort, cX4_sort, 8, none, zz_93, rfl, by decide, Or.inl ⟨rfl, rfl⟩, by decide +kernel, zw_1383, fun d pc i h => zAll zm_X4_sort pc i h⟩
theorem zt_94 : zTab zt_zi al (t, 30) gm dC dI 47 l 94 (zc_X0_init, 1, 0) := ⟨yX0_init, cX0_init, 1, none, zz_94, rfl, by decide, Or.inl ⟨rfl, rfl⟩, by decide +kernel, zw_127, fun d pc i h => zAll zm_X0_init pc i h⟩
theorem zt_95 : zTab zt_zi al (t, 30) gm dC dI 47 l 95 (zc_X2_part, 7, 1) := ⟨yX2_part, cX2_part, 7, (some .int), zz_95, rfl, by decide, Or.inr (Or.inl ⟨rfl, rfl⟩), by decide +kernel, zw_1057, fun d pc i h => zAll zm_X2_part pc i h⟩
theorem zt_96 : zTab zt_zi al (t, 30) gm dC dI 47 l 96 (zc_X2_partOf, 2, 5) := ⟨yX2_partOf, cX2_partOf, 2, (some (.object "Rowtricks$Part")), zz_96, rfl, by decide, Or.inr (Or.inr (Or.inr (Or.inr (Or.inr ⟨Nat.le_refl 5, _, rfl, Or.inl ⟨_, rfl⟩⟩)))), by decide +kernel, zw_1061, fun d pc i h => zAll zm_X2_partOf pc i h⟩
theorem zt_97 : zTab zt_zi al (t, 30) gm dC dI 47 l 97 (zc_X2_isSpan, 3, 2) := ⟨yX2_isSpan, cX2_isSpan, 3, (some .boolean), zz_97, rfl, by decide, Or.inr (Or.inr (Or.inl ⟨rfl, rfl⟩)), by decide +kernel, zw_1065, fun d pc i h => zAll zm_X2_isSpan pc i h⟩
theorem zt_98 : zTab zt_zi al (t, 30) gm dC dI 47 l 98 (zc_X2_lose, 6, 0) := ⟨yX2_lose, cX2_lose, 6, none, zz_98, rfl, by decide, Or.inl ⟨rfl, rfl⟩, by decide +kernel, zw_1070, fun d pc i h => zAll zm_X2_lose pc i h⟩
theorem zt_99 : zTab zt_zi al (t, 30) gm dC dI 47 l 99 (zc_X0_lay, 5, 0) := ⟨yX0_lay, cX0_lay, 5, none, zz_99, rfl, by decide, Or.inl ⟨rfl, rfl⟩, by decide +kernel, zw_1078, fun d pc i h => zAll zm_X0_lay pc i h⟩
theorem zt_100 : zTab zt_zi al (t, 30) gm dC dI 47 l 100 (zc_X0_many, 1, 1) := ⟨yX0_many, cX0_many, 1, (some .int), zz_100, rfl, by decide, Or.inr (Or.inl ⟨rfl, rfl⟩), by decide +kernel, zw_1082, fun d pc i h => zAll zm_X0_many pc i h⟩
theorem zt_101 : zTab zt_zi al (t, 30) gm dC dI 47 l 101 (zc_X4_part, 5, 1) := ⟨yX4_part, cX4_part, 5, (some .int), zz_101, rfl, by decide, Or.inr (Or.inl ⟨rfl, rfl⟩), by decide +kernel, zw_1485, fun d pc i h => zAll zm_X4_part pc i h⟩
theorem zt_102 : zTab zt_zi al (t, 30) gm dC dI 47 l 102 (zc_X4_isNoPart, 1, 2) := ⟨yX4_isNoPart, cX4_isNoPart, 1, (some .boolean), zz_102, rfl, by decide, Or.inr (Or.inr (Or.inl ⟨rfl, rfl⟩)), by decide +kernel, zw_1488, fun d pc i h => zAll zm_X4_isNoPart pc i h⟩
theorem zt_103 : zTab zt_zi al (t, 30) gm dC dI 47 l 103 (zc_X4_lay, 6, 1) := ⟨yX4_lay, cX4_lay, 6, (some .int), zz_103, rfl, by decide, Or.inr (Or.inl ⟨rfl, rfl⟩), by decide +kernel, zw_1492, fun d pc i h => zAll zm_X4_lay pc i h⟩
theorem zt_104 : zTab zt_zi al (t, 30) gm dC dI 47 l 104 (zc_X4_lose, 3, 0) := ⟨yX4_lose, cX4_lose, 3, none, zz_104, rfl, by decide, Or.inl ⟨rfl, rfl⟩, by decide +kernel, zw_1496, fun d pc i h => zAll zm_X4_lose pc i h⟩
theorem zt_105 : zTab zt_zi al (t, 30) gm dC dI 47 l 105 (zc_X4_partText, 2, 5) := ⟨yX4_partText, cX4_partText, 2, (some (.object "java/lang/String")), zz_105, rfl, by decide, Or.inr (Or.inr (Or.inr (Or.inr (Or.inr ⟨Nat.le_refl 5, _, rfl, Or.inl ⟨_, rfl⟩⟩)))), by decide +kernel, zw_1552, fun d pc i h => zAll zm_X4_partText pc i h⟩
theorem zt_106 : zTab zt_zi al (t, 30) gm dC dI 47 l 106 (zc_X2_digest, 12, 4) := ⟨yX2_digest, cX2_digest, 12, (some .long), zz_106, rfl, by decide, Or.inr (Or.inr (Or.inr (Or.inr (Or.inl ⟨rfl, rfl⟩)))), by decide +kernel, zw_254, fun d pc i h => zAll zm_X2_digest pc i h⟩
theorem zt_107 : zTab zt_zi al (t, 30) gm dC dI 47 l 107 (zc_X2_mixHouse, 5, 4) := ⟨yX2_mixHouse, cX2_mixHouse, 5, (some .long), zz_107, rfl, by decide, Or.inr (Or.inr (Or.inr (Or.inr (Or.inl ⟨rfl, rfl⟩)))), by decide +kernel, zw_292, fun d pc i h => zAll zm_X2_mixHouse pc i h⟩
theorem zt_108 : zTab zt_zi al (t, 30) gm dC dI 47 l 108 (zc_X2_allCards, 6, 1) := ⟨yX2_allCards, cX2_allCards, 6, (some .int), zz_108, rfl, by decide, Or.inr (Or.inl ⟨rfl, rfl⟩), by decide +kernel, zw_296, fun d pc i h => zAll zm_X2_allCards pc i h⟩
theorem zt_109 : zTab zt_zi al (t, 30) gm dC dI 47 l 109 (zc_X2_allParts, 6, 1) := ⟨yX2_allParts, cX2_allParts, 6, (some .int), zz_109, rfl, by decide, Or.inr (Or.inl ⟨rfl, rfl⟩), by decide +kernel, zw_304, fun d pc i h => zAll zm_X2_allParts pc i h⟩
theorem zt_110 : zTab zt_zi al (t, 30) gm dC dI 47 l 110 (zc_X2_allWalks, 6, 1) := ⟨yX2_allWalks, cX2_allWalks, 6, (some .int), zz_110, rfl, by decide, Or.inr (Or.inl ⟨rfl, rfl⟩), by decide +kernel, zw_312, fun d pc i h => zAll zm_X2_allWalks pc i h⟩
theorem zt_111 : zTab zt_zi al (t, 30) gm dC dI 47 l 111 (zc_X2_isSound, 5, 2) := ⟨yX2_isSound, cX2_isSound, 5, (some .boolean), zz_111, rfl, by decide, Or.inr (Or.inr (Or.inl ⟨rfl, rfl⟩)), by decide +kernel, zw_165, fun d pc i h => zAll zm_X2_isSound pc i h⟩
theorem zt_112 : zTab zt_zi al (t, 30) gm dC dI 47 l 112 (zc_X2_init, 2, 0) := ⟨yX2_init, cX2_init, 2, none, zz_112, rfl, by decide, Or.inl ⟨rfl, rfl⟩, by decide +kernel, zw_94, fun d pc i h => zAll zm_X2_init pc i h⟩
theorem zt_113 : zTab zt_zi al (t, 30) gm dC dI 47 l 113 (zc_X4_init, 1, 0) := ⟨yX4_init, cX4_init, 1, none, zz_113, rfl, by decide, Or.inl ⟨rfl, rfl⟩, by decide +kernel, zw_1231, fun d pc i h => zAll zm_X4_init pc i h⟩
theorem zt_114 : zTab zt_zi al (t, 30) gm dC dI 47 l 114 (zc_X3_init, 1, 0) := ⟨yX3_init, cX3_init, 1, none, zz_114, rfl, by decide, Or.inl ⟨rfl, rfl⟩, by decide +kernel, zw_723, fun d pc i h => zAll zm_X3_init pc i h⟩
theorem zt_115 : zTab zt_zi al (t, 30) gm dC dI 47 l 115 (zc_X2_addCopies, 7, 1) := ⟨yX2_addCopies, cX2_addCopies, 7, (some .int), zz_115, rfl, by decide, Or.inr (Or.inl ⟨rfl, rfl⟩), by decide +kernel, zw_859, fun d pc i h => zAll zm_X2_addCopies pc i h⟩
theorem zt_116 : zTab zt_zi al (t, 30) gm dC dI 47 l 116 (zc_X2_needCopies, 1, 0) := ⟨yX2_needCopies, cX2_needCopies, 1, none, zz_116, rfl, by decide, Or.inl ⟨rfl, rfl⟩, by decide +kernel, zw_862, fun d pc i h => zAll zm_X2_needCopies pc i h⟩
theorem zt_117 : zTab zt_zi al (t, 30) gm dC dI 47 l 117 (zc_X2_cardOf, 2, 1) := ⟨yX2_cardOf, cX2_cardOf, 2, (some .int), zz_117, rfl, by decide, Or.inr (Or.inl ⟨rfl, rfl⟩), by decide +kernel, zw_761, fun d pc i h => zAll zm_X2_cardOf pc i h⟩
theorem zt_118 : zTab zt_zi al (t, 30) gm dC dI 47 l 118 (zc_X2_needValue, 1, 0) := ⟨yX2_needValue, cX2_needValue, 1, none, zz_118, rfl, by decide, Or.inl ⟨rfl, rfl⟩, by decide +kernel, zw_764, fun d pc i h => zAll zm_X2_needValue pc i h⟩
theorem zt_119 : zTab zt_zi al (t, 30) gm dC dI 47 l 119 (zc_X2_needRoom, 2, 0) := ⟨yX2_needRoom, cX2_needRoom, 2, none, zz_119, rfl, by decide, Or.inl ⟨rfl, rfl⟩, by decide +kernel, zw_771, fun d pc i h => zAll zm_X2_needRoom pc i h⟩
theorem zt_120 : zTab zt_zi al (t, 30) gm dC dI 47 l 120 (zc_X1_putCopiesBehind, 4, 0) := ⟨yX1_putCopiesBehind, cX1_putCopiesBehind, 4, none, zz_120, rfl, by decide, Or.inl ⟨rfl, rfl⟩, by decide +kernel, zw_867, fun d pc i h => zAll zm_X1_putCopiesBehind pc i h⟩
theorem zt_121 : zTab zt_zi al (t, 30) gm dC dI 47 l 121 (zc_X2_changeBy, 3, 0) := ⟨yX2_changeBy, cX2_changeBy, 3, none, zz_121, rfl, by decide, Or.inl ⟨rfl, rfl⟩, by decide +kernel, zw_845, fun d pc i h => zAll zm_X2_changeBy pc i h⟩
theorem zt_122 : zTab zt_zi al (t, 30) gm dC dI 47 l 122 (zc_X2_reshape, 6, 0) := ⟨yX2_reshape, cX2_reshape, 6, none, zz_122, rfl, by decide, Or.inl ⟨rfl, rfl⟩, by decide +kernel, zw_792, fun d pc i h => zAll zm_X2_reshape pc i h⟩
theorem zt_123 : zTab zt_zi al (t, 30) gm dC dI 47 l 123 (zc_X4_addCopies, 5, 1) := ⟨yX4_addCopies, cX4_addCopies, 5, (some .int), zz_123, rfl, by decide, Or.inr (Or.inl ⟨rfl, rfl⟩), by decide +kernel, zw_1334, fun d pc i h => zAll zm_X4_addCopies pc i h⟩
theorem zt_124 : zTab zt_zi al (t, 30) gm dC dI 47 l 124 (zc_X4_isNoCard, 2, 2) := ⟨yX4_isNoCard, cX4_isNoCard, 2, (some .boolean), zz_124, rfl, by decide, Or.inr (Or.inr (Or.inl ⟨rfl, rfl⟩)), by decide +kernel, zw_1282, fun d pc i h => zAll zm_X4_isNoCard pc i h⟩
theorem zt_125 : zTab zt_zi al (t, 30) gm dC dI 47 l 125 (zc_X4_addMany, 5, 1) := ⟨yX4_addMany, cX4_addMany, 5, (some .int), zz_125, rfl, by decide, Or.inr (Or.inl ⟨rfl, rfl⟩), by decide +kernel, zw_1290, fun d pc i h => zAll zm_X4_addMany pc i h⟩
theorem zt_126 : zTab zt_zi al (t, 30) gm dC dI 47 l 126 (zc_X4_reshape, 3, 0) := ⟨yX4_reshape, cX4_reshape, 3, none, zz_126, rfl, by decide, Or.inl ⟨rfl, rfl⟩, by decide +kernel, zw_1298, fun d pc i h => zAll zm_X4_reshape pc i h⟩
theorem zt_127 : zTab zt_zi al (t, 30) gm dC dI 47 l 127 (zc_X4_digest, 5, 4) := ⟨yX4_digest, cX4_digest, 5, (some .long), zz_127, rfl, by decide, Or.inr (Or.inr (Or.inr (Or.inr (Or.inl ⟨rfl, rfl⟩)))), by decide +kernel, zw_1620, fun d pc i h => zAll zm_X4_digest pc i h⟩
theorem zt_128 : zTab zt_zi al (t, 30) gm dC dI 47 l 128 (zc_X4_areSound, 7, 2) := ⟨yX4_areSound, cX4_areSound, 7, (some .boolean), zz_128, rfl, by decide, Or.inr (Or.inr (Or.inl ⟨rfl, rfl⟩)), by decide +kernel, zw_1611, fun d pc i h => zAll zm_X4_areSound pc i h⟩
theorem zt_all : ∀ mi q, zt_tab[mi]? = some q → zTab zt_zi al (t, 30) gm dC dI 47 l mi q := by
  intro mi q h
  match mi, h with
  | 0, h => cases h; exact zt_0
  | 1, h => cases h; exact zt_1
  | 2, h => cases h; exact zt_2
  | 3, h => cases h; exact zt_3
  | 4, h => cases h; exact zt_4
  | 5, h => cases h; exact zt_5
  | 6, h => cases h; exact zt_6
  | 7, h => cases h; exact zt_7
  | 8, h => cases h; exact zt_8
  | 9, h => cases h; exact zt_9
  | 10, h => cases h; exact zt_10
  | 11, h => cases h; exact zt_11
  | 12, h => cases h; exact zt_12
  | 13, h => cases h; exact zt_13
  | 14, h => cases h; exact zt_14
  | 15, h => cases h; exact zt_15
  | 16, h => cases h; exact zt_16
  | 17, h => cases h; exact zt_17
  | 18, h => cases h; exact zt_18
  | 19, h => cases h; exact zt_19
  | 20, h => cases h; exact zt_20
  | 21, h => cases h; exact zt_21
  | 22, h => cases h; exact zt_22
  | 23, h => cases h; exact zt_23
  | 24, h => cases h; exact zt_24
  | 25, h => cases h; exact zt_25
  | 26, h => cases h; exact zt_26
  | 27, h => cases h; exact zt_27
  | 28, h => cases h; exact zt_28
  | 29, h => cases h; exact zt_29
  | 30, h => cases h; exact zt_30
  | 31, h => cases h; exact zt_31
  | 32, h => cases h; exact zt_32
  | 33, h => cases h; exact zt_33
  | 34, h => cases h; exact zt_34
  | 35, h => cases h; exact zt_35
  | 36, h => cases h; exact zt_36
  | 37, h => cases h; exact zt_37
  | 38, h => cases h; exact zt_38
  | 39, h => cases h; exact zt_39
  | 40, h => cases h; exact zt_40
  | 41, h => cases h; exact zt_41
  | 42, h => cases h; exact zt_42
  | 43, h => cases h; exact zt_43
  | 44, h => cases h; exact zt_44
  | 45, h => cases h; exact zt_45
  | 46, h => cases h; exact zt_46
  | 47, h => cases h; exact zt_47
  | 48, h => cases h; exact zt_48
  | 49, h => cases h; exact zt_49
  | 50, h => cases h; exact zt_50
  | 51, h => cases h; exact zt_51
  | 52, h => cases h; exact zt_52
  | 53, h => cases h; exact zt_53
  | 54, h => cases h; exact zt_54
  | 55, h => cases h; exact zt_55
  | 56, h => cases h; exact zt_56
  | 57, h => cases h; exact zt_57
  | 58, h => cases h; exact zt_58
  | 59, h => cases h; exact zt_59
  | 60, h => cases h; exact zt_60
  | 61, h => cases h; exact zt_61
  | 62, h => cases h; exact zt_62
  | 63, h => cases h; exact zt_63
  | 64, h => cases h; exact zt_64
  | 65, h => cases h; exact zt_65
  | 66, h => cases h; exact zt_66
  | 67, h => cases h; exact zt_67
  | 68, h => cases h; exact zt_68
  | 69, h => cases h; exact zt_69
  | 70, h => cases h; exact zt_70
  | 71, h => cases h; exact zt_71
  | 72, h => cases h; exact zt_72
  | 73, h => cases h; exact zt_73
  | 74, h => cases h; exact zt_74
  | 75, h => cases h; exact zt_75
  | 76, h => cases h; exact zt_76
  | 77, h => cases h; exact zt_77
  | 78, h => cases h; exact zt_78
  | 79, h => cases h; exact zt_79
  | 80, h => cases h; exact zt_80
  | 81, h => cases h; exact zt_81
  | 82, h => cases h; exact zt_82
  | 83, h => cases h; exact zt_83
  | 84, h => cases h; exact zt_84
  | 85, h => cases h; exact zt_85
  | 86, h => cases h; exact zt_86
  | 87, h => cases h; exact zt_87
  | 88, h => cases h; exact zt_88
  | 89, h => cases h; exact zt_89
  | 90, h => cases h; exact zt_90
  | 91, h => cases h; exact zt_91
  | 92, h => cases h; exact zt_92
  | 93, h => cases h; exact zt_93
  | 94, h => cases h; exact zt_94
  | 95, h => cases h; exact zt_95
  | 96, h => cases h; exact zt_96
  | 97, h => cases h; exact zt_97
  | 98, h => cases h; exact zt_98
  | 99, h => cases h; exact zt_99
  | 100, h => cases h; exact zt_100
  | 101, h => cases h; exact zt_101
  | 102, h => cases h; exact zt_102
  | 103, h => cases h; exact zt_103
  | 104, h => cases h; exact zt_104
  | 105, h => cases h; exact zt_105
  | 106, h => cases h; exact zt_106
  | 107, h => cases h; exact zt_107
  | 108, h => cases h; exact zt_108
  | 109, h => cases h; exact zt_109
  | 110, h => cases h; exact zt_110
  | 111, h => cases h; exact zt_111
  | 112, h => cases h; exact zt_112
  | 113, h => cases h; exact zt_113
  | 114, h => cases h; exact zt_114
  | 115, h => cases h; exact zt_115
  | 116, h => cases h; exact zt_116
  | 117, h => cases h; exact zt_117
  | 118, h => cases h; exact zt_118
  | 119, h => cases h; exact zt_119
  | 120, h => cases h; exact zt_120
  | 121, h => cases h; exact zt_121
  | 122, h => cases h; exact zt_122
  | 123, h => cases h; exact zt_123
  | 124, h => cases h; exact zt_124
  | 125, h => cases h; exact zt_125
  | 126, h => cases h; exact zt_126
  | 127, h => cases h; exact zt_127
  | 128, h => cases h; exact zt_128
  | n + 129, h => simp [zt_tab] at h
end ZC
