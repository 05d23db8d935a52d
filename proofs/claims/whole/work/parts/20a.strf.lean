abbrev YJ0_checkIndex_df160 : am_Y := (yJ0_checkIndex_df160, cJ0_checkIndex_df160, 2, none)
abbrev YJ0_coder_7d493 : am_Y := (yJ0_coder_7d493, cJ0_coder_7d493, 1, (some .byte))
abbrev YJ0_indexOf_7cf53 : am_Y := (yJ0_indexOf_7cf53, cJ0_indexOf_7cf53, 3, (some .int))
abbrev YJ0_isLatin1_aae02 : am_Y := (yJ0_isLatin1_aae02, cJ0_isLatin1_aae02, 1, (some .boolean))
abbrev YJ1_canEncode_9a6ad : am_Y := (yJ1_canEncode_9a6ad, cJ1_canEncode_9a6ad, 1, (some .boolean))
abbrev YJ1_charAt_3b067 : am_Y := (yJ1_charAt_3b067, cJ1_charAt_3b067, 2, (some .char))
abbrev YJ1_indexOfChar_4cfef : am_Y := (yJ1_indexOfChar_4cfef, cJ1_indexOfChar_4cfef, 6, (some .int))
abbrev YJ1_indexOf_4cfef : am_Y := (yJ1_indexOf_4cfef, cJ1_indexOf_4cfef, 4, (some .int))
abbrev YJ3_checkIndex_8e157 : am_Y := (yJ3_checkIndex_8e157, cJ3_checkIndex_8e157, 3, (some .int))
theorem cd_J0_checkIndex_df160 : am_code YJ0_checkIndex_df160 ∈ am_gt := am_gt_in (List.mem_of_getElem? (i := 242) (by decide +kernel)) rfl
theorem cd_J0_coder_7d493 : am_code YJ0_coder_7d493 ∈ am_gt := am_gt_in (List.mem_of_getElem? (i := 226) (by decide +kernel)) rfl
theorem cd_J0_indexOf_7cf53 : am_code YJ0_indexOf_7cf53 ∈ am_gt := am_gt_in (List.mem_of_getElem? (i := 306) (by decide +kernel)) rfl
theorem cd_J0_isLatin1_aae02 : am_code YJ0_isLatin1_aae02 ∈ am_gt := am_gt_in (List.mem_of_getElem? (i := 236) (by decide +kernel)) rfl
theorem cd_J1_canEncode_9a6ad : am_code YJ1_canEncode_9a6ad ∈ am_gt := am_gt_in (List.mem_of_getElem? (i := 313) (by decide +kernel)) rfl
theorem cd_J1_charAt_3b067 : am_code YJ1_charAt_3b067 ∈ am_gt := am_gt_in (List.mem_of_getElem? (i := 239) (by decide +kernel)) rfl
theorem cd_J1_indexOfChar_4cfef : am_code YJ1_indexOfChar_4cfef ∈ am_gt := am_gt_in (List.mem_of_getElem? (i := 322) (by decide +kernel)) rfl
theorem cd_J1_indexOf_4cfef : am_code YJ1_indexOf_4cfef ∈ am_gt := am_gt_in (List.mem_of_getElem? (i := 310) (by decide +kernel)) rfl
theorem cd_J3_checkIndex_8e157 : am_code YJ3_checkIndex_8e157 ∈ am_gt := am_gt_in (List.mem_of_getElem? (i := 247) (by decide +kernel)) rfl
theorem fl_RJ0_1053 : Cond.fieldLink RJ0 1053 RJ3 "SIOOBE_FORMATTER" "Ljava/util/function/BiFunction;" ∈ am_gt := am_gt_in (List.mem_of_getElem? (i := 243) (by decide +kernel)) (by decide +kernel)
theorem fl_RJ0_15 : Cond.fieldLink RJ0 15 RJ0 "coder" "B" ∈ am_gt := am_gt_in (List.mem_of_getElem? (i := 1616) (by decide +kernel)) (by decide +kernel)
theorem fl_RJ0_38 : Cond.fieldLink RJ0 38 RJ0 "COMPACT_STRINGS" "Z" ∈ am_gt := am_gt_in (List.mem_of_getElem? (i := 227) (by decide +kernel)) (by decide +kernel)
theorem fl_RJ0_9 : Cond.fieldLink RJ0 9 RJ0 "value" "[B" ∈ am_gt := am_gt_in (List.mem_of_getElem? (i := 1615) (by decide +kernel)) (by decide +kernel)
theorem im_J0_coder_7d493 : Cond.instanceMethod yJ0_coder_7d493 ∈ am_gt := am_gt_in (List.mem_of_getElem? (i := 224) (by decide +kernel)) (by decide +kernel)
theorem im_J0_indexOf_7cf53 : Cond.instanceMethod yJ0_indexOf_7cf53 ∈ am_gt := am_gt_in (List.mem_of_getElem? (i := 304) (by decide +kernel)) (by decide +kernel)
theorem im_J0_isLatin1_aae02 : Cond.instanceMethod yJ0_isLatin1_aae02 ∈ am_gt := am_gt_in (List.mem_of_getElem? (i := 234) (by decide +kernel)) (by decide +kernel)
theorem in_RJ1 : Cond.initialized RJ1 ∈ am_gt := am_gt_in (List.mem_of_getElem? (i := 70) (by decide +kernel)) (by decide +kernel)
theorem in_RJ3 : Cond.initialized RJ3 ∈ am_gt := am_gt_in (List.mem_of_getElem? (i := 71) (by decide +kernel)) (by decide +kernel)
theorem mh_RJ1 : am_noMH RJ1 := by decide +kernel
theorem mh_RJ3 : am_noMH RJ3 := by decide +kernel
theorem ml_RJ0_1059 : Cond.methodLink RJ0 1059 yJ3_checkIndex_8e157 ∈ am_gt := am_gt_in (List.mem_of_getElem? (i := 245) (by decide +kernel)) (by decide +kernel)
theorem ml_RJ0_335 : Cond.methodLink RJ0 335 yJ0_coder_7d493 ∈ am_gt := am_gt_in (List.mem_of_getElem? (i := 223) (by decide +kernel)) (by decide +kernel)
theorem ml_RJ0_492 : Cond.methodLink RJ0 492 yJ0_isLatin1_aae02 ∈ am_gt := am_gt_in (List.mem_of_getElem? (i := 233) (by decide +kernel)) (by decide +kernel)
theorem ml_RJ0_495 : Cond.methodLink RJ0 495 yJ1_charAt_3b067 ∈ am_gt := am_gt_in (List.mem_of_getElem? (i := 237) (by decide +kernel)) (by decide +kernel)
theorem ml_RJ0_505 : Cond.methodLink RJ0 505 yJ0_length_8abf5 ∈ am_gt := am_gt_in (List.mem_of_getElem? (i := 307) (by decide +kernel)) (by decide +kernel)
theorem ml_RJ0_633 : Cond.methodLink RJ0 633 yJ0_indexOf_7cf53 ∈ am_gt := am_gt_in (List.mem_of_getElem? (i := 303) (by decide +kernel)) (by decide +kernel)
theorem ml_RJ0_637 : Cond.methodLink RJ0 637 yJ1_indexOf_4cfef ∈ am_gt := am_gt_in (List.mem_of_getElem? (i := 308) (by decide +kernel)) (by decide +kernel)
theorem ml_RJ1_38 : Cond.methodLink RJ1 38 Lib.Math.min.name ∈ am_gt := am_gt_in (List.mem_of_getElem? (i := 317) (by decide +kernel)) (by decide +kernel)
theorem ml_RJ1_88 : Cond.methodLink RJ1 88 yJ1_canEncode_9a6ad ∈ am_gt := am_gt_in (List.mem_of_getElem? (i := 311) (by decide +kernel)) (by decide +kernel)
theorem ml_RJ1_9 : Cond.methodLink RJ1 9 yJ0_checkIndex_df160 ∈ am_gt := am_gt_in (List.mem_of_getElem? (i := 240) (by decide +kernel)) (by decide +kernel)
theorem ml_RJ1_92 : Cond.methodLink RJ1 92 Lib.Math.max.name ∈ am_gt := am_gt_in (List.mem_of_getElem? (i := 314) (by decide +kernel)) (by decide +kernel)
theorem ml_RJ1_95 : Cond.methodLink RJ1 95 yJ1_indexOfChar_4cfef ∈ am_gt := am_gt_in (List.mem_of_getElem? (i := 320) (by decide +kernel)) (by decide +kernel)
theorem np_J0_checkIndex_df160 : am_np yJ0_checkIndex_df160.desc 2 := by decide +kernel
theorem np_J0_coder_7d493 : am_np yJ0_coder_7d493.desc 0 := by decide +kernel
theorem np_J0_indexOf_7cf53 : am_np yJ0_indexOf_7cf53.desc 2 := by decide +kernel
theorem np_J0_isLatin1_aae02 : am_np yJ0_isLatin1_aae02.desc 0 := by decide +kernel
theorem np_J1_canEncode_9a6ad : am_np yJ1_canEncode_9a6ad.desc 1 := by decide +kernel
theorem np_J1_charAt_3b067 : am_np yJ1_charAt_3b067.desc 2 := by decide +kernel
theorem np_J1_indexOfChar_4cfef : am_np yJ1_indexOfChar_4cfef.desc 4 := by decide +kernel
theorem np_J1_indexOf_4cfef : am_np yJ1_indexOf_4cfef.desc 4 := by decide +kernel
theorem np_J3_checkIndex_8e157 : am_np yJ3_checkIndex_8e157.desc 3 := by decide +kernel
theorem se_RJ0_J0_coder_7d493_J0_coder_7d493 : Cond.selects RJ0 yJ0_coder_7d493 yJ0_coder_7d493 ∈ am_gt := am_gt_in (List.mem_of_getElem? (i := 225) (by decide +kernel)) (by decide +kernel)
theorem se_RJ0_J0_indexOf_7cf53_J0_indexOf_7cf53 : Cond.selects RJ0 yJ0_indexOf_7cf53 yJ0_indexOf_7cf53 ∈ am_gt := am_gt_in (List.mem_of_getElem? (i := 305) (by decide +kernel)) (by decide +kernel)
theorem se_RJ0_J0_isLatin1_aae02_J0_isLatin1_aae02 : Cond.selects RJ0 yJ0_isLatin1_aae02 yJ0_isLatin1_aae02 ∈ am_gt := am_gt_in (List.mem_of_getElem? (i := 235) (by decide +kernel)) (by decide +kernel)
theorem st_J0_checkIndex_df160 : Cond.static yJ0_checkIndex_df160 ∈ am_gt := am_gt_in (List.mem_of_getElem? (i := 241) (by decide +kernel)) (by decide +kernel)
theorem st_J1_canEncode_9a6ad : Cond.static yJ1_canEncode_9a6ad ∈ am_gt := am_gt_in (List.mem_of_getElem? (i := 312) (by decide +kernel)) (by decide +kernel)
theorem st_J1_charAt_3b067 : Cond.static yJ1_charAt_3b067 ∈ am_gt := am_gt_in (List.mem_of_getElem? (i := 238) (by decide +kernel)) (by decide +kernel)
theorem st_J1_indexOfChar_4cfef : Cond.static yJ1_indexOfChar_4cfef ∈ am_gt := am_gt_in (List.mem_of_getElem? (i := 321) (by decide +kernel)) (by decide +kernel)
theorem st_J1_indexOf_4cfef : Cond.static yJ1_indexOf_4cfef ∈ am_gt := am_gt_in (List.mem_of_getElem? (i := 309) (by decide +kernel)) (by decide +kernel)
theorem st_J3_checkIndex_8e157 : Cond.static yJ3_checkIndex_8e157 ∈ am_gt := am_gt_in (List.mem_of_getElem? (i := 246) (by decide +kernel)) (by decide +kernel)
