/-! printed by jdklib.py: words and decode rows of the JDK's string building -/
theorem jq_0 : (Cond.code yJ9_max_7cf53 cJ9_max_7cf53 2 (some .int) : Cond) ∈ aTB := ch_in (ch_3 _ (List.mem_of_getElem? (i := 0) (rfl))) (by decide +kernel)
theorem jq_1 : (Cond.static yJ9_max_7cf53 : Cond) ∈ aTB := ch_in (ch_2 _ (List.mem_of_getElem? (i := 239) (by decide +kernel))) (by decide +kernel)
theorem jq_2 : (Cond.initialized "java/lang/Math" : Cond) ∈ aTB := ch_in (ch_1 _ (List.mem_of_getElem? (i := 13) (by decide +kernel))) (by decide +kernel)
theorem jq_3 : (Cond.methodLink "jdk/internal/util/ArraysSupport" 194 yJ9_max_7cf53 : Cond) ∈ aTB := ch_in (ch_6 _ (List.mem_of_getElem? (i := 109) (by decide +kernel))) (by decide +kernel)
theorem jq_4 : (Cond.constant "jdk/internal/util/ArraysSupport" 200 2147483639 : Cond) ∈ aTB := ch_in (ch_6 _ (List.mem_of_getElem? (i := 110) (by decide +kernel))) (by decide +kernel)
theorem jq_5 : (Cond.fieldLink "java/lang/String" 38 "java/lang/String" "COMPACT_STRINGS" "Z" : Cond) ∈ aTB := ch_in (ch_5 _ (List.mem_of_getElem? (i := 18) (by decide +kernel))) (by decide +kernel)
theorem jq_6 : (Cond.fieldLink "java/lang/String" 15 "java/lang/String" "coder" "B" : Cond) ∈ aTB := ch_in (ch_7 _ (List.mem_of_getElem? (i := 14) (by decide +kernel))) (by decide +kernel)
theorem jq_7 : (Cond.fieldLink "java/lang/String" 9 "java/lang/String" "value" "[B" : Cond) ∈ aTB := ch_in (ch_7 _ (List.mem_of_getElem? (i := 13) (by decide +kernel))) (by decide +kernel)
theorem jq_8 : (Cond.code yJ0_coder_7d493 cJ0_coder_7d493 1 (some .byte) : Cond) ∈ aTB := ch_in (ch_5 _ (List.mem_of_getElem? (i := 17) (rfl))) (by decide +kernel)
theorem jq_9 : (Cond.instanceMethod yJ0_coder_7d493 : Cond) ∈ aTB := ch_in (ch_5 _ (List.mem_of_getElem? (i := 15) (by decide +kernel))) (by decide +kernel)
theorem jq_10 : (Cond.selects "java/lang/String" yJ0_coder_7d493 yJ0_coder_7d493 : Cond) ∈ aTB := ch_in (ch_5 _ (List.mem_of_getElem? (i := 16) (by decide +kernel))) (by decide +kernel)
theorem jq_11 : (Cond.initialized "java/lang/String" : Cond) ∈ aTB := ch_in (ch_1 _ (List.mem_of_getElem? (i := 16) (by decide +kernel))) (by decide +kernel)
theorem jq_12 : (Cond.methodLink "java/lang/String" 335 yJ0_coder_7d493 : Cond) ∈ aTB := ch_in (ch_5 _ (List.mem_of_getElem? (i := 14) (by decide +kernel))) (by decide +kernel)
theorem jq_13 : (Cond.fieldLink "java/lang/String" 1053 "jdk/internal/util/Preconditions" "SIOOBE_FORMATTER" "Ljava/util/function/BiFunction;" : Cond) ∈ aTB := ch_in (ch_5 _ (List.mem_of_getElem? (i := 34) (by decide +kernel))) (by decide +kernel)
theorem jq_14 : (Cond.code yJ3_checkIndex_8e157 cJ3_checkIndex_8e157 3 (some .int) : Cond) ∈ aTB := ch_in (ch_5 _ (List.mem_of_getElem? (i := 38) (rfl))) (by decide +kernel)
theorem jq_15 : (Cond.static yJ3_checkIndex_8e157 : Cond) ∈ aTB := ch_in (ch_5 _ (List.mem_of_getElem? (i := 37) (by decide +kernel))) (by decide +kernel)
theorem jq_16 : (Cond.initialized "jdk/internal/util/Preconditions" : Cond) ∈ aTB := ch_in (ch_1 _ (List.mem_of_getElem? (i := 21) (by decide +kernel))) (by decide +kernel)
theorem jq_17 : (Cond.methodLink "java/lang/String" 1059 yJ3_checkIndex_8e157 : Cond) ∈ aTB := ch_in (ch_5 _ (List.mem_of_getElem? (i := 36) (by decide +kernel))) (by decide +kernel)
theorem jq_18 : (Cond.code yJ0_checkIndex_df160 cJ0_checkIndex_df160 2 none : Cond) ∈ aTB := ch_in (ch_5 _ (List.mem_of_getElem? (i := 33) (rfl))) (by decide +kernel)
theorem jq_19 : (Cond.static yJ0_checkIndex_df160 : Cond) ∈ aTB := ch_in (ch_5 _ (List.mem_of_getElem? (i := 32) (by decide +kernel))) (by decide +kernel)
theorem jq_20 : (Cond.methodLink "java/lang/StringLatin1" 9 yJ0_checkIndex_df160 : Cond) ∈ aTB := ch_in (ch_5 _ (List.mem_of_getElem? (i := 31) (by decide +kernel))) (by decide +kernel)
theorem jq_21 : (Cond.code yJ0_isLatin1_aae02 cJ0_isLatin1_aae02 1 (some .boolean) : Cond) ∈ aTB := ch_in (ch_5 _ (List.mem_of_getElem? (i := 27) (rfl))) (by decide +kernel)
theorem jq_22 : (Cond.instanceMethod yJ0_isLatin1_aae02 : Cond) ∈ aTB := ch_in (ch_5 _ (List.mem_of_getElem? (i := 25) (by decide +kernel))) (by decide +kernel)
theorem jq_23 : (Cond.selects "java/lang/String" yJ0_isLatin1_aae02 yJ0_isLatin1_aae02 : Cond) ∈ aTB := ch_in (ch_5 _ (List.mem_of_getElem? (i := 26) (by decide +kernel))) (by decide +kernel)
theorem jq_24 : (Cond.methodLink "java/lang/String" 492 yJ0_isLatin1_aae02 : Cond) ∈ aTB := ch_in (ch_5 _ (List.mem_of_getElem? (i := 24) (by decide +kernel))) (by decide +kernel)
theorem jq_25 : (Cond.code yJ1_charAt_3b067 cJ1_charAt_3b067 2 (some .char) : Cond) ∈ aTB := ch_in (ch_5 _ (List.mem_of_getElem? (i := 30) (rfl))) (by decide +kernel)
theorem jq_26 : (Cond.static yJ1_charAt_3b067 : Cond) ∈ aTB := ch_in (ch_5 _ (List.mem_of_getElem? (i := 29) (by decide +kernel))) (by decide +kernel)
theorem jq_27 : (Cond.initialized "java/lang/StringLatin1" : Cond) ∈ aTB := ch_in (ch_1 _ (List.mem_of_getElem? (i := 22) (by decide +kernel))) (by decide +kernel)
theorem jq_28 : (Cond.methodLink "java/lang/String" 495 yJ1_charAt_3b067 : Cond) ∈ aTB := ch_in (ch_5 _ (List.mem_of_getElem? (i := 28) (by decide +kernel))) (by decide +kernel)
theorem jq_29 : (Cond.lays "java/lang/StringBuilder" "java/lang/AbstractStringBuilder" "value" "[B" : Cond) ∈ aTB := ch_in (ch_6 _ (List.mem_of_getElem? (i := 78) (by decide +kernel))) (by decide +kernel)
theorem jq_30 : (Cond.lays "java/lang/StringBuilder" "java/lang/AbstractStringBuilder" "coder" "B" : Cond) ∈ aTB := ch_in (ch_6 _ (List.mem_of_getElem? (i := 80) (by decide +kernel))) (by decide +kernel)
theorem jq_31 : (Cond.lays "java/lang/StringBuilder" "java/lang/AbstractStringBuilder" "maybeLatin1" "Z" : Cond) ∈ aTB := ch_in (ch_6 _ (List.mem_of_getElem? (i := 82) (by decide +kernel))) (by decide +kernel)
theorem jq_32 : (Cond.lays "java/lang/StringBuilder" "java/lang/AbstractStringBuilder" "count" "I" : Cond) ∈ aTB := ch_in (ch_6 _ (List.mem_of_getElem? (i := 84) (by decide +kernel))) (by decide +kernel)
theorem jq_33 : (Cond.fieldLink "java/lang/AbstractStringBuilder" 15 "java/lang/AbstractStringBuilder" "value" "[B" : Cond) ∈ aTB := ch_in (ch_6 _ (List.mem_of_getElem? (i := 74) (by decide +kernel))) (by decide +kernel)
theorem jq_34 : (Cond.fieldLink "java/lang/AbstractStringBuilder" 22 "java/lang/AbstractStringBuilder" "coder" "B" : Cond) ∈ aTB := ch_in (ch_6 _ (List.mem_of_getElem? (i := 75) (by decide +kernel))) (by decide +kernel)
theorem jq_35 : (Cond.code yJ8_newLength_cabcc cJ8_newLength_cabcc 4 (some .int) : Cond) ∈ aTB := ch_in (ch_6 _ (List.mem_of_getElem? (i := 108) (rfl))) (by decide +kernel)
theorem jq_36 : (Cond.static yJ8_newLength_cabcc : Cond) ∈ aTB := ch_in (ch_6 _ (List.mem_of_getElem? (i := 107) (by decide +kernel))) (by decide +kernel)
theorem jq_37 : (Cond.initialized "jdk/internal/util/ArraysSupport" : Cond) ∈ aTB := ch_in (ch_1 _ (List.mem_of_getElem? (i := 18) (by decide +kernel))) (by decide +kernel)
theorem jq_38 : (Cond.methodLink "java/lang/AbstractStringBuilder" 114 yJ8_newLength_cabcc : Cond) ∈ aTB := ch_in (ch_6 _ (List.mem_of_getElem? (i := 106) (by decide +kernel))) (by decide +kernel)
theorem jq_39 : (Cond.constant "java/lang/AbstractStringBuilder" 39 2147483647 : Cond) ∈ aTB := ch_in (ch_6 _ (List.mem_of_getElem? (i := 114) (by decide +kernel))) (by decide +kernel)
theorem jq_40 : (Cond.arrayClass .byte : Cond) ∈ aTB := ch_in (ch_6 _ (List.mem_of_getElem? (i := 55) (by decide +kernel))) (by decide +kernel)
theorem jq_41 : (Cond.code yJ9_min_7cf53 cJ9_min_7cf53 2 (some .int) : Cond) ∈ aTB := ch_in (ch_2 _ (List.mem_of_getElem? (i := 229) (rfl))) (by decide +kernel)
theorem jq_42 : (Cond.static yJ9_min_7cf53 : Cond) ∈ aTB := ch_in (ch_2 _ (List.mem_of_getElem? (i := 228) (by decide +kernel))) (by decide +kernel)
theorem jq_43 : (Cond.methodLink "java/util/Arrays" 304 yJ9_min_7cf53 : Cond) ∈ aTB := ch_in (ch_6 _ (List.mem_of_getElem? (i := 125) (by decide +kernel))) (by decide +kernel)
theorem jq_44 : (Cond.methodLink "java/util/Arrays" 150 arraycopyName : Cond) ∈ aTB := ch_in (ch_6 _ (List.mem_of_getElem? (i := 126) (by decide +kernel))) (by decide +kernel)
theorem jq_45 : (Cond.native arraycopyName : Cond) ∈ aTB := ch_in (ch_3 _ (List.mem_of_getElem? (i := 226) (by decide +kernel))) (by decide +kernel)
theorem jq_46 : (Cond.static arraycopyName : Cond) ∈ aTB := ch_in (ch_3 _ (List.mem_of_getElem? (i := 225) (by decide +kernel))) (by decide +kernel)
theorem jq_47 : (Cond.initialized "java/lang/System" : Cond) ∈ aTB := ch_in (ch_1 _ (List.mem_of_getElem? (i := 20) (by decide +kernel))) (by decide +kernel)
theorem jq_48 : (Cond.code yJ5_newCapacity_0f7a4 cJ5_newCapacity_0f7a4 6 (some .int) : Cond) ∈ aTB := ch_in (ch_6 _ (List.mem_of_getElem? (i := 105) (rfl))) (by decide +kernel)
theorem jq_49 : (Cond.instanceMethod yJ5_newCapacity_0f7a4 : Cond) ∈ aTB := ch_in (ch_6 _ (List.mem_of_getElem? (i := 104) (by decide +kernel))) (by decide +kernel)
theorem jq_50 : (Cond.initialized "java/lang/AbstractStringBuilder" : Cond) ∈ aTB := ch_in (ch_1 _ (List.mem_of_getElem? (i := 14) (by decide +kernel))) (by decide +kernel)
theorem jq_51 : (Cond.methodLink "java/lang/AbstractStringBuilder" 104 yJ5_newCapacity_0f7a4 : Cond) ∈ aTB := ch_in (ch_6 _ (List.mem_of_getElem? (i := 102) (by decide +kernel))) (by decide +kernel)
theorem jq_52 : (Cond.code yJ7_copyOf_9075b cJ7_copyOf_9075b 3 (some (.array .byte)) : Cond) ∈ aTB := ch_in (ch_6 _ (List.mem_of_getElem? (i := 117) (rfl))) (by decide +kernel)
theorem jq_53 : (Cond.static yJ7_copyOf_9075b : Cond) ∈ aTB := ch_in (ch_6 _ (List.mem_of_getElem? (i := 116) (by decide +kernel))) (by decide +kernel)
theorem jq_54 : (Cond.initialized "java/util/Arrays" : Cond) ∈ aTB := ch_in (ch_1 _ (List.mem_of_getElem? (i := 19) (by decide +kernel))) (by decide +kernel)
theorem jq_55 : (Cond.methodLink "java/lang/AbstractStringBuilder" 108 yJ7_copyOf_9075b : Cond) ∈ aTB := ch_in (ch_6 _ (List.mem_of_getElem? (i := 115) (by decide +kernel))) (by decide +kernel)
theorem jq_56 : (Cond.fieldLink "java/lang/AbstractStringBuilder" 18 "java/lang/String" "COMPACT_STRINGS" "Z" : Cond) ∈ aTB := ch_in (ch_6 _ (List.mem_of_getElem? (i := 66) (by decide +kernel))) (by decide +kernel)
theorem jq_57 : (Cond.methodLink "java/lang/AbstractStringBuilder" 40 yJ0_coder_7d493 : Cond) ∈ aTB := ch_in (ch_6 _ (List.mem_of_getElem? (i := 156) (by decide +kernel))) (by decide +kernel)
theorem jq_58 : (Cond.methodLink "java/lang/String" 212 arraycopyName : Cond) ∈ aTB := ch_in (ch_6 _ (List.mem_of_getElem? (i := 180) (by decide +kernel))) (by decide +kernel)
theorem jq_59 : (Cond.code yJ5_inflateIfNeededFor_a7421 cJ5_inflateIfNeededFor_a7421 2 none : Cond) ∈ aTB := ch_in (ch_6 _ (List.mem_of_getElem? (i := 155) (rfl))) (by decide +kernel)
theorem jq_60 : (Cond.instanceMethod yJ5_inflateIfNeededFor_a7421 : Cond) ∈ aTB := ch_in (ch_6 _ (List.mem_of_getElem? (i := 154) (by decide +kernel))) (by decide +kernel)
theorem jq_61 : (Cond.methodLink "java/lang/AbstractStringBuilder" 397 yJ5_inflateIfNeededFor_a7421 : Cond) ∈ aTB := ch_in (ch_6 _ (List.mem_of_getElem? (i := 152) (by decide +kernel))) (by decide +kernel)
theorem jq_62 : (Cond.code yJ0_getBytes_840e7 cJ0_getBytes_840e7 4 none : Cond) ∈ aTB := ch_in (ch_6 _ (List.mem_of_getElem? (i := 179) (rfl))) (by decide +kernel)
theorem jq_63 : (Cond.instanceMethod yJ0_getBytes_840e7 : Cond) ∈ aTB := ch_in (ch_6 _ (List.mem_of_getElem? (i := 177) (by decide +kernel))) (by decide +kernel)
theorem jq_64 : (Cond.selects "java/lang/String" yJ0_getBytes_840e7 yJ0_getBytes_840e7 : Cond) ∈ aTB := ch_in (ch_6 _ (List.mem_of_getElem? (i := 178) (by decide +kernel))) (by decide +kernel)
theorem jq_65 : (Cond.methodLink "java/lang/AbstractStringBuilder" 399 yJ0_getBytes_840e7 : Cond) ∈ aTB := ch_in (ch_6 _ (List.mem_of_getElem? (i := 176) (by decide +kernel))) (by decide +kernel)
theorem jq_66 : (Cond.code yJ0_length_8abf5 cJ0_length_8abf5 1 (some .int) : Cond) ∈ aTB := ch_in (ch_5 _ (List.mem_of_getElem? (i := 13) (rfl))) (by decide +kernel)
theorem jq_67 : (Cond.instanceMethod yJ0_length_8abf5 : Cond) ∈ aTB := ch_in (ch_5 _ (List.mem_of_getElem? (i := 11) (by decide +kernel))) (by decide +kernel)
theorem jq_68 : (Cond.selects "java/lang/String" yJ0_length_8abf5 yJ0_length_8abf5 : Cond) ∈ aTB := ch_in (ch_5 _ (List.mem_of_getElem? (i := 12) (by decide +kernel))) (by decide +kernel)
theorem jq_69 : (Cond.methodLink "java/lang/AbstractStringBuilder" 32 yJ0_length_8abf5 : Cond) ∈ aTB := ch_in (ch_6 _ (List.mem_of_getElem? (i := 147) (by decide +kernel))) (by decide +kernel)
theorem jq_70 : (Cond.fieldLink "java/lang/AbstractStringBuilder" 79 "java/lang/AbstractStringBuilder" "count" "I" : Cond) ∈ aTB := ch_in (ch_6 _ (List.mem_of_getElem? (i := 77) (by decide +kernel))) (by decide +kernel)
theorem jq_71 : (Cond.code yJ5_ensureCapacityInternal_d00df cJ5_ensureCapacityInternal_d00df 3 none : Cond) ∈ aTB := ch_in (ch_6 _ (List.mem_of_getElem? (i := 101) (rfl))) (by decide +kernel)
theorem jq_72 : (Cond.instanceMethod yJ5_ensureCapacityInternal_d00df : Cond) ∈ aTB := ch_in (ch_6 _ (List.mem_of_getElem? (i := 100) (by decide +kernel))) (by decide +kernel)
theorem jq_73 : (Cond.methodLink "java/lang/AbstractStringBuilder" 100 yJ5_ensureCapacityInternal_d00df : Cond) ∈ aTB := ch_in (ch_6 _ (List.mem_of_getElem? (i := 98) (by decide +kernel))) (by decide +kernel)
theorem jq_74 : (Cond.code yJ5_putStringAt_47b60 cJ5_putStringAt_47b60 3 none : Cond) ∈ aTB := ch_in (ch_6 _ (List.mem_of_getElem? (i := 151) (rfl))) (by decide +kernel)
theorem jq_75 : (Cond.instanceMethod yJ5_putStringAt_47b60 : Cond) ∈ aTB := ch_in (ch_6 _ (List.mem_of_getElem? (i := 150) (by decide +kernel))) (by decide +kernel)
theorem jq_76 : (Cond.methodLink "java/lang/AbstractStringBuilder" 208 yJ5_putStringAt_47b60 : Cond) ∈ aTB := ch_in (ch_6 _ (List.mem_of_getElem? (i := 148) (by decide +kernel))) (by decide +kernel)
theorem jq_77 : (Cond.code yJ5_append_cf1ce cJ5_append_cf1ce 3 (some (.object "java/lang/AbstractStringBuilder")) : Cond) ∈ aTB := ch_in (ch_6 _ (List.mem_of_getElem? (i := 93) (rfl))) (by decide +kernel)
theorem jq_78 : (Cond.instanceMethod yJ5_append_cf1ce : Cond) ∈ aTB := ch_in (ch_6 _ (List.mem_of_getElem? (i := 92) (by decide +kernel))) (by decide +kernel)
theorem jq_79 : (Cond.methodLink "java/lang/StringBuilder" 29 yJ5_append_cf1ce : Cond) ∈ aTB := ch_in (ch_6 _ (List.mem_of_getElem? (i := 91) (by decide +kernel))) (by decide +kernel)
theorem jq_80 : (Cond.sameMethod "java/lang/AbstractStringBuilder" "java/lang/AbstractStringBuilder" "append" "(Ljava/lang/String;)Ljava/lang/AbstractStringBuilder;" : Cond) ∈ aTB := ch_in (ch_7 _ (List.mem_of_getElem? (i := 50) (by decide +kernel))) (by decide +kernel)
theorem jq_81 : (Cond.superclass "java/lang/StringBuilder" "java/lang/AbstractStringBuilder" : Cond) ∈ aTB := ch_in (ch_6 _ (List.mem_of_getElem? (i := 86) (by decide +kernel))) (by decide +kernel)
theorem jq_82 : (Cond.fieldLink "java/lang/Integer" 83 "java/lang/Integer" "DigitOnes" "[B" : Cond) ∈ aTB := ch_in (ch_6 _ (List.mem_of_getElem? (i := 195) (by decide +kernel))) (by decide +kernel)
theorem jq_83 : (Cond.fieldLink "java/lang/Integer" 87 "java/lang/Integer" "DigitTens" "[B" : Cond) ∈ aTB := ch_in (ch_6 _ (List.mem_of_getElem? (i := 197) (by decide +kernel))) (by decide +kernel)
theorem jq_84 : (Cond.code yJ6_stringSize_0f7a4 cJ6_stringSize_0f7a4 4 (some .int) : Cond) ∈ aTB := ch_in (ch_6 _ (List.mem_of_getElem? (i := 191) (rfl))) (by decide +kernel)
theorem jq_85 : (Cond.static yJ6_stringSize_0f7a4 : Cond) ∈ aTB := ch_in (ch_6 _ (List.mem_of_getElem? (i := 190) (by decide +kernel))) (by decide +kernel)
theorem jq_86 : (Cond.initialized "java/lang/Integer" : Cond) ∈ aTB := ch_in (ch_1 _ (List.mem_of_getElem? (i := 24) (by decide +kernel))) (by decide +kernel)
theorem jq_87 : (Cond.methodLink "java/lang/AbstractStringBuilder" 245 yJ6_stringSize_0f7a4 : Cond) ∈ aTB := ch_in (ch_6 _ (List.mem_of_getElem? (i := 189) (by decide +kernel))) (by decide +kernel)
theorem jq_88 : (Cond.code yJ5_isLatin1_aae02 cJ5_isLatin1_aae02 1 (some .boolean) : Cond) ∈ aTB := ch_in (ch_6 _ (List.mem_of_getElem? (i := 131) (rfl))) (by decide +kernel)
theorem jq_89 : (Cond.instanceMethod yJ5_isLatin1_aae02 : Cond) ∈ aTB := ch_in (ch_6 _ (List.mem_of_getElem? (i := 128) (by decide +kernel))) (by decide +kernel)
theorem jq_90 : (Cond.selects "java/lang/StringBuilder" yJ5_isLatin1_aae02 yJ5_isLatin1_aae02 : Cond) ∈ aTB := ch_in (ch_6 _ (List.mem_of_getElem? (i := 130) (by decide +kernel))) (by decide +kernel)
theorem jq_91 : (Cond.methodLink "java/lang/AbstractStringBuilder" 83 yJ5_isLatin1_aae02 : Cond) ∈ aTB := ch_in (ch_6 _ (List.mem_of_getElem? (i := 127) (by decide +kernel))) (by decide +kernel)
theorem jq_92 : (Cond.code yJ6_getChars_ba4f3 cJ6_getChars_ba4f3 7 (some .int) : Cond) ∈ aTB := ch_in (ch_6 _ (List.mem_of_getElem? (i := 194) (rfl))) (by decide +kernel)
theorem jq_93 : (Cond.static yJ6_getChars_ba4f3 : Cond) ∈ aTB := ch_in (ch_6 _ (List.mem_of_getElem? (i := 193) (by decide +kernel))) (by decide +kernel)
theorem jq_94 : (Cond.methodLink "java/lang/AbstractStringBuilder" 248 yJ6_getChars_ba4f3 : Cond) ∈ aTB := ch_in (ch_6 _ (List.mem_of_getElem? (i := 192) (by decide +kernel))) (by decide +kernel)
theorem jq_95 : (Cond.code yJ5_append_c97b9 cJ5_append_c97b9 4 (some (.object "java/lang/AbstractStringBuilder")) : Cond) ∈ aTB := ch_in (ch_6 _ (List.mem_of_getElem? (i := 188) (rfl))) (by decide +kernel)
theorem jq_96 : (Cond.instanceMethod yJ5_append_c97b9 : Cond) ∈ aTB := ch_in (ch_6 _ (List.mem_of_getElem? (i := 187) (by decide +kernel))) (by decide +kernel)
theorem jq_97 : (Cond.methodLink "java/lang/StringBuilder" 53 yJ5_append_c97b9 : Cond) ∈ aTB := ch_in (ch_6 _ (List.mem_of_getElem? (i := 186) (by decide +kernel))) (by decide +kernel)
theorem jq_98 : (Cond.sameMethod "java/lang/AbstractStringBuilder" "java/lang/AbstractStringBuilder" "append" "(I)Ljava/lang/AbstractStringBuilder;" : Cond) ∈ aTB := ch_in (ch_7 _ (List.mem_of_getElem? (i := 57) (by decide +kernel))) (by decide +kernel)
theorem jq_99 : (Cond.laysFinal "java/lang/String" "java/lang/String" "value" "[B" : Cond) ∈ aTB := ch_in (ch_7 _ (List.mem_of_getElem? (i := 15) (by decide +kernel))) (by decide +kernel)
theorem jq_100 : (Cond.laysFinal "java/lang/String" "java/lang/String" "coder" "B" : Cond) ∈ aTB := ch_in (ch_7 _ (List.mem_of_getElem? (i := 17) (by decide +kernel))) (by decide +kernel)
theorem jq_101 : (Cond.lays "java/lang/String" "java/lang/String" "hash" "I" : Cond) ∈ aTB := ch_in (ch_7 _ (List.mem_of_getElem? (i := 19) (by decide +kernel))) (by decide +kernel)
theorem jq_102 : (Cond.lays "java/lang/String" "java/lang/String" "hashIsZero" "Z" : Cond) ∈ aTB := ch_in (ch_7 _ (List.mem_of_getElem? (i := 21) (by decide +kernel))) (by decide +kernel)
theorem jq_103 : (Cond.methodLink "java/lang/AbstractStringBuilder" 3 objectInit : Cond) ∈ aTB := ch_in (ch_6 _ (List.mem_of_getElem? (i := 65) (by decide +kernel))) (by decide +kernel)
theorem jq_104 : (Cond.instanceMethod objectInit : Cond) ∈ aTB := ch_in (ch_1 _ (List.mem_of_getElem? (i := 31) (by decide +kernel))) (by decide +kernel)
theorem jq_105 : (Cond.code objectInit ⟨#[0xb1]⟩ 1 none : Cond) ∈ aTB := ch_in (ch_1 _ (List.mem_of_getElem? (i := 32) (rfl))) (by decide +kernel)
theorem jq_106 : (Cond.code yJ5_init_d00df cJ5_init_d00df 2 none : Cond) ∈ aTB := ch_in (ch_6 _ (List.mem_of_getElem? (i := 64) (rfl))) (by decide +kernel)
theorem jq_107 : (Cond.instanceMethod yJ5_init_d00df : Cond) ∈ aTB := ch_in (ch_6 _ (List.mem_of_getElem? (i := 63) (by decide +kernel))) (by decide +kernel)
theorem jq_108 : (Cond.methodLink "java/lang/StringBuilder" 1 yJ5_init_d00df : Cond) ∈ aTB := ch_in (ch_6 _ (List.mem_of_getElem? (i := 62) (by decide +kernel))) (by decide +kernel)
theorem jq_109 : (Cond.code yJ7_checkLength_df160 cJ7_checkLength_df160 2 none : Cond) ∈ aTB := ch_in (ch_7 _ (List.mem_of_getElem? (i := 2) (rfl))) (by decide +kernel)
theorem jq_110 : (Cond.static yJ7_checkLength_df160 : Cond) ∈ aTB := ch_in (ch_7 _ (List.mem_of_getElem? (i := 1) (by decide +kernel))) (by decide +kernel)
theorem jq_111 : (Cond.methodLink "java/util/Arrays" 343 yJ7_checkLength_df160 : Cond) ∈ aTB := ch_in (ch_7 _ (List.mem_of_getElem? (i := 0) (by decide +kernel))) (by decide +kernel)
theorem jq_112 : (Cond.methodLink "java/util/Arrays" 310 ⟨"[B", "clone", "()Ljava/lang/Object;"⟩ : Cond) ∈ aTB := ch_in (ch_6 _ (List.mem_of_getElem? (i := 118) (by decide +kernel))) (by decide +kernel)
theorem jq_113 : (Cond.sameMethod "[B" "java/lang/Object" "clone" "()Ljava/lang/Object;" : Cond) ∈ aTB := ch_in (ch_6 _ (List.mem_of_getElem? (i := 119) (by decide +kernel))) (by decide +kernel)
theorem jq_114 : (Cond.native ⟨"java/lang/Object", "clone", "()Ljava/lang/Object;"⟩ : Cond) ∈ aTB := ch_in (ch_6 _ (List.mem_of_getElem? (i := 120) (by decide +kernel))) (by decide +kernel)
theorem jq_115 : (Cond.instanceMethod ⟨"java/lang/Object", "clone", "()Ljava/lang/Object;"⟩ : Cond) ∈ aTB := ch_in (ch_6 _ (List.mem_of_getElem? (i := 121) (by decide +kernel))) (by decide +kernel)
theorem jq_116 : (Cond.selects "[B" ⟨"[B", "clone", "()Ljava/lang/Object;"⟩ ⟨"java/lang/Object", "clone", "()Ljava/lang/Object;"⟩ : Cond) ∈ aTB := ch_in (ch_6 _ (List.mem_of_getElem? (i := 122) (by decide +kernel))) (by decide +kernel)
theorem jq_117 : (Cond.classLink "java/util/Arrays" 311 "[B" : Cond) ∈ aTB := ch_in (ch_6 _ (List.mem_of_getElem? (i := 124) (by decide +kernel))) (by decide +kernel)
theorem jq_118 : (Cond.code yJ7_copyOfRangeByte_39247 cJ7_copyOfRangeByte_39247 5 (some (.array .byte)) : Cond) ∈ aTB := ch_in (ch_6 _ (List.mem_of_getElem? (i := 239) (rfl))) (by decide +kernel)
theorem jq_119 : (Cond.static yJ7_copyOfRangeByte_39247 : Cond) ∈ aTB := ch_in (ch_6 _ (List.mem_of_getElem? (i := 238) (by decide +kernel))) (by decide +kernel)
theorem jq_120 : (Cond.methodLink "java/util/Arrays" 339 yJ7_copyOfRangeByte_39247 : Cond) ∈ aTB := ch_in (ch_6 _ (List.mem_of_getElem? (i := 237) (by decide +kernel))) (by decide +kernel)
theorem jq_121 : (Cond.code yJ5_length_8abf5 cJ5_length_8abf5 1 (some .int) : Cond) ∈ aTB := ch_in (ch_6 _ (List.mem_of_getElem? (i := 232) (rfl))) (by decide +kernel)
theorem jq_122 : (Cond.instanceMethod yJ5_length_8abf5 : Cond) ∈ aTB := ch_in (ch_6 _ (List.mem_of_getElem? (i := 226) (by decide +kernel))) (by decide +kernel)
theorem jq_123 : (Cond.methodLink "java/lang/StringBuilder" 343 yJ5_length_8abf5 : Cond) ∈ aTB := ch_in (ch_6 _ (List.mem_of_getElem? (i := 231) (by decide +kernel))) (by decide +kernel)
theorem jq_124 : (Cond.sameMethod "java/lang/AbstractStringBuilder" "java/lang/AbstractStringBuilder" "length" "()I" : Cond) ∈ aTB := ch_in (ch_6 _ (List.mem_of_getElem? (i := 227) (by decide +kernel))) (by decide +kernel)
theorem jq_125 : (Cond.methodLink "java/lang/String" 1 objectInit : Cond) ∈ aTB := ch_in (ch_6 _ (List.mem_of_getElem? (i := 219) (by decide +kernel))) (by decide +kernel)
theorem jq_126 : (Cond.code yJ5_getValue_6d5f1 cJ5_getValue_6d5f1 1 (some (.array .byte)) : Cond) ∈ aTB := ch_in (ch_6 _ (List.mem_of_getElem? (i := 224) (rfl))) (by decide +kernel)
theorem jq_127 : (Cond.instanceMethod yJ5_getValue_6d5f1 : Cond) ∈ aTB := ch_in (ch_6 _ (List.mem_of_getElem? (i := 221) (by decide +kernel))) (by decide +kernel)
theorem jq_128 : (Cond.selects "java/lang/StringBuilder" yJ5_getValue_6d5f1 yJ5_getValue_6d5f1 : Cond) ∈ aTB := ch_in (ch_6 _ (List.mem_of_getElem? (i := 223) (by decide +kernel))) (by decide +kernel)
theorem jq_129 : (Cond.methodLink "java/lang/String" 552 yJ5_getValue_6d5f1 : Cond) ∈ aTB := ch_in (ch_6 _ (List.mem_of_getElem? (i := 220) (by decide +kernel))) (by decide +kernel)
theorem jq_130 : (Cond.code yJ4_length_8abf5 cJ4_length_8abf5 1 (some .int) : Cond) ∈ aTB := ch_in (ch_6 _ (List.mem_of_getElem? (i := 230) (rfl))) (by decide +kernel)
theorem jq_131 : (Cond.instanceMethod yJ4_length_8abf5 : Cond) ∈ aTB := ch_in (ch_6 _ (List.mem_of_getElem? (i := 229) (by decide +kernel))) (by decide +kernel)
theorem jq_132 : (Cond.initialized "java/lang/StringBuilder" : Cond) ∈ aTB := ch_in (ch_1 _ (List.mem_of_getElem? (i := 15) (by decide +kernel))) (by decide +kernel)
theorem jq_133 : (Cond.methodLink "java/lang/String" 549 yJ5_length_8abf5 : Cond) ∈ aTB := ch_in (ch_6 _ (List.mem_of_getElem? (i := 225) (by decide +kernel))) (by decide +kernel)
theorem jq_134 : (Cond.selects "java/lang/StringBuilder" yJ5_length_8abf5 yJ4_length_8abf5 : Cond) ∈ aTB := ch_in (ch_6 _ (List.mem_of_getElem? (i := 228) (by decide +kernel))) (by decide +kernel)
theorem jq_135 : (Cond.methodLink "java/lang/String" 1047 yJ5_isLatin1_aae02 : Cond) ∈ aTB := ch_in (ch_6 _ (List.mem_of_getElem? (i := 233) (by decide +kernel))) (by decide +kernel)
theorem jq_136 : (Cond.code yJ7_copyOfRange_39247 cJ7_copyOfRange_39247 3 (some (.array .byte)) : Cond) ∈ aTB := ch_in (ch_6 _ (List.mem_of_getElem? (i := 236) (rfl))) (by decide +kernel)
theorem jq_137 : (Cond.static yJ7_copyOfRange_39247 : Cond) ∈ aTB := ch_in (ch_6 _ (List.mem_of_getElem? (i := 235) (by decide +kernel))) (by decide +kernel)
theorem jq_138 : (Cond.methodLink "java/lang/String" 54 yJ7_copyOfRange_39247 : Cond) ∈ aTB := ch_in (ch_6 _ (List.mem_of_getElem? (i := 234) (by decide +kernel))) (by decide +kernel)
theorem jq_139 : (Cond.code yJ0_init_db425 cJ0_init_db425 5 none : Cond) ∈ aTB := ch_in (ch_6 _ (List.mem_of_getElem? (i := 218) (rfl))) (by decide +kernel)
theorem jq_140 : (Cond.instanceMethod yJ0_init_db425 : Cond) ∈ aTB := ch_in (ch_6 _ (List.mem_of_getElem? (i := 217) (by decide +kernel))) (by decide +kernel)
theorem jq_141 : (Cond.methodLink "java/lang/String" 489 yJ0_init_db425 : Cond) ∈ aTB := ch_in (ch_6 _ (List.mem_of_getElem? (i := 216) (by decide +kernel))) (by decide +kernel)
theorem jq_142 : (Cond.classLink "java/lang/StringBuilder" 18 "java/lang/String" : Cond) ∈ aTB := ch_in (ch_6 _ (List.mem_of_getElem? (i := 211) (by decide +kernel))) (by decide +kernel)
theorem jq_143 : (Cond.instantiable "java/lang/String" 4 : Cond) ∈ aTB := ch_in (ch_6 _ (List.mem_of_getElem? (i := 212) (by decide +kernel))) (by decide +kernel)
theorem jq_144 : (Cond.code yJ0_init_81219 cJ0_init_81219 2 none : Cond) ∈ aTB := ch_in (ch_6 _ (List.mem_of_getElem? (i := 215) (rfl))) (by decide +kernel)
theorem jq_145 : (Cond.instanceMethod yJ0_init_81219 : Cond) ∈ aTB := ch_in (ch_6 _ (List.mem_of_getElem? (i := 214) (by decide +kernel))) (by decide +kernel)
theorem jq_146 : (Cond.methodLink "java/lang/StringBuilder" 137 yJ0_init_81219 : Cond) ∈ aTB := ch_in (ch_6 _ (List.mem_of_getElem? (i := 213) (by decide +kernel))) (by decide +kernel)
theorem jq_147 : (Cond.constant "FloatTownsLaw" 7 2147483647 : Cond) ∈ aTB := ch_in (ch_5 _ (List.mem_of_getElem? (i := 6) (by decide +kernel))) (by decide +kernel)
theorem jq_148 : (Cond.code yL_cell cL_cell 2 (some .int) : Cond) ∈ aTB := ch_in (ch_5 _ (List.mem_of_getElem? (i := 2) (rfl))) (by decide +kernel)
theorem jq_149 : (Cond.static yL_cell : Cond) ∈ aTB := ch_in (ch_5 _ (List.mem_of_getElem? (i := 1) (by decide +kernel))) (by decide +kernel)
theorem jq_150 : (Cond.initialized "FloatTownsLaw" : Cond) ∈ aTB := ch_in (ch_1 _ (List.mem_of_getElem? (i := 0) (by decide +kernel))) (by decide +kernel)
theorem jq_151 : (Cond.methodLink "FloatTownsLaw" 29 yL_cell : Cond) ∈ aTB := ch_in (ch_5 _ (List.mem_of_getElem? (i := 0) (by decide +kernel))) (by decide +kernel)
theorem jq_152 : (Cond.code yL_in cL_in 2 (some .int) : Cond) ∈ aTB := ch_in (ch_5 _ (List.mem_of_getElem? (i := 5) (rfl))) (by decide +kernel)
theorem jq_153 : (Cond.static yL_in : Cond) ∈ aTB := ch_in (ch_5 _ (List.mem_of_getElem? (i := 4) (by decide +kernel))) (by decide +kernel)
theorem jq_154 : (Cond.methodLink "FloatTownsLaw" 35 yL_in : Cond) ∈ aTB := ch_in (ch_5 _ (List.mem_of_getElem? (i := 3) (by decide +kernel))) (by decide +kernel)
theorem jq_155 : (Cond.methodLink "FloatTownsLaw" 8 yJ0_length_8abf5 : Cond) ∈ aTB := ch_in (ch_5 _ (List.mem_of_getElem? (i := 10) (by decide +kernel))) (by decide +kernel)
theorem jq_156 : (Cond.code yJ0_charAt_5068e cJ0_charAt_5068e 2 (some .char) : Cond) ∈ aTB := ch_in (ch_5 _ (List.mem_of_getElem? (i := 23) (rfl))) (by decide +kernel)
theorem jq_157 : (Cond.instanceMethod yJ0_charAt_5068e : Cond) ∈ aTB := ch_in (ch_5 _ (List.mem_of_getElem? (i := 21) (by decide +kernel))) (by decide +kernel)
theorem jq_158 : (Cond.selects "java/lang/String" yJ0_charAt_5068e yJ0_charAt_5068e : Cond) ∈ aTB := ch_in (ch_5 _ (List.mem_of_getElem? (i := 22) (by decide +kernel))) (by decide +kernel)
theorem jq_159 : (Cond.methodLink "FloatTownsLaw" 14 yJ0_charAt_5068e : Cond) ∈ aTB := ch_in (ch_5 _ (List.mem_of_getElem? (i := 20) (by decide +kernel))) (by decide +kernel)
theorem jq_160 : (Cond.arrayClass .int : Cond) ∈ aTB := ch_in (ch_1 _ (List.mem_of_getElem? (i := 83) (by decide +kernel))) (by decide +kernel)
theorem jq_161 : (Cond.code yX11_feed cX11_feed 6 (some .int) : Cond) ∈ aTB := ch_in (ch_5 _ (List.mem_of_getElem? (i := 61) (rfl))) (by decide +kernel)
theorem jq_162 : (Cond.instanceMethod yX11_feed : Cond) ∈ aTB := ch_in (ch_5 _ (List.mem_of_getElem? (i := 59) (by decide +kernel))) (by decide +kernel)
theorem jq_163 : (Cond.selects "FloatTowns" yX11_feed yX11_feed : Cond) ∈ aTB := ch_in (ch_5 _ (List.mem_of_getElem? (i := 60) (by decide +kernel))) (by decide +kernel)
theorem jq_164 : (Cond.initialized "FloatTowns" : Cond) ∈ aTB := ch_in (ch_1 _ (List.mem_of_getElem? (i := 1) (by decide +kernel))) (by decide +kernel)
theorem jq_165 : (Cond.methodLink "FloatTownsLaw" 18 yX11_feed : Cond) ∈ aTB := ch_in (ch_5 _ (List.mem_of_getElem? (i := 58) (by decide +kernel))) (by decide +kernel)
theorem jq_166 : (Cond.code yX11_text cX11_text 4 (some .int) : Cond) ∈ aTB := ch_in (ch_5 _ (List.mem_of_getElem? (i := 77) (rfl))) (by decide +kernel)
theorem jq_167 : (Cond.instanceMethod yX11_text : Cond) ∈ aTB := ch_in (ch_5 _ (List.mem_of_getElem? (i := 75) (by decide +kernel))) (by decide +kernel)
theorem jq_168 : (Cond.selects "FloatTowns" yX11_text yX11_text : Cond) ∈ aTB := ch_in (ch_5 _ (List.mem_of_getElem? (i := 76) (by decide +kernel))) (by decide +kernel)
theorem jq_169 : (Cond.methodLink "FloatTownsLaw" 24 yX11_text : Cond) ∈ aTB := ch_in (ch_5 _ (List.mem_of_getElem? (i := 74) (by decide +kernel))) (by decide +kernel)
theorem jd_J9_max_7cf53_0 : decode cJ9_max_7cf53 0 = .ok (.iload_n 0, 1) := by decide +kernel
theorem jd_J9_max_7cf53_1 : decode cJ9_max_7cf53 1 = .ok (.iload_n 1, 1) := by decide +kernel
theorem jd_J9_max_7cf53_2 : decode cJ9_max_7cf53 2 = .ok (.if_icmp .lt 7, 3) := by decide +kernel
theorem jd_J9_max_7cf53_5 : decode cJ9_max_7cf53 5 = .ok (.iload_n 0, 1) := by decide +kernel
theorem jd_J9_max_7cf53_6 : decode cJ9_max_7cf53 6 = .ok (.goto 4, 3) := by decide +kernel
theorem jd_J9_max_7cf53_9 : decode cJ9_max_7cf53 9 = .ok (.iload_n 1, 1) := by decide +kernel
theorem jd_J9_max_7cf53_10 : decode cJ9_max_7cf53 10 = .ok (.ireturn, 1) := by decide +kernel
theorem jd_J9_min_7cf53_0 : decode cJ9_min_7cf53 0 = .ok (.iload_n 0, 1) := by decide +kernel
theorem jd_J9_min_7cf53_1 : decode cJ9_min_7cf53 1 = .ok (.iload_n 1, 1) := by decide +kernel
theorem jd_J9_min_7cf53_2 : decode cJ9_min_7cf53 2 = .ok (.if_icmp .gt 7, 3) := by decide +kernel
theorem jd_J9_min_7cf53_5 : decode cJ9_min_7cf53 5 = .ok (.iload_n 0, 1) := by decide +kernel
theorem jd_J9_min_7cf53_6 : decode cJ9_min_7cf53 6 = .ok (.goto 4, 3) := by decide +kernel
theorem jd_J9_min_7cf53_9 : decode cJ9_min_7cf53 9 = .ok (.iload_n 1, 1) := by decide +kernel
theorem jd_J9_min_7cf53_10 : decode cJ9_min_7cf53 10 = .ok (.ireturn, 1) := by decide +kernel
theorem jd_J8_newLength_cabcc_0 : decode cJ8_newLength_cabcc 0 = .ok (.iload_n 0, 1) := by decide +kernel
theorem jd_J8_newLength_cabcc_1 : decode cJ8_newLength_cabcc 1 = .ok (.iload_n 1, 1) := by decide +kernel
theorem jd_J8_newLength_cabcc_2 : decode cJ8_newLength_cabcc 2 = .ok (.iload_n 2, 1) := by decide +kernel
theorem jd_J8_newLength_cabcc_3 : decode cJ8_newLength_cabcc 3 = .ok (.invokestatic 194, 3) := by decide +kernel
theorem jd_J8_newLength_cabcc_6 : decode cJ8_newLength_cabcc 6 = .ok (.iadd, 1) := by decide +kernel
theorem jd_J8_newLength_cabcc_7 : decode cJ8_newLength_cabcc 7 = .ok (.istore_n 3, 1) := by decide +kernel
theorem jd_J8_newLength_cabcc_8 : decode cJ8_newLength_cabcc 8 = .ok (.iconst 0, 1) := by decide +kernel
theorem jd_J8_newLength_cabcc_9 : decode cJ8_newLength_cabcc 9 = .ok (.iload_n 3, 1) := by decide +kernel
theorem jd_J8_newLength_cabcc_10 : decode cJ8_newLength_cabcc 10 = .ok (.if_icmp .ge 11, 3) := by decide +kernel
theorem jd_J8_newLength_cabcc_13 : decode cJ8_newLength_cabcc 13 = .ok (.iload_n 3, 1) := by decide +kernel
theorem jd_J8_newLength_cabcc_14 : decode cJ8_newLength_cabcc 14 = .ok (.ldc 200, 2) := by decide +kernel
theorem jd_J8_newLength_cabcc_16 : decode cJ8_newLength_cabcc 16 = .ok (.if_icmp .gt 5, 3) := by decide +kernel
theorem jd_J8_newLength_cabcc_19 : decode cJ8_newLength_cabcc 19 = .ok (.iload_n 3, 1) := by decide +kernel
theorem jd_J8_newLength_cabcc_20 : decode cJ8_newLength_cabcc 20 = .ok (.ireturn, 1) := by decide +kernel
theorem jd_J0_coder_7d493_0 : decode cJ0_coder_7d493 0 = .ok (.getstatic 38, 3) := by decide +kernel
theorem jd_J0_coder_7d493_3 : decode cJ0_coder_7d493 3 = .ok (.ifCond .eq 10, 3) := by decide +kernel
theorem jd_J0_coder_7d493_6 : decode cJ0_coder_7d493 6 = .ok (.aload_n 0, 1) := by decide +kernel
theorem jd_J0_coder_7d493_7 : decode cJ0_coder_7d493 7 = .ok (.getfield 15, 3) := by decide +kernel
theorem jd_J0_coder_7d493_10 : decode cJ0_coder_7d493 10 = .ok (.goto 4, 3) := by decide +kernel
theorem jd_J0_coder_7d493_14 : decode cJ0_coder_7d493 14 = .ok (.ireturn, 1) := by decide +kernel
theorem jd_J0_isLatin1_aae02_0 : decode cJ0_isLatin1_aae02 0 = .ok (.getstatic 38, 3) := by decide +kernel
theorem jd_J0_isLatin1_aae02_3 : decode cJ0_isLatin1_aae02 3 = .ok (.ifCond .eq 14, 3) := by decide +kernel
theorem jd_J0_isLatin1_aae02_6 : decode cJ0_isLatin1_aae02 6 = .ok (.aload_n 0, 1) := by decide +kernel
theorem jd_J0_isLatin1_aae02_7 : decode cJ0_isLatin1_aae02 7 = .ok (.getfield 15, 3) := by decide +kernel
theorem jd_J0_isLatin1_aae02_10 : decode cJ0_isLatin1_aae02 10 = .ok (.ifCond .ne 7, 3) := by decide +kernel
theorem jd_J0_isLatin1_aae02_13 : decode cJ0_isLatin1_aae02 13 = .ok (.iconst 1, 1) := by decide +kernel
theorem jd_J0_isLatin1_aae02_14 : decode cJ0_isLatin1_aae02 14 = .ok (.goto 4, 3) := by decide +kernel
theorem jd_J0_isLatin1_aae02_18 : decode cJ0_isLatin1_aae02 18 = .ok (.ireturn, 1) := by decide +kernel
theorem jd_J0_length_8abf5_0 : decode cJ0_length_8abf5 0 = .ok (.aload_n 0, 1) := by decide +kernel
theorem jd_J0_length_8abf5_1 : decode cJ0_length_8abf5 1 = .ok (.getfield 9, 3) := by decide +kernel
theorem jd_J0_length_8abf5_4 : decode cJ0_length_8abf5 4 = .ok (.arraylength, 1) := by decide +kernel
theorem jd_J0_length_8abf5_5 : decode cJ0_length_8abf5 5 = .ok (.aload_n 0, 1) := by decide +kernel
theorem jd_J0_length_8abf5_6 : decode cJ0_length_8abf5 6 = .ok (.invokevirtual 335, 3) := by decide +kernel
theorem jd_J0_length_8abf5_9 : decode cJ0_length_8abf5 9 = .ok (.ishr, 1) := by decide +kernel
theorem jd_J0_length_8abf5_10 : decode cJ0_length_8abf5 10 = .ok (.ireturn, 1) := by decide +kernel
theorem jd_J3_checkIndex_8e157_0 : decode cJ3_checkIndex_8e157 0 = .ok (.iload_n 0, 1) := by decide +kernel
theorem jd_J3_checkIndex_8e157_1 : decode cJ3_checkIndex_8e157 1 = .ok (.ifCond .lt 8, 3) := by decide +kernel
theorem jd_J3_checkIndex_8e157_4 : decode cJ3_checkIndex_8e157 4 = .ok (.iload_n 0, 1) := by decide +kernel
theorem jd_J3_checkIndex_8e157_5 : decode cJ3_checkIndex_8e157 5 = .ok (.iload_n 1, 1) := by decide +kernel
theorem jd_J3_checkIndex_8e157_6 : decode cJ3_checkIndex_8e157 6 = .ok (.if_icmp .lt 10, 3) := by decide +kernel
theorem jd_J3_checkIndex_8e157_16 : decode cJ3_checkIndex_8e157 16 = .ok (.iload_n 0, 1) := by decide +kernel
theorem jd_J3_checkIndex_8e157_17 : decode cJ3_checkIndex_8e157 17 = .ok (.ireturn, 1) := by decide +kernel
theorem jd_J0_checkIndex_df160_0 : decode cJ0_checkIndex_df160 0 = .ok (.iload_n 0, 1) := by decide +kernel
theorem jd_J0_checkIndex_df160_1 : decode cJ0_checkIndex_df160 1 = .ok (.iload_n 1, 1) := by decide +kernel
theorem jd_J0_checkIndex_df160_2 : decode cJ0_checkIndex_df160 2 = .ok (.getstatic 1053, 3) := by decide +kernel
theorem jd_J0_checkIndex_df160_5 : decode cJ0_checkIndex_df160 5 = .ok (.invokestatic 1059, 3) := by decide +kernel
theorem jd_J0_checkIndex_df160_8 : decode cJ0_checkIndex_df160 8 = .ok (.pop, 1) := by decide +kernel
theorem jd_J0_checkIndex_df160_9 : decode cJ0_checkIndex_df160 9 = .ok (.return_, 1) := by decide +kernel
theorem jd_J1_charAt_3b067_0 : decode cJ1_charAt_3b067 0 = .ok (.iload_n 1, 1) := by decide +kernel
theorem jd_J1_charAt_3b067_1 : decode cJ1_charAt_3b067 1 = .ok (.aload_n 0, 1) := by decide +kernel
theorem jd_J1_charAt_3b067_2 : decode cJ1_charAt_3b067 2 = .ok (.arraylength, 1) := by decide +kernel
theorem jd_J1_charAt_3b067_3 : decode cJ1_charAt_3b067 3 = .ok (.invokestatic 9, 3) := by decide +kernel
theorem jd_J1_charAt_3b067_6 : decode cJ1_charAt_3b067 6 = .ok (.aload_n 0, 1) := by decide +kernel
theorem jd_J1_charAt_3b067_7 : decode cJ1_charAt_3b067 7 = .ok (.iload_n 1, 1) := by decide +kernel
theorem jd_J1_charAt_3b067_8 : decode cJ1_charAt_3b067 8 = .ok (.baload, 1) := by decide +kernel
theorem jd_J1_charAt_3b067_9 : decode cJ1_charAt_3b067 9 = .ok (.sipush 255, 3) := by decide +kernel
theorem jd_J1_charAt_3b067_12 : decode cJ1_charAt_3b067 12 = .ok (.iand, 1) := by decide +kernel
theorem jd_J1_charAt_3b067_13 : decode cJ1_charAt_3b067 13 = .ok (.i2c, 1) := by decide +kernel
theorem jd_J1_charAt_3b067_14 : decode cJ1_charAt_3b067 14 = .ok (.ireturn, 1) := by decide +kernel
theorem jd_J0_charAt_5068e_0 : decode cJ0_charAt_5068e 0 = .ok (.aload_n 0, 1) := by decide +kernel
theorem jd_J0_charAt_5068e_1 : decode cJ0_charAt_5068e 1 = .ok (.invokevirtual 492, 3) := by decide +kernel
theorem jd_J0_charAt_5068e_4 : decode cJ0_charAt_5068e 4 = .ok (.ifCond .eq 12, 3) := by decide +kernel
theorem jd_J0_charAt_5068e_7 : decode cJ0_charAt_5068e 7 = .ok (.aload_n 0, 1) := by decide +kernel
theorem jd_J0_charAt_5068e_8 : decode cJ0_charAt_5068e 8 = .ok (.getfield 9, 3) := by decide +kernel
theorem jd_J0_charAt_5068e_11 : decode cJ0_charAt_5068e 11 = .ok (.iload_n 1, 1) := by decide +kernel
theorem jd_J0_charAt_5068e_12 : decode cJ0_charAt_5068e 12 = .ok (.invokestatic 495, 3) := by decide +kernel
theorem jd_J0_charAt_5068e_15 : decode cJ0_charAt_5068e 15 = .ok (.ireturn, 1) := by decide +kernel
theorem jd_J5_newCapacity_0f7a4_0 : decode cJ5_newCapacity_0f7a4 0 = .ok (.aload_n 0, 1) := by decide +kernel
theorem jd_J5_newCapacity_0f7a4_1 : decode cJ5_newCapacity_0f7a4 1 = .ok (.getfield 15, 3) := by decide +kernel
theorem jd_J5_newCapacity_0f7a4_4 : decode cJ5_newCapacity_0f7a4 4 = .ok (.arraylength, 1) := by decide +kernel
theorem jd_J5_newCapacity_0f7a4_5 : decode cJ5_newCapacity_0f7a4 5 = .ok (.istore_n 2, 1) := by decide +kernel
theorem jd_J5_newCapacity_0f7a4_6 : decode cJ5_newCapacity_0f7a4 6 = .ok (.iload_n 1, 1) := by decide +kernel
theorem jd_J5_newCapacity_0f7a4_7 : decode cJ5_newCapacity_0f7a4 7 = .ok (.aload_n 0, 1) := by decide +kernel
theorem jd_J5_newCapacity_0f7a4_8 : decode cJ5_newCapacity_0f7a4 8 = .ok (.getfield 22, 3) := by decide +kernel
theorem jd_J5_newCapacity_0f7a4_11 : decode cJ5_newCapacity_0f7a4 11 = .ok (.ishl, 1) := by decide +kernel
theorem jd_J5_newCapacity_0f7a4_12 : decode cJ5_newCapacity_0f7a4 12 = .ok (.istore_n 3, 1) := by decide +kernel
theorem jd_J5_newCapacity_0f7a4_13 : decode cJ5_newCapacity_0f7a4 13 = .ok (.iload_n 3, 1) := by decide +kernel
theorem jd_J5_newCapacity_0f7a4_14 : decode cJ5_newCapacity_0f7a4 14 = .ok (.iload_n 2, 1) := by decide +kernel
theorem jd_J5_newCapacity_0f7a4_15 : decode cJ5_newCapacity_0f7a4 15 = .ok (.isub, 1) := by decide +kernel
theorem jd_J5_newCapacity_0f7a4_16 : decode cJ5_newCapacity_0f7a4 16 = .ok (.istore 4, 2) := by decide +kernel
theorem jd_J5_newCapacity_0f7a4_18 : decode cJ5_newCapacity_0f7a4 18 = .ok (.iload_n 2, 1) := by decide +kernel
theorem jd_J5_newCapacity_0f7a4_19 : decode cJ5_newCapacity_0f7a4 19 = .ok (.iload 4, 2) := by decide +kernel
theorem jd_J5_newCapacity_0f7a4_21 : decode cJ5_newCapacity_0f7a4 21 = .ok (.iload_n 2, 1) := by decide +kernel
theorem jd_J5_newCapacity_0f7a4_22 : decode cJ5_newCapacity_0f7a4 22 = .ok (.iconst 2, 1) := by decide +kernel
theorem jd_J5_newCapacity_0f7a4_23 : decode cJ5_newCapacity_0f7a4 23 = .ok (.aload_n 0, 1) := by decide +kernel
theorem jd_J5_newCapacity_0f7a4_24 : decode cJ5_newCapacity_0f7a4 24 = .ok (.getfield 22, 3) := by decide +kernel
theorem jd_J5_newCapacity_0f7a4_27 : decode cJ5_newCapacity_0f7a4 27 = .ok (.ishl, 1) := by decide +kernel
theorem jd_J5_newCapacity_0f7a4_28 : decode cJ5_newCapacity_0f7a4 28 = .ok (.iadd, 1) := by decide +kernel
theorem jd_J5_newCapacity_0f7a4_29 : decode cJ5_newCapacity_0f7a4 29 = .ok (.invokestatic 114, 3) := by decide +kernel
theorem jd_J5_newCapacity_0f7a4_32 : decode cJ5_newCapacity_0f7a4 32 = .ok (.istore 5, 2) := by decide +kernel
theorem jd_J5_newCapacity_0f7a4_34 : decode cJ5_newCapacity_0f7a4 34 = .ok (.iload 5, 2) := by decide +kernel
theorem jd_J5_newCapacity_0f7a4_36 : decode cJ5_newCapacity_0f7a4 36 = .ok (.ldc 39, 2) := by decide +kernel
theorem jd_J5_newCapacity_0f7a4_38 : decode cJ5_newCapacity_0f7a4 38 = .ok (.if_icmp .ne 13, 3) := by decide +kernel
theorem jd_J5_newCapacity_0f7a4_51 : decode cJ5_newCapacity_0f7a4 51 = .ok (.iload 5, 2) := by decide +kernel
theorem jd_J5_newCapacity_0f7a4_53 : decode cJ5_newCapacity_0f7a4 53 = .ok (.aload_n 0, 1) := by decide +kernel
theorem jd_J5_newCapacity_0f7a4_54 : decode cJ5_newCapacity_0f7a4 54 = .ok (.getfield 22, 3) := by decide +kernel
theorem jd_J5_newCapacity_0f7a4_57 : decode cJ5_newCapacity_0f7a4 57 = .ok (.ishr, 1) := by decide +kernel
theorem jd_J5_newCapacity_0f7a4_58 : decode cJ5_newCapacity_0f7a4 58 = .ok (.ireturn, 1) := by decide +kernel
theorem jd_J7_copyOf_9075b_0 : decode cJ7_copyOf_9075b 0 = .ok (.iload_n 1, 1) := by decide +kernel
theorem jd_J7_copyOf_9075b_1 : decode cJ7_copyOf_9075b 1 = .ok (.aload_n 0, 1) := by decide +kernel
theorem jd_J7_copyOf_9075b_2 : decode cJ7_copyOf_9075b 2 = .ok (.arraylength, 1) := by decide +kernel
theorem jd_J7_copyOf_9075b_3 : decode cJ7_copyOf_9075b 3 = .ok (.if_icmp .ne 11, 3) := by decide +kernel
theorem jd_J7_copyOf_9075b_14 : decode cJ7_copyOf_9075b 14 = .ok (.iload_n 1, 1) := by decide +kernel
theorem jd_J7_copyOf_9075b_15 : decode cJ7_copyOf_9075b 15 = .ok (.newarray .byte, 2) := by decide +kernel
theorem jd_J7_copyOf_9075b_17 : decode cJ7_copyOf_9075b 17 = .ok (.astore_n 2, 1) := by decide +kernel
theorem jd_J7_copyOf_9075b_18 : decode cJ7_copyOf_9075b 18 = .ok (.aload_n 0, 1) := by decide +kernel
theorem jd_J7_copyOf_9075b_19 : decode cJ7_copyOf_9075b 19 = .ok (.iconst 0, 1) := by decide +kernel
theorem jd_J7_copyOf_9075b_20 : decode cJ7_copyOf_9075b 20 = .ok (.aload_n 2, 1) := by decide +kernel
theorem jd_J7_copyOf_9075b_21 : decode cJ7_copyOf_9075b 21 = .ok (.iconst 0, 1) := by decide +kernel
theorem jd_J7_copyOf_9075b_22 : decode cJ7_copyOf_9075b 22 = .ok (.aload_n 0, 1) := by decide +kernel
theorem jd_J7_copyOf_9075b_23 : decode cJ7_copyOf_9075b 23 = .ok (.arraylength, 1) := by decide +kernel
theorem jd_J7_copyOf_9075b_24 : decode cJ7_copyOf_9075b 24 = .ok (.iload_n 1, 1) := by decide +kernel
theorem jd_J7_copyOf_9075b_25 : decode cJ7_copyOf_9075b 25 = .ok (.invokestatic 304, 3) := by decide +kernel
theorem jd_J7_copyOf_9075b_28 : decode cJ7_copyOf_9075b 28 = .ok (.invokestatic 150, 3) := by decide +kernel
theorem jd_J7_copyOf_9075b_31 : decode cJ7_copyOf_9075b 31 = .ok (.aload_n 2, 1) := by decide +kernel
theorem jd_J7_copyOf_9075b_32 : decode cJ7_copyOf_9075b 32 = .ok (.areturn, 1) := by decide +kernel
theorem jd_J5_ensureCapacityInternal_d00df_0 : decode cJ5_ensureCapacityInternal_d00df 0 = .ok (.aload_n 0, 1) := by decide +kernel
theorem jd_J5_ensureCapacityInternal_d00df_1 : decode cJ5_ensureCapacityInternal_d00df 1 = .ok (.getfield 15, 3) := by decide +kernel
theorem jd_J5_ensureCapacityInternal_d00df_4 : decode cJ5_ensureCapacityInternal_d00df 4 = .ok (.arraylength, 1) := by decide +kernel
theorem jd_J5_ensureCapacityInternal_d00df_5 : decode cJ5_ensureCapacityInternal_d00df 5 = .ok (.aload_n 0, 1) := by decide +kernel
theorem jd_J5_ensureCapacityInternal_d00df_6 : decode cJ5_ensureCapacityInternal_d00df 6 = .ok (.getfield 22, 3) := by decide +kernel
theorem jd_J5_ensureCapacityInternal_d00df_9 : decode cJ5_ensureCapacityInternal_d00df 9 = .ok (.ishr, 1) := by decide +kernel
theorem jd_J5_ensureCapacityInternal_d00df_10 : decode cJ5_ensureCapacityInternal_d00df 10 = .ok (.istore_n 2, 1) := by decide +kernel
theorem jd_J5_ensureCapacityInternal_d00df_11 : decode cJ5_ensureCapacityInternal_d00df 11 = .ok (.iload_n 1, 1) := by decide +kernel
theorem jd_J5_ensureCapacityInternal_d00df_12 : decode cJ5_ensureCapacityInternal_d00df 12 = .ok (.iload_n 2, 1) := by decide +kernel
theorem jd_J5_ensureCapacityInternal_d00df_13 : decode cJ5_ensureCapacityInternal_d00df 13 = .ok (.isub, 1) := by decide +kernel
theorem jd_J5_ensureCapacityInternal_d00df_14 : decode cJ5_ensureCapacityInternal_d00df 14 = .ok (.ifCond .le 24, 3) := by decide +kernel
theorem jd_J5_ensureCapacityInternal_d00df_17 : decode cJ5_ensureCapacityInternal_d00df 17 = .ok (.aload_n 0, 1) := by decide +kernel
theorem jd_J5_ensureCapacityInternal_d00df_18 : decode cJ5_ensureCapacityInternal_d00df 18 = .ok (.aload_n 0, 1) := by decide +kernel
theorem jd_J5_ensureCapacityInternal_d00df_19 : decode cJ5_ensureCapacityInternal_d00df 19 = .ok (.getfield 15, 3) := by decide +kernel
theorem jd_J5_ensureCapacityInternal_d00df_22 : decode cJ5_ensureCapacityInternal_d00df 22 = .ok (.aload_n 0, 1) := by decide +kernel
theorem jd_J5_ensureCapacityInternal_d00df_23 : decode cJ5_ensureCapacityInternal_d00df 23 = .ok (.iload_n 1, 1) := by decide +kernel
theorem jd_J5_ensureCapacityInternal_d00df_24 : decode cJ5_ensureCapacityInternal_d00df 24 = .ok (.invokevirtual 104, 3) := by decide +kernel
theorem jd_J5_ensureCapacityInternal_d00df_27 : decode cJ5_ensureCapacityInternal_d00df 27 = .ok (.aload_n 0, 1) := by decide +kernel
theorem jd_J5_ensureCapacityInternal_d00df_28 : decode cJ5_ensureCapacityInternal_d00df 28 = .ok (.getfield 22, 3) := by decide +kernel
theorem jd_J5_ensureCapacityInternal_d00df_31 : decode cJ5_ensureCapacityInternal_d00df 31 = .ok (.ishl, 1) := by decide +kernel
theorem jd_J5_ensureCapacityInternal_d00df_32 : decode cJ5_ensureCapacityInternal_d00df 32 = .ok (.invokestatic 108, 3) := by decide +kernel
theorem jd_J5_ensureCapacityInternal_d00df_35 : decode cJ5_ensureCapacityInternal_d00df 35 = .ok (.putfield 15, 3) := by decide +kernel
theorem jd_J5_ensureCapacityInternal_d00df_38 : decode cJ5_ensureCapacityInternal_d00df 38 = .ok (.return_, 1) := by decide +kernel
theorem jd_J5_inflateIfNeededFor_a7421_0 : decode cJ5_inflateIfNeededFor_a7421 0 = .ok (.getstatic 18, 3) := by decide +kernel
theorem jd_J5_inflateIfNeededFor_a7421_3 : decode cJ5_inflateIfNeededFor_a7421 3 = .ok (.ifCond .eq 18, 3) := by decide +kernel
theorem jd_J5_inflateIfNeededFor_a7421_6 : decode cJ5_inflateIfNeededFor_a7421 6 = .ok (.aload_n 0, 1) := by decide +kernel
theorem jd_J5_inflateIfNeededFor_a7421_7 : decode cJ5_inflateIfNeededFor_a7421 7 = .ok (.getfield 22, 3) := by decide +kernel
theorem jd_J5_inflateIfNeededFor_a7421_10 : decode cJ5_inflateIfNeededFor_a7421 10 = .ok (.aload_n 1, 1) := by decide +kernel
theorem jd_J5_inflateIfNeededFor_a7421_11 : decode cJ5_inflateIfNeededFor_a7421 11 = .ok (.invokevirtual 40, 3) := by decide +kernel
theorem jd_J5_inflateIfNeededFor_a7421_14 : decode cJ5_inflateIfNeededFor_a7421 14 = .ok (.if_icmp .eq 7, 3) := by decide +kernel
theorem jd_J5_inflateIfNeededFor_a7421_21 : decode cJ5_inflateIfNeededFor_a7421 21 = .ok (.return_, 1) := by decide +kernel
theorem jd_J0_getBytes_840e7_0 : decode cJ0_getBytes_840e7 0 = .ok (.aload_n 0, 1) := by decide +kernel
theorem jd_J0_getBytes_840e7_1 : decode cJ0_getBytes_840e7 1 = .ok (.invokevirtual 335, 3) := by decide +kernel
theorem jd_J0_getBytes_840e7_4 : decode cJ0_getBytes_840e7 4 = .ok (.iload_n 3, 1) := by decide +kernel
theorem jd_J0_getBytes_840e7_5 : decode cJ0_getBytes_840e7 5 = .ok (.if_icmp .ne 23, 3) := by decide +kernel
theorem jd_J0_getBytes_840e7_8 : decode cJ0_getBytes_840e7 8 = .ok (.aload_n 0, 1) := by decide +kernel
theorem jd_J0_getBytes_840e7_9 : decode cJ0_getBytes_840e7 9 = .ok (.getfield 9, 3) := by decide +kernel
theorem jd_J0_getBytes_840e7_12 : decode cJ0_getBytes_840e7 12 = .ok (.iconst 0, 1) := by decide +kernel
theorem jd_J0_getBytes_840e7_13 : decode cJ0_getBytes_840e7 13 = .ok (.aload_n 1, 1) := by decide +kernel
theorem jd_J0_getBytes_840e7_14 : decode cJ0_getBytes_840e7 14 = .ok (.iload_n 2, 1) := by decide +kernel
theorem jd_J0_getBytes_840e7_15 : decode cJ0_getBytes_840e7 15 = .ok (.iload_n 3, 1) := by decide +kernel
theorem jd_J0_getBytes_840e7_16 : decode cJ0_getBytes_840e7 16 = .ok (.ishl, 1) := by decide +kernel
theorem jd_J0_getBytes_840e7_17 : decode cJ0_getBytes_840e7 17 = .ok (.aload_n 0, 1) := by decide +kernel
theorem jd_J0_getBytes_840e7_18 : decode cJ0_getBytes_840e7 18 = .ok (.getfield 9, 3) := by decide +kernel
theorem jd_J0_getBytes_840e7_21 : decode cJ0_getBytes_840e7 21 = .ok (.arraylength, 1) := by decide +kernel
theorem jd_J0_getBytes_840e7_22 : decode cJ0_getBytes_840e7 22 = .ok (.invokestatic 212, 3) := by decide +kernel
theorem jd_J0_getBytes_840e7_25 : decode cJ0_getBytes_840e7 25 = .ok (.goto 18, 3) := by decide +kernel
theorem jd_J0_getBytes_840e7_43 : decode cJ0_getBytes_840e7 43 = .ok (.return_, 1) := by decide +kernel
theorem jd_J5_putStringAt_47b60_0 : decode cJ5_putStringAt_47b60 0 = .ok (.aload_n 0, 1) := by decide +kernel
theorem jd_J5_putStringAt_47b60_1 : decode cJ5_putStringAt_47b60 1 = .ok (.aload_n 2, 1) := by decide +kernel
theorem jd_J5_putStringAt_47b60_2 : decode cJ5_putStringAt_47b60 2 = .ok (.invokevirtual 397, 3) := by decide +kernel
theorem jd_J5_putStringAt_47b60_5 : decode cJ5_putStringAt_47b60 5 = .ok (.aload_n 2, 1) := by decide +kernel
theorem jd_J5_putStringAt_47b60_6 : decode cJ5_putStringAt_47b60 6 = .ok (.aload_n 0, 1) := by decide +kernel
theorem jd_J5_putStringAt_47b60_7 : decode cJ5_putStringAt_47b60 7 = .ok (.getfield 15, 3) := by decide +kernel
theorem jd_J5_putStringAt_47b60_10 : decode cJ5_putStringAt_47b60 10 = .ok (.iload_n 1, 1) := by decide +kernel
theorem jd_J5_putStringAt_47b60_11 : decode cJ5_putStringAt_47b60 11 = .ok (.aload_n 0, 1) := by decide +kernel
theorem jd_J5_putStringAt_47b60_12 : decode cJ5_putStringAt_47b60 12 = .ok (.getfield 22, 3) := by decide +kernel
theorem jd_J5_putStringAt_47b60_15 : decode cJ5_putStringAt_47b60 15 = .ok (.invokevirtual 399, 3) := by decide +kernel
theorem jd_J5_putStringAt_47b60_18 : decode cJ5_putStringAt_47b60 18 = .ok (.return_, 1) := by decide +kernel
theorem jd_J5_append_cf1ce_0 : decode cJ5_append_cf1ce 0 = .ok (.aload_n 1, 1) := by decide +kernel
theorem jd_J5_append_cf1ce_1 : decode cJ5_append_cf1ce 1 = .ok (.ifnonnull 8, 3) := by decide +kernel
theorem jd_J5_append_cf1ce_9 : decode cJ5_append_cf1ce 9 = .ok (.aload_n 1, 1) := by decide +kernel
theorem jd_J5_append_cf1ce_10 : decode cJ5_append_cf1ce 10 = .ok (.invokevirtual 32, 3) := by decide +kernel
theorem jd_J5_append_cf1ce_13 : decode cJ5_append_cf1ce 13 = .ok (.istore_n 2, 1) := by decide +kernel
theorem jd_J5_append_cf1ce_14 : decode cJ5_append_cf1ce 14 = .ok (.aload_n 0, 1) := by decide +kernel
theorem jd_J5_append_cf1ce_15 : decode cJ5_append_cf1ce 15 = .ok (.aload_n 0, 1) := by decide +kernel
theorem jd_J5_append_cf1ce_16 : decode cJ5_append_cf1ce 16 = .ok (.getfield 79, 3) := by decide +kernel
theorem jd_J5_append_cf1ce_19 : decode cJ5_append_cf1ce 19 = .ok (.iload_n 2, 1) := by decide +kernel
theorem jd_J5_append_cf1ce_20 : decode cJ5_append_cf1ce 20 = .ok (.iadd, 1) := by decide +kernel
theorem jd_J5_append_cf1ce_21 : decode cJ5_append_cf1ce 21 = .ok (.invokevirtual 100, 3) := by decide +kernel
theorem jd_J5_append_cf1ce_24 : decode cJ5_append_cf1ce 24 = .ok (.aload_n 0, 1) := by decide +kernel
theorem jd_J5_append_cf1ce_25 : decode cJ5_append_cf1ce 25 = .ok (.aload_n 0, 1) := by decide +kernel
theorem jd_J5_append_cf1ce_26 : decode cJ5_append_cf1ce 26 = .ok (.getfield 79, 3) := by decide +kernel
theorem jd_J5_append_cf1ce_29 : decode cJ5_append_cf1ce 29 = .ok (.aload_n 1, 1) := by decide +kernel
theorem jd_J5_append_cf1ce_30 : decode cJ5_append_cf1ce 30 = .ok (.invokevirtual 208, 3) := by decide +kernel
theorem jd_J5_append_cf1ce_33 : decode cJ5_append_cf1ce 33 = .ok (.aload_n 0, 1) := by decide +kernel
theorem jd_J5_append_cf1ce_34 : decode cJ5_append_cf1ce 34 = .ok (.dup, 1) := by decide +kernel
theorem jd_J5_append_cf1ce_35 : decode cJ5_append_cf1ce 35 = .ok (.getfield 79, 3) := by decide +kernel
theorem jd_J5_append_cf1ce_38 : decode cJ5_append_cf1ce 38 = .ok (.iload_n 2, 1) := by decide +kernel
theorem jd_J5_append_cf1ce_39 : decode cJ5_append_cf1ce 39 = .ok (.iadd, 1) := by decide +kernel
theorem jd_J5_append_cf1ce_40 : decode cJ5_append_cf1ce 40 = .ok (.putfield 79, 3) := by decide +kernel
theorem jd_J5_append_cf1ce_43 : decode cJ5_append_cf1ce 43 = .ok (.aload_n 0, 1) := by decide +kernel
theorem jd_J5_append_cf1ce_44 : decode cJ5_append_cf1ce 44 = .ok (.areturn, 1) := by decide +kernel
theorem jd_J4_append_15ec4_0 : decode cJ4_append_15ec4 0 = .ok (.aload_n 0, 1) := by decide +kernel
theorem jd_J4_append_15ec4_1 : decode cJ4_append_15ec4 1 = .ok (.aload_n 1, 1) := by decide +kernel
theorem jd_J4_append_15ec4_2 : decode cJ4_append_15ec4 2 = .ok (.invokespecial 29, 3) := by decide +kernel
theorem jd_J4_append_15ec4_5 : decode cJ4_append_15ec4 5 = .ok (.pop, 1) := by decide +kernel
theorem jd_J4_append_15ec4_6 : decode cJ4_append_15ec4 6 = .ok (.aload_n 0, 1) := by decide +kernel
theorem jd_J4_append_15ec4_7 : decode cJ4_append_15ec4 7 = .ok (.areturn, 1) := by decide +kernel
theorem jd_J6_stringSize_0f7a4_0 : decode cJ6_stringSize_0f7a4 0 = .ok (.iconst 1, 1) := by decide +kernel
theorem jd_J6_stringSize_0f7a4_1 : decode cJ6_stringSize_0f7a4 1 = .ok (.istore_n 1, 1) := by decide +kernel
theorem jd_J6_stringSize_0f7a4_2 : decode cJ6_stringSize_0f7a4 2 = .ok (.iload_n 0, 1) := by decide +kernel
theorem jd_J6_stringSize_0f7a4_3 : decode cJ6_stringSize_0f7a4 3 = .ok (.ifCond .lt 8, 3) := by decide +kernel
theorem jd_J6_stringSize_0f7a4_6 : decode cJ6_stringSize_0f7a4 6 = .ok (.iconst 0, 1) := by decide +kernel
theorem jd_J6_stringSize_0f7a4_7 : decode cJ6_stringSize_0f7a4 7 = .ok (.istore_n 1, 1) := by decide +kernel
theorem jd_J6_stringSize_0f7a4_8 : decode cJ6_stringSize_0f7a4 8 = .ok (.iload_n 0, 1) := by decide +kernel
theorem jd_J6_stringSize_0f7a4_9 : decode cJ6_stringSize_0f7a4 9 = .ok (.ineg, 1) := by decide +kernel
theorem jd_J6_stringSize_0f7a4_10 : decode cJ6_stringSize_0f7a4 10 = .ok (.istore_n 0, 1) := by decide +kernel
theorem jd_J6_stringSize_0f7a4_11 : decode cJ6_stringSize_0f7a4 11 = .ok (.bipush (-10), 2) := by decide +kernel
theorem jd_J6_stringSize_0f7a4_13 : decode cJ6_stringSize_0f7a4 13 = .ok (.istore_n 2, 1) := by decide +kernel
theorem jd_J6_stringSize_0f7a4_14 : decode cJ6_stringSize_0f7a4 14 = .ok (.iconst 1, 1) := by decide +kernel
theorem jd_J6_stringSize_0f7a4_15 : decode cJ6_stringSize_0f7a4 15 = .ok (.istore_n 3, 1) := by decide +kernel
theorem jd_J6_stringSize_0f7a4_16 : decode cJ6_stringSize_0f7a4 16 = .ok (.iload_n 3, 1) := by decide +kernel
theorem jd_J6_stringSize_0f7a4_17 : decode cJ6_stringSize_0f7a4 17 = .ok (.bipush 10, 2) := by decide +kernel
theorem jd_J6_stringSize_0f7a4_19 : decode cJ6_stringSize_0f7a4 19 = .ok (.if_icmp .ge 23, 3) := by decide +kernel
theorem jd_J6_stringSize_0f7a4_22 : decode cJ6_stringSize_0f7a4 22 = .ok (.iload_n 0, 1) := by decide +kernel
theorem jd_J6_stringSize_0f7a4_23 : decode cJ6_stringSize_0f7a4 23 = .ok (.iload_n 2, 1) := by decide +kernel
theorem jd_J6_stringSize_0f7a4_24 : decode cJ6_stringSize_0f7a4 24 = .ok (.if_icmp .le 7, 3) := by decide +kernel
theorem jd_J6_stringSize_0f7a4_27 : decode cJ6_stringSize_0f7a4 27 = .ok (.iload_n 3, 1) := by decide +kernel
theorem jd_J6_stringSize_0f7a4_28 : decode cJ6_stringSize_0f7a4 28 = .ok (.iload_n 1, 1) := by decide +kernel
theorem jd_J6_stringSize_0f7a4_29 : decode cJ6_stringSize_0f7a4 29 = .ok (.iadd, 1) := by decide +kernel
theorem jd_J6_stringSize_0f7a4_30 : decode cJ6_stringSize_0f7a4 30 = .ok (.ireturn, 1) := by decide +kernel
theorem jd_J6_stringSize_0f7a4_31 : decode cJ6_stringSize_0f7a4 31 = .ok (.bipush 10, 2) := by decide +kernel
theorem jd_J6_stringSize_0f7a4_33 : decode cJ6_stringSize_0f7a4 33 = .ok (.iload_n 2, 1) := by decide +kernel
theorem jd_J6_stringSize_0f7a4_34 : decode cJ6_stringSize_0f7a4 34 = .ok (.imul, 1) := by decide +kernel
theorem jd_J6_stringSize_0f7a4_35 : decode cJ6_stringSize_0f7a4 35 = .ok (.istore_n 2, 1) := by decide +kernel
theorem jd_J6_stringSize_0f7a4_36 : decode cJ6_stringSize_0f7a4 36 = .ok (.iinc 3 1, 3) := by decide +kernel
theorem jd_J6_stringSize_0f7a4_39 : decode cJ6_stringSize_0f7a4 39 = .ok (.goto (-23), 3) := by decide +kernel
theorem jd_J6_getChars_ba4f3_0 : decode cJ6_getChars_ba4f3 0 = .ok (.iload_n 1, 1) := by decide +kernel
theorem jd_J6_getChars_ba4f3_1 : decode cJ6_getChars_ba4f3 1 = .ok (.istore 5, 2) := by decide +kernel
theorem jd_J6_getChars_ba4f3_3 : decode cJ6_getChars_ba4f3 3 = .ok (.iload_n 0, 1) := by decide +kernel
theorem jd_J6_getChars_ba4f3_4 : decode cJ6_getChars_ba4f3 4 = .ok (.ifCond .ge 7, 3) := by decide +kernel
theorem jd_J6_getChars_ba4f3_11 : decode cJ6_getChars_ba4f3 11 = .ok (.iconst 0, 1) := by decide +kernel
theorem jd_J6_getChars_ba4f3_12 : decode cJ6_getChars_ba4f3 12 = .ok (.istore 6, 2) := by decide +kernel
theorem jd_J6_getChars_ba4f3_14 : decode cJ6_getChars_ba4f3 14 = .ok (.iload 6, 2) := by decide +kernel
theorem jd_J6_getChars_ba4f3_16 : decode cJ6_getChars_ba4f3 16 = .ok (.ifCond .ne 6, 3) := by decide +kernel
theorem jd_J6_getChars_ba4f3_19 : decode cJ6_getChars_ba4f3 19 = .ok (.iload_n 0, 1) := by decide +kernel
theorem jd_J6_getChars_ba4f3_20 : decode cJ6_getChars_ba4f3 20 = .ok (.ineg, 1) := by decide +kernel
theorem jd_J6_getChars_ba4f3_21 : decode cJ6_getChars_ba4f3 21 = .ok (.istore_n 0, 1) := by decide +kernel
theorem jd_J6_getChars_ba4f3_22 : decode cJ6_getChars_ba4f3 22 = .ok (.iload_n 0, 1) := by decide +kernel
theorem jd_J6_getChars_ba4f3_23 : decode cJ6_getChars_ba4f3 23 = .ok (.bipush (-100), 2) := by decide +kernel
theorem jd_J6_getChars_ba4f3_25 : decode cJ6_getChars_ba4f3 25 = .ok (.if_icmp .gt 47, 3) := by decide +kernel
theorem jd_J6_getChars_ba4f3_28 : decode cJ6_getChars_ba4f3 28 = .ok (.iload_n 0, 1) := by decide +kernel
theorem jd_J6_getChars_ba4f3_29 : decode cJ6_getChars_ba4f3 29 = .ok (.bipush 100, 2) := by decide +kernel
theorem jd_J6_getChars_ba4f3_31 : decode cJ6_getChars_ba4f3 31 = .ok (.idiv, 1) := by decide +kernel
theorem jd_J6_getChars_ba4f3_32 : decode cJ6_getChars_ba4f3 32 = .ok (.istore_n 3, 1) := by decide +kernel
theorem jd_J6_getChars_ba4f3_33 : decode cJ6_getChars_ba4f3 33 = .ok (.iload_n 3, 1) := by decide +kernel
theorem jd_J6_getChars_ba4f3_34 : decode cJ6_getChars_ba4f3 34 = .ok (.bipush 100, 2) := by decide +kernel
theorem jd_J6_getChars_ba4f3_36 : decode cJ6_getChars_ba4f3 36 = .ok (.imul, 1) := by decide +kernel
theorem jd_J6_getChars_ba4f3_37 : decode cJ6_getChars_ba4f3 37 = .ok (.iload_n 0, 1) := by decide +kernel
theorem jd_J6_getChars_ba4f3_38 : decode cJ6_getChars_ba4f3 38 = .ok (.isub, 1) := by decide +kernel
theorem jd_J6_getChars_ba4f3_39 : decode cJ6_getChars_ba4f3 39 = .ok (.istore 4, 2) := by decide +kernel
theorem jd_J6_getChars_ba4f3_41 : decode cJ6_getChars_ba4f3 41 = .ok (.iload_n 3, 1) := by decide +kernel
theorem jd_J6_getChars_ba4f3_42 : decode cJ6_getChars_ba4f3 42 = .ok (.istore_n 0, 1) := by decide +kernel
theorem jd_J6_getChars_ba4f3_43 : decode cJ6_getChars_ba4f3 43 = .ok (.aload_n 2, 1) := by decide +kernel
theorem jd_J6_getChars_ba4f3_44 : decode cJ6_getChars_ba4f3 44 = .ok (.iinc 5 (-1), 3) := by decide +kernel
theorem jd_J6_getChars_ba4f3_47 : decode cJ6_getChars_ba4f3 47 = .ok (.iload 5, 2) := by decide +kernel
theorem jd_J6_getChars_ba4f3_49 : decode cJ6_getChars_ba4f3 49 = .ok (.getstatic 83, 3) := by decide +kernel
theorem jd_J6_getChars_ba4f3_52 : decode cJ6_getChars_ba4f3 52 = .ok (.iload 4, 2) := by decide +kernel
theorem jd_J6_getChars_ba4f3_54 : decode cJ6_getChars_ba4f3 54 = .ok (.baload, 1) := by decide +kernel
theorem jd_J6_getChars_ba4f3_55 : decode cJ6_getChars_ba4f3 55 = .ok (.bastore, 1) := by decide +kernel
theorem jd_J6_getChars_ba4f3_56 : decode cJ6_getChars_ba4f3 56 = .ok (.aload_n 2, 1) := by decide +kernel
theorem jd_J6_getChars_ba4f3_57 : decode cJ6_getChars_ba4f3 57 = .ok (.iinc 5 (-1), 3) := by decide +kernel
theorem jd_J6_getChars_ba4f3_60 : decode cJ6_getChars_ba4f3 60 = .ok (.iload 5, 2) := by decide +kernel
theorem jd_J6_getChars_ba4f3_62 : decode cJ6_getChars_ba4f3 62 = .ok (.getstatic 87, 3) := by decide +kernel
theorem jd_J6_getChars_ba4f3_65 : decode cJ6_getChars_ba4f3 65 = .ok (.iload 4, 2) := by decide +kernel
theorem jd_J6_getChars_ba4f3_67 : decode cJ6_getChars_ba4f3 67 = .ok (.baload, 1) := by decide +kernel
theorem jd_J6_getChars_ba4f3_68 : decode cJ6_getChars_ba4f3 68 = .ok (.bastore, 1) := by decide +kernel
theorem jd_J6_getChars_ba4f3_69 : decode cJ6_getChars_ba4f3 69 = .ok (.goto (-47), 3) := by decide +kernel
theorem jd_J6_getChars_ba4f3_72 : decode cJ6_getChars_ba4f3 72 = .ok (.aload_n 2, 1) := by decide +kernel
theorem jd_J6_getChars_ba4f3_73 : decode cJ6_getChars_ba4f3 73 = .ok (.iinc 5 (-1), 3) := by decide +kernel
theorem jd_J6_getChars_ba4f3_76 : decode cJ6_getChars_ba4f3 76 = .ok (.iload 5, 2) := by decide +kernel
theorem jd_J6_getChars_ba4f3_78 : decode cJ6_getChars_ba4f3 78 = .ok (.getstatic 83, 3) := by decide +kernel
theorem jd_J6_getChars_ba4f3_81 : decode cJ6_getChars_ba4f3 81 = .ok (.iload_n 0, 1) := by decide +kernel
theorem jd_J6_getChars_ba4f3_82 : decode cJ6_getChars_ba4f3 82 = .ok (.ineg, 1) := by decide +kernel
theorem jd_J6_getChars_ba4f3_83 : decode cJ6_getChars_ba4f3 83 = .ok (.baload, 1) := by decide +kernel
theorem jd_J6_getChars_ba4f3_84 : decode cJ6_getChars_ba4f3 84 = .ok (.bastore, 1) := by decide +kernel
theorem jd_J6_getChars_ba4f3_85 : decode cJ6_getChars_ba4f3 85 = .ok (.iload_n 0, 1) := by decide +kernel
theorem jd_J6_getChars_ba4f3_86 : decode cJ6_getChars_ba4f3 86 = .ok (.bipush (-9), 2) := by decide +kernel
theorem jd_J6_getChars_ba4f3_88 : decode cJ6_getChars_ba4f3 88 = .ok (.if_icmp .ge 16, 3) := by decide +kernel
theorem jd_J6_getChars_ba4f3_91 : decode cJ6_getChars_ba4f3 91 = .ok (.aload_n 2, 1) := by decide +kernel
theorem jd_J6_getChars_ba4f3_92 : decode cJ6_getChars_ba4f3 92 = .ok (.iinc 5 (-1), 3) := by decide +kernel
theorem jd_J6_getChars_ba4f3_95 : decode cJ6_getChars_ba4f3 95 = .ok (.iload 5, 2) := by decide +kernel
theorem jd_J6_getChars_ba4f3_97 : decode cJ6_getChars_ba4f3 97 = .ok (.getstatic 87, 3) := by decide +kernel
theorem jd_J6_getChars_ba4f3_100 : decode cJ6_getChars_ba4f3 100 = .ok (.iload_n 0, 1) := by decide +kernel
theorem jd_J6_getChars_ba4f3_101 : decode cJ6_getChars_ba4f3 101 = .ok (.ineg, 1) := by decide +kernel
theorem jd_J6_getChars_ba4f3_102 : decode cJ6_getChars_ba4f3 102 = .ok (.baload, 1) := by decide +kernel
theorem jd_J6_getChars_ba4f3_103 : decode cJ6_getChars_ba4f3 103 = .ok (.bastore, 1) := by decide +kernel
theorem jd_J6_getChars_ba4f3_104 : decode cJ6_getChars_ba4f3 104 = .ok (.iload 6, 2) := by decide +kernel
theorem jd_J6_getChars_ba4f3_106 : decode cJ6_getChars_ba4f3 106 = .ok (.ifCond .eq 12, 3) := by decide +kernel
theorem jd_J6_getChars_ba4f3_118 : decode cJ6_getChars_ba4f3 118 = .ok (.iload 5, 2) := by decide +kernel
theorem jd_J6_getChars_ba4f3_120 : decode cJ6_getChars_ba4f3 120 = .ok (.ireturn, 1) := by decide +kernel
theorem jd_J5_isLatin1_aae02_0 : decode cJ5_isLatin1_aae02 0 = .ok (.getstatic 18, 3) := by decide +kernel
theorem jd_J5_isLatin1_aae02_3 : decode cJ5_isLatin1_aae02 3 = .ok (.ifCond .eq 14, 3) := by decide +kernel
theorem jd_J5_isLatin1_aae02_6 : decode cJ5_isLatin1_aae02 6 = .ok (.aload_n 0, 1) := by decide +kernel
theorem jd_J5_isLatin1_aae02_7 : decode cJ5_isLatin1_aae02 7 = .ok (.getfield 22, 3) := by decide +kernel
theorem jd_J5_isLatin1_aae02_10 : decode cJ5_isLatin1_aae02 10 = .ok (.ifCond .ne 7, 3) := by decide +kernel
theorem jd_J5_isLatin1_aae02_13 : decode cJ5_isLatin1_aae02 13 = .ok (.iconst 1, 1) := by decide +kernel
theorem jd_J5_isLatin1_aae02_14 : decode cJ5_isLatin1_aae02 14 = .ok (.goto 4, 3) := by decide +kernel
theorem jd_J5_isLatin1_aae02_18 : decode cJ5_isLatin1_aae02 18 = .ok (.ireturn, 1) := by decide +kernel
theorem jd_J5_append_c97b9_0 : decode cJ5_append_c97b9 0 = .ok (.aload_n 0, 1) := by decide +kernel
theorem jd_J5_append_c97b9_1 : decode cJ5_append_c97b9 1 = .ok (.getfield 79, 3) := by decide +kernel
theorem jd_J5_append_c97b9_4 : decode cJ5_append_c97b9 4 = .ok (.istore_n 2, 1) := by decide +kernel
theorem jd_J5_append_c97b9_5 : decode cJ5_append_c97b9 5 = .ok (.iload_n 2, 1) := by decide +kernel
theorem jd_J5_append_c97b9_6 : decode cJ5_append_c97b9 6 = .ok (.iload_n 1, 1) := by decide +kernel
theorem jd_J5_append_c97b9_7 : decode cJ5_append_c97b9 7 = .ok (.invokestatic 245, 3) := by decide +kernel
theorem jd_J5_append_c97b9_10 : decode cJ5_append_c97b9 10 = .ok (.iadd, 1) := by decide +kernel
theorem jd_J5_append_c97b9_11 : decode cJ5_append_c97b9 11 = .ok (.istore_n 3, 1) := by decide +kernel
theorem jd_J5_append_c97b9_12 : decode cJ5_append_c97b9 12 = .ok (.aload_n 0, 1) := by decide +kernel
theorem jd_J5_append_c97b9_13 : decode cJ5_append_c97b9 13 = .ok (.iload_n 3, 1) := by decide +kernel
theorem jd_J5_append_c97b9_14 : decode cJ5_append_c97b9 14 = .ok (.invokevirtual 100, 3) := by decide +kernel
theorem jd_J5_append_c97b9_17 : decode cJ5_append_c97b9 17 = .ok (.aload_n 0, 1) := by decide +kernel
theorem jd_J5_append_c97b9_18 : decode cJ5_append_c97b9 18 = .ok (.invokevirtual 83, 3) := by decide +kernel
theorem jd_J5_append_c97b9_21 : decode cJ5_append_c97b9 21 = .ok (.ifCond .eq 16, 3) := by decide +kernel
theorem jd_J5_append_c97b9_24 : decode cJ5_append_c97b9 24 = .ok (.iload_n 1, 1) := by decide +kernel
theorem jd_J5_append_c97b9_25 : decode cJ5_append_c97b9 25 = .ok (.iload_n 3, 1) := by decide +kernel
theorem jd_J5_append_c97b9_26 : decode cJ5_append_c97b9 26 = .ok (.aload_n 0, 1) := by decide +kernel
theorem jd_J5_append_c97b9_27 : decode cJ5_append_c97b9 27 = .ok (.getfield 15, 3) := by decide +kernel
theorem jd_J5_append_c97b9_30 : decode cJ5_append_c97b9 30 = .ok (.invokestatic 248, 3) := by decide +kernel
theorem jd_J5_append_c97b9_33 : decode cJ5_append_c97b9 33 = .ok (.pop, 1) := by decide +kernel
theorem jd_J5_append_c97b9_34 : decode cJ5_append_c97b9 34 = .ok (.goto 14, 3) := by decide +kernel
theorem jd_J5_append_c97b9_48 : decode cJ5_append_c97b9 48 = .ok (.aload_n 0, 1) := by decide +kernel
theorem jd_J5_append_c97b9_49 : decode cJ5_append_c97b9 49 = .ok (.iload_n 3, 1) := by decide +kernel
theorem jd_J5_append_c97b9_50 : decode cJ5_append_c97b9 50 = .ok (.putfield 79, 3) := by decide +kernel
theorem jd_J5_append_c97b9_53 : decode cJ5_append_c97b9 53 = .ok (.aload_n 0, 1) := by decide +kernel
theorem jd_J5_append_c97b9_54 : decode cJ5_append_c97b9 54 = .ok (.areturn, 1) := by decide +kernel
theorem jd_J4_append_bf812_0 : decode cJ4_append_bf812 0 = .ok (.aload_n 0, 1) := by decide +kernel
theorem jd_J4_append_bf812_1 : decode cJ4_append_bf812 1 = .ok (.iload_n 1, 1) := by decide +kernel
theorem jd_J4_append_bf812_2 : decode cJ4_append_bf812 2 = .ok (.invokespecial 53, 3) := by decide +kernel
theorem jd_J4_append_bf812_5 : decode cJ4_append_bf812 5 = .ok (.pop, 1) := by decide +kernel
theorem jd_J4_append_bf812_6 : decode cJ4_append_bf812 6 = .ok (.aload_n 0, 1) := by decide +kernel
theorem jd_J4_append_bf812_7 : decode cJ4_append_bf812 7 = .ok (.areturn, 1) := by decide +kernel
theorem jd_J5_init_d00df_0 : decode cJ5_init_d00df 0 = .ok (.aload_n 0, 1) := by decide +kernel
theorem jd_J5_init_d00df_1 : decode cJ5_init_d00df 1 = .ok (.invokespecial 3, 3) := by decide +kernel
theorem jd_J5_init_d00df_4 : decode cJ5_init_d00df 4 = .ok (.getstatic 18, 3) := by decide +kernel
theorem jd_J5_init_d00df_7 : decode cJ5_init_d00df 7 = .ok (.ifCond .eq 18, 3) := by decide +kernel
theorem jd_J5_init_d00df_10 : decode cJ5_init_d00df 10 = .ok (.aload_n 0, 1) := by decide +kernel
theorem jd_J5_init_d00df_11 : decode cJ5_init_d00df 11 = .ok (.iload_n 1, 1) := by decide +kernel
theorem jd_J5_init_d00df_12 : decode cJ5_init_d00df 12 = .ok (.newarray .byte, 2) := by decide +kernel
theorem jd_J5_init_d00df_14 : decode cJ5_init_d00df 14 = .ok (.putfield 15, 3) := by decide +kernel
theorem jd_J5_init_d00df_17 : decode cJ5_init_d00df 17 = .ok (.aload_n 0, 1) := by decide +kernel
theorem jd_J5_init_d00df_18 : decode cJ5_init_d00df 18 = .ok (.iconst 0, 1) := by decide +kernel
theorem jd_J5_init_d00df_19 : decode cJ5_init_d00df 19 = .ok (.putfield 22, 3) := by decide +kernel
theorem jd_J5_init_d00df_22 : decode cJ5_init_d00df 22 = .ok (.goto 16, 3) := by decide +kernel
theorem jd_J5_init_d00df_38 : decode cJ5_init_d00df 38 = .ok (.return_, 1) := by decide +kernel
theorem jd_J4_init_da8c8_0 : decode cJ4_init_da8c8 0 = .ok (.aload_n 0, 1) := by decide +kernel
theorem jd_J4_init_da8c8_1 : decode cJ4_init_da8c8 1 = .ok (.bipush 16, 2) := by decide +kernel
theorem jd_J4_init_da8c8_3 : decode cJ4_init_da8c8 3 = .ok (.invokespecial 1, 3) := by decide +kernel
theorem jd_J4_init_da8c8_6 : decode cJ4_init_da8c8 6 = .ok (.return_, 1) := by decide +kernel
theorem jd_J7_checkLength_df160_0 : decode cJ7_checkLength_df160 0 = .ok (.iload_n 1, 1) := by decide +kernel
theorem jd_J7_checkLength_df160_1 : decode cJ7_checkLength_df160 1 = .ok (.iload_n 0, 1) := by decide +kernel
theorem jd_J7_checkLength_df160_2 : decode cJ7_checkLength_df160 2 = .ok (.if_icmp .ge 35, 3) := by decide +kernel
theorem jd_J7_checkLength_df160_37 : decode cJ7_checkLength_df160 37 = .ok (.return_, 1) := by decide +kernel
theorem jd_J7_copyOfRangeByte_39247_0 : decode cJ7_copyOfRangeByte_39247 0 = .ok (.iload_n 1, 1) := by decide +kernel
theorem jd_J7_copyOfRangeByte_39247_1 : decode cJ7_copyOfRangeByte_39247 1 = .ok (.iload_n 2, 1) := by decide +kernel
theorem jd_J7_copyOfRangeByte_39247_2 : decode cJ7_copyOfRangeByte_39247 2 = .ok (.invokestatic 343, 3) := by decide +kernel
theorem jd_J7_copyOfRangeByte_39247_5 : decode cJ7_copyOfRangeByte_39247 5 = .ok (.iload_n 2, 1) := by decide +kernel
theorem jd_J7_copyOfRangeByte_39247_6 : decode cJ7_copyOfRangeByte_39247 6 = .ok (.iload_n 1, 1) := by decide +kernel
theorem jd_J7_copyOfRangeByte_39247_7 : decode cJ7_copyOfRangeByte_39247 7 = .ok (.isub, 1) := by decide +kernel
theorem jd_J7_copyOfRangeByte_39247_8 : decode cJ7_copyOfRangeByte_39247 8 = .ok (.istore_n 3, 1) := by decide +kernel
theorem jd_J7_copyOfRangeByte_39247_9 : decode cJ7_copyOfRangeByte_39247 9 = .ok (.iload_n 3, 1) := by decide +kernel
theorem jd_J7_copyOfRangeByte_39247_10 : decode cJ7_copyOfRangeByte_39247 10 = .ok (.newarray .byte, 2) := by decide +kernel
theorem jd_J7_copyOfRangeByte_39247_12 : decode cJ7_copyOfRangeByte_39247 12 = .ok (.astore 4, 2) := by decide +kernel
theorem jd_J7_copyOfRangeByte_39247_14 : decode cJ7_copyOfRangeByte_39247 14 = .ok (.aload_n 0, 1) := by decide +kernel
theorem jd_J7_copyOfRangeByte_39247_15 : decode cJ7_copyOfRangeByte_39247 15 = .ok (.iload_n 1, 1) := by decide +kernel
theorem jd_J7_copyOfRangeByte_39247_16 : decode cJ7_copyOfRangeByte_39247 16 = .ok (.aload 4, 2) := by decide +kernel
theorem jd_J7_copyOfRangeByte_39247_18 : decode cJ7_copyOfRangeByte_39247 18 = .ok (.iconst 0, 1) := by decide +kernel
theorem jd_J7_copyOfRangeByte_39247_19 : decode cJ7_copyOfRangeByte_39247 19 = .ok (.aload_n 0, 1) := by decide +kernel
theorem jd_J7_copyOfRangeByte_39247_20 : decode cJ7_copyOfRangeByte_39247 20 = .ok (.arraylength, 1) := by decide +kernel
theorem jd_J7_copyOfRangeByte_39247_21 : decode cJ7_copyOfRangeByte_39247 21 = .ok (.iload_n 1, 1) := by decide +kernel
theorem jd_J7_copyOfRangeByte_39247_22 : decode cJ7_copyOfRangeByte_39247 22 = .ok (.isub, 1) := by decide +kernel
theorem jd_J7_copyOfRangeByte_39247_23 : decode cJ7_copyOfRangeByte_39247 23 = .ok (.iload_n 3, 1) := by decide +kernel
theorem jd_J7_copyOfRangeByte_39247_24 : decode cJ7_copyOfRangeByte_39247 24 = .ok (.invokestatic 304, 3) := by decide +kernel
theorem jd_J7_copyOfRangeByte_39247_27 : decode cJ7_copyOfRangeByte_39247 27 = .ok (.invokestatic 150, 3) := by decide +kernel
theorem jd_J7_copyOfRangeByte_39247_30 : decode cJ7_copyOfRangeByte_39247 30 = .ok (.aload 4, 2) := by decide +kernel
theorem jd_J7_copyOfRangeByte_39247_32 : decode cJ7_copyOfRangeByte_39247 32 = .ok (.areturn, 1) := by decide +kernel
theorem jd_J7_copyOfRange_39247_0 : decode cJ7_copyOfRange_39247 0 = .ok (.iload_n 1, 1) := by decide +kernel
theorem jd_J7_copyOfRange_39247_1 : decode cJ7_copyOfRange_39247 1 = .ok (.ifCond .ne 9, 3) := by decide +kernel
theorem jd_J7_copyOfRange_39247_4 : decode cJ7_copyOfRange_39247 4 = .ok (.iload_n 2, 1) := by decide +kernel
theorem jd_J7_copyOfRange_39247_5 : decode cJ7_copyOfRange_39247 5 = .ok (.aload_n 0, 1) := by decide +kernel
theorem jd_J7_copyOfRange_39247_6 : decode cJ7_copyOfRange_39247 6 = .ok (.arraylength, 1) := by decide +kernel
theorem jd_J7_copyOfRange_39247_7 : decode cJ7_copyOfRange_39247 7 = .ok (.if_icmp .eq 10, 3) := by decide +kernel
theorem jd_J7_copyOfRange_39247_10 : decode cJ7_copyOfRange_39247 10 = .ok (.aload_n 0, 1) := by decide +kernel
theorem jd_J7_copyOfRange_39247_11 : decode cJ7_copyOfRange_39247 11 = .ok (.iload_n 1, 1) := by decide +kernel
theorem jd_J7_copyOfRange_39247_12 : decode cJ7_copyOfRange_39247 12 = .ok (.iload_n 2, 1) := by decide +kernel
theorem jd_J7_copyOfRange_39247_13 : decode cJ7_copyOfRange_39247 13 = .ok (.invokestatic 339, 3) := by decide +kernel
theorem jd_J7_copyOfRange_39247_16 : decode cJ7_copyOfRange_39247 16 = .ok (.areturn, 1) := by decide +kernel
theorem jd_J7_copyOfRange_39247_17 : decode cJ7_copyOfRange_39247 17 = .ok (.aload_n 0, 1) := by decide +kernel
theorem jd_J7_copyOfRange_39247_18 : decode cJ7_copyOfRange_39247 18 = .ok (.invokevirtual 310, 3) := by decide +kernel
theorem jd_J7_copyOfRange_39247_21 : decode cJ7_copyOfRange_39247 21 = .ok (.checkcast 311, 3) := by decide +kernel
theorem jd_J7_copyOfRange_39247_24 : decode cJ7_copyOfRange_39247 24 = .ok (.areturn, 1) := by decide +kernel
theorem jd_J5_getValue_6d5f1_0 : decode cJ5_getValue_6d5f1 0 = .ok (.aload_n 0, 1) := by decide +kernel
theorem jd_J5_getValue_6d5f1_1 : decode cJ5_getValue_6d5f1 1 = .ok (.getfield 15, 3) := by decide +kernel
theorem jd_J5_getValue_6d5f1_4 : decode cJ5_getValue_6d5f1 4 = .ok (.areturn, 1) := by decide +kernel
theorem jd_J5_length_8abf5_0 : decode cJ5_length_8abf5 0 = .ok (.aload_n 0, 1) := by decide +kernel
theorem jd_J5_length_8abf5_1 : decode cJ5_length_8abf5 1 = .ok (.getfield 79, 3) := by decide +kernel
theorem jd_J5_length_8abf5_4 : decode cJ5_length_8abf5 4 = .ok (.ireturn, 1) := by decide +kernel
theorem jd_J4_length_8abf5_0 : decode cJ4_length_8abf5 0 = .ok (.aload_n 0, 1) := by decide +kernel
theorem jd_J4_length_8abf5_1 : decode cJ4_length_8abf5 1 = .ok (.invokespecial 343, 3) := by decide +kernel
theorem jd_J4_length_8abf5_4 : decode cJ4_length_8abf5 4 = .ok (.ireturn, 1) := by decide +kernel
theorem jd_J0_init_db425_0 : decode cJ0_init_db425 0 = .ok (.aload_n 0, 1) := by decide +kernel
theorem jd_J0_init_db425_1 : decode cJ0_init_db425 1 = .ok (.invokespecial 1, 3) := by decide +kernel
theorem jd_J0_init_db425_4 : decode cJ0_init_db425 4 = .ok (.aload_n 1, 1) := by decide +kernel
theorem jd_J0_init_db425_5 : decode cJ0_init_db425 5 = .ok (.invokevirtual 552, 3) := by decide +kernel
theorem jd_J0_init_db425_8 : decode cJ0_init_db425 8 = .ok (.astore_n 3, 1) := by decide +kernel
theorem jd_J0_init_db425_9 : decode cJ0_init_db425 9 = .ok (.aload_n 1, 1) := by decide +kernel
theorem jd_J0_init_db425_10 : decode cJ0_init_db425 10 = .ok (.invokevirtual 549, 3) := by decide +kernel
theorem jd_J0_init_db425_13 : decode cJ0_init_db425 13 = .ok (.istore 4, 2) := by decide +kernel
theorem jd_J0_init_db425_15 : decode cJ0_init_db425 15 = .ok (.aload_n 1, 1) := by decide +kernel
theorem jd_J0_init_db425_16 : decode cJ0_init_db425 16 = .ok (.invokevirtual 1047, 3) := by decide +kernel
theorem jd_J0_init_db425_19 : decode cJ0_init_db425 19 = .ok (.ifCond .eq 22, 3) := by decide +kernel
theorem jd_J0_init_db425_22 : decode cJ0_init_db425 22 = .ok (.aload_n 0, 1) := by decide +kernel
theorem jd_J0_init_db425_23 : decode cJ0_init_db425 23 = .ok (.iconst 0, 1) := by decide +kernel
theorem jd_J0_init_db425_24 : decode cJ0_init_db425 24 = .ok (.putfield 15, 3) := by decide +kernel
theorem jd_J0_init_db425_27 : decode cJ0_init_db425 27 = .ok (.aload_n 0, 1) := by decide +kernel
theorem jd_J0_init_db425_28 : decode cJ0_init_db425 28 = .ok (.aload_n 3, 1) := by decide +kernel
theorem jd_J0_init_db425_29 : decode cJ0_init_db425 29 = .ok (.iconst 0, 1) := by decide +kernel
theorem jd_J0_init_db425_30 : decode cJ0_init_db425 30 = .ok (.iload 4, 2) := by decide +kernel
theorem jd_J0_init_db425_32 : decode cJ0_init_db425 32 = .ok (.invokestatic 54, 3) := by decide +kernel
theorem jd_J0_init_db425_35 : decode cJ0_init_db425 35 = .ok (.putfield 9, 3) := by decide +kernel
theorem jd_J0_init_db425_38 : decode cJ0_init_db425 38 = .ok (.goto 59, 3) := by decide +kernel
theorem jd_J0_init_db425_97 : decode cJ0_init_db425 97 = .ok (.return_, 1) := by decide +kernel
theorem jd_J0_init_81219_0 : decode cJ0_init_81219 0 = .ok (.aload_n 0, 1) := by decide +kernel
theorem jd_J0_init_81219_1 : decode cJ0_init_81219 1 = .ok (.aload_n 1, 1) := by decide +kernel
theorem jd_J0_init_81219_2 : decode cJ0_init_81219 2 = .ok (.aconst_null, 1) := by decide +kernel
theorem jd_J0_init_81219_3 : decode cJ0_init_81219 3 = .ok (.invokespecial 489, 3) := by decide +kernel
theorem jd_J0_init_81219_6 : decode cJ0_init_81219 6 = .ok (.return_, 1) := by decide +kernel
theorem jd_J4_toString_0e30d_0 : decode cJ4_toString_0e30d 0 = .ok (.new 18, 3) := by decide +kernel
theorem jd_J4_toString_0e30d_3 : decode cJ4_toString_0e30d 3 = .ok (.dup, 1) := by decide +kernel
theorem jd_J4_toString_0e30d_4 : decode cJ4_toString_0e30d 4 = .ok (.aload_n 0, 1) := by decide +kernel
theorem jd_J4_toString_0e30d_5 : decode cJ4_toString_0e30d 5 = .ok (.invokespecial 137, 3) := by decide +kernel
theorem jd_J4_toString_0e30d_8 : decode cJ4_toString_0e30d 8 = .ok (.areturn, 1) := by decide +kernel
theorem jd_L_cell_0 : decode cL_cell 0 = .ok (.iload_n 1, 1) := by decide +kernel
theorem jd_L_cell_1 : decode cL_cell 1 = .ok (.aload_n 0, 1) := by decide +kernel
theorem jd_L_cell_2 : decode cL_cell 2 = .ok (.arraylength, 1) := by decide +kernel
theorem jd_L_cell_3 : decode cL_cell 3 = .ok (.if_icmp .ge 9, 3) := by decide +kernel
theorem jd_L_cell_6 : decode cL_cell 6 = .ok (.aload_n 0, 1) := by decide +kernel
theorem jd_L_cell_7 : decode cL_cell 7 = .ok (.iload_n 1, 1) := by decide +kernel
theorem jd_L_cell_8 : decode cL_cell 8 = .ok (.iaload, 1) := by decide +kernel
theorem jd_L_cell_9 : decode cL_cell 9 = .ok (.goto 4, 3) := by decide +kernel
theorem jd_L_cell_12 : decode cL_cell 12 = .ok (.iconst 0, 1) := by decide +kernel
theorem jd_L_cell_13 : decode cL_cell 13 = .ok (.ireturn, 1) := by decide +kernel
theorem jd_L_in_0 : decode cL_in 0 = .ok (.iload_n 0, 1) := by decide +kernel
theorem jd_L_in_1 : decode cL_in 1 = .ok (.ldc 7, 2) := by decide +kernel
theorem jd_L_in_3 : decode cL_in 3 = .ok (.iand, 1) := by decide +kernel
theorem jd_L_in_4 : decode cL_in 4 = .ok (.iload_n 1, 1) := by decide +kernel
theorem jd_L_in_5 : decode cL_in 5 = .ok (.irem, 1) := by decide +kernel
theorem jd_L_in_6 : decode cL_in 6 = .ok (.ireturn, 1) := by decide +kernel
theorem jd_L_law_9 : decode cL_law 9 = .ok (.aload_n 0, 1) := by decide +kernel
theorem jd_L_law_10 : decode cL_law 10 = .ok (.iconst 0, 1) := by decide +kernel
theorem jd_L_law_11 : decode cL_law 11 = .ok (.invokestatic 29, 3) := by decide +kernel
theorem jd_L_law_14 : decode cL_law 14 = .ok (.bipush 6, 2) := by decide +kernel
theorem jd_L_law_16 : decode cL_law 16 = .ok (.invokestatic 35, 3) := by decide +kernel
theorem jd_L_law_21 : decode cL_law 21 = .ok (.aload_n 0, 1) := by decide +kernel
theorem jd_L_law_22 : decode cL_law 22 = .ok (.iconst 1, 1) := by decide +kernel
theorem jd_L_law_23 : decode cL_law 23 = .ok (.invokestatic 29, 3) := by decide +kernel
theorem jd_L_law_26 : decode cL_law 26 = .ok (.bipush 50, 2) := by decide +kernel
theorem jd_L_law_28 : decode cL_law 28 = .ok (.invokestatic 35, 3) := by decide +kernel
theorem jd_L_law_32 : decode cL_law 32 = .ok (.aload_n 0, 1) := by decide +kernel
theorem jd_L_law_33 : decode cL_law 33 = .ok (.iconst 2, 1) := by decide +kernel
theorem jd_L_law_34 : decode cL_law 34 = .ok (.invokestatic 29, 3) := by decide +kernel
theorem jd_L_law_37 : decode cL_law 37 = .ok (.bipush 20, 2) := by decide +kernel
theorem jd_L_law_39 : decode cL_law 39 = .ok (.invokestatic 35, 3) := by decide +kernel
theorem jd_L_law_45 : decode cL_law 45 = .ok (.aload_n 0, 1) := by decide +kernel
theorem jd_L_law_46 : decode cL_law 46 = .ok (.iconst 3, 1) := by decide +kernel
theorem jd_L_law_47 : decode cL_law 47 = .ok (.invokestatic 29, 3) := by decide +kernel
theorem jd_L_law_50 : decode cL_law 50 = .ok (.bipush 40, 2) := by decide +kernel
theorem jd_L_law_52 : decode cL_law 52 = .ok (.invokestatic 35, 3) := by decide +kernel
theorem jd_L_law_58 : decode cL_law 58 = .ok (.aload_n 0, 1) := by decide +kernel
theorem jd_L_law_59 : decode cL_law 59 = .ok (.iconst 4, 1) := by decide +kernel
theorem jd_L_law_60 : decode cL_law 60 = .ok (.invokestatic 29, 3) := by decide +kernel
theorem jd_L_law_63 : decode cL_law 63 = .ok (.bipush 30, 2) := by decide +kernel
theorem jd_L_law_65 : decode cL_law 65 = .ok (.invokestatic 35, 3) := by decide +kernel
theorem jd_L_law_636 : decode cL_law 636 = .ok (.aload_n 0, 1) := by decide +kernel
theorem jd_L_law_637 : decode cL_law 637 = .ok (.iconst 5, 1) := by decide +kernel
theorem jd_L_law_638 : decode cL_law 638 = .ok (.invokestatic 29, 3) := by decide +kernel
theorem jd_L_law_641 : decode cL_law 641 = .ok (.bipush 20, 2) := by decide +kernel
theorem jd_L_law_643 : decode cL_law 643 = .ok (.invokestatic 35, 3) := by decide +kernel
theorem jd_L_law_740 : decode cL_law 740 = .ok (.aload_n 0, 1) := by decide +kernel
theorem jd_L_law_741 : decode cL_law 741 = .ok (.bipush 6, 2) := by decide +kernel
theorem jd_L_law_743 : decode cL_law 743 = .ok (.invokestatic 29, 3) := by decide +kernel
theorem jd_L_law_746 : decode cL_law 746 = .ok (.bipush 40, 2) := by decide +kernel
theorem jd_L_law_748 : decode cL_law 748 = .ok (.invokestatic 35, 3) := by decide +kernel
theorem jd_L_law_791 : decode cL_law 791 = .ok (.aload_n 0, 1) := by decide +kernel
theorem jd_L_law_792 : decode cL_law 792 = .ok (.bipush 7, 2) := by decide +kernel
theorem jd_L_law_794 : decode cL_law 794 = .ok (.invokestatic 29, 3) := by decide +kernel
theorem jd_L_law_797 : decode cL_law 797 = .ok (.sipush 1000, 3) := by decide +kernel
theorem jd_L_law_800 : decode cL_law 800 = .ok (.invokestatic 35, 3) := by decide +kernel
theorem jd_L_law_946 : decode cL_law 946 = .ok (.aload_n 0, 1) := by decide +kernel
theorem jd_L_law_947 : decode cL_law 947 = .ok (.bipush 8, 2) := by decide +kernel
theorem jd_L_law_949 : decode cL_law 949 = .ok (.invokestatic 29, 3) := by decide +kernel
theorem jd_L_law_952 : decode cL_law 952 = .ok (.bipush 100, 2) := by decide +kernel
theorem jd_L_law_954 : decode cL_law 954 = .ok (.invokestatic 35, 3) := by decide +kernel
theorem jd_L_law_1106 : decode cL_law 1106 = .ok (.aload_n 0, 1) := by decide +kernel
theorem jd_L_law_1107 : decode cL_law 1107 = .ok (.bipush 9, 2) := by decide +kernel
theorem jd_L_law_1109 : decode cL_law 1109 = .ok (.invokestatic 29, 3) := by decide +kernel
theorem jd_L_law_1112 : decode cL_law 1112 = .ok (.bipush 6, 2) := by decide +kernel
theorem jd_L_law_1114 : decode cL_law 1114 = .ok (.invokestatic 35, 3) := by decide +kernel
theorem jd_L_text_0 : decode cL_text 0 = .ok (.iconst 0, 1) := by decide +kernel
theorem jd_L_text_1 : decode cL_text 1 = .ok (.istore_n 2, 1) := by decide +kernel
theorem jd_L_text_2 : decode cL_text 2 = .ok (.iload_n 2, 1) := by decide +kernel
theorem jd_L_text_3 : decode cL_text 3 = .ok (.aload_n 1, 1) := by decide +kernel
theorem jd_L_text_4 : decode cL_text 4 = .ok (.invokevirtual 8, 3) := by decide +kernel
theorem jd_L_text_7 : decode cL_text 7 = .ok (.if_icmp .ge 98, 3) := by decide +kernel
theorem jd_L_text_10 : decode cL_text 10 = .ok (.iconst 5, 1) := by decide +kernel
theorem jd_L_text_11 : decode cL_text 11 = .ok (.newarray .int, 2) := by decide +kernel
theorem jd_L_text_13 : decode cL_text 13 = .ok (.astore_n 3, 1) := by decide +kernel
theorem jd_L_text_14 : decode cL_text 14 = .ok (.iconst 0, 1) := by decide +kernel
theorem jd_L_text_15 : decode cL_text 15 = .ok (.istore 4, 2) := by decide +kernel
theorem jd_L_text_17 : decode cL_text 17 = .ok (.iload 4, 2) := by decide +kernel
theorem jd_L_text_19 : decode cL_text 19 = .ok (.bipush 20, 2) := by decide +kernel
theorem jd_L_text_21 : decode cL_text 21 = .ok (.if_icmp .ge 53, 3) := by decide +kernel
theorem jd_L_text_24 : decode cL_text 24 = .ok (.aload_n 3, 1) := by decide +kernel
theorem jd_L_text_25 : decode cL_text 25 = .ok (.iload 4, 2) := by decide +kernel
theorem jd_L_text_27 : decode cL_text 27 = .ok (.iconst 4, 1) := by decide +kernel
theorem jd_L_text_28 : decode cL_text 28 = .ok (.idiv, 1) := by decide +kernel
theorem jd_L_text_29 : decode cL_text 29 = .ok (.dup2, 1) := by decide +kernel
theorem jd_L_text_30 : decode cL_text 30 = .ok (.iaload, 1) := by decide +kernel
theorem jd_L_text_31 : decode cL_text 31 = .ok (.iload_n 2, 1) := by decide +kernel
theorem jd_L_text_32 : decode cL_text 32 = .ok (.iload 4, 2) := by decide +kernel
theorem jd_L_text_34 : decode cL_text 34 = .ok (.iadd, 1) := by decide +kernel
theorem jd_L_text_35 : decode cL_text 35 = .ok (.aload_n 1, 1) := by decide +kernel
theorem jd_L_text_36 : decode cL_text 36 = .ok (.invokevirtual 8, 3) := by decide +kernel
theorem jd_L_text_39 : decode cL_text 39 = .ok (.if_icmp .ge 14, 3) := by decide +kernel
theorem jd_L_text_42 : decode cL_text 42 = .ok (.aload_n 1, 1) := by decide +kernel
theorem jd_L_text_43 : decode cL_text 43 = .ok (.iload_n 2, 1) := by decide +kernel
theorem jd_L_text_44 : decode cL_text 44 = .ok (.iload 4, 2) := by decide +kernel
theorem jd_L_text_46 : decode cL_text 46 = .ok (.iadd, 1) := by decide +kernel
theorem jd_L_text_47 : decode cL_text 47 = .ok (.invokevirtual 14, 3) := by decide +kernel
theorem jd_L_text_50 : decode cL_text 50 = .ok (.goto 5, 3) := by decide +kernel
theorem jd_L_text_53 : decode cL_text 53 = .ok (.bipush 32, 2) := by decide +kernel
theorem jd_L_text_55 : decode cL_text 55 = .ok (.bipush 24, 2) := by decide +kernel
theorem jd_L_text_57 : decode cL_text 57 = .ok (.bipush 8, 2) := by decide +kernel
theorem jd_L_text_59 : decode cL_text 59 = .ok (.iload 4, 2) := by decide +kernel
theorem jd_L_text_61 : decode cL_text 61 = .ok (.iconst 4, 1) := by decide +kernel
theorem jd_L_text_62 : decode cL_text 62 = .ok (.irem, 1) := by decide +kernel
theorem jd_L_text_63 : decode cL_text 63 = .ok (.imul, 1) := by decide +kernel
theorem jd_L_text_64 : decode cL_text 64 = .ok (.isub, 1) := by decide +kernel
theorem jd_L_text_65 : decode cL_text 65 = .ok (.ishl, 1) := by decide +kernel
theorem jd_L_text_66 : decode cL_text 66 = .ok (.ior, 1) := by decide +kernel
theorem jd_L_text_67 : decode cL_text 67 = .ok (.iastore, 1) := by decide +kernel
theorem jd_L_text_68 : decode cL_text 68 = .ok (.iinc 4 1, 3) := by decide +kernel
theorem jd_L_text_71 : decode cL_text 71 = .ok (.goto (-54), 3) := by decide +kernel
theorem jd_L_text_74 : decode cL_text 74 = .ok (.aload_n 0, 1) := by decide +kernel
theorem jd_L_text_75 : decode cL_text 75 = .ok (.aload_n 3, 1) := by decide +kernel
theorem jd_L_text_76 : decode cL_text 76 = .ok (.iconst 0, 1) := by decide +kernel
theorem jd_L_text_77 : decode cL_text 77 = .ok (.iaload, 1) := by decide +kernel
theorem jd_L_text_78 : decode cL_text 78 = .ok (.aload_n 3, 1) := by decide +kernel
theorem jd_L_text_79 : decode cL_text 79 = .ok (.iconst 1, 1) := by decide +kernel
theorem jd_L_text_80 : decode cL_text 80 = .ok (.iaload, 1) := by decide +kernel
theorem jd_L_text_81 : decode cL_text 81 = .ok (.aload_n 3, 1) := by decide +kernel
theorem jd_L_text_82 : decode cL_text 82 = .ok (.iconst 2, 1) := by decide +kernel
theorem jd_L_text_83 : decode cL_text 83 = .ok (.iaload, 1) := by decide +kernel
theorem jd_L_text_84 : decode cL_text 84 = .ok (.aload_n 3, 1) := by decide +kernel
theorem jd_L_text_85 : decode cL_text 85 = .ok (.iconst 3, 1) := by decide +kernel
theorem jd_L_text_86 : decode cL_text 86 = .ok (.iaload, 1) := by decide +kernel
theorem jd_L_text_87 : decode cL_text 87 = .ok (.aload_n 3, 1) := by decide +kernel
theorem jd_L_text_88 : decode cL_text 88 = .ok (.iconst 4, 1) := by decide +kernel
theorem jd_L_text_89 : decode cL_text 89 = .ok (.iaload, 1) := by decide +kernel
theorem jd_L_text_90 : decode cL_text 90 = .ok (.invokevirtual 18, 3) := by decide +kernel
theorem jd_L_text_93 : decode cL_text 93 = .ok (.ifCond .ge 6, 3) := by decide +kernel
theorem jd_L_text_99 : decode cL_text 99 = .ok (.iinc 2 20, 3) := by decide +kernel
theorem jd_L_text_102 : decode cL_text 102 = .ok (.goto (-100), 3) := by decide +kernel
theorem jd_L_text_105 : decode cL_text 105 = .ok (.aload_n 0, 1) := by decide +kernel
theorem jd_L_text_106 : decode cL_text 106 = .ok (.aload_n 1, 1) := by decide +kernel
theorem jd_L_text_107 : decode cL_text 107 = .ok (.invokevirtual 8, 3) := by decide +kernel
theorem jd_L_text_110 : decode cL_text 110 = .ok (.invokevirtual 24, 3) := by decide +kernel
theorem jd_L_text_113 : decode cL_text 113 = .ok (.ireturn, 1) := by decide +kernel
