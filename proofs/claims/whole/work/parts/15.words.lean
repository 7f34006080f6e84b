theorem gm {w : Cond} (h : w ∈ lw_tbl) (hg : goodWord w = true) : w ∈ gT := List.mem_filter.mpr ⟨h, hg⟩
theorem tT_1 : ∀ w ∈ tables_1_1, w ∈ lw_tbl := fun w h => List.mem_append_right _ (List.mem_append_left _ h)
theorem tT_2 : ∀ w ∈ tables_1_2, w ∈ lw_tbl := fun w h => List.mem_append_right _ (List.mem_append_right _ (List.mem_append_left _ h))
theorem tT_3 : ∀ w ∈ tables_1_3, w ∈ lw_tbl := fun w h => List.mem_append_right _ (List.mem_append_right _ (List.mem_append_right _ (List.mem_append_left _ h)))
theorem tT_4 : ∀ w ∈ tables_1_4, w ∈ lw_tbl := fun w h => List.mem_append_right _ (List.mem_append_right _ (List.mem_append_right _ (List.mem_append_right _ (List.mem_append_left _ h))))
theorem tT_5 : ∀ w ∈ tables_1_5, w ∈ lw_tbl := fun w h => List.mem_append_right _ (List.mem_append_right _ (List.mem_append_right _ (List.mem_append_right _ (List.mem_append_right _ (List.mem_append_left _ h)))))
theorem tT_6 : ∀ w ∈ tables_1_6, w ∈ lw_tbl := fun w h => List.mem_append_right _ (List.mem_append_right _ (List.mem_append_right _ (List.mem_append_right _ (List.mem_append_right _ (List.mem_append_right _ (List.mem_append_left _ h))))))
theorem tT_7 : ∀ w ∈ tables_1_7, w ∈ lw_tbl := fun w h => List.mem_append_right _ (List.mem_append_right _ (List.mem_append_right _ (List.mem_append_right _ (List.mem_append_right _ (List.mem_append_right _ (List.mem_append_right _ (List.mem_append_left _ h)))))))
theorem tT_8 : ∀ w ∈ tables_1_8, w ∈ lw_tbl := fun w h => List.mem_append_right _ (List.mem_append_right _ (List.mem_append_right _ (List.mem_append_right _ (List.mem_append_right _ (List.mem_append_right _ (List.mem_append_right _ (List.mem_append_right _ (List.mem_append_left _ h))))))))
theorem tT_9 : ∀ w ∈ tables_1_9, w ∈ lw_tbl := fun w h => List.mem_append_right _ (List.mem_append_right _ (List.mem_append_right _ (List.mem_append_right _ (List.mem_append_right _ (List.mem_append_right _ (List.mem_append_right _ (List.mem_append_right _ (List.mem_append_right _ (h)))))))))
theorem wn_L : Cond.initialized RL ∈ gT := gm (tT_1 _ (List.mem_of_getElem? (i := 0) rfl)) rfl
theorem wn_X11 : Cond.initialized RX11 ∈ gT := gm (tT_1 _ (List.mem_of_getElem? (i := 1) rfl)) rfl
theorem wn_X8 : Cond.initialized RX8 ∈ gT := gm (tT_1 _ (List.mem_of_getElem? (i := 2) rfl)) rfl
theorem wn_J0 : Cond.initialized RJ0 ∈ gT := gm (tT_1 _ (List.mem_of_getElem? (i := 3) rfl)) rfl
theorem wn_J1 : Cond.initialized RJ1 ∈ gT := gm (tT_1 _ (List.mem_of_getElem? (i := 4) rfl)) rfl
theorem wn_J3 : Cond.initialized RJ3 ∈ gT := gm (tT_1 _ (List.mem_of_getElem? (i := 5) rfl)) rfl
theorem wn_J2 : Cond.initialized RJ2 ∈ gT := gm (tT_1 _ (List.mem_of_getElem? (i := 6) rfl)) rfl
theorem wn_X7 : Cond.initialized RX7 ∈ gT := gm (tT_1 _ (List.mem_of_getElem? (i := 7) rfl)) rfl
theorem wn_X0 : Cond.initialized RX0 ∈ gT := gm (tT_1 _ (List.mem_of_getElem? (i := 8) rfl)) rfl
theorem wn_X2 : Cond.initialized RX2 ∈ gT := gm (tT_1 _ (List.mem_of_getElem? (i := 9) rfl)) rfl
theorem wn_X5 : Cond.initialized RX5 ∈ gT := gm (tT_1 _ (List.mem_of_getElem? (i := 10) rfl)) rfl
theorem wn_X10 : Cond.initialized RX10 ∈ gT := gm (tT_1 _ (List.mem_of_getElem? (i := 11) rfl)) rfl
theorem wn_X3 : Cond.initialized RX3 ∈ gT := gm (tT_1 _ (List.mem_of_getElem? (i := 12) rfl)) rfl
theorem wn_X9 : Cond.initialized RX9 ∈ gT := gm (tT_1 _ (List.mem_of_getElem? (i := 13) rfl)) rfl
theorem wn_X12 : Cond.initialized RX12 ∈ gT := gm (tT_1 _ (List.mem_of_getElem? (i := 14) rfl)) rfl
theorem wn_J10 : Cond.initialized RJ10 ∈ gT := gm (tT_1 _ (List.mem_of_getElem? (i := 15) rfl)) rfl
theorem wn_X1 : Cond.initialized RX1 ∈ gT := gm (tT_1 _ (List.mem_of_getElem? (i := 16) rfl)) rfl
theorem wn_J9 : Cond.initialized RJ9 ∈ gT := gm (tT_1 _ (List.mem_of_getElem? (i := 17) rfl)) rfl
theorem wn_X4 : Cond.initialized RX4 ∈ gT := gm (tT_1 _ (List.mem_of_getElem? (i := 18) rfl)) rfl
theorem wn_J6 : Cond.initialized RJ6 ∈ gT := gm (tT_1 _ (List.mem_of_getElem? (i := 19) rfl)) rfl
theorem wn_X6 : Cond.initialized RX6 ∈ gT := gm (tT_1 _ (List.mem_of_getElem? (i := 20) rfl)) rfl
theorem wq_L_7 : Cond.classLink RL 7 RX11 ∈ gT := gm (tT_1 _ (List.mem_of_getElem? (i := 21) rfl)) rfl
theorem wz_X11 : Cond.instantiable RX11 14 ∈ gT := gm (tT_1 _ (List.mem_of_getElem? (i := 22) rfl)) rfl
theorem wm_L_9 : Cond.methodLink RL 9 yX11_init ∈ gT := gm (tT_1 _ (List.mem_of_getElem? (i := 23) rfl)) rfl
theorem wi_X11_init : Cond.instanceMethod yX11_init ∈ gT := gm (tT_1 _ (List.mem_of_getElem? (i := 24) rfl)) rfl
theorem wc_X11_init : Cond.code yX11_init cX11_init 2 none ∈ gT := gm (tT_1 _ (List.mem_of_getElem? (i := 25) rfl)) rfl
theorem wm_X11_1 : Cond.methodLink RX11 1 objectInit ∈ gT := gm (tT_1 _ (List.mem_of_getElem? (i := 26) rfl)) rfl
theorem wi_Object_init : Cond.instanceMethod objectInit ∈ gT := gm (tT_1 _ (List.mem_of_getElem? (i := 27) rfl)) rfl
theorem wc_Object_init : Cond.code objectInit ⟨#[0xb1]⟩ 1 none ∈ gT := gm (tT_1 _ (List.mem_of_getElem? (i := 28) rfl)) rfl
theorem wq_X11_9 : Cond.classLink RX11 9 RX9 ∈ gT := gm (tT_1 _ (List.mem_of_getElem? (i := 29) rfl)) rfl
theorem wq_X11_15 : Cond.classLink RX11 15 RX8 ∈ gT := gm (tT_1 _ (List.mem_of_getElem? (i := 31) rfl)) rfl
theorem wz_X8 : Cond.instantiable RX8 11 ∈ gT := gm (tT_1 _ (List.mem_of_getElem? (i := 32) rfl)) rfl
theorem wm_X11_17 : Cond.methodLink RX11 17 yX8_init ∈ gT := gm (tT_1 _ (List.mem_of_getElem? (i := 33) rfl)) rfl
theorem wi_X8_init : Cond.instanceMethod yX8_init ∈ gT := gm (tT_1 _ (List.mem_of_getElem? (i := 34) rfl)) rfl
theorem wc_X8_init : Cond.code yX8_init cX8_init 6 none ∈ gT := gm (tT_1 _ (List.mem_of_getElem? (i := 35) rfl)) rfl
theorem wm_X8_3 : Cond.methodLink RX8 3 objectInit ∈ gT := gm (tT_1 _ (List.mem_of_getElem? (i := 36) rfl)) rfl
theorem wm_X8_50 : Cond.methodLink RX8 50 yJ0_length_8abf5 ∈ gT := gm (tT_1 _ (List.mem_of_getElem? (i := 38) rfl)) rfl
theorem wi_J0_length_8abf5 : Cond.instanceMethod yJ0_length_8abf5 ∈ gT := gm (tT_1 _ (List.mem_of_getElem? (i := 39) rfl)) rfl
theorem wl_J0_length_8abf5 : Cond.selects RJ0 yJ0_length_8abf5 yJ0_length_8abf5 ∈ gT := gm (tT_1 _ (List.mem_of_getElem? (i := 40) rfl)) rfl
theorem wc_J0_length_8abf5 : Cond.code yJ0_length_8abf5 cJ0_length_8abf5 1 (some .int) ∈ gT := gm (tT_1 _ (List.mem_of_getElem? (i := 41) rfl)) rfl
theorem wm_J0_335 : Cond.methodLink RJ0 335 yJ0_coder_7d493 ∈ gT := gm (tT_1 _ (List.mem_of_getElem? (i := 42) rfl)) rfl
theorem wi_J0_coder_7d493 : Cond.instanceMethod yJ0_coder_7d493 ∈ gT := gm (tT_1 _ (List.mem_of_getElem? (i := 43) rfl)) rfl
theorem wl_J0_coder_7d493 : Cond.selects RJ0 yJ0_coder_7d493 yJ0_coder_7d493 ∈ gT := gm (tT_1 _ (List.mem_of_getElem? (i := 44) rfl)) rfl
theorem wc_J0_coder_7d493 : Cond.code yJ0_coder_7d493 cJ0_coder_7d493 1 (some .byte) ∈ gT := gm (tT_1 _ (List.mem_of_getElem? (i := 45) rfl)) rfl
theorem wf_J0_38 : Cond.fieldLink RJ0 38 "java/lang/String" "COMPACT_STRINGS" "Z" ∈ gT := gm (tT_1 _ (List.mem_of_getElem? (i := 46) rfl)) rfl
theorem wm_X8_56 : Cond.methodLink RX8 56 yJ0_charAt_5068e ∈ gT := gm (tT_1 _ (List.mem_of_getElem? (i := 48) rfl)) rfl
theorem wi_J0_charAt_5068e : Cond.instanceMethod yJ0_charAt_5068e ∈ gT := gm (tT_1 _ (List.mem_of_getElem? (i := 49) rfl)) rfl
theorem wl_J0_charAt_5068e : Cond.selects RJ0 yJ0_charAt_5068e yJ0_charAt_5068e ∈ gT := gm (tT_1 _ (List.mem_of_getElem? (i := 50) rfl)) rfl
theorem wc_J0_charAt_5068e : Cond.code yJ0_charAt_5068e cJ0_charAt_5068e 2 (some .char) ∈ gT := gm (tT_1 _ (List.mem_of_getElem? (i := 51) rfl)) rfl
theorem wm_J0_492 : Cond.methodLink RJ0 492 yJ0_isLatin1_aae02 ∈ gT := gm (tT_1 _ (List.mem_of_getElem? (i := 52) rfl)) rfl
theorem wi_J0_isLatin1_aae02 : Cond.instanceMethod yJ0_isLatin1_aae02 ∈ gT := gm (tT_1 _ (List.mem_of_getElem? (i := 53) rfl)) rfl
theorem wl_J0_isLatin1_aae02 : Cond.selects RJ0 yJ0_isLatin1_aae02 yJ0_isLatin1_aae02 ∈ gT := gm (tT_1 _ (List.mem_of_getElem? (i := 54) rfl)) rfl
theorem wc_J0_isLatin1_aae02 : Cond.code yJ0_isLatin1_aae02 cJ0_isLatin1_aae02 1 (some .boolean) ∈ gT := gm (tT_1 _ (List.mem_of_getElem? (i := 55) rfl)) rfl
theorem wm_J0_495 : Cond.methodLink RJ0 495 yJ1_charAt_3b067 ∈ gT := gm (tT_1 _ (List.mem_of_getElem? (i := 56) rfl)) rfl
theorem wt_J1_charAt_3b067 : Cond.static yJ1_charAt_3b067 ∈ gT := gm (tT_1 _ (List.mem_of_getElem? (i := 57) rfl)) rfl
theorem wc_J1_charAt_3b067 : Cond.code yJ1_charAt_3b067 cJ1_charAt_3b067 2 (some .char) ∈ gT := gm (tT_1 _ (List.mem_of_getElem? (i := 58) rfl)) rfl
theorem wm_J1_9 : Cond.methodLink RJ1 9 yJ0_checkIndex_df160 ∈ gT := gm (tT_1 _ (List.mem_of_getElem? (i := 59) rfl)) rfl
theorem wt_J0_checkIndex_df160 : Cond.static yJ0_checkIndex_df160 ∈ gT := gm (tT_1 _ (List.mem_of_getElem? (i := 60) rfl)) rfl
theorem wc_J0_checkIndex_df160 : Cond.code yJ0_checkIndex_df160 cJ0_checkIndex_df160 2 none ∈ gT := gm (tT_1 _ (List.mem_of_getElem? (i := 61) rfl)) rfl
theorem wf_J0_1053 : Cond.fieldLink RJ0 1053 "jdk/internal/util/Preconditions" "SIOOBE_FORMATTER" "Ljava/util/function/BiFunction;" ∈ gT := gm (tT_1 _ (List.mem_of_getElem? (i := 62) rfl)) rfl
theorem wm_J0_1059 : Cond.methodLink RJ0 1059 yJ3_checkIndex_8e157 ∈ gT := gm (tT_1 _ (List.mem_of_getElem? (i := 64) rfl)) rfl
theorem wt_J3_checkIndex_8e157 : Cond.static yJ3_checkIndex_8e157 ∈ gT := gm (tT_1 _ (List.mem_of_getElem? (i := 65) rfl)) rfl
theorem wc_J3_checkIndex_8e157 : Cond.code yJ3_checkIndex_8e157 cJ3_checkIndex_8e157 3 (some .int) ∈ gT := gm (tT_1 _ (List.mem_of_getElem? (i := 66) rfl)) rfl
theorem wm_J0_498 : Cond.methodLink RJ0 498 yJ2_charAt_3b067 ∈ gT := gm (tT_1 _ (List.mem_of_getElem? (i := 67) rfl)) rfl
theorem wt_J2_charAt_3b067 : Cond.static yJ2_charAt_3b067 ∈ gT := gm (tT_1 _ (List.mem_of_getElem? (i := 68) rfl)) rfl
theorem wc_J2_charAt_3b067 : Cond.code yJ2_charAt_3b067 cJ2_charAt_3b067 2 (some .char) ∈ gT := gm (tT_1 _ (List.mem_of_getElem? (i := 69) rfl)) rfl
theorem wm_J2_67 : Cond.methodLink RJ2 67 yJ2_checkIndex_2214a ∈ gT := gm (tT_1 _ (List.mem_of_getElem? (i := 70) rfl)) rfl
theorem wt_J2_checkIndex_2214a : Cond.static yJ2_checkIndex_2214a ∈ gT := gm (tT_1 _ (List.mem_of_getElem? (i := 71) rfl)) rfl
theorem wc_J2_checkIndex_2214a : Cond.code yJ2_checkIndex_2214a cJ2_checkIndex_2214a 2 none ∈ gT := gm (tT_1 _ (List.mem_of_getElem? (i := 72) rfl)) rfl
theorem wm_J2_48 : Cond.methodLink RJ2 48 yJ2_length_9d52b ∈ gT := gm (tT_1 _ (List.mem_of_getElem? (i := 73) rfl)) rfl
theorem wt_J2_length_9d52b : Cond.static yJ2_length_9d52b ∈ gT := gm (tT_1 _ (List.mem_of_getElem? (i := 74) rfl)) rfl
theorem wc_J2_length_9d52b : Cond.code yJ2_length_9d52b cJ2_length_9d52b 1 (some .int) ∈ gT := gm (tT_1 _ (List.mem_of_getElem? (i := 75) rfl)) rfl
theorem wm_J2_414 : Cond.methodLink RJ2 414 yJ0_checkIndex_df160 ∈ gT := gm (tT_1 _ (List.mem_of_getElem? (i := 76) rfl)) rfl
theorem wm_J2_71 : Cond.methodLink RJ2 71 yJ2_getChar_3b067 ∈ gT := gm (tT_1 _ (List.mem_of_getElem? (i := 77) rfl)) rfl
theorem wt_J2_getChar_3b067 : Cond.static yJ2_getChar_3b067 ∈ gT := gm (tT_1 _ (List.mem_of_getElem? (i := 78) rfl)) rfl
theorem wc_J2_getChar_3b067 : Cond.code yJ2_getChar_3b067 cJ2_getChar_3b067 2 (some .char) ∈ gT := gm (tT_1 _ (List.mem_of_getElem? (i := 79) rfl)) rfl
theorem wf_J2_44 : Cond.fieldLink RJ2 44 "java/lang/StringUTF16" "$assertionsDisabled" "Z" ∈ gT := gm (tT_1 _ (List.mem_of_getElem? (i := 80) rfl)) rfl
theorem wf_J2_59 : Cond.fieldLink RJ2 59 "java/lang/StringUTF16" "HI_BYTE_SHIFT" "I" ∈ gT := gm (tT_1 _ (List.mem_of_getElem? (i := 82) rfl)) rfl
theorem wf_J2_63 : Cond.fieldLink RJ2 63 "java/lang/StringUTF16" "LO_BYTE_SHIFT" "I" ∈ gT := gm (tT_1 _ (List.mem_of_getElem? (i := 84) rfl)) rfl
theorem wm_X8_60 : Cond.methodLink RX8 60 yX8_withLetter ∈ gT := gm (tT_1 _ (List.mem_of_getElem? (i := 86) rfl)) rfl
theorem wt_X8_withLetter : Cond.static yX8_withLetter ∈ gT := gm (tT_1 _ (List.mem_of_getElem? (i := 87) rfl)) rfl
theorem wc_X8_withLetter : Cond.code yX8_withLetter cX8_withLetter 3 (some .long) ∈ gT := gm (tT_1 _ (List.mem_of_getElem? (i := 88) rfl)) rfl
theorem wk_X8_64 : Cond.constantLong RX8 64 (27) ∈ gT := gm (tT_1 _ (List.mem_of_getElem? (i := 89) rfl)) rfl
theorem wf_X8_9 : Cond.fieldLink RX8 9 "SwapBook$Tokens" "tape" "[B" ∈ gT := gm (tT_1 _ (List.mem_of_getElem? (i := 90) rfl)) rfl
theorem wf_X8_15 : Cond.fieldLink RX8 15 "SwapBook$Tokens" "keywordNames" "[J" ∈ gT := gm (tT_1 _ (List.mem_of_getElem? (i := 91) rfl)) rfl
theorem wf_X8_19 : Cond.fieldLink RX8 19 "SwapBook$Tokens" "tapeLength" "I" ∈ gT := gm (tT_1 _ (List.mem_of_getElem? (i := 92) rfl)) rfl
theorem wf_X11_145 : Cond.fieldLink RX11 145 "SwapBook$Tokens" "tapeLength" "I" ∈ gT := gm (tT_1 _ (List.mem_of_getElem? (i := 93) rfl)) rfl
theorem wf_X8_23 : Cond.fieldLink RX8 23 "SwapBook$Tokens" "fault" "I" ∈ gT := gm (tT_1 _ (List.mem_of_getElem? (i := 94) rfl)) rfl
theorem wf_X11_157 : Cond.fieldLink RX11 157 "SwapBook$Tokens" "fault" "I" ∈ gT := gm (tT_1 _ (List.mem_of_getElem? (i := 95) rfl)) rfl
theorem wf_X8_26 : Cond.fieldLink RX8 26 "SwapBook$Tokens" "faultPlace" "I" ∈ gT := gm (tT_1 _ (List.mem_of_getElem? (i := 96) rfl)) rfl
theorem wf_X11_194 : Cond.fieldLink RX11 194 "SwapBook$Tokens" "faultPlace" "I" ∈ gT := gm (tT_1 _ (List.mem_of_getElem? (i := 97) rfl)) rfl
theorem wf_X8_29 : Cond.fieldLink RX8 29 "SwapBook$Tokens" "textLength" "I" ∈ gT := gm (tT_1 _ (List.mem_of_getElem? (i := 98) rfl)) rfl
theorem wf_X8_32 : Cond.fieldLink RX8 32 "SwapBook$Tokens" "kinds" "[I" ∈ gT := gm (tT_1 _ (List.mem_of_getElem? (i := 99) rfl)) rfl
theorem wf_X8_36 : Cond.fieldLink RX8 36 "SwapBook$Tokens" "starts" "[I" ∈ gT := gm (tT_1 _ (List.mem_of_getElem? (i := 100) rfl)) rfl
theorem wf_X8_39 : Cond.fieldLink RX8 39 "SwapBook$Tokens" "values" "[J" ∈ gT := gm (tT_1 _ (List.mem_of_getElem? (i := 101) rfl)) rfl
theorem wf_X8_42 : Cond.fieldLink RX8 42 "SwapBook$Tokens" "last" "I" ∈ gT := gm (tT_1 _ (List.mem_of_getElem? (i := 102) rfl)) rfl
theorem wf_X8_45 : Cond.fieldLink RX8 45 "SwapBook$Tokens" "at" "I" ∈ gT := gm (tT_1 _ (List.mem_of_getElem? (i := 103) rfl)) rfl
theorem wy_X8_tape : Cond.laysFinal RX8 "SwapBook$Tokens" "tape" "[B" ∈ gT := gm (tT_1 _ (List.mem_of_getElem? (i := 104) rfl)) rfl
theorem wy_X8_keywordNames : Cond.laysFinal RX8 "SwapBook$Tokens" "keywordNames" "[J" ∈ gT := gm (tT_1 _ (List.mem_of_getElem? (i := 106) rfl)) rfl
theorem wy_X8_tapeLength : Cond.lays RX8 "SwapBook$Tokens" "tapeLength" "I" ∈ gT := gm (tT_1 _ (List.mem_of_getElem? (i := 108) rfl)) rfl
theorem wy_X8_fault : Cond.lays RX8 "SwapBook$Tokens" "fault" "I" ∈ gT := gm (tT_1 _ (List.mem_of_getElem? (i := 110) rfl)) rfl
theorem wy_X8_faultPlace : Cond.lays RX8 "SwapBook$Tokens" "faultPlace" "I" ∈ gT := gm (tT_1 _ (List.mem_of_getElem? (i := 112) rfl)) rfl
theorem wy_X8_textLength : Cond.lays RX8 "SwapBook$Tokens" "textLength" "I" ∈ gT := gm (tT_1 _ (List.mem_of_getElem? (i := 114) rfl)) rfl
theorem wy_X8_kinds : Cond.laysFinal RX8 "SwapBook$Tokens" "kinds" "[I" ∈ gT := gm (tT_1 _ (List.mem_of_getElem? (i := 116) rfl)) rfl
theorem wy_X8_starts : Cond.laysFinal RX8 "SwapBook$Tokens" "starts" "[I" ∈ gT := gm (tT_1 _ (List.mem_of_getElem? (i := 118) rfl)) rfl
theorem wy_X8_values : Cond.laysFinal RX8 "SwapBook$Tokens" "values" "[J" ∈ gT := gm (tT_1 _ (List.mem_of_getElem? (i := 120) rfl)) rfl
theorem wy_X8_last : Cond.lays RX8 "SwapBook$Tokens" "last" "I" ∈ gT := gm (tT_1 _ (List.mem_of_getElem? (i := 122) rfl)) rfl
theorem wy_X8_at : Cond.lays RX8 "SwapBook$Tokens" "at" "I" ∈ gT := gm (tT_1 _ (List.mem_of_getElem? (i := 124) rfl)) rfl
theorem wa_byte : Cond.arrayClass .byte ∈ gT := gm (tT_1 _ (List.mem_of_getElem? (i := 127) rfl)) rfl
theorem wa_long : Cond.arrayClass .long ∈ gT := gm (tT_1 _ (List.mem_of_getElem? (i := 128) rfl)) rfl
theorem wa_int : Cond.arrayClass .int ∈ gT := gm (tT_1 _ (List.mem_of_getElem? (i := 129) rfl)) rfl
theorem wq_X11_22 : Cond.classLink RX11 22 RX7 ∈ gT := gm (tT_1 _ (List.mem_of_getElem? (i := 130) rfl)) rfl
theorem wz_X7 : Cond.instantiable RX7 5 ∈ gT := gm (tT_1 _ (List.mem_of_getElem? (i := 131) rfl)) rfl
theorem wi_X7_init : Cond.instanceMethod yX7_init ∈ gT := gm (tT_1 _ (List.mem_of_getElem? (i := 133) rfl)) rfl
theorem wc_X7_init : Cond.code yX7_init cX7_init 1 none ∈ gT := gm (tT_1 _ (List.mem_of_getElem? (i := 134) rfl)) rfl
theorem wm_X7_3 : Cond.methodLink RX7 3 objectInit ∈ gT := gm (tT_1 _ (List.mem_of_getElem? (i := 135) rfl)) rfl
theorem wq_X7_9 : Cond.classLink RX7 9 RX0 ∈ gT := gm (tT_1 _ (List.mem_of_getElem? (i := 136) rfl)) rfl
theorem wz_X0 : Cond.instantiable RX0 16 ∈ gT := gm (tT_1 _ (List.mem_of_getElem? (i := 137) rfl)) rfl
theorem wi_X0_init : Cond.instanceMethod yX0_init ∈ gT := gm (tT_1 _ (List.mem_of_getElem? (i := 139) rfl)) rfl
theorem wc_X0_init : Cond.code yX0_init cX0_init 1 none ∈ gT := gm (tT_1 _ (List.mem_of_getElem? (i := 140) rfl)) rfl
theorem wm_X0_3 : Cond.methodLink RX0 3 objectInit ∈ gT := gm (tT_1 _ (List.mem_of_getElem? (i := 141) rfl)) rfl
theorem wf_X0_9 : Cond.fieldLink RX0 9 "SwapBook$Book" "islands" "I" ∈ gT := gm (tT_1 _ (List.mem_of_getElem? (i := 142) rfl)) rfl
theorem wf_X1_42 : Cond.fieldLink RX1 42 "SwapBook$Book" "islands" "I" ∈ gT := gm (tT_1 _ (List.mem_of_getElem? (i := 143) rfl)) rfl
theorem wf_X10_89 : Cond.fieldLink RX10 89 "SwapBook$Book" "islands" "I" ∈ gT := gm (tT_1 _ (List.mem_of_getElem? (i := 144) rfl)) rfl
theorem wf_X11_197 : Cond.fieldLink RX11 197 "SwapBook$Book" "islands" "I" ∈ gT := gm (tT_1 _ (List.mem_of_getElem? (i := 145) rfl)) rfl
theorem wf_X0_15 : Cond.fieldLink RX0 15 "SwapBook$Book" "changes" "I" ∈ gT := gm (tT_1 _ (List.mem_of_getElem? (i := 146) rfl)) rfl
theorem wf_X2_31 : Cond.fieldLink RX2 31 "SwapBook$Book" "changes" "I" ∈ gT := gm (tT_1 _ (List.mem_of_getElem? (i := 147) rfl)) rfl
theorem wf_X5_40 : Cond.fieldLink RX5 40 "SwapBook$Book" "changes" "I" ∈ gT := gm (tT_1 _ (List.mem_of_getElem? (i := 148) rfl)) rfl
theorem wf_X6_48 : Cond.fieldLink RX6 48 "SwapBook$Book" "changes" "I" ∈ gT := gm (tT_1 _ (List.mem_of_getElem? (i := 149) rfl)) rfl
theorem wf_X1_84 : Cond.fieldLink RX1 84 "SwapBook$Book" "changes" "I" ∈ gT := gm (tT_1 _ (List.mem_of_getElem? (i := 150) rfl)) rfl
theorem wf_X11_164 : Cond.fieldLink RX11 164 "SwapBook$Book" "changes" "I" ∈ gT := gm (tT_1 _ (List.mem_of_getElem? (i := 151) rfl)) rfl
theorem wf_X0_18 : Cond.fieldLink RX0 18 "SwapBook$Book" "islandNames" "[J" ∈ gT := gm (tT_1 _ (List.mem_of_getElem? (i := 152) rfl)) rfl
theorem wf_X0_22 : Cond.fieldLink RX0 22 "SwapBook$Book" "changeNames" "[J" ∈ gT := gm (tT_1 _ (List.mem_of_getElem? (i := 153) rfl)) rfl
theorem wf_X1_87 : Cond.fieldLink RX1 87 "SwapBook$Book" "changeNames" "[J" ∈ gT := gm (tT_1 _ (List.mem_of_getElem? (i := 154) rfl)) rfl
theorem wf_X0_25 : Cond.fieldLink RX0 25 "SwapBook$Book" "kinds" "[I" ∈ gT := gm (tT_1 _ (List.mem_of_getElem? (i := 155) rfl)) rfl
theorem wf_X1_91 : Cond.fieldLink RX1 91 "SwapBook$Book" "kinds" "[I" ∈ gT := gm (tT_1 _ (List.mem_of_getElem? (i := 156) rfl)) rfl
theorem wf_X11_215 : Cond.fieldLink RX11 215 "SwapBook$Book" "kinds" "[I" ∈ gT := gm (tT_1 _ (List.mem_of_getElem? (i := 157) rfl)) rfl
theorem wf_X0_29 : Cond.fieldLink RX0 29 "SwapBook$Book" "numbers" "[I" ∈ gT := gm (tT_1 _ (List.mem_of_getElem? (i := 158) rfl)) rfl
theorem wf_X1_95 : Cond.fieldLink RX1 95 "SwapBook$Book" "numbers" "[I" ∈ gT := gm (tT_1 _ (List.mem_of_getElem? (i := 159) rfl)) rfl
theorem wf_X11_218 : Cond.fieldLink RX11 218 "SwapBook$Book" "numbers" "[I" ∈ gT := gm (tT_1 _ (List.mem_of_getElem? (i := 160) rfl)) rfl
theorem wf_X0_32 : Cond.fieldLink RX0 32 "SwapBook$Book" "sayings" "[I" ∈ gT := gm (tT_1 _ (List.mem_of_getElem? (i := 161) rfl)) rfl
theorem wf_X1_127 : Cond.fieldLink RX1 127 "SwapBook$Book" "sayings" "[I" ∈ gT := gm (tT_1 _ (List.mem_of_getElem? (i := 162) rfl)) rfl
theorem wf_X11_223 : Cond.fieldLink RX11 223 "SwapBook$Book" "sayings" "[I" ∈ gT := gm (tT_1 _ (List.mem_of_getElem? (i := 163) rfl)) rfl
theorem wf_X0_35 : Cond.fieldLink RX0 35 "SwapBook$Book" "things" "[I" ∈ gT := gm (tT_1 _ (List.mem_of_getElem? (i := 164) rfl)) rfl
theorem wf_X1_108 : Cond.fieldLink RX1 108 "SwapBook$Book" "things" "[I" ∈ gT := gm (tT_1 _ (List.mem_of_getElem? (i := 165) rfl)) rfl
theorem wf_X11_226 : Cond.fieldLink RX11 226 "SwapBook$Book" "things" "[I" ∈ gT := gm (tT_1 _ (List.mem_of_getElem? (i := 166) rfl)) rfl
theorem wf_X0_38 : Cond.fieldLink RX0 38 "SwapBook$Book" "levels" "[I" ∈ gT := gm (tT_1 _ (List.mem_of_getElem? (i := 167) rfl)) rfl
theorem wf_X11_229 : Cond.fieldLink RX11 229 "SwapBook$Book" "levels" "[I" ∈ gT := gm (tT_1 _ (List.mem_of_getElem? (i := 168) rfl)) rfl
theorem wf_X0_41 : Cond.fieldLink RX0 41 "SwapBook$Book" "direct" "[I" ∈ gT := gm (tT_1 _ (List.mem_of_getElem? (i := 169) rfl)) rfl
theorem wf_X7_43 : Cond.fieldLink RX7 43 "SwapBook$Book" "direct" "[I" ∈ gT := gm (tT_1 _ (List.mem_of_getElem? (i := 170) rfl)) rfl
theorem wf_X1_134 : Cond.fieldLink RX1 134 "SwapBook$Book" "direct" "[I" ∈ gT := gm (tT_1 _ (List.mem_of_getElem? (i := 171) rfl)) rfl
theorem wf_X11_232 : Cond.fieldLink RX11 232 "SwapBook$Book" "direct" "[I" ∈ gT := gm (tT_1 _ (List.mem_of_getElem? (i := 172) rfl)) rfl
theorem wf_X0_44 : Cond.fieldLink RX0 44 "SwapBook$Book" "below" "[I" ∈ gT := gm (tT_1 _ (List.mem_of_getElem? (i := 173) rfl)) rfl
theorem wf_X5_47 : Cond.fieldLink RX5 47 "SwapBook$Book" "below" "[I" ∈ gT := gm (tT_1 _ (List.mem_of_getElem? (i := 174) rfl)) rfl
theorem wf_X10_136 : Cond.fieldLink RX10 136 "SwapBook$Book" "below" "[I" ∈ gT := gm (tT_1 _ (List.mem_of_getElem? (i := 175) rfl)) rfl
theorem wf_X11_235 : Cond.fieldLink RX11 235 "SwapBook$Book" "below" "[I" ∈ gT := gm (tT_1 _ (List.mem_of_getElem? (i := 176) rfl)) rfl
theorem wf_X0_47 : Cond.fieldLink RX0 47 "SwapBook$Book" "above" "[I" ∈ gT := gm (tT_1 _ (List.mem_of_getElem? (i := 177) rfl)) rfl
theorem wf_X5_51 : Cond.fieldLink RX5 51 "SwapBook$Book" "above" "[I" ∈ gT := gm (tT_1 _ (List.mem_of_getElem? (i := 178) rfl)) rfl
theorem wf_X11_238 : Cond.fieldLink RX11 238 "SwapBook$Book" "above" "[I" ∈ gT := gm (tT_1 _ (List.mem_of_getElem? (i := 179) rfl)) rfl
theorem wf_X0_50 : Cond.fieldLink RX0 50 "SwapBook$Book" "foes" "[I" ∈ gT := gm (tT_1 _ (List.mem_of_getElem? (i := 180) rfl)) rfl
theorem wf_X1_137 : Cond.fieldLink RX1 137 "SwapBook$Book" "foes" "[I" ∈ gT := gm (tT_1 _ (List.mem_of_getElem? (i := 181) rfl)) rfl
theorem wf_X0_53 : Cond.fieldLink RX0 53 "SwapBook$Book" "winners" "[I" ∈ gT := gm (tT_1 _ (List.mem_of_getElem? (i := 182) rfl)) rfl
theorem wf_X1_143 : Cond.fieldLink RX1 143 "SwapBook$Book" "winners" "[I" ∈ gT := gm (tT_1 _ (List.mem_of_getElem? (i := 183) rfl)) rfl
theorem wf_X0_56 : Cond.fieldLink RX0 56 "SwapBook$Book" "losers" "[I" ∈ gT := gm (tT_1 _ (List.mem_of_getElem? (i := 184) rfl)) rfl
theorem wf_X1_146 : Cond.fieldLink RX1 146 "SwapBook$Book" "losers" "[I" ∈ gT := gm (tT_1 _ (List.mem_of_getElem? (i := 185) rfl)) rfl
theorem wf_X0_59 : Cond.fieldLink RX0 59 "SwapBook$Book" "settles" "I" ∈ gT := gm (tT_1 _ (List.mem_of_getElem? (i := 186) rfl)) rfl
theorem wy_X0_islands : Cond.lays RX0 "SwapBook$Book" "islands" "I" ∈ gT := gm (tT_1 _ (List.mem_of_getElem? (i := 187) rfl)) rfl
theorem wy_X0_changes : Cond.lays RX0 "SwapBook$Book" "changes" "I" ∈ gT := gm (tT_1 _ (List.mem_of_getElem? (i := 189) rfl)) rfl
theorem wy_X0_islandNames : Cond.laysFinal RX0 "SwapBook$Book" "islandNames" "[J" ∈ gT := gm (tT_1 _ (List.mem_of_getElem? (i := 191) rfl)) rfl
theorem wy_X0_changeNames : Cond.laysFinal RX0 "SwapBook$Book" "changeNames" "[J" ∈ gT := gm (tT_1 _ (List.mem_of_getElem? (i := 193) rfl)) rfl
theorem wy_X0_kinds : Cond.laysFinal RX0 "SwapBook$Book" "kinds" "[I" ∈ gT := gm (tT_1 _ (List.mem_of_getElem? (i := 195) rfl)) rfl
theorem wy_X0_numbers : Cond.laysFinal RX0 "SwapBook$Book" "numbers" "[I" ∈ gT := gm (tT_1 _ (List.mem_of_getElem? (i := 197) rfl)) rfl
theorem wy_X0_sayings : Cond.laysFinal RX0 "SwapBook$Book" "sayings" "[I" ∈ gT := gm (tT_1 _ (List.mem_of_getElem? (i := 199) rfl)) rfl
theorem wy_X0_things : Cond.laysFinal RX0 "SwapBook$Book" "things" "[I" ∈ gT := gm (tT_1 _ (List.mem_of_getElem? (i := 201) rfl)) rfl
theorem wy_X0_levels : Cond.laysFinal RX0 "SwapBook$Book" "levels" "[I" ∈ gT := gm (tT_1 _ (List.mem_of_getElem? (i := 203) rfl)) rfl
theorem wy_X0_direct : Cond.laysFinal RX0 "SwapBook$Book" "direct" "[I" ∈ gT := gm (tT_1 _ (List.mem_of_getElem? (i := 205) rfl)) rfl
theorem wy_X0_below : Cond.laysFinal RX0 "SwapBook$Book" "below" "[I" ∈ gT := gm (tT_1 _ (List.mem_of_getElem? (i := 207) rfl)) rfl
theorem wy_X0_above : Cond.laysFinal RX0 "SwapBook$Book" "above" "[I" ∈ gT := gm (tT_1 _ (List.mem_of_getElem? (i := 209) rfl)) rfl
theorem wy_X0_foes : Cond.laysFinal RX0 "SwapBook$Book" "foes" "[I" ∈ gT := gm (tT_1 _ (List.mem_of_getElem? (i := 211) rfl)) rfl
theorem wy_X0_winners : Cond.laysFinal RX0 "SwapBook$Book" "winners" "[I" ∈ gT := gm (tT_1 _ (List.mem_of_getElem? (i := 213) rfl)) rfl
theorem wy_X0_losers : Cond.laysFinal RX0 "SwapBook$Book" "losers" "[I" ∈ gT := gm (tT_1 _ (List.mem_of_getElem? (i := 215) rfl)) rfl
theorem wy_X0_settles : Cond.lays RX0 "SwapBook$Book" "settles" "I" ∈ gT := gm (tT_1 _ (List.mem_of_getElem? (i := 217) rfl)) rfl
theorem wf_X7_12 : Cond.fieldLink RX7 12 "SwapBook$State" "book" "LSwapBook$Book;" ∈ gT := gm (tT_1 _ (List.mem_of_getElem? (i := 220) rfl)) rfl
theorem wf_X11_174 : Cond.fieldLink RX11 174 "SwapBook$State" "book" "LSwapBook$Book;" ∈ gT := gm (tT_1 _ (List.mem_of_getElem? (i := 221) rfl)) rfl
theorem wf_X7_18 : Cond.fieldLink RX7 18 "SwapBook$State" "log" "LSwapBook$Log;" ∈ gT := gm (tT_1 _ (List.mem_of_getElem? (i := 222) rfl)) rfl
theorem wf_X11_185 : Cond.fieldLink RX11 185 "SwapBook$State" "log" "LSwapBook$Log;" ∈ gT := gm (tT_1 _ (List.mem_of_getElem? (i := 223) rfl)) rfl
theorem wf_X7_22 : Cond.fieldLink RX7 22 "SwapBook$State" "has" "[I" ∈ gT := gm (tT_1 _ (List.mem_of_getElem? (i := 224) rfl)) rfl
theorem wf_X11_379 : Cond.fieldLink RX11 379 "SwapBook$State" "has" "[I" ∈ gT := gm (tT_1 _ (List.mem_of_getElem? (i := 225) rfl)) rfl
theorem wf_X7_26 : Cond.fieldLink RX7 26 "SwapBook$State" "order" "[I" ∈ gT := gm (tT_1 _ (List.mem_of_getElem? (i := 226) rfl)) rfl
theorem wf_X11_337 : Cond.fieldLink RX11 337 "SwapBook$State" "order" "[I" ∈ gT := gm (tT_1 _ (List.mem_of_getElem? (i := 227) rfl)) rfl
theorem wf_X7_29 : Cond.fieldLink RX7 29 "SwapBook$State" "orderLength" "I" ∈ gT := gm (tT_1 _ (List.mem_of_getElem? (i := 228) rfl)) rfl
theorem wf_X11_344 : Cond.fieldLink RX11 344 "SwapBook$State" "orderLength" "I" ∈ gT := gm (tT_1 _ (List.mem_of_getElem? (i := 229) rfl)) rfl
theorem wy_X7_book : Cond.lays RX7 "SwapBook$State" "book" "LSwapBook$Book;" ∈ gT := gm (tT_1 _ (List.mem_of_getElem? (i := 230) rfl)) rfl
theorem wy_X7_log : Cond.lays RX7 "SwapBook$State" "log" "LSwapBook$Log;" ∈ gT := gm (tT_1 _ (List.mem_of_getElem? (i := 232) rfl)) rfl
theorem wy_X7_has : Cond.laysFinal RX7 "SwapBook$State" "has" "[I" ∈ gT := gm (tT_1 _ (List.mem_of_getElem? (i := 234) rfl)) rfl
theorem wy_X7_order : Cond.laysFinal RX7 "SwapBook$State" "order" "[I" ∈ gT := gm (tT_1 _ (List.mem_of_getElem? (i := 236) rfl)) rfl
theorem wy_X7_orderLength : Cond.lays RX7 "SwapBook$State" "orderLength" "I" ∈ gT := gm (tT_1 _ (List.mem_of_getElem? (i := 238) rfl)) rfl
theorem wq_X11_33 : Cond.classLink RX11 33 RX2 ∈ gT := gm (tT_2 _ (List.mem_of_getElem? (i := 2) rfl)) rfl
theorem wz_X2 : Cond.instantiable RX2 4 ∈ gT := gm (tT_2 _ (List.mem_of_getElem? (i := 3) rfl)) rfl
theorem wi_X2_init : Cond.instanceMethod yX2_init ∈ gT := gm (tT_2 _ (List.mem_of_getElem? (i := 5) rfl)) rfl
theorem wc_X2_init : Cond.code yX2_init cX2_init 1 none ∈ gT := gm (tT_2 _ (List.mem_of_getElem? (i := 6) rfl)) rfl
theorem wm_X2_3 : Cond.methodLink RX2 3 objectInit ∈ gT := gm (tT_2 _ (List.mem_of_getElem? (i := 7) rfl)) rfl
theorem wf_X2_9 : Cond.fieldLink RX2 9 "SwapBook$Listing" "count" "I" ∈ gT := gm (tT_2 _ (List.mem_of_getElem? (i := 8) rfl)) rfl
theorem wf_X11_269 : Cond.fieldLink RX11 269 "SwapBook$Listing" "count" "I" ∈ gT := gm (tT_2 _ (List.mem_of_getElem? (i := 9) rfl)) rfl
theorem wf_X2_15 : Cond.fieldLink RX2 15 "SwapBook$Listing" "puts" "[I" ∈ gT := gm (tT_2 _ (List.mem_of_getElem? (i := 10) rfl)) rfl
theorem wf_X11_275 : Cond.fieldLink RX11 275 "SwapBook$Listing" "puts" "[I" ∈ gT := gm (tT_2 _ (List.mem_of_getElem? (i := 11) rfl)) rfl
theorem wf_X2_19 : Cond.fieldLink RX2 19 "SwapBook$Listing" "sayings" "[I" ∈ gT := gm (tT_2 _ (List.mem_of_getElem? (i := 12) rfl)) rfl
theorem wf_X11_284 : Cond.fieldLink RX11 284 "SwapBook$Listing" "sayings" "[I" ∈ gT := gm (tT_2 _ (List.mem_of_getElem? (i := 13) rfl)) rfl
theorem wf_X2_22 : Cond.fieldLink RX2 22 "SwapBook$Listing" "keys" "[I" ∈ gT := gm (tT_2 _ (List.mem_of_getElem? (i := 14) rfl)) rfl
theorem wf_X11_285 : Cond.fieldLink RX11 285 "SwapBook$Listing" "keys" "[I" ∈ gT := gm (tT_2 _ (List.mem_of_getElem? (i := 15) rfl)) rfl
theorem wy_X2_count : Cond.lays RX2 "SwapBook$Listing" "count" "I" ∈ gT := gm (tT_2 _ (List.mem_of_getElem? (i := 16) rfl)) rfl
theorem wy_X2_puts : Cond.laysFinal RX2 "SwapBook$Listing" "puts" "[I" ∈ gT := gm (tT_2 _ (List.mem_of_getElem? (i := 18) rfl)) rfl
theorem wy_X2_sayings : Cond.laysFinal RX2 "SwapBook$Listing" "sayings" "[I" ∈ gT := gm (tT_2 _ (List.mem_of_getElem? (i := 20) rfl)) rfl
theorem wy_X2_keys : Cond.laysFinal RX2 "SwapBook$Listing" "keys" "[I" ∈ gT := gm (tT_2 _ (List.mem_of_getElem? (i := 22) rfl)) rfl
theorem wq_X11_43 : Cond.classLink RX11 43 RX5 ∈ gT := gm (tT_2 _ (List.mem_of_getElem? (i := 25) rfl)) rfl
theorem wz_X5 : Cond.instantiable RX5 6 ∈ gT := gm (tT_2 _ (List.mem_of_getElem? (i := 26) rfl)) rfl
theorem wi_X5_init : Cond.instanceMethod yX5_init ∈ gT := gm (tT_2 _ (List.mem_of_getElem? (i := 28) rfl)) rfl
theorem wc_X5_init : Cond.code yX5_init cX5_init 1 none ∈ gT := gm (tT_2 _ (List.mem_of_getElem? (i := 29) rfl)) rfl
theorem wm_X5_5 : Cond.methodLink RX5 5 objectInit ∈ gT := gm (tT_2 _ (List.mem_of_getElem? (i := 30) rfl)) rfl
theorem wq_X5_11 : Cond.classLink RX5 11 RX0 ∈ gT := gm (tT_2 _ (List.mem_of_getElem? (i := 31) rfl)) rfl
theorem wf_X5_14 : Cond.fieldLink RX5 14 "SwapBook$OrderCounter" "book" "LSwapBook$Book;" ∈ gT := gm (tT_2 _ (List.mem_of_getElem? (i := 33) rfl)) rfl
theorem wf_X5_18 : Cond.fieldLink RX5 18 "SwapBook$OrderCounter" "set" "I" ∈ gT := gm (tT_2 _ (List.mem_of_getElem? (i := 34) rfl)) rfl
theorem wf_X5_22 : Cond.fieldLink RX5 22 "SwapBook$OrderCounter" "early" "I" ∈ gT := gm (tT_2 _ (List.mem_of_getElem? (i := 35) rfl)) rfl
theorem wf_X5_25 : Cond.fieldLink RX5 25 "SwapBook$OrderCounter" "late" "I" ∈ gT := gm (tT_2 _ (List.mem_of_getElem? (i := 36) rfl)) rfl
theorem wf_X5_28 : Cond.fieldLink RX5 28 "SwapBook$OrderCounter" "stamp" "I" ∈ gT := gm (tT_2 _ (List.mem_of_getElem? (i := 37) rfl)) rfl
theorem wf_X5_31 : Cond.fieldLink RX5 31 "SwapBook$OrderCounter" "ways" "[J" ∈ gT := gm (tT_2 _ (List.mem_of_getElem? (i := 38) rfl)) rfl
theorem wy_X5_book : Cond.lays RX5 "SwapBook$OrderCounter" "book" "LSwapBook$Book;" ∈ gT := gm (tT_2 _ (List.mem_of_getElem? (i := 39) rfl)) rfl
theorem wy_X5_set : Cond.lays RX5 "SwapBook$OrderCounter" "set" "I" ∈ gT := gm (tT_2 _ (List.mem_of_getElem? (i := 41) rfl)) rfl
theorem wy_X5_early : Cond.lays RX5 "SwapBook$OrderCounter" "early" "I" ∈ gT := gm (tT_2 _ (List.mem_of_getElem? (i := 43) rfl)) rfl
theorem wy_X5_late : Cond.lays RX5 "SwapBook$OrderCounter" "late" "I" ∈ gT := gm (tT_2 _ (List.mem_of_getElem? (i := 45) rfl)) rfl
theorem wy_X5_stamp : Cond.lays RX5 "SwapBook$OrderCounter" "stamp" "I" ∈ gT := gm (tT_2 _ (List.mem_of_getElem? (i := 47) rfl)) rfl
theorem wy_X5_ways : Cond.lays RX5 "SwapBook$OrderCounter" "ways" "[J" ∈ gT := gm (tT_2 _ (List.mem_of_getElem? (i := 49) rfl)) rfl
theorem wq_X11_50 : Cond.classLink RX11 50 RX10 ∈ gT := gm (tT_2 _ (List.mem_of_getElem? (i := 52) rfl)) rfl
theorem wz_X10 : Cond.instantiable RX10 16 ∈ gT := gm (tT_2 _ (List.mem_of_getElem? (i := 53) rfl)) rfl
theorem wi_X10_init : Cond.instanceMethod yX10_init ∈ gT := gm (tT_2 _ (List.mem_of_getElem? (i := 55) rfl)) rfl
theorem wc_X10_init : Cond.code yX10_init cX10_init 1 none ∈ gT := gm (tT_2 _ (List.mem_of_getElem? (i := 56) rfl)) rfl
theorem wm_X10_3 : Cond.methodLink RX10 3 objectInit ∈ gT := gm (tT_2 _ (List.mem_of_getElem? (i := 57) rfl)) rfl
theorem wq_X10_34 : Cond.classLink RX10 34 RX0 ∈ gT := gm (tT_2 _ (List.mem_of_getElem? (i := 58) rfl)) rfl
theorem wq_X10_41 : Cond.classLink RX10 41 RX3 ∈ gT := gm (tT_2 _ (List.mem_of_getElem? (i := 60) rfl)) rfl
theorem wz_X3 : Cond.instantiable RX3 8 ∈ gT := gm (tT_2 _ (List.mem_of_getElem? (i := 61) rfl)) rfl
theorem wi_X3_init : Cond.instanceMethod yX3_init ∈ gT := gm (tT_2 _ (List.mem_of_getElem? (i := 63) rfl)) rfl
theorem wc_X3_init : Cond.code yX3_init cX3_init 1 none ∈ gT := gm (tT_2 _ (List.mem_of_getElem? (i := 64) rfl)) rfl
theorem wm_X3_1 : Cond.methodLink RX3 1 objectInit ∈ gT := gm (tT_2 _ (List.mem_of_getElem? (i := 65) rfl)) rfl
theorem wf_X3_7 : Cond.fieldLink RX3 7 "SwapBook$Log" "steps" "I" ∈ gT := gm (tT_2 _ (List.mem_of_getElem? (i := 66) rfl)) rfl
theorem wf_X4_80 : Cond.fieldLink RX4 80 "SwapBook$Log" "steps" "I" ∈ gT := gm (tT_2 _ (List.mem_of_getElem? (i := 67) rfl)) rfl
theorem wf_X11_189 : Cond.fieldLink RX11 189 "SwapBook$Log" "steps" "I" ∈ gT := gm (tT_2 _ (List.mem_of_getElem? (i := 68) rfl)) rfl
theorem wf_X3_13 : Cond.fieldLink RX3 13 "SwapBook$Log" "rows" "I" ∈ gT := gm (tT_2 _ (List.mem_of_getElem? (i := 69) rfl)) rfl
theorem wf_X4_44 : Cond.fieldLink RX4 44 "SwapBook$Log" "rows" "I" ∈ gT := gm (tT_2 _ (List.mem_of_getElem? (i := 70) rfl)) rfl
theorem wf_X10_86 : Cond.fieldLink RX10 86 "SwapBook$Log" "rows" "I" ∈ gT := gm (tT_2 _ (List.mem_of_getElem? (i := 71) rfl)) rfl
theorem wf_X3_16 : Cond.fieldLink RX3 16 "SwapBook$Log" "words" "[I" ∈ gT := gm (tT_2 _ (List.mem_of_getElem? (i := 72) rfl)) rfl
theorem wf_X10_74 : Cond.fieldLink RX10 74 "SwapBook$Log" "words" "[I" ∈ gT := gm (tT_2 _ (List.mem_of_getElem? (i := 73) rfl)) rfl
theorem wf_X4_68 : Cond.fieldLink RX4 68 "SwapBook$Log" "words" "[I" ∈ gT := gm (tT_2 _ (List.mem_of_getElem? (i := 74) rfl)) rfl
theorem wf_X3_20 : Cond.fieldLink RX3 20 "SwapBook$Log" "islands" "[I" ∈ gT := gm (tT_2 _ (List.mem_of_getElem? (i := 75) rfl)) rfl
theorem wf_X10_104 : Cond.fieldLink RX10 104 "SwapBook$Log" "islands" "[I" ∈ gT := gm (tT_2 _ (List.mem_of_getElem? (i := 76) rfl)) rfl
theorem wf_X4_122 : Cond.fieldLink RX4 122 "SwapBook$Log" "islands" "[I" ∈ gT := gm (tT_2 _ (List.mem_of_getElem? (i := 77) rfl)) rfl
theorem wf_X3_23 : Cond.fieldLink RX3 23 "SwapBook$Log" "others" "[I" ∈ gT := gm (tT_2 _ (List.mem_of_getElem? (i := 78) rfl)) rfl
theorem wf_X10_109 : Cond.fieldLink RX10 109 "SwapBook$Log" "others" "[I" ∈ gT := gm (tT_2 _ (List.mem_of_getElem? (i := 79) rfl)) rfl
theorem wf_X4_109 : Cond.fieldLink RX4 109 "SwapBook$Log" "others" "[I" ∈ gT := gm (tT_2 _ (List.mem_of_getElem? (i := 80) rfl)) rfl
theorem wf_X3_26 : Cond.fieldLink RX3 26 "SwapBook$Log" "numbers" "[I" ∈ gT := gm (tT_2 _ (List.mem_of_getElem? (i := 81) rfl)) rfl
theorem wf_X10_95 : Cond.fieldLink RX10 95 "SwapBook$Log" "numbers" "[I" ∈ gT := gm (tT_2 _ (List.mem_of_getElem? (i := 82) rfl)) rfl
theorem wf_X4_125 : Cond.fieldLink RX4 125 "SwapBook$Log" "numbers" "[I" ∈ gT := gm (tT_2 _ (List.mem_of_getElem? (i := 83) rfl)) rfl
theorem wf_X3_29 : Cond.fieldLink RX3 29 "SwapBook$Log" "twice" "[Z" ∈ gT := gm (tT_2 _ (List.mem_of_getElem? (i := 84) rfl)) rfl
theorem wf_X4_105 : Cond.fieldLink RX4 105 "SwapBook$Log" "twice" "[Z" ∈ gT := gm (tT_2 _ (List.mem_of_getElem? (i := 85) rfl)) rfl
theorem wf_X10_149 : Cond.fieldLink RX10 149 "SwapBook$Log" "twice" "[Z" ∈ gT := gm (tT_2 _ (List.mem_of_getElem? (i := 86) rfl)) rfl
theorem wf_X3_33 : Cond.fieldLink RX3 33 "SwapBook$Log" "partners" "[I" ∈ gT := gm (tT_2 _ (List.mem_of_getElem? (i := 87) rfl)) rfl
theorem wf_X4_71 : Cond.fieldLink RX4 71 "SwapBook$Log" "partners" "[I" ∈ gT := gm (tT_2 _ (List.mem_of_getElem? (i := 88) rfl)) rfl
theorem wf_X10_92 : Cond.fieldLink RX10 92 "SwapBook$Log" "partners" "[I" ∈ gT := gm (tT_2 _ (List.mem_of_getElem? (i := 89) rfl)) rfl
theorem wy_X3_steps : Cond.lays RX3 "SwapBook$Log" "steps" "I" ∈ gT := gm (tT_2 _ (List.mem_of_getElem? (i := 90) rfl)) rfl
theorem wy_X3_rows : Cond.lays RX3 "SwapBook$Log" "rows" "I" ∈ gT := gm (tT_2 _ (List.mem_of_getElem? (i := 92) rfl)) rfl
theorem wy_X3_words : Cond.laysFinal RX3 "SwapBook$Log" "words" "[I" ∈ gT := gm (tT_2 _ (List.mem_of_getElem? (i := 94) rfl)) rfl
theorem wy_X3_islands : Cond.laysFinal RX3 "SwapBook$Log" "islands" "[I" ∈ gT := gm (tT_2 _ (List.mem_of_getElem? (i := 96) rfl)) rfl
theorem wy_X3_others : Cond.laysFinal RX3 "SwapBook$Log" "others" "[I" ∈ gT := gm (tT_2 _ (List.mem_of_getElem? (i := 98) rfl)) rfl
theorem wy_X3_numbers : Cond.laysFinal RX3 "SwapBook$Log" "numbers" "[I" ∈ gT := gm (tT_2 _ (List.mem_of_getElem? (i := 100) rfl)) rfl
theorem wy_X3_twice : Cond.laysFinal RX3 "SwapBook$Log" "twice" "[Z" ∈ gT := gm (tT_2 _ (List.mem_of_getElem? (i := 102) rfl)) rfl
theorem wy_X3_partners : Cond.laysFinal RX3 "SwapBook$Log" "partners" "[I" ∈ gT := gm (tT_2 _ (List.mem_of_getElem? (i := 104) rfl)) rfl
theorem wa_boolean : Cond.arrayClass .boolean ∈ gT := gm (tT_2 _ (List.mem_of_getElem? (i := 107) rfl)) rfl
theorem wf_X10_9 : Cond.fieldLink RX10 9 "SwapBook$Voyage" "has" "[I" ∈ gT := gm (tT_2 _ (List.mem_of_getElem? (i := 108) rfl)) rfl
theorem wf_X11_386 : Cond.fieldLink RX11 386 "SwapBook$Voyage" "has" "[I" ∈ gT := gm (tT_2 _ (List.mem_of_getElem? (i := 109) rfl)) rfl
theorem wf_X10_15 : Cond.fieldLink RX10 15 "SwapBook$Voyage" "steps" "I" ∈ gT := gm (tT_2 _ (List.mem_of_getElem? (i := 110) rfl)) rfl
theorem wf_X11_402 : Cond.fieldLink RX11 402 "SwapBook$Voyage" "steps" "I" ∈ gT := gm (tT_2 _ (List.mem_of_getElem? (i := 111) rfl)) rfl
theorem wf_X10_19 : Cond.fieldLink RX10 19 "SwapBook$Voyage" "day" "I" ∈ gT := gm (tT_2 _ (List.mem_of_getElem? (i := 112) rfl)) rfl
theorem wf_X11_387 : Cond.fieldLink RX11 387 "SwapBook$Voyage" "day" "I" ∈ gT := gm (tT_2 _ (List.mem_of_getElem? (i := 113) rfl)) rfl
theorem wf_X10_22 : Cond.fieldLink RX10 22 "SwapBook$Voyage" "missed" "I" ∈ gT := gm (tT_2 _ (List.mem_of_getElem? (i := 114) rfl)) rfl
theorem wf_X11_390 : Cond.fieldLink RX11 390 "SwapBook$Voyage" "missed" "I" ∈ gT := gm (tT_2 _ (List.mem_of_getElem? (i := 115) rfl)) rfl
theorem wf_X10_25 : Cond.fieldLink RX10 25 "SwapBook$Voyage" "came" "I" ∈ gT := gm (tT_2 _ (List.mem_of_getElem? (i := 116) rfl)) rfl
theorem wf_X11_393 : Cond.fieldLink RX11 393 "SwapBook$Voyage" "came" "I" ∈ gT := gm (tT_2 _ (List.mem_of_getElem? (i := 117) rfl)) rfl
theorem wf_X10_28 : Cond.fieldLink RX10 28 "SwapBook$Voyage" "lost" "I" ∈ gT := gm (tT_2 _ (List.mem_of_getElem? (i := 118) rfl)) rfl
theorem wf_X11_396 : Cond.fieldLink RX11 396 "SwapBook$Voyage" "lost" "I" ∈ gT := gm (tT_2 _ (List.mem_of_getElem? (i := 119) rfl)) rfl
theorem wf_X10_31 : Cond.fieldLink RX10 31 "SwapBook$Voyage" "cargoes" "I" ∈ gT := gm (tT_2 _ (List.mem_of_getElem? (i := 120) rfl)) rfl
theorem wf_X11_399 : Cond.fieldLink RX11 399 "SwapBook$Voyage" "cargoes" "I" ∈ gT := gm (tT_2 _ (List.mem_of_getElem? (i := 121) rfl)) rfl
theorem wf_X10_37 : Cond.fieldLink RX10 37 "SwapBook$Voyage" "book" "LSwapBook$Book;" ∈ gT := gm (tT_2 _ (List.mem_of_getElem? (i := 122) rfl)) rfl
theorem wf_X10_44 : Cond.fieldLink RX10 44 "SwapBook$Voyage" "log" "LSwapBook$Log;" ∈ gT := gm (tT_2 _ (List.mem_of_getElem? (i := 123) rfl)) rfl
theorem wf_X10_48 : Cond.fieldLink RX10 48 "SwapBook$Voyage" "chance" "I" ∈ gT := gm (tT_2 _ (List.mem_of_getElem? (i := 124) rfl)) rfl
theorem wf_X10_51 : Cond.fieldLink RX10 51 "SwapBook$Voyage" "ships" "I" ∈ gT := gm (tT_2 _ (List.mem_of_getElem? (i := 125) rfl)) rfl
theorem wf_X10_54 : Cond.fieldLink RX10 54 "SwapBook$Voyage" "cargoSets" "[I" ∈ gT := gm (tT_2 _ (List.mem_of_getElem? (i := 126) rfl)) rfl
theorem wf_X10_57 : Cond.fieldLink RX10 57 "SwapBook$Voyage" "cargoTargets" "[I" ∈ gT := gm (tT_2 _ (List.mem_of_getElem? (i := 127) rfl)) rfl
theorem wf_X10_60 : Cond.fieldLink RX10 60 "SwapBook$Voyage" "cargoDays" "[I" ∈ gT := gm (tT_2 _ (List.mem_of_getElem? (i := 128) rfl)) rfl
theorem wf_X10_63 : Cond.fieldLink RX10 63 "SwapBook$Voyage" "cargoShips" "[I" ∈ gT := gm (tT_2 _ (List.mem_of_getElem? (i := 129) rfl)) rfl
theorem wf_X10_66 : Cond.fieldLink RX10 66 "SwapBook$Voyage" "roundsLeft" "[I" ∈ gT := gm (tT_2 _ (List.mem_of_getElem? (i := 130) rfl)) rfl
theorem wy_X10_has : Cond.laysFinal RX10 "SwapBook$Voyage" "has" "[I" ∈ gT := gm (tT_2 _ (List.mem_of_getElem? (i := 131) rfl)) rfl
theorem wy_X10_steps : Cond.lays RX10 "SwapBook$Voyage" "steps" "I" ∈ gT := gm (tT_2 _ (List.mem_of_getElem? (i := 133) rfl)) rfl
theorem wy_X10_day : Cond.lays RX10 "SwapBook$Voyage" "day" "I" ∈ gT := gm (tT_2 _ (List.mem_of_getElem? (i := 135) rfl)) rfl
theorem wy_X10_missed : Cond.lays RX10 "SwapBook$Voyage" "missed" "I" ∈ gT := gm (tT_2 _ (List.mem_of_getElem? (i := 137) rfl)) rfl
theorem wy_X10_came : Cond.lays RX10 "SwapBook$Voyage" "came" "I" ∈ gT := gm (tT_2 _ (List.mem_of_getElem? (i := 139) rfl)) rfl
theorem wy_X10_lost : Cond.lays RX10 "SwapBook$Voyage" "lost" "I" ∈ gT := gm (tT_2 _ (List.mem_of_getElem? (i := 141) rfl)) rfl
theorem wy_X10_cargoes : Cond.lays RX10 "SwapBook$Voyage" "cargoes" "I" ∈ gT := gm (tT_2 _ (List.mem_of_getElem? (i := 143) rfl)) rfl
theorem wy_X10_book : Cond.lays RX10 "SwapBook$Voyage" "book" "LSwapBook$Book;" ∈ gT := gm (tT_2 _ (List.mem_of_getElem? (i := 145) rfl)) rfl
theorem wy_X10_log : Cond.lays RX10 "SwapBook$Voyage" "log" "LSwapBook$Log;" ∈ gT := gm (tT_2 _ (List.mem_of_getElem? (i := 147) rfl)) rfl
theorem wy_X10_chance : Cond.lays RX10 "SwapBook$Voyage" "chance" "I" ∈ gT := gm (tT_2 _ (List.mem_of_getElem? (i := 149) rfl)) rfl
theorem wy_X10_ships : Cond.lays RX10 "SwapBook$Voyage" "ships" "I" ∈ gT := gm (tT_2 _ (List.mem_of_getElem? (i := 151) rfl)) rfl
theorem wy_X10_cargoSets : Cond.laysFinal RX10 "SwapBook$Voyage" "cargoSets" "[I" ∈ gT := gm (tT_2 _ (List.mem_of_getElem? (i := 153) rfl)) rfl
theorem wy_X10_cargoTargets : Cond.laysFinal RX10 "SwapBook$Voyage" "cargoTargets" "[I" ∈ gT := gm (tT_2 _ (List.mem_of_getElem? (i := 155) rfl)) rfl
theorem wy_X10_cargoDays : Cond.laysFinal RX10 "SwapBook$Voyage" "cargoDays" "[I" ∈ gT := gm (tT_2 _ (List.mem_of_getElem? (i := 157) rfl)) rfl
theorem wy_X10_cargoShips : Cond.laysFinal RX10 "SwapBook$Voyage" "cargoShips" "[I" ∈ gT := gm (tT_2 _ (List.mem_of_getElem? (i := 159) rfl)) rfl
theorem wy_X10_roundsLeft : Cond.laysFinal RX10 "SwapBook$Voyage" "roundsLeft" "[I" ∈ gT := gm (tT_2 _ (List.mem_of_getElem? (i := 161) rfl)) rfl
theorem wz_X9 : Cond.instantiable RX9 3 ∈ gT := gm (tT_2 _ (List.mem_of_getElem? (i := 164) rfl)) rfl
theorem wi_X9_init : Cond.instanceMethod yX9_init ∈ gT := gm (tT_2 _ (List.mem_of_getElem? (i := 166) rfl)) rfl
theorem wc_X9_init : Cond.code yX9_init cX9_init 1 none ∈ gT := gm (tT_2 _ (List.mem_of_getElem? (i := 167) rfl)) rfl
theorem wm_X9_3 : Cond.methodLink RX9 3 objectInit ∈ gT := gm (tT_2 _ (List.mem_of_getElem? (i := 168) rfl)) rfl
theorem wf_X9_9 : Cond.fieldLink RX9 9 "SwapBook$Tray" "numbers" "[J" ∈ gT := gm (tT_2 _ (List.mem_of_getElem? (i := 169) rfl)) rfl
theorem wf_X11_128 : Cond.fieldLink RX11 128 "SwapBook$Tray" "numbers" "[J" ∈ gT := gm (tT_2 _ (List.mem_of_getElem? (i := 170) rfl)) rfl
theorem wf_X9_15 : Cond.fieldLink RX9 15 "SwapBook$Tray" "sort" "I" ∈ gT := gm (tT_2 _ (List.mem_of_getElem? (i := 171) rfl)) rfl
theorem wf_X11_125 : Cond.fieldLink RX11 125 "SwapBook$Tray" "sort" "I" ∈ gT := gm (tT_2 _ (List.mem_of_getElem? (i := 172) rfl)) rfl
theorem wf_X9_19 : Cond.fieldLink RX9 19 "SwapBook$Tray" "length" "I" ∈ gT := gm (tT_2 _ (List.mem_of_getElem? (i := 173) rfl)) rfl
theorem wy_X9_numbers : Cond.laysFinal RX9 "SwapBook$Tray" "numbers" "[J" ∈ gT := gm (tT_2 _ (List.mem_of_getElem? (i := 174) rfl)) rfl
theorem wy_X9_sort : Cond.lays RX9 "SwapBook$Tray" "sort" "I" ∈ gT := gm (tT_2 _ (List.mem_of_getElem? (i := 176) rfl)) rfl
theorem wy_X9_length : Cond.lays RX9 "SwapBook$Tray" "length" "I" ∈ gT := gm (tT_2 _ (List.mem_of_getElem? (i := 178) rfl)) rfl
theorem wf_X11_11 : Cond.fieldLink RX11 11 "SwapBook" "trays" "[LSwapBook$Tray;" ∈ gT := gm (tT_2 _ (List.mem_of_getElem? (i := 181) rfl)) rfl
theorem wf_X11_18 : Cond.fieldLink RX11 18 "SwapBook" "tokens" "LSwapBook$Tokens;" ∈ gT := gm (tT_2 _ (List.mem_of_getElem? (i := 182) rfl)) rfl
theorem wf_X11_25 : Cond.fieldLink RX11 25 "SwapBook" "now" "LSwapBook$State;" ∈ gT := gm (tT_2 _ (List.mem_of_getElem? (i := 183) rfl)) rfl
theorem wf_X11_29 : Cond.fieldLink RX11 29 "SwapBook" "marks" "[LSwapBook$State;" ∈ gT := gm (tT_2 _ (List.mem_of_getElem? (i := 184) rfl)) rfl
theorem wf_X11_36 : Cond.fieldLink RX11 36 "SwapBook" "listing" "LSwapBook$Listing;" ∈ gT := gm (tT_2 _ (List.mem_of_getElem? (i := 185) rfl)) rfl
theorem wf_X11_40 : Cond.fieldLink RX11 40 "SwapBook" "otherListing" "LSwapBook$Listing;" ∈ gT := gm (tT_2 _ (List.mem_of_getElem? (i := 186) rfl)) rfl
theorem wf_X11_46 : Cond.fieldLink RX11 46 "SwapBook" "counter" "LSwapBook$OrderCounter;" ∈ gT := gm (tT_2 _ (List.mem_of_getElem? (i := 187) rfl)) rfl
theorem wf_X11_53 : Cond.fieldLink RX11 53 "SwapBook" "voyage" "LSwapBook$Voyage;" ∈ gT := gm (tT_2 _ (List.mem_of_getElem? (i := 188) rfl)) rfl
theorem wf_X11_57 : Cond.fieldLink RX11 57 "SwapBook" "lastVoyage" "[I" ∈ gT := gm (tT_2 _ (List.mem_of_getElem? (i := 189) rfl)) rfl
theorem wf_X11_61 : Cond.fieldLink RX11 61 "SwapBook" "hasSailed" "Z" ∈ gT := gm (tT_2 _ (List.mem_of_getElem? (i := 190) rfl)) rfl
theorem wf_X11_65 : Cond.fieldLink RX11 65 "SwapBook" "markCount" "I" ∈ gT := gm (tT_2 _ (List.mem_of_getElem? (i := 191) rfl)) rfl
theorem wf_X11_69 : Cond.fieldLink RX11 69 "SwapBook" "status" "I" ∈ gT := gm (tT_2 _ (List.mem_of_getElem? (i := 192) rfl)) rfl
theorem wf_X11_72 : Cond.fieldLink RX11 72 "SwapBook" "top" "J" ∈ gT := gm (tT_2 _ (List.mem_of_getElem? (i := 193) rfl)) rfl
theorem wf_X11_76 : Cond.fieldLink RX11 76 "SwapBook" "bottom" "J" ∈ gT := gm (tT_2 _ (List.mem_of_getElem? (i := 194) rfl)) rfl
theorem wy_X11_trays : Cond.laysFinal RX11 "SwapBook" "trays" "[LSwapBook$Tray;" ∈ gT := gm (tT_2 _ (List.mem_of_getElem? (i := 195) rfl)) rfl
theorem wy_X11_tokens : Cond.laysFinal RX11 "SwapBook" "tokens" "LSwapBook$Tokens;" ∈ gT := gm (tT_2 _ (List.mem_of_getElem? (i := 197) rfl)) rfl
theorem wy_X11_now : Cond.laysFinal RX11 "SwapBook" "now" "LSwapBook$State;" ∈ gT := gm (tT_2 _ (List.mem_of_getElem? (i := 199) rfl)) rfl
theorem wy_X11_marks : Cond.laysFinal RX11 "SwapBook" "marks" "[LSwapBook$State;" ∈ gT := gm (tT_2 _ (List.mem_of_getElem? (i := 201) rfl)) rfl
theorem wy_X11_listing : Cond.laysFinal RX11 "SwapBook" "listing" "LSwapBook$Listing;" ∈ gT := gm (tT_2 _ (List.mem_of_getElem? (i := 203) rfl)) rfl
theorem wy_X11_otherListing : Cond.laysFinal RX11 "SwapBook" "otherListing" "LSwapBook$Listing;" ∈ gT := gm (tT_2 _ (List.mem_of_getElem? (i := 205) rfl)) rfl
theorem wy_X11_counter : Cond.laysFinal RX11 "SwapBook" "counter" "LSwapBook$OrderCounter;" ∈ gT := gm (tT_2 _ (List.mem_of_getElem? (i := 207) rfl)) rfl
theorem wy_X11_voyage : Cond.laysFinal RX11 "SwapBook" "voyage" "LSwapBook$Voyage;" ∈ gT := gm (tT_2 _ (List.mem_of_getElem? (i := 209) rfl)) rfl
theorem wy_X11_lastVoyage : Cond.laysFinal RX11 "SwapBook" "lastVoyage" "[I" ∈ gT := gm (tT_2 _ (List.mem_of_getElem? (i := 211) rfl)) rfl
theorem wy_X11_hasSailed : Cond.lays RX11 "SwapBook" "hasSailed" "Z" ∈ gT := gm (tT_2 _ (List.mem_of_getElem? (i := 213) rfl)) rfl
theorem wy_X11_markCount : Cond.lays RX11 "SwapBook" "markCount" "I" ∈ gT := gm (tT_2 _ (List.mem_of_getElem? (i := 215) rfl)) rfl
theorem wy_X11_status : Cond.lays RX11 "SwapBook" "status" "I" ∈ gT := gm (tT_2 _ (List.mem_of_getElem? (i := 217) rfl)) rfl
theorem wy_X11_top : Cond.lays RX11 "SwapBook" "top" "J" ∈ gT := gm (tT_2 _ (List.mem_of_getElem? (i := 219) rfl)) rfl
theorem wy_X11_bottom : Cond.lays RX11 "SwapBook" "bottom" "J" ∈ gT := gm (tT_2 _ (List.mem_of_getElem? (i := 221) rfl)) rfl
theorem wm_L_13 : Cond.methodLink RL 13 yX11_status ∈ gT := gm (tT_2 _ (List.mem_of_getElem? (i := 224) rfl)) rfl
theorem wi_X11_status : Cond.instanceMethod yX11_status ∈ gT := gm (tT_2 _ (List.mem_of_getElem? (i := 225) rfl)) rfl
theorem wl_X11_status : Cond.selects RX11 yX11_status yX11_status ∈ gT := gm (tT_2 _ (List.mem_of_getElem? (i := 226) rfl)) rfl
theorem wc_X11_status : Cond.code yX11_status cX11_status 1 (some .int) ∈ gT := gm (tT_2 _ (List.mem_of_getElem? (i := 227) rfl)) rfl
theorem wm_L_18 : Cond.methodLink RL 18 yX11_top ∈ gT := gm (tT_2 _ (List.mem_of_getElem? (i := 228) rfl)) rfl
theorem wi_X11_top : Cond.instanceMethod yX11_top ∈ gT := gm (tT_2 _ (List.mem_of_getElem? (i := 229) rfl)) rfl
theorem wl_X11_top : Cond.selects RX11 yX11_top yX11_top ∈ gT := gm (tT_2 _ (List.mem_of_getElem? (i := 230) rfl)) rfl
theorem wc_X11_top : Cond.code yX11_top cX11_top 1 (some .long) ∈ gT := gm (tT_2 _ (List.mem_of_getElem? (i := 231) rfl)) rfl
theorem wm_L_23 : Cond.methodLink RL 23 yX11_bottom ∈ gT := gm (tT_2 _ (List.mem_of_getElem? (i := 232) rfl)) rfl
theorem wi_X11_bottom : Cond.instanceMethod yX11_bottom ∈ gT := gm (tT_2 _ (List.mem_of_getElem? (i := 233) rfl)) rfl
theorem wl_X11_bottom : Cond.selects RX11 yX11_bottom yX11_bottom ∈ gT := gm (tT_2 _ (List.mem_of_getElem? (i := 234) rfl)) rfl
theorem wc_X11_bottom : Cond.code yX11_bottom cX11_bottom 1 (some .long) ∈ gT := gm (tT_2 _ (List.mem_of_getElem? (i := 235) rfl)) rfl
theorem wm_L_27 : Cond.methodLink RL 27 yX11_tray ∈ gT := gm (tT_2 _ (List.mem_of_getElem? (i := 236) rfl)) rfl
theorem wi_X11_tray : Cond.instanceMethod yX11_tray ∈ gT := gm (tT_2 _ (List.mem_of_getElem? (i := 237) rfl)) rfl
theorem wl_X11_tray : Cond.selects RX11 yX11_tray yX11_tray ∈ gT := gm (tT_2 _ (List.mem_of_getElem? (i := 238) rfl)) rfl
theorem wc_X11_tray : Cond.code yX11_tray cX11_tray 4 (some .boolean) ∈ gT := gm (tT_2 _ (List.mem_of_getElem? (i := 239) rfl)) rfl
theorem wm_X11_80 : Cond.methodLink RX11 80 yX11_isTray ∈ gT := gm (tT_3 _ (List.mem_of_getElem? (i := 0) rfl)) rfl
theorem wt_X11_isTray : Cond.static yX11_isTray ∈ gT := gm (tT_3 _ (List.mem_of_getElem? (i := 1) rfl)) rfl
theorem wc_X11_isTray : Cond.code yX11_isTray cX11_isTray 1 (some .boolean) ∈ gT := gm (tT_3 _ (List.mem_of_getElem? (i := 2) rfl)) rfl
theorem wm_X11_92 : Cond.methodLink RX11 92 yX9_isSort ∈ gT := gm (tT_3 _ (List.mem_of_getElem? (i := 3) rfl)) rfl
theorem wt_X9_isSort : Cond.static yX9_isSort ∈ gT := gm (tT_3 _ (List.mem_of_getElem? (i := 4) rfl)) rfl
theorem wc_X9_isSort : Cond.code yX9_isSort cX9_isSort 1 (some .boolean) ∈ gT := gm (tT_3 _ (List.mem_of_getElem? (i := 5) rfl)) rfl
theorem wm_X11_95 : Cond.methodLink RX11 95 yX11_deny ∈ gT := gm (tT_3 _ (List.mem_of_getElem? (i := 6) rfl)) rfl
theorem wi_X11_deny : Cond.instanceMethod yX11_deny ∈ gT := gm (tT_3 _ (List.mem_of_getElem? (i := 8) rfl)) rfl
theorem wc_X11_deny : Cond.code yX11_deny cX11_deny 2 (some .boolean) ∈ gT := gm (tT_3 _ (List.mem_of_getElem? (i := 9) rfl)) rfl
theorem wm_X11_98 : Cond.methodLink RX11 98 yX9_layOut ∈ gT := gm (tT_3 _ (List.mem_of_getElem? (i := 10) rfl)) rfl
theorem wi_X9_layOut : Cond.instanceMethod yX9_layOut ∈ gT := gm (tT_3 _ (List.mem_of_getElem? (i := 11) rfl)) rfl
theorem wl_X9_layOut : Cond.selects RX9 yX9_layOut yX9_layOut ∈ gT := gm (tT_3 _ (List.mem_of_getElem? (i := 12) rfl)) rfl
theorem wc_X9_layOut : Cond.code yX9_layOut cX9_layOut 4 none ∈ gT := gm (tT_3 _ (List.mem_of_getElem? (i := 13) rfl)) rfl
theorem wm_X11_102 : Cond.methodLink RX11 102 yX11_grant ∈ gT := gm (tT_3 _ (List.mem_of_getElem? (i := 14) rfl)) rfl
theorem wi_X11_grant : Cond.instanceMethod yX11_grant ∈ gT := gm (tT_3 _ (List.mem_of_getElem? (i := 16) rfl)) rfl
theorem wc_X11_grant : Cond.code yX11_grant cX11_grant 1 (some .boolean) ∈ gT := gm (tT_3 _ (List.mem_of_getElem? (i := 17) rfl)) rfl
theorem wm_L_34 : Cond.methodLink RL 34 yX11_write ∈ gT := gm (tT_3 _ (List.mem_of_getElem? (i := 18) rfl)) rfl
theorem wi_X11_write : Cond.instanceMethod yX11_write ∈ gT := gm (tT_3 _ (List.mem_of_getElem? (i := 19) rfl)) rfl
theorem wl_X11_write : Cond.selects RX11 yX11_write yX11_write ∈ gT := gm (tT_3 _ (List.mem_of_getElem? (i := 20) rfl)) rfl
theorem wc_X11_write : Cond.code yX11_write cX11_write 6 (some .boolean) ∈ gT := gm (tT_3 _ (List.mem_of_getElem? (i := 21) rfl)) rfl
theorem wm_X11_105 : Cond.methodLink RX11 105 yX11_faultOfPlace ∈ gT := gm (tT_3 _ (List.mem_of_getElem? (i := 22) rfl)) rfl
theorem wi_X11_faultOfPlace : Cond.instanceMethod yX11_faultOfPlace ∈ gT := gm (tT_3 _ (List.mem_of_getElem? (i := 24) rfl)) rfl
theorem wc_X11_faultOfPlace : Cond.code yX11_faultOfPlace cX11_faultOfPlace 3 (some .int) ∈ gT := gm (tT_3 _ (List.mem_of_getElem? (i := 25) rfl)) rfl
theorem wm_X11_84 : Cond.methodLink RX11 84 yX9_isMissing ∈ gT := gm (tT_3 _ (List.mem_of_getElem? (i := 26) rfl)) rfl
theorem wi_X9_isMissing : Cond.instanceMethod yX9_isMissing ∈ gT := gm (tT_3 _ (List.mem_of_getElem? (i := 27) rfl)) rfl
theorem wl_X9_isMissing : Cond.selects RX9 yX9_isMissing yX9_isMissing ∈ gT := gm (tT_3 _ (List.mem_of_getElem? (i := 28) rfl)) rfl
theorem wc_X9_isMissing : Cond.code yX9_isMissing cX9_isMissing 1 (some .boolean) ∈ gT := gm (tT_3 _ (List.mem_of_getElem? (i := 29) rfl)) rfl
theorem wm_X11_88 : Cond.methodLink RX11 88 yX9_spans ∈ gT := gm (tT_3 _ (List.mem_of_getElem? (i := 30) rfl)) rfl
theorem wi_X9_spans : Cond.instanceMethod yX9_spans ∈ gT := gm (tT_3 _ (List.mem_of_getElem? (i := 31) rfl)) rfl
theorem wl_X9_spans : Cond.selects RX9 yX9_spans yX9_spans ∈ gT := gm (tT_3 _ (List.mem_of_getElem? (i := 32) rfl)) rfl
theorem wc_X9_spans : Cond.code yX9_spans cX9_spans 3 (some .boolean) ∈ gT := gm (tT_3 _ (List.mem_of_getElem? (i := 33) rfl)) rfl
theorem wm_X11_109 : Cond.methodLink RX11 109 yX9_set ∈ gT := gm (tT_3 _ (List.mem_of_getElem? (i := 34) rfl)) rfl
theorem wi_X9_set : Cond.instanceMethod yX9_set ∈ gT := gm (tT_3 _ (List.mem_of_getElem? (i := 35) rfl)) rfl
theorem wl_X9_set : Cond.selects RX9 yX9_set yX9_set ∈ gT := gm (tT_3 _ (List.mem_of_getElem? (i := 36) rfl)) rfl
theorem wc_X9_set : Cond.code yX9_set cX9_set 4 none ∈ gT := gm (tT_3 _ (List.mem_of_getElem? (i := 37) rfl)) rfl
theorem wm_X9_24 : Cond.methodLink RX9 24 yX9_cut ∈ gT := gm (tT_3 _ (List.mem_of_getElem? (i := 38) rfl)) rfl
theorem wi_X9_cut : Cond.instanceMethod yX9_cut ∈ gT := gm (tT_3 _ (List.mem_of_getElem? (i := 40) rfl)) rfl
theorem wc_X9_cut : Cond.code yX9_cut cX9_cut 3 (some .long) ∈ gT := gm (tT_3 _ (List.mem_of_getElem? (i := 41) rfl)) rfl
theorem wm_L_39 : Cond.methodLink RL 39 yX11_read ∈ gT := gm (tT_3 _ (List.mem_of_getElem? (i := 42) rfl)) rfl
theorem wi_X11_read : Cond.instanceMethod yX11_read ∈ gT := gm (tT_3 _ (List.mem_of_getElem? (i := 43) rfl)) rfl
theorem wl_X11_read : Cond.selects RX11 yX11_read yX11_read ∈ gT := gm (tT_3 _ (List.mem_of_getElem? (i := 44) rfl)) rfl
theorem wc_X11_read : Cond.code yX11_read cX11_read 4 (some .long) ∈ gT := gm (tT_3 _ (List.mem_of_getElem? (i := 45) rfl)) rfl
theorem wm_X11_113 : Cond.methodLink RX11 113 yX11_refuse ∈ gT := gm (tT_3 _ (List.mem_of_getElem? (i := 46) rfl)) rfl
theorem wi_X11_refuse : Cond.instanceMethod yX11_refuse ∈ gT := gm (tT_3 _ (List.mem_of_getElem? (i := 48) rfl)) rfl
theorem wc_X11_refuse : Cond.code yX11_refuse cX11_refuse 2 (some .int) ∈ gT := gm (tT_3 _ (List.mem_of_getElem? (i := 49) rfl)) rfl
theorem wm_X11_117 : Cond.methodLink RX11 117 yX9_get ∈ gT := gm (tT_3 _ (List.mem_of_getElem? (i := 50) rfl)) rfl
theorem wi_X9_get : Cond.instanceMethod yX9_get ∈ gT := gm (tT_3 _ (List.mem_of_getElem? (i := 51) rfl)) rfl
theorem wl_X9_get : Cond.selects RX9 yX9_get yX9_get ∈ gT := gm (tT_3 _ (List.mem_of_getElem? (i := 52) rfl)) rfl
theorem wc_X9_get : Cond.code yX9_get cX9_get 2 (some .long) ∈ gT := gm (tT_3 _ (List.mem_of_getElem? (i := 53) rfl)) rfl
theorem wk_X9_22 : Cond.constantLong RX9 22 (-1) ∈ gT := gm (tT_3 _ (List.mem_of_getElem? (i := 54) rfl)) rfl
theorem wm_X11_121 : Cond.methodLink RX11 121 yX11_tellLong ∈ gT := gm (tT_3 _ (List.mem_of_getElem? (i := 55) rfl)) rfl
theorem wi_X11_tellLong : Cond.instanceMethod yX11_tellLong ∈ gT := gm (tT_3 _ (List.mem_of_getElem? (i := 57) rfl)) rfl
theorem wc_X11_tellLong : Cond.code yX11_tellLong cX11_tellLong 3 (some .long) ∈ gT := gm (tT_3 _ (List.mem_of_getElem? (i := 58) rfl)) rfl
theorem wm_L_44 : Cond.methodLink RL 44 yX11_pour ∈ gT := gm (tT_3 _ (List.mem_of_getElem? (i := 59) rfl)) rfl
theorem wi_X11_pour : Cond.instanceMethod yX11_pour ∈ gT := gm (tT_3 _ (List.mem_of_getElem? (i := 60) rfl)) rfl
theorem wl_X11_pour : Cond.selects RX11 yX11_pour yX11_pour ∈ gT := gm (tT_3 _ (List.mem_of_getElem? (i := 61) rfl)) rfl
theorem wc_X11_pour : Cond.code yX11_pour cX11_pour 8 (some .boolean) ∈ gT := gm (tT_3 _ (List.mem_of_getElem? (i := 62) rfl)) rfl
theorem wm_X11_132 : Cond.methodLink RX11 132 arraycopyName ∈ gT := gm (tT_3 _ (List.mem_of_getElem? (i := 63) rfl)) rfl
theorem wt_System_arraycopy : Cond.static arraycopyName ∈ gT := gm (tT_3 _ (List.mem_of_getElem? (i := 64) rfl)) rfl
theorem wv_System_arraycopy : Cond.native arraycopyName ∈ gT := gm (tT_3 _ (List.mem_of_getElem? (i := 65) rfl)) rfl
theorem wm_L_49 : Cond.methodLink RL 49 yX11_feed ∈ gT := gm (tT_3 _ (List.mem_of_getElem? (i := 66) rfl)) rfl
theorem wi_X11_feed : Cond.instanceMethod yX11_feed ∈ gT := gm (tT_3 _ (List.mem_of_getElem? (i := 67) rfl)) rfl
theorem wl_X11_feed : Cond.selects RX11 yX11_feed yX11_feed ∈ gT := gm (tT_3 _ (List.mem_of_getElem? (i := 68) rfl)) rfl
theorem wc_X11_feed : Cond.code yX11_feed cX11_feed 6 (some .int) ∈ gT := gm (tT_3 _ (List.mem_of_getElem? (i := 69) rfl)) rfl
theorem wm_X11_138 : Cond.methodLink RX11 138 yX8_hasRoom ∈ gT := gm (tT_3 _ (List.mem_of_getElem? (i := 70) rfl)) rfl
theorem wi_X8_hasRoom : Cond.instanceMethod yX8_hasRoom ∈ gT := gm (tT_3 _ (List.mem_of_getElem? (i := 71) rfl)) rfl
theorem wl_X8_hasRoom : Cond.selects RX8 yX8_hasRoom yX8_hasRoom ∈ gT := gm (tT_3 _ (List.mem_of_getElem? (i := 72) rfl)) rfl
theorem wc_X8_hasRoom : Cond.code yX8_hasRoom cX8_hasRoom 2 (some .boolean) ∈ gT := gm (tT_3 _ (List.mem_of_getElem? (i := 73) rfl)) rfl
theorem wm_X11_141 : Cond.methodLink RX11 141 yX8_addBytes ∈ gT := gm (tT_3 _ (List.mem_of_getElem? (i := 74) rfl)) rfl
theorem wi_X8_addBytes : Cond.instanceMethod yX8_addBytes ∈ gT := gm (tT_3 _ (List.mem_of_getElem? (i := 75) rfl)) rfl
theorem wl_X8_addBytes : Cond.selects RX8 yX8_addBytes yX8_addBytes ∈ gT := gm (tT_3 _ (List.mem_of_getElem? (i := 76) rfl)) rfl
theorem wc_X8_addBytes : Cond.code yX8_addBytes cX8_addBytes 3 none ∈ gT := gm (tT_3 _ (List.mem_of_getElem? (i := 77) rfl)) rfl
theorem wm_L_54 : Cond.methodLink RL 54 yX11_book ∈ gT := gm (tT_3 _ (List.mem_of_getElem? (i := 78) rfl)) rfl
theorem wi_X11_book : Cond.instanceMethod yX11_book ∈ gT := gm (tT_3 _ (List.mem_of_getElem? (i := 79) rfl)) rfl
theorem wl_X11_book : Cond.selects RX11 yX11_book yX11_book ∈ gT := gm (tT_3 _ (List.mem_of_getElem? (i := 80) rfl)) rfl
theorem wc_X11_book : Cond.code yX11_book cX11_book 3 (some .int) ∈ gT := gm (tT_3 _ (List.mem_of_getElem? (i := 81) rfl)) rfl
theorem wq_X11_148 : Cond.classLink RX11 148 RX1 ∈ gT := gm (tT_3 _ (List.mem_of_getElem? (i := 82) rfl)) rfl
theorem wz_X1 : Cond.instantiable RX1 2 ∈ gT := gm (tT_3 _ (List.mem_of_getElem? (i := 83) rfl)) rfl
theorem wm_X11_150 : Cond.methodLink RX11 150 yX1_init ∈ gT := gm (tT_3 _ (List.mem_of_getElem? (i := 84) rfl)) rfl
theorem wi_X1_init : Cond.instanceMethod yX1_init ∈ gT := gm (tT_3 _ (List.mem_of_getElem? (i := 85) rfl)) rfl
theorem wc_X1_init : Cond.code yX1_init cX1_init 2 none ∈ gT := gm (tT_3 _ (List.mem_of_getElem? (i := 86) rfl)) rfl
theorem wm_X1_3 : Cond.methodLink RX1 3 objectInit ∈ gT := gm (tT_3 _ (List.mem_of_getElem? (i := 87) rfl)) rfl
theorem wq_X1_9 : Cond.classLink RX1 9 RX0 ∈ gT := gm (tT_3 _ (List.mem_of_getElem? (i := 88) rfl)) rfl
theorem wf_X1_18 : Cond.fieldLink RX1 18 "SwapBook$BookReader" "tokens" "LSwapBook$Tokens;" ∈ gT := gm (tT_3 _ (List.mem_of_getElem? (i := 90) rfl)) rfl
theorem wf_X1_12 : Cond.fieldLink RX1 12 "SwapBook$BookReader" "book" "LSwapBook$Book;" ∈ gT := gm (tT_3 _ (List.mem_of_getElem? (i := 91) rfl)) rfl
theorem wy_X1_tokens : Cond.laysFinal RX1 "SwapBook$BookReader" "tokens" "LSwapBook$Tokens;" ∈ gT := gm (tT_3 _ (List.mem_of_getElem? (i := 92) rfl)) rfl
theorem wy_X1_book : Cond.laysFinal RX1 "SwapBook$BookReader" "book" "LSwapBook$Book;" ∈ gT := gm (tT_3 _ (List.mem_of_getElem? (i := 94) rfl)) rfl
theorem wm_X11_153 : Cond.methodLink RX11 153 yX1_readBook ∈ gT := gm (tT_3 _ (List.mem_of_getElem? (i := 97) rfl)) rfl
theorem wi_X1_readBook : Cond.instanceMethod yX1_readBook ∈ gT := gm (tT_3 _ (List.mem_of_getElem? (i := 98) rfl)) rfl
theorem wl_X1_readBook : Cond.selects RX1 yX1_readBook yX1_readBook ∈ gT := gm (tT_3 _ (List.mem_of_getElem? (i := 99) rfl)) rfl
theorem wc_X1_readBook : Cond.code yX1_readBook cX1_readBook 4 (some (.object "SwapBook$Book")) ∈ gT := gm (tT_3 _ (List.mem_of_getElem? (i := 100) rfl)) rfl
theorem wm_X1_22 : Cond.methodLink RX1 22 yX8_begin ∈ gT := gm (tT_3 _ (List.mem_of_getElem? (i := 101) rfl)) rfl
theorem wi_X8_begin : Cond.instanceMethod yX8_begin ∈ gT := gm (tT_3 _ (List.mem_of_getElem? (i := 102) rfl)) rfl
theorem wl_X8_begin : Cond.selects RX8 yX8_begin yX8_begin ∈ gT := gm (tT_3 _ (List.mem_of_getElem? (i := 103) rfl)) rfl
theorem wc_X8_begin : Cond.code yX8_begin cX8_begin 3 none ∈ gT := gm (tT_3 _ (List.mem_of_getElem? (i := 104) rfl)) rfl
theorem wm_X8_66 : Cond.methodLink RX8 66 yJ9_min_7cf53 ∈ gT := gm (tT_3 _ (List.mem_of_getElem? (i := 105) rfl)) rfl
theorem wt_J9_min_7cf53 : Cond.static yJ9_min_7cf53 ∈ gT := gm (tT_3 _ (List.mem_of_getElem? (i := 106) rfl)) rfl
theorem wc_J9_min_7cf53 : Cond.code yJ9_min_7cf53 cJ9_min_7cf53 2 (some .int) ∈ gT := gm (tT_3 _ (List.mem_of_getElem? (i := 107) rfl)) rfl
theorem wm_X8_72 : Cond.methodLink RX8 72 yX8_addToken ∈ gT := gm (tT_3 _ (List.mem_of_getElem? (i := 108) rfl)) rfl
theorem wi_X8_addToken : Cond.instanceMethod yX8_addToken ∈ gT := gm (tT_3 _ (List.mem_of_getElem? (i := 110) rfl)) rfl
theorem wc_X8_addToken : Cond.code yX8_addToken cX8_addToken 2 (some .int) ∈ gT := gm (tT_3 _ (List.mem_of_getElem? (i := 111) rfl)) rfl
theorem wm_X8_76 : Cond.methodLink RX8 76 yX8_isLetter ∈ gT := gm (tT_3 _ (List.mem_of_getElem? (i := 112) rfl)) rfl
theorem wt_X8_isLetter : Cond.static yX8_isLetter ∈ gT := gm (tT_3 _ (List.mem_of_getElem? (i := 113) rfl)) rfl
theorem wc_X8_isLetter : Cond.code yX8_isLetter cX8_isLetter 1 (some .boolean) ∈ gT := gm (tT_3 _ (List.mem_of_getElem? (i := 114) rfl)) rfl
theorem wm_X8_80 : Cond.methodLink RX8 80 yX8_addWord ∈ gT := gm (tT_3 _ (List.mem_of_getElem? (i := 115) rfl)) rfl
theorem wi_X8_addWord : Cond.instanceMethod yX8_addWord ∈ gT := gm (tT_3 _ (List.mem_of_getElem? (i := 117) rfl)) rfl
theorem wc_X8_addWord : Cond.code yX8_addWord cX8_addWord 5 (some .int) ∈ gT := gm (tT_3 _ (List.mem_of_getElem? (i := 118) rfl)) rfl
theorem wm_X8_89 : Cond.methodLink RX8 89 yX8_kindOfWord ∈ gT := gm (tT_3 _ (List.mem_of_getElem? (i := 119) rfl)) rfl
theorem wi_X8_kindOfWord : Cond.instanceMethod yX8_kindOfWord ∈ gT := gm (tT_3 _ (List.mem_of_getElem? (i := 121) rfl)) rfl
theorem wc_X8_kindOfWord : Cond.code yX8_kindOfWord cX8_kindOfWord 4 (some .int) ∈ gT := gm (tT_3 _ (List.mem_of_getElem? (i := 122) rfl)) rfl
theorem wm_X8_83 : Cond.methodLink RX8 83 yX8_isDigit ∈ gT := gm (tT_3 _ (List.mem_of_getElem? (i := 123) rfl)) rfl
theorem wt_X8_isDigit : Cond.static yX8_isDigit ∈ gT := gm (tT_3 _ (List.mem_of_getElem? (i := 124) rfl)) rfl
theorem wc_X8_isDigit : Cond.code yX8_isDigit cX8_isDigit 1 (some .boolean) ∈ gT := gm (tT_3 _ (List.mem_of_getElem? (i := 125) rfl)) rfl
theorem wm_X8_86 : Cond.methodLink RX8 86 yX8_addNumber ∈ gT := gm (tT_3 _ (List.mem_of_getElem? (i := 126) rfl)) rfl
theorem wi_X8_addNumber : Cond.instanceMethod yX8_addNumber ∈ gT := gm (tT_3 _ (List.mem_of_getElem? (i := 128) rfl)) rfl
theorem wc_X8_addNumber : Cond.code yX8_addNumber cX8_addNumber 5 (some .int) ∈ gT := gm (tT_3 _ (List.mem_of_getElem? (i := 129) rfl)) rfl
theorem wk_X8_93 : Cond.constantLong RX8 93 (10) ∈ gT := gm (tT_3 _ (List.mem_of_getElem? (i := 130) rfl)) rfl
theorem wm_X1_28 : Cond.methodLink RX1 28 yX8_isEnd ∈ gT := gm (tT_3 _ (List.mem_of_getElem? (i := 131) rfl)) rfl
theorem wi_X8_isEnd : Cond.instanceMethod yX8_isEnd ∈ gT := gm (tT_3 _ (List.mem_of_getElem? (i := 132) rfl)) rfl
theorem wl_X8_isEnd : Cond.selects RX8 yX8_isEnd yX8_isEnd ∈ gT := gm (tT_3 _ (List.mem_of_getElem? (i := 133) rfl)) rfl
theorem wc_X8_isEnd : Cond.code yX8_isEnd cX8_isEnd 1 (some .boolean) ∈ gT := gm (tT_3 _ (List.mem_of_getElem? (i := 134) rfl)) rfl
theorem wm_X1_32 : Cond.methodLink RX1 32 yX8_kindHere ∈ gT := gm (tT_3 _ (List.mem_of_getElem? (i := 135) rfl)) rfl
theorem wi_X8_kindHere : Cond.instanceMethod yX8_kindHere ∈ gT := gm (tT_3 _ (List.mem_of_getElem? (i := 136) rfl)) rfl
theorem wl_X8_kindHere : Cond.selects RX8 yX8_kindHere yX8_kindHere ∈ gT := gm (tT_3 _ (List.mem_of_getElem? (i := 137) rfl)) rfl
theorem wc_X8_kindHere : Cond.code yX8_kindHere cX8_kindHere 1 (some .int) ∈ gT := gm (tT_3 _ (List.mem_of_getElem? (i := 138) rfl)) rfl
theorem wm_X1_36 : Cond.methodLink RX1 36 yX1_readIsland ∈ gT := gm (tT_3 _ (List.mem_of_getElem? (i := 139) rfl)) rfl
theorem wi_X1_readIsland : Cond.instanceMethod yX1_readIsland ∈ gT := gm (tT_3 _ (List.mem_of_getElem? (i := 141) rfl)) rfl
theorem wc_X1_readIsland : Cond.code yX1_readIsland cX1_readIsland 1 (some .boolean) ∈ gT := gm (tT_3 _ (List.mem_of_getElem? (i := 142) rfl)) rfl
theorem wm_X1_46 : Cond.methodLink RX1 46 yX8_blame ∈ gT := gm (tT_3 _ (List.mem_of_getElem? (i := 143) rfl)) rfl
theorem wi_X8_blame : Cond.instanceMethod yX8_blame ∈ gT := gm (tT_3 _ (List.mem_of_getElem? (i := 144) rfl)) rfl
theorem wl_X8_blame : Cond.selects RX8 yX8_blame yX8_blame ∈ gT := gm (tT_3 _ (List.mem_of_getElem? (i := 145) rfl)) rfl
theorem wc_X8_blame : Cond.code yX8_blame cX8_blame 2 (some .boolean) ∈ gT := gm (tT_3 _ (List.mem_of_getElem? (i := 146) rfl)) rfl
theorem wm_X1_50 : Cond.methodLink RX1 50 yX8_advance ∈ gT := gm (tT_3 _ (List.mem_of_getElem? (i := 147) rfl)) rfl
theorem wi_X8_advance : Cond.instanceMethod yX8_advance ∈ gT := gm (tT_3 _ (List.mem_of_getElem? (i := 148) rfl)) rfl
theorem wl_X8_advance : Cond.selects RX8 yX8_advance yX8_advance ∈ gT := gm (tT_3 _ (List.mem_of_getElem? (i := 149) rfl)) rfl
theorem wc_X8_advance : Cond.code yX8_advance cX8_advance 1 none ∈ gT := gm (tT_3 _ (List.mem_of_getElem? (i := 150) rfl)) rfl
theorem wm_X1_53 : Cond.methodLink RX1 53 yX1_isNewName ∈ gT := gm (tT_3 _ (List.mem_of_getElem? (i := 151) rfl)) rfl
theorem wi_X1_isNewName : Cond.instanceMethod yX1_isNewName ∈ gT := gm (tT_3 _ (List.mem_of_getElem? (i := 153) rfl)) rfl
theorem wc_X1_isNewName : Cond.code yX1_isNewName cX1_isNewName 4 (some .boolean) ∈ gT := gm (tT_3 _ (List.mem_of_getElem? (i := 154) rfl)) rfl
theorem wm_X1_67 : Cond.methodLink RX1 67 yX8_isName ∈ gT := gm (tT_3 _ (List.mem_of_getElem? (i := 155) rfl)) rfl
theorem wi_X8_isName : Cond.instanceMethod yX8_isName ∈ gT := gm (tT_3 _ (List.mem_of_getElem? (i := 156) rfl)) rfl
theorem wl_X8_isName : Cond.selects RX8 yX8_isName yX8_isName ∈ gT := gm (tT_3 _ (List.mem_of_getElem? (i := 157) rfl)) rfl
theorem wc_X8_isName : Cond.code yX8_isName cX8_isName 1 (some .boolean) ∈ gT := gm (tT_3 _ (List.mem_of_getElem? (i := 158) rfl)) rfl
theorem wm_X1_70 : Cond.methodLink RX1 70 yX8_blameToken ∈ gT := gm (tT_3 _ (List.mem_of_getElem? (i := 159) rfl)) rfl
theorem wi_X8_blameToken : Cond.instanceMethod yX8_blameToken ∈ gT := gm (tT_3 _ (List.mem_of_getElem? (i := 160) rfl)) rfl
theorem wl_X8_blameToken : Cond.selects RX8 yX8_blameToken yX8_blameToken ∈ gT := gm (tT_3 _ (List.mem_of_getElem? (i := 161) rfl)) rfl
theorem wc_X8_blameToken : Cond.code yX8_blameToken cX8_blameToken 1 (some .boolean) ∈ gT := gm (tT_3 _ (List.mem_of_getElem? (i := 162) rfl)) rfl
theorem wm_X1_56 : Cond.methodLink RX1 56 yX8_nameHere ∈ gT := gm (tT_3 _ (List.mem_of_getElem? (i := 163) rfl)) rfl
theorem wi_X8_nameHere : Cond.instanceMethod yX8_nameHere ∈ gT := gm (tT_3 _ (List.mem_of_getElem? (i := 164) rfl)) rfl
theorem wl_X8_nameHere : Cond.selects RX8 yX8_nameHere yX8_nameHere ∈ gT := gm (tT_3 _ (List.mem_of_getElem? (i := 165) rfl)) rfl
theorem wc_X8_nameHere : Cond.code yX8_nameHere cX8_nameHere 1 (some .long) ∈ gT := gm (tT_3 _ (List.mem_of_getElem? (i := 166) rfl)) rfl
theorem wm_X1_73 : Cond.methodLink RX1 73 yX0_findIsland ∈ gT := gm (tT_3 _ (List.mem_of_getElem? (i := 167) rfl)) rfl
theorem wi_X0_findIsland : Cond.instanceMethod yX0_findIsland ∈ gT := gm (tT_3 _ (List.mem_of_getElem? (i := 168) rfl)) rfl
theorem wl_X0_findIsland : Cond.selects RX0 yX0_findIsland yX0_findIsland ∈ gT := gm (tT_3 _ (List.mem_of_getElem? (i := 169) rfl)) rfl
theorem wc_X0_findIsland : Cond.code yX0_findIsland cX0_findIsland 4 (some .int) ∈ gT := gm (tT_3 _ (List.mem_of_getElem? (i := 170) rfl)) rfl
theorem wm_X1_77 : Cond.methodLink RX1 77 yX0_findChange ∈ gT := gm (tT_3 _ (List.mem_of_getElem? (i := 171) rfl)) rfl
theorem wi_X0_findChange : Cond.instanceMethod yX0_findChange ∈ gT := gm (tT_3 _ (List.mem_of_getElem? (i := 172) rfl)) rfl
theorem wl_X0_findChange : Cond.selects RX0 yX0_findChange yX0_findChange ∈ gT := gm (tT_3 _ (List.mem_of_getElem? (i := 173) rfl)) rfl
theorem wc_X0_findChange : Cond.code yX0_findChange cX0_findChange 4 (some .int) ∈ gT := gm (tT_3 _ (List.mem_of_getElem? (i := 174) rfl)) rfl
theorem wm_X1_60 : Cond.methodLink RX1 60 yX0_addIsland ∈ gT := gm (tT_3 _ (List.mem_of_getElem? (i := 175) rfl)) rfl
theorem wi_X0_addIsland : Cond.instanceMethod yX0_addIsland ∈ gT := gm (tT_3 _ (List.mem_of_getElem? (i := 176) rfl)) rfl
theorem wl_X0_addIsland : Cond.selects RX0 yX0_addIsland yX0_addIsland ∈ gT := gm (tT_3 _ (List.mem_of_getElem? (i := 177) rfl)) rfl
theorem wc_X0_addIsland : Cond.code yX0_addIsland cX0_addIsland 3 none ∈ gT := gm (tT_3 _ (List.mem_of_getElem? (i := 178) rfl)) rfl
theorem wm_X1_64 : Cond.methodLink RX1 64 yX8_pass ∈ gT := gm (tT_3 _ (List.mem_of_getElem? (i := 179) rfl)) rfl
theorem wi_X8_pass : Cond.instanceMethod yX8_pass ∈ gT := gm (tT_3 _ (List.mem_of_getElem? (i := 180) rfl)) rfl
theorem wl_X8_pass : Cond.selects RX8 yX8_pass yX8_pass ∈ gT := gm (tT_3 _ (List.mem_of_getElem? (i := 181) rfl)) rfl
theorem wc_X8_pass : Cond.code yX8_pass cX8_pass 2 (some .boolean) ∈ gT := gm (tT_3 _ (List.mem_of_getElem? (i := 182) rfl)) rfl
theorem wm_X8_95 : Cond.methodLink RX8 95 yX8_blameToken ∈ gT := gm (tT_3 _ (List.mem_of_getElem? (i := 183) rfl)) rfl
theorem wm_X8_99 : Cond.methodLink RX8 99 yX8_advance ∈ gT := gm (tT_3 _ (List.mem_of_getElem? (i := 184) rfl)) rfl
theorem wm_X1_39 : Cond.methodLink RX1 39 yX1_readChange ∈ gT := gm (tT_3 _ (List.mem_of_getElem? (i := 185) rfl)) rfl
theorem wi_X1_readChange : Cond.instanceMethod yX1_readChange ∈ gT := gm (tT_3 _ (List.mem_of_getElem? (i := 187) rfl)) rfl
theorem wc_X1_readChange : Cond.code yX1_readChange cX1_readChange 3 (some .boolean) ∈ gT := gm (tT_3 _ (List.mem_of_getElem? (i := 188) rfl)) rfl
theorem wm_X1_80 : Cond.methodLink RX1 80 yX1_kindOf ∈ gT := gm (tT_3 _ (List.mem_of_getElem? (i := 189) rfl)) rfl
theorem wt_X1_kindOf : Cond.static yX1_kindOf ∈ gT := gm (tT_3 _ (List.mem_of_getElem? (i := 190) rfl)) rfl
theorem wc_X1_kindOf : Cond.code yX1_kindOf cX1_kindOf 1 (some .int) ∈ gT := gm (tT_3 _ (List.mem_of_getElem? (i := 191) rfl)) rfl
theorem wm_X1_98 : Cond.methodLink RX1 98 yX1_readBody ∈ gT := gm (tT_3 _ (List.mem_of_getElem? (i := 192) rfl)) rfl
theorem wi_X1_readBody : Cond.instanceMethod yX1_readBody ∈ gT := gm (tT_3 _ (List.mem_of_getElem? (i := 194) rfl)) rfl
theorem wc_X1_readBody : Cond.code yX1_readBody cX1_readBody 3 (some .boolean) ∈ gT := gm (tT_3 _ (List.mem_of_getElem? (i := 195) rfl)) rfl
theorem wm_X1_111 : Cond.methodLink RX1 111 yX1_readNumber ∈ gT := gm (tT_3 _ (List.mem_of_getElem? (i := 196) rfl)) rfl
theorem wi_X1_readNumber : Cond.instanceMethod yX1_readNumber ∈ gT := gm (tT_3 _ (List.mem_of_getElem? (i := 198) rfl)) rfl
theorem wc_X1_readNumber : Cond.code yX1_readNumber cX1_readNumber 3 (some .boolean) ∈ gT := gm (tT_3 _ (List.mem_of_getElem? (i := 199) rfl)) rfl
theorem wm_X1_123 : Cond.methodLink RX1 123 yX8_passNumber ∈ gT := gm (tT_3 _ (List.mem_of_getElem? (i := 200) rfl)) rfl
theorem wi_X8_passNumber : Cond.instanceMethod yX8_passNumber ∈ gT := gm (tT_3 _ (List.mem_of_getElem? (i := 201) rfl)) rfl
theorem wl_X8_passNumber : Cond.selects RX8 yX8_passNumber yX8_passNumber ∈ gT := gm (tT_3 _ (List.mem_of_getElem? (i := 202) rfl)) rfl
theorem wc_X8_passNumber : Cond.code yX8_passNumber cX8_passNumber 4 (some .int) ∈ gT := gm (tT_3 _ (List.mem_of_getElem? (i := 203) rfl)) rfl
theorem wm_X8_102 : Cond.methodLink RX8 102 yX8_blame ∈ gT := gm (tT_3 _ (List.mem_of_getElem? (i := 204) rfl)) rfl
theorem wm_X1_114 : Cond.methodLink RX1 114 yX1_readSaying ∈ gT := gm (tT_3 _ (List.mem_of_getElem? (i := 205) rfl)) rfl
theorem wi_X1_readSaying : Cond.instanceMethod yX1_readSaying ∈ gT := gm (tT_3 _ (List.mem_of_getElem? (i := 207) rfl)) rfl
theorem wc_X1_readSaying : Cond.code yX1_readSaying cX1_readSaying 2 (some .boolean) ∈ gT := gm (tT_3 _ (List.mem_of_getElem? (i := 208) rfl)) rfl
theorem wm_X1_117 : Cond.methodLink RX1 117 yX1_readOf ∈ gT := gm (tT_3 _ (List.mem_of_getElem? (i := 209) rfl)) rfl
theorem wi_X1_readOf : Cond.instanceMethod yX1_readOf ∈ gT := gm (tT_3 _ (List.mem_of_getElem? (i := 211) rfl)) rfl
theorem wc_X1_readOf : Cond.code yX1_readOf cX1_readOf 3 (some .boolean) ∈ gT := gm (tT_3 _ (List.mem_of_getElem? (i := 212) rfl)) rfl
theorem wm_X1_130 : Cond.methodLink RX1 130 yX8_changeHere ∈ gT := gm (tT_3 _ (List.mem_of_getElem? (i := 213) rfl)) rfl
theorem wi_X8_changeHere : Cond.instanceMethod yX8_changeHere ∈ gT := gm (tT_3 _ (List.mem_of_getElem? (i := 214) rfl)) rfl
theorem wl_X8_changeHere : Cond.selects RX8 yX8_changeHere yX8_changeHere ∈ gT := gm (tT_3 _ (List.mem_of_getElem? (i := 215) rfl)) rfl
theorem wc_X8_changeHere : Cond.code yX8_changeHere cX8_changeHere 3 (some .int) ∈ gT := gm (tT_3 _ (List.mem_of_getElem? (i := 216) rfl)) rfl
theorem wm_X8_105 : Cond.methodLink RX8 105 yX8_isName ∈ gT := gm (tT_3 _ (List.mem_of_getElem? (i := 217) rfl)) rfl
theorem wm_X8_108 : Cond.methodLink RX8 108 yX0_findChange ∈ gT := gm (tT_3 _ (List.mem_of_getElem? (i := 218) rfl)) rfl
theorem wm_X1_120 : Cond.methodLink RX1 120 yX1_readSettled ∈ gT := gm (tT_3 _ (List.mem_of_getElem? (i := 219) rfl)) rfl
theorem wi_X1_readSettled : Cond.instanceMethod yX1_readSettled ∈ gT := gm (tT_3 _ (List.mem_of_getElem? (i := 221) rfl)) rfl
theorem wc_X1_readSettled : Cond.code yX1_readSettled cX1_readSettled 4 (some .boolean) ∈ gT := gm (tT_3 _ (List.mem_of_getElem? (i := 222) rfl)) rfl
theorem wm_X1_140 : Cond.methodLink RX1 140 yX0_isIn ∈ gT := gm (tT_3 _ (List.mem_of_getElem? (i := 223) rfl)) rfl
theorem wt_X0_isIn : Cond.static yX0_isIn ∈ gT := gm (tT_3 _ (List.mem_of_getElem? (i := 224) rfl)) rfl
theorem wc_X0_isIn : Cond.code yX0_isIn cX0_isIn 2 (some .boolean) ∈ gT := gm (tT_3 _ (List.mem_of_getElem? (i := 225) rfl)) rfl
theorem wm_X1_102 : Cond.methodLink RX1 102 yX1_readAfter ∈ gT := gm (tT_3 _ (List.mem_of_getElem? (i := 226) rfl)) rfl
theorem wi_X1_readAfter : Cond.instanceMethod yX1_readAfter ∈ gT := gm (tT_3 _ (List.mem_of_getElem? (i := 228) rfl)) rfl
theorem wc_X1_readAfter : Cond.code yX1_readAfter cX1_readAfter 5 (some .boolean) ∈ gT := gm (tT_3 _ (List.mem_of_getElem? (i := 229) rfl)) rfl
theorem wm_X1_105 : Cond.methodLink RX1 105 yX0_addChange ∈ gT := gm (tT_3 _ (List.mem_of_getElem? (i := 230) rfl)) rfl
theorem wi_X0_addChange : Cond.instanceMethod yX0_addChange ∈ gT := gm (tT_3 _ (List.mem_of_getElem? (i := 231) rfl)) rfl
theorem wl_X0_addChange : Cond.selects RX0 yX0_addChange yX0_addChange ∈ gT := gm (tT_3 _ (List.mem_of_getElem? (i := 232) rfl)) rfl
theorem wc_X0_addChange : Cond.code yX0_addChange cX0_addChange 3 none ∈ gT := gm (tT_3 _ (List.mem_of_getElem? (i := 233) rfl)) rfl
theorem wm_X0_70 : Cond.methodLink RX0 70 yX0_isIn ∈ gT := gm (tT_3 _ (List.mem_of_getElem? (i := 234) rfl)) rfl
theorem wm_X0_74 : Cond.methodLink RX0 74 yJ9_max_7cf53 ∈ gT := gm (tT_3 _ (List.mem_of_getElem? (i := 235) rfl)) rfl
theorem wt_J9_max_7cf53 : Cond.static yJ9_max_7cf53 ∈ gT := gm (tT_3 _ (List.mem_of_getElem? (i := 236) rfl)) rfl
theorem wc_J9_max_7cf53 : Cond.code yJ9_max_7cf53 cJ9_max_7cf53 2 (some .int) ∈ gT := gm (tT_3 _ (List.mem_of_getElem? (i := 237) rfl)) rfl
theorem wm_X0_80 : Cond.methodLink RX0 80 yX0_doClash ∈ gT := gm (tT_3 _ (List.mem_of_getElem? (i := 238) rfl)) rfl
theorem wt_X0_doClash : Cond.static yX0_doClash ∈ gT := gm (tT_3 _ (List.mem_of_getElem? (i := 239) rfl)) rfl
theorem wc_X0_doClash : Cond.code yX0_doClash cX0_doClash 2 (some .boolean) ∈ gT := gm (tT_4 _ (List.mem_of_getElem? (i := 0) rfl)) rfl
theorem wm_X11_160 : Cond.methodLink RX11 160 yX7_begin ∈ gT := gm (tT_4 _ (List.mem_of_getElem? (i := 1) rfl)) rfl
theorem wi_X7_begin : Cond.instanceMethod yX7_begin ∈ gT := gm (tT_4 _ (List.mem_of_getElem? (i := 2) rfl)) rfl
theorem wl_X7_begin : Cond.selects RX7 yX7_begin yX7_begin ∈ gT := gm (tT_4 _ (List.mem_of_getElem? (i := 3) rfl)) rfl
theorem wc_X7_begin : Cond.code yX7_begin cX7_begin 3 none ∈ gT := gm (tT_4 _ (List.mem_of_getElem? (i := 4) rfl)) rfl
theorem wm_X11_169 : Cond.methodLink RX11 169 yX11_tell ∈ gT := gm (tT_4 _ (List.mem_of_getElem? (i := 5) rfl)) rfl
theorem wi_X11_tell : Cond.instanceMethod yX11_tell ∈ gT := gm (tT_4 _ (List.mem_of_getElem? (i := 7) rfl)) rfl
theorem wc_X11_tell : Cond.code yX11_tell cX11_tell 2 (some .int) ∈ gT := gm (tT_4 _ (List.mem_of_getElem? (i := 8) rfl)) rfl
theorem wm_L_59 : Cond.methodLink RL 59 yX11_log ∈ gT := gm (tT_4 _ (List.mem_of_getElem? (i := 9) rfl)) rfl
theorem wi_X11_log : Cond.instanceMethod yX11_log ∈ gT := gm (tT_4 _ (List.mem_of_getElem? (i := 10) rfl)) rfl
theorem wl_X11_log : Cond.selects RX11 yX11_log yX11_log ∈ gT := gm (tT_4 _ (List.mem_of_getElem? (i := 11) rfl)) rfl
theorem wc_X11_log : Cond.code yX11_log cX11_log 3 (some .int) ∈ gT := gm (tT_4 _ (List.mem_of_getElem? (i := 12) rfl)) rfl
theorem wq_X11_172 : Cond.classLink RX11 172 RX4 ∈ gT := gm (tT_4 _ (List.mem_of_getElem? (i := 13) rfl)) rfl
theorem wz_X4 : Cond.instantiable RX4 5 ∈ gT := gm (tT_4 _ (List.mem_of_getElem? (i := 14) rfl)) rfl
theorem wm_X11_178 : Cond.methodLink RX11 178 yX4_init ∈ gT := gm (tT_4 _ (List.mem_of_getElem? (i := 15) rfl)) rfl
theorem wi_X4_init : Cond.instanceMethod yX4_init ∈ gT := gm (tT_4 _ (List.mem_of_getElem? (i := 16) rfl)) rfl
theorem wc_X4_init : Cond.code yX4_init cX4_init 3 none ∈ gT := gm (tT_4 _ (List.mem_of_getElem? (i := 17) rfl)) rfl
theorem wm_X4_3 : Cond.methodLink RX4 3 objectInit ∈ gT := gm (tT_4 _ (List.mem_of_getElem? (i := 18) rfl)) rfl
theorem wq_X4_9 : Cond.classLink RX4 9 RX3 ∈ gT := gm (tT_4 _ (List.mem_of_getElem? (i := 19) rfl)) rfl
theorem wf_X4_26 : Cond.fieldLink RX4 26 "SwapBook$LogReader" "tokens" "LSwapBook$Tokens;" ∈ gT := gm (tT_4 _ (List.mem_of_getElem? (i := 21) rfl)) rfl
theorem wf_X4_30 : Cond.fieldLink RX4 30 "SwapBook$LogReader" "book" "LSwapBook$Book;" ∈ gT := gm (tT_4 _ (List.mem_of_getElem? (i := 22) rfl)) rfl
theorem wf_X4_12 : Cond.fieldLink RX4 12 "SwapBook$LogReader" "log" "LSwapBook$Log;" ∈ gT := gm (tT_4 _ (List.mem_of_getElem? (i := 23) rfl)) rfl
theorem wf_X4_18 : Cond.fieldLink RX4 18 "SwapBook$LogReader" "opened" "[I" ∈ gT := gm (tT_4 _ (List.mem_of_getElem? (i := 24) rfl)) rfl
theorem wf_X4_22 : Cond.fieldLink RX4 22 "SwapBook$LogReader" "depth" "I" ∈ gT := gm (tT_4 _ (List.mem_of_getElem? (i := 25) rfl)) rfl
theorem wy_X4_tokens : Cond.laysFinal RX4 "SwapBook$LogReader" "tokens" "LSwapBook$Tokens;" ∈ gT := gm (tT_4 _ (List.mem_of_getElem? (i := 26) rfl)) rfl
theorem wy_X4_book : Cond.laysFinal RX4 "SwapBook$LogReader" "book" "LSwapBook$Book;" ∈ gT := gm (tT_4 _ (List.mem_of_getElem? (i := 28) rfl)) rfl
theorem wy_X4_log : Cond.laysFinal RX4 "SwapBook$LogReader" "log" "LSwapBook$Log;" ∈ gT := gm (tT_4 _ (List.mem_of_getElem? (i := 30) rfl)) rfl
theorem wy_X4_opened : Cond.laysFinal RX4 "SwapBook$LogReader" "opened" "[I" ∈ gT := gm (tT_4 _ (List.mem_of_getElem? (i := 32) rfl)) rfl
theorem wy_X4_depth : Cond.lays RX4 "SwapBook$LogReader" "depth" "I" ∈ gT := gm (tT_4 _ (List.mem_of_getElem? (i := 34) rfl)) rfl
theorem wm_X11_181 : Cond.methodLink RX11 181 yX4_readLog ∈ gT := gm (tT_4 _ (List.mem_of_getElem? (i := 37) rfl)) rfl
theorem wi_X4_readLog : Cond.instanceMethod yX4_readLog ∈ gT := gm (tT_4 _ (List.mem_of_getElem? (i := 38) rfl)) rfl
theorem wl_X4_readLog : Cond.selects RX4 yX4_readLog yX4_readLog ∈ gT := gm (tT_4 _ (List.mem_of_getElem? (i := 39) rfl)) rfl
theorem wc_X4_readLog : Cond.code yX4_readLog cX4_readLog 6 (some (.object "SwapBook$Log")) ∈ gT := gm (tT_4 _ (List.mem_of_getElem? (i := 40) rfl)) rfl
theorem wm_X4_34 : Cond.methodLink RX4 34 yX8_begin ∈ gT := gm (tT_4 _ (List.mem_of_getElem? (i := 41) rfl)) rfl
theorem wm_X4_40 : Cond.methodLink RX4 40 yX8_isEnd ∈ gT := gm (tT_4 _ (List.mem_of_getElem? (i := 42) rfl)) rfl
theorem wm_X4_47 : Cond.methodLink RX4 47 yX8_kindHere ∈ gT := gm (tT_4 _ (List.mem_of_getElem? (i := 43) rfl)) rfl
theorem wm_X4_51 : Cond.methodLink RX4 51 yX4_beginEnd ∈ gT := gm (tT_4 _ (List.mem_of_getElem? (i := 44) rfl)) rfl
theorem wi_X4_beginEnd : Cond.instanceMethod yX4_beginEnd ∈ gT := gm (tT_4 _ (List.mem_of_getElem? (i := 46) rfl)) rfl
theorem wc_X4_beginEnd : Cond.code yX4_beginEnd cX4_beginEnd 2 (some .boolean) ∈ gT := gm (tT_4 _ (List.mem_of_getElem? (i := 47) rfl)) rfl
theorem wm_X4_65 : Cond.methodLink RX4 65 yX8_blameToken ∈ gT := gm (tT_4 _ (List.mem_of_getElem? (i := 48) rfl)) rfl
theorem wm_X4_74 : Cond.methodLink RX4 74 yX8_advance ∈ gT := gm (tT_4 _ (List.mem_of_getElem? (i := 49) rfl)) rfl
theorem wm_X4_55 : Cond.methodLink RX4 55 yX4_beginStep ∈ gT := gm (tT_4 _ (List.mem_of_getElem? (i := 50) rfl)) rfl
theorem wi_X4_beginStep : Cond.instanceMethod yX4_beginStep ∈ gT := gm (tT_4 _ (List.mem_of_getElem? (i := 52) rfl)) rfl
theorem wc_X4_beginStep : Cond.code yX4_beginStep cX4_beginStep 3 (some .boolean) ∈ gT := gm (tT_4 _ (List.mem_of_getElem? (i := 53) rfl)) rfl
theorem wm_X4_77 : Cond.methodLink RX4 77 yX4_isStep ∈ gT := gm (tT_4 _ (List.mem_of_getElem? (i := 54) rfl)) rfl
theorem wt_X4_isStep : Cond.static yX4_isStep ∈ gT := gm (tT_4 _ (List.mem_of_getElem? (i := 55) rfl)) rfl
theorem wc_X4_isStep : Cond.code yX4_isStep cX4_isStep 1 (some .boolean) ∈ gT := gm (tT_4 _ (List.mem_of_getElem? (i := 56) rfl)) rfl
theorem wm_X4_83 : Cond.methodLink RX4 83 yX8_blame ∈ gT := gm (tT_4 _ (List.mem_of_getElem? (i := 57) rfl)) rfl
theorem wm_X4_59 : Cond.methodLink RX4 59 yX4_readBody ∈ gT := gm (tT_4 _ (List.mem_of_getElem? (i := 58) rfl)) rfl
theorem wi_X4_readBody : Cond.instanceMethod yX4_readBody ∈ gT := gm (tT_4 _ (List.mem_of_getElem? (i := 60) rfl)) rfl
theorem wc_X4_readBody : Cond.code yX4_readBody cX4_readBody 3 (some .boolean) ∈ gT := gm (tT_4 _ (List.mem_of_getElem? (i := 61) rfl)) rfl
theorem wm_X4_86 : Cond.methodLink RX4 86 yX4_readChange ∈ gT := gm (tT_4 _ (List.mem_of_getElem? (i := 62) rfl)) rfl
theorem wi_X4_readChange : Cond.instanceMethod yX4_readChange ∈ gT := gm (tT_4 _ (List.mem_of_getElem? (i := 64) rfl)) rfl
theorem wc_X4_readChange : Cond.code yX4_readChange cX4_readChange 2 (some .boolean) ∈ gT := gm (tT_4 _ (List.mem_of_getElem? (i := 65) rfl)) rfl
theorem wm_X4_112 : Cond.methodLink RX4 112 yX8_changeHere ∈ gT := gm (tT_4 _ (List.mem_of_getElem? (i := 66) rfl)) rfl
theorem wm_X4_116 : Cond.methodLink RX4 116 yX4_advanceBehind ∈ gT := gm (tT_4 _ (List.mem_of_getElem? (i := 67) rfl)) rfl
theorem wi_X4_advanceBehind : Cond.instanceMethod yX4_advanceBehind ∈ gT := gm (tT_4 _ (List.mem_of_getElem? (i := 69) rfl)) rfl
theorem wc_X4_advanceBehind : Cond.code yX4_advanceBehind cX4_advanceBehind 2 (some .boolean) ∈ gT := gm (tT_4 _ (List.mem_of_getElem? (i := 70) rfl)) rfl
theorem wm_X4_62 : Cond.methodLink RX4 62 yX8_pass ∈ gT := gm (tT_4 _ (List.mem_of_getElem? (i := 71) rfl)) rfl
theorem wm_X4_89 : Cond.methodLink RX4 89 yX4_readIsland ∈ gT := gm (tT_4 _ (List.mem_of_getElem? (i := 72) rfl)) rfl
theorem wi_X4_readIsland : Cond.instanceMethod yX4_readIsland ∈ gT := gm (tT_4 _ (List.mem_of_getElem? (i := 74) rfl)) rfl
theorem wc_X4_readIsland : Cond.code yX4_readIsland cX4_readIsland 2 (some .boolean) ∈ gT := gm (tT_4 _ (List.mem_of_getElem? (i := 75) rfl)) rfl
theorem wm_X4_119 : Cond.methodLink RX4 119 yX8_islandHere ∈ gT := gm (tT_4 _ (List.mem_of_getElem? (i := 76) rfl)) rfl
theorem wi_X8_islandHere : Cond.instanceMethod yX8_islandHere ∈ gT := gm (tT_4 _ (List.mem_of_getElem? (i := 77) rfl)) rfl
theorem wl_X8_islandHere : Cond.selects RX8 yX8_islandHere yX8_islandHere ∈ gT := gm (tT_4 _ (List.mem_of_getElem? (i := 78) rfl)) rfl
theorem wc_X8_islandHere : Cond.code yX8_islandHere cX8_islandHere 3 (some .int) ∈ gT := gm (tT_4 _ (List.mem_of_getElem? (i := 79) rfl)) rfl
theorem wm_X8_113 : Cond.methodLink RX8 113 yX0_findIsland ∈ gT := gm (tT_4 _ (List.mem_of_getElem? (i := 80) rfl)) rfl
theorem wm_X4_92 : Cond.methodLink RX4 92 yX4_readTarget ∈ gT := gm (tT_4 _ (List.mem_of_getElem? (i := 81) rfl)) rfl
theorem wi_X4_readTarget : Cond.instanceMethod yX4_readTarget ∈ gT := gm (tT_4 _ (List.mem_of_getElem? (i := 83) rfl)) rfl
theorem wc_X4_readTarget : Cond.code yX4_readTarget cX4_readTarget 2 (some .boolean) ∈ gT := gm (tT_4 _ (List.mem_of_getElem? (i := 84) rfl)) rfl
theorem wm_X4_95 : Cond.methodLink RX4 95 yX4_readDelay ∈ gT := gm (tT_4 _ (List.mem_of_getElem? (i := 85) rfl)) rfl
theorem wi_X4_readDelay : Cond.instanceMethod yX4_readDelay ∈ gT := gm (tT_4 _ (List.mem_of_getElem? (i := 87) rfl)) rfl
theorem wc_X4_readDelay : Cond.code yX4_readDelay cX4_readDelay 2 (some .boolean) ∈ gT := gm (tT_4 _ (List.mem_of_getElem? (i := 88) rfl)) rfl
theorem wm_X4_98 : Cond.methodLink RX4 98 yX4_readNumber ∈ gT := gm (tT_4 _ (List.mem_of_getElem? (i := 89) rfl)) rfl
theorem wi_X4_readNumber : Cond.instanceMethod yX4_readNumber ∈ gT := gm (tT_4 _ (List.mem_of_getElem? (i := 91) rfl)) rfl
theorem wc_X4_readNumber : Cond.code yX4_readNumber cX4_readNumber 4 (some .boolean) ∈ gT := gm (tT_4 _ (List.mem_of_getElem? (i := 92) rfl)) rfl
theorem wm_X4_128 : Cond.methodLink RX4 128 yX8_passNumber ∈ gT := gm (tT_4 _ (List.mem_of_getElem? (i := 93) rfl)) rfl
theorem wm_X4_102 : Cond.methodLink RX4 102 yX4_readTest ∈ gT := gm (tT_4 _ (List.mem_of_getElem? (i := 94) rfl)) rfl
theorem wi_X4_readTest : Cond.instanceMethod yX4_readTest ∈ gT := gm (tT_4 _ (List.mem_of_getElem? (i := 96) rfl)) rfl
theorem wc_X4_readTest : Cond.code yX4_readTest cX4_readTest 3 (some .boolean) ∈ gT := gm (tT_4 _ (List.mem_of_getElem? (i := 97) rfl)) rfl
theorem wm_L_63 : Cond.methodLink RL 63 yX11_fault ∈ gT := gm (tT_4 _ (List.mem_of_getElem? (i := 98) rfl)) rfl
theorem wi_X11_fault : Cond.instanceMethod yX11_fault ∈ gT := gm (tT_4 _ (List.mem_of_getElem? (i := 99) rfl)) rfl
theorem wl_X11_fault : Cond.selects RX11 yX11_fault yX11_fault ∈ gT := gm (tT_4 _ (List.mem_of_getElem? (i := 100) rfl)) rfl
theorem wc_X11_fault : Cond.code yX11_fault cX11_fault 2 (some .int) ∈ gT := gm (tT_4 _ (List.mem_of_getElem? (i := 101) rfl)) rfl
theorem wm_L_67 : Cond.methodLink RL 67 yX11_many ∈ gT := gm (tT_4 _ (List.mem_of_getElem? (i := 102) rfl)) rfl
theorem wi_X11_many : Cond.instanceMethod yX11_many ∈ gT := gm (tT_4 _ (List.mem_of_getElem? (i := 103) rfl)) rfl
theorem wl_X11_many : Cond.selects RX11 yX11_many yX11_many ∈ gT := gm (tT_4 _ (List.mem_of_getElem? (i := 104) rfl)) rfl
theorem wc_X11_many : Cond.code yX11_many cX11_many 3 (some .int) ∈ gT := gm (tT_4 _ (List.mem_of_getElem? (i := 105) rfl)) rfl
theorem wm_X11_200 : Cond.methodLink RX11 200 yX0_allOfKind ∈ gT := gm (tT_4 _ (List.mem_of_getElem? (i := 106) rfl)) rfl
theorem wi_X0_allOfKind : Cond.instanceMethod yX0_allOfKind ∈ gT := gm (tT_4 _ (List.mem_of_getElem? (i := 107) rfl)) rfl
theorem wl_X0_allOfKind : Cond.selects RX0 yX0_allOfKind yX0_allOfKind ∈ gT := gm (tT_4 _ (List.mem_of_getElem? (i := 108) rfl)) rfl
theorem wc_X0_allOfKind : Cond.code yX0_allOfKind cX0_allOfKind 4 (some .int) ∈ gT := gm (tT_4 _ (List.mem_of_getElem? (i := 109) rfl)) rfl
theorem wm_X11_203 : Cond.methodLink RX11 203 yJ6_bitCount_0f7a4 ∈ gT := gm (tT_4 _ (List.mem_of_getElem? (i := 110) rfl)) rfl
theorem wt_J6_bitCount_0f7a4 : Cond.static yJ6_bitCount_0f7a4 ∈ gT := gm (tT_4 _ (List.mem_of_getElem? (i := 111) rfl)) rfl
theorem wc_J6_bitCount_0f7a4 : Cond.code yJ6_bitCount_0f7a4 cJ6_bitCount_0f7a4 1 (some .int) ∈ gT := gm (tT_4 _ (List.mem_of_getElem? (i := 112) rfl)) rfl
theorem wk_J6_265 : Cond.constant RJ6 265 (1431655765) ∈ gT := gm (tT_4 _ (List.mem_of_getElem? (i := 113) rfl)) rfl
theorem wk_J6_266 : Cond.constant RJ6 266 (858993459) ∈ gT := gm (tT_4 _ (List.mem_of_getElem? (i := 114) rfl)) rfl
theorem wk_J6_267 : Cond.constant RJ6 267 (252645135) ∈ gT := gm (tT_4 _ (List.mem_of_getElem? (i := 115) rfl)) rfl
theorem wm_X11_208 : Cond.methodLink RX11 208 yX0_countFoes ∈ gT := gm (tT_4 _ (List.mem_of_getElem? (i := 116) rfl)) rfl
theorem wi_X0_countFoes : Cond.instanceMethod yX0_countFoes ∈ gT := gm (tT_4 _ (List.mem_of_getElem? (i := 117) rfl)) rfl
theorem wl_X0_countFoes : Cond.selects RX0 yX0_countFoes yX0_countFoes ∈ gT := gm (tT_4 _ (List.mem_of_getElem? (i := 118) rfl)) rfl
theorem wc_X0_countFoes : Cond.code yX0_countFoes cX0_countFoes 3 (some .int) ∈ gT := gm (tT_4 _ (List.mem_of_getElem? (i := 119) rfl)) rfl
theorem wm_X0_83 : Cond.methodLink RX0 83 yJ6_bitCount_0f7a4 ∈ gT := gm (tT_4 _ (List.mem_of_getElem? (i := 120) rfl)) rfl
theorem wm_L_71 : Cond.methodLink RL 71 yX11_change ∈ gT := gm (tT_4 _ (List.mem_of_getElem? (i := 121) rfl)) rfl
theorem wi_X11_change : Cond.instanceMethod yX11_change ∈ gT := gm (tT_4 _ (List.mem_of_getElem? (i := 122) rfl)) rfl
theorem wl_X11_change : Cond.selects RX11 yX11_change yX11_change ∈ gT := gm (tT_4 _ (List.mem_of_getElem? (i := 123) rfl)) rfl
theorem wc_X11_change : Cond.code yX11_change cX11_change 4 (some .int) ∈ gT := gm (tT_4 _ (List.mem_of_getElem? (i := 124) rfl)) rfl
theorem wm_X11_212 : Cond.methodLink RX11 212 yX0_isChange ∈ gT := gm (tT_4 _ (List.mem_of_getElem? (i := 125) rfl)) rfl
theorem wi_X0_isChange : Cond.instanceMethod yX0_isChange ∈ gT := gm (tT_4 _ (List.mem_of_getElem? (i := 126) rfl)) rfl
theorem wl_X0_isChange : Cond.selects RX0 yX0_isChange yX0_isChange ∈ gT := gm (tT_4 _ (List.mem_of_getElem? (i := 127) rfl)) rfl
theorem wc_X0_isChange : Cond.code yX0_isChange cX0_isChange 2 (some .boolean) ∈ gT := gm (tT_4 _ (List.mem_of_getElem? (i := 128) rfl)) rfl
theorem wm_X11_220 : Cond.methodLink RX11 220 yX0_isPut ∈ gT := gm (tT_4 _ (List.mem_of_getElem? (i := 129) rfl)) rfl
theorem wi_X0_isPut : Cond.instanceMethod yX0_isPut ∈ gT := gm (tT_4 _ (List.mem_of_getElem? (i := 130) rfl)) rfl
theorem wl_X0_isPut : Cond.selects RX0 yX0_isPut yX0_isPut ∈ gT := gm (tT_4 _ (List.mem_of_getElem? (i := 131) rfl)) rfl
theorem wc_X0_isPut : Cond.code yX0_isPut cX0_isPut 2 (some .boolean) ∈ gT := gm (tT_4 _ (List.mem_of_getElem? (i := 132) rfl)) rfl
theorem wm_X0_66 : Cond.methodLink RX0 66 yX0_isChange ∈ gT := gm (tT_4 _ (List.mem_of_getElem? (i := 133) rfl)) rfl
theorem wm_L_76 : Cond.methodLink RL 76 yX11_hangs ∈ gT := gm (tT_4 _ (List.mem_of_getElem? (i := 134) rfl)) rfl
theorem wi_X11_hangs : Cond.instanceMethod yX11_hangs ∈ gT := gm (tT_4 _ (List.mem_of_getElem? (i := 135) rfl)) rfl
theorem wl_X11_hangs : Cond.selects RX11 yX11_hangs yX11_hangs ∈ gT := gm (tT_4 _ (List.mem_of_getElem? (i := 136) rfl)) rfl
theorem wc_X11_hangs : Cond.code yX11_hangs cX11_hangs 4 (some .int) ∈ gT := gm (tT_4 _ (List.mem_of_getElem? (i := 137) rfl)) rfl
theorem wm_L_80 : Cond.methodLink RL 80 yX11_holds ∈ gT := gm (tT_4 _ (List.mem_of_getElem? (i := 138) rfl)) rfl
theorem wi_X11_holds : Cond.instanceMethod yX11_holds ∈ gT := gm (tT_4 _ (List.mem_of_getElem? (i := 139) rfl)) rfl
theorem wl_X11_holds : Cond.selects RX11 yX11_holds yX11_holds ∈ gT := gm (tT_4 _ (List.mem_of_getElem? (i := 140) rfl)) rfl
theorem wc_X11_holds : Cond.code yX11_holds cX11_holds 2 (some .int) ∈ gT := gm (tT_4 _ (List.mem_of_getElem? (i := 141) rfl)) rfl
theorem wm_X11_241 : Cond.methodLink RX11 241 yX0_isSet ∈ gT := gm (tT_4 _ (List.mem_of_getElem? (i := 142) rfl)) rfl
theorem wi_X0_isSet : Cond.instanceMethod yX0_isSet ∈ gT := gm (tT_4 _ (List.mem_of_getElem? (i := 143) rfl)) rfl
theorem wl_X0_isSet : Cond.selects RX0 yX0_isSet yX0_isSet ∈ gT := gm (tT_4 _ (List.mem_of_getElem? (i := 144) rfl)) rfl
theorem wc_X0_isSet : Cond.code yX0_isSet cX0_isSet 2 (some .boolean) ∈ gT := gm (tT_4 _ (List.mem_of_getElem? (i := 145) rfl)) rfl
theorem wm_X0_62 : Cond.methodLink RX0 62 yX0_wholeSet ∈ gT := gm (tT_4 _ (List.mem_of_getElem? (i := 146) rfl)) rfl
theorem wi_X0_wholeSet : Cond.instanceMethod yX0_wholeSet ∈ gT := gm (tT_4 _ (List.mem_of_getElem? (i := 147) rfl)) rfl
theorem wl_X0_wholeSet : Cond.selects RX0 yX0_wholeSet yX0_wholeSet ∈ gT := gm (tT_4 _ (List.mem_of_getElem? (i := 148) rfl)) rfl
theorem wc_X0_wholeSet : Cond.code yX0_wholeSet cX0_wholeSet 1 (some .int) ∈ gT := gm (tT_4 _ (List.mem_of_getElem? (i := 149) rfl)) rfl
theorem wm_X11_244 : Cond.methodLink RX11 244 yX0_isClosed ∈ gT := gm (tT_4 _ (List.mem_of_getElem? (i := 150) rfl)) rfl
theorem wi_X0_isClosed : Cond.instanceMethod yX0_isClosed ∈ gT := gm (tT_4 _ (List.mem_of_getElem? (i := 151) rfl)) rfl
theorem wl_X0_isClosed : Cond.selects RX0 yX0_isClosed yX0_isClosed ∈ gT := gm (tT_4 _ (List.mem_of_getElem? (i := 152) rfl)) rfl
theorem wc_X0_isClosed : Cond.code yX0_isClosed cX0_isClosed 2 (some .boolean) ∈ gT := gm (tT_4 _ (List.mem_of_getElem? (i := 153) rfl)) rfl
theorem wm_X0_89 : Cond.methodLink RX0 89 yX0_missingFrom ∈ gT := gm (tT_4 _ (List.mem_of_getElem? (i := 154) rfl)) rfl
theorem wi_X0_missingFrom : Cond.instanceMethod yX0_missingFrom ∈ gT := gm (tT_4 _ (List.mem_of_getElem? (i := 155) rfl)) rfl
theorem wl_X0_missingFrom : Cond.selects RX0 yX0_missingFrom yX0_missingFrom ∈ gT := gm (tT_4 _ (List.mem_of_getElem? (i := 156) rfl)) rfl
theorem wc_X0_missingFrom : Cond.code yX0_missingFrom cX0_missingFrom 4 (some .int) ∈ gT := gm (tT_4 _ (List.mem_of_getElem? (i := 157) rfl)) rfl
theorem wm_L_84 : Cond.methodLink RL 84 yX11_lacks ∈ gT := gm (tT_4 _ (List.mem_of_getElem? (i := 158) rfl)) rfl
theorem wi_X11_lacks : Cond.instanceMethod yX11_lacks ∈ gT := gm (tT_4 _ (List.mem_of_getElem? (i := 159) rfl)) rfl
theorem wl_X11_lacks : Cond.selects RX11 yX11_lacks yX11_lacks ∈ gT := gm (tT_4 _ (List.mem_of_getElem? (i := 160) rfl)) rfl
theorem wc_X11_lacks : Cond.code yX11_lacks cX11_lacks 2 (some .int) ∈ gT := gm (tT_4 _ (List.mem_of_getElem? (i := 161) rfl)) rfl
theorem wm_X11_247 : Cond.methodLink RX11 247 yX0_missingFrom ∈ gT := gm (tT_4 _ (List.mem_of_getElem? (i := 162) rfl)) rfl
theorem wm_L_88 : Cond.methodLink RL 88 yX11_out ∈ gT := gm (tT_4 _ (List.mem_of_getElem? (i := 163) rfl)) rfl
theorem wi_X11_out : Cond.instanceMethod yX11_out ∈ gT := gm (tT_4 _ (List.mem_of_getElem? (i := 164) rfl)) rfl
theorem wl_X11_out : Cond.selects RX11 yX11_out yX11_out ∈ gT := gm (tT_4 _ (List.mem_of_getElem? (i := 165) rfl)) rfl
theorem wc_X11_out : Cond.code yX11_out cX11_out 3 (some .int) ∈ gT := gm (tT_4 _ (List.mem_of_getElem? (i := 166) rfl)) rfl
theorem wm_X11_250 : Cond.methodLink RX11 250 yX0_without ∈ gT := gm (tT_4 _ (List.mem_of_getElem? (i := 167) rfl)) rfl
theorem wi_X0_without : Cond.instanceMethod yX0_without ∈ gT := gm (tT_4 _ (List.mem_of_getElem? (i := 168) rfl)) rfl
theorem wl_X0_without : Cond.selects RX0 yX0_without yX0_without ∈ gT := gm (tT_4 _ (List.mem_of_getElem? (i := 169) rfl)) rfl
theorem wc_X0_without : Cond.code yX0_without cX0_without 3 (some .int) ∈ gT := gm (tT_4 _ (List.mem_of_getElem? (i := 170) rfl)) rfl
theorem wm_L_92 : Cond.methodLink RL 92 yX11_pick ∈ gT := gm (tT_4 _ (List.mem_of_getElem? (i := 171) rfl)) rfl
theorem wi_X11_pick : Cond.instanceMethod yX11_pick ∈ gT := gm (tT_4 _ (List.mem_of_getElem? (i := 172) rfl)) rfl
theorem wl_X11_pick : Cond.selects RX11 yX11_pick yX11_pick ∈ gT := gm (tT_4 _ (List.mem_of_getElem? (i := 173) rfl)) rfl
theorem wc_X11_pick : Cond.code yX11_pick cX11_pick 3 (some .int) ∈ gT := gm (tT_4 _ (List.mem_of_getElem? (i := 174) rfl)) rfl
theorem wm_X11_253 : Cond.methodLink RX11 253 yX0_including ∈ gT := gm (tT_4 _ (List.mem_of_getElem? (i := 175) rfl)) rfl
theorem wi_X0_including : Cond.instanceMethod yX0_including ∈ gT := gm (tT_4 _ (List.mem_of_getElem? (i := 176) rfl)) rfl
theorem wl_X0_including : Cond.selects RX0 yX0_including yX0_including ∈ gT := gm (tT_4 _ (List.mem_of_getElem? (i := 177) rfl)) rfl
theorem wc_X0_including : Cond.code yX0_including cX0_including 3 (some .int) ∈ gT := gm (tT_4 _ (List.mem_of_getElem? (i := 178) rfl)) rfl
theorem wm_L_96 : Cond.methodLink RL 96 yX11_heaviest ∈ gT := gm (tT_4 _ (List.mem_of_getElem? (i := 179) rfl)) rfl
theorem wi_X11_heaviest : Cond.instanceMethod yX11_heaviest ∈ gT := gm (tT_4 _ (List.mem_of_getElem? (i := 180) rfl)) rfl
theorem wl_X11_heaviest : Cond.selects RX11 yX11_heaviest yX11_heaviest ∈ gT := gm (tT_4 _ (List.mem_of_getElem? (i := 181) rfl)) rfl
theorem wc_X11_heaviest : Cond.code yX11_heaviest cX11_heaviest 1 (some .int) ∈ gT := gm (tT_4 _ (List.mem_of_getElem? (i := 182) rfl)) rfl
theorem wm_X11_256 : Cond.methodLink RX11 256 yX0_heaviestChange ∈ gT := gm (tT_4 _ (List.mem_of_getElem? (i := 183) rfl)) rfl
theorem wi_X0_heaviestChange : Cond.instanceMethod yX0_heaviestChange ∈ gT := gm (tT_4 _ (List.mem_of_getElem? (i := 184) rfl)) rfl
theorem wl_X0_heaviestChange : Cond.selects RX0 yX0_heaviestChange yX0_heaviestChange ∈ gT := gm (tT_4 _ (List.mem_of_getElem? (i := 185) rfl)) rfl
theorem wc_X0_heaviestChange : Cond.code yX0_heaviestChange cX0_heaviestChange 3 (some .int) ∈ gT := gm (tT_4 _ (List.mem_of_getElem? (i := 186) rfl)) rfl
theorem wm_L_100 : Cond.methodLink RL 100 yX11_alone ∈ gT := gm (tT_4 _ (List.mem_of_getElem? (i := 187) rfl)) rfl
theorem wi_X11_alone : Cond.instanceMethod yX11_alone ∈ gT := gm (tT_4 _ (List.mem_of_getElem? (i := 188) rfl)) rfl
theorem wl_X11_alone : Cond.selects RX11 yX11_alone yX11_alone ∈ gT := gm (tT_4 _ (List.mem_of_getElem? (i := 189) rfl)) rfl
theorem wc_X11_alone : Cond.code yX11_alone cX11_alone 1 (some .int) ∈ gT := gm (tT_4 _ (List.mem_of_getElem? (i := 190) rfl)) rfl
theorem wm_X11_259 : Cond.methodLink RX11 259 yX0_lonelyPuts ∈ gT := gm (tT_4 _ (List.mem_of_getElem? (i := 191) rfl)) rfl
theorem wi_X0_lonelyPuts : Cond.instanceMethod yX0_lonelyPuts ∈ gT := gm (tT_4 _ (List.mem_of_getElem? (i := 192) rfl)) rfl
theorem wl_X0_lonelyPuts : Cond.selects RX0 yX0_lonelyPuts yX0_lonelyPuts ∈ gT := gm (tT_4 _ (List.mem_of_getElem? (i := 193) rfl)) rfl
theorem wc_X0_lonelyPuts : Cond.code yX0_lonelyPuts cX0_lonelyPuts 3 (some .int) ∈ gT := gm (tT_4 _ (List.mem_of_getElem? (i := 194) rfl)) rfl
theorem wm_L_104 : Cond.methodLink RL 104 yX11_size ∈ gT := gm (tT_4 _ (List.mem_of_getElem? (i := 195) rfl)) rfl
theorem wi_X11_size : Cond.instanceMethod yX11_size ∈ gT := gm (tT_4 _ (List.mem_of_getElem? (i := 196) rfl)) rfl
theorem wl_X11_size : Cond.selects RX11 yX11_size yX11_size ∈ gT := gm (tT_4 _ (List.mem_of_getElem? (i := 197) rfl)) rfl
theorem wc_X11_size : Cond.code yX11_size cX11_size 3 (some .int) ∈ gT := gm (tT_4 _ (List.mem_of_getElem? (i := 198) rfl)) rfl
theorem wm_X11_262 : Cond.methodLink RX11 262 yX11_faultOfSet ∈ gT := gm (tT_4 _ (List.mem_of_getElem? (i := 199) rfl)) rfl
theorem wi_X11_faultOfSet : Cond.instanceMethod yX11_faultOfSet ∈ gT := gm (tT_4 _ (List.mem_of_getElem? (i := 201) rfl)) rfl
theorem wc_X11_faultOfSet : Cond.code yX11_faultOfSet cX11_faultOfSet 2 (some .int) ∈ gT := gm (tT_4 _ (List.mem_of_getElem? (i := 202) rfl)) rfl
theorem wm_X11_265 : Cond.methodLink RX11 265 yX2_fill ∈ gT := gm (tT_4 _ (List.mem_of_getElem? (i := 203) rfl)) rfl
theorem wi_X2_fill : Cond.instanceMethod yX2_fill ∈ gT := gm (tT_4 _ (List.mem_of_getElem? (i := 204) rfl)) rfl
theorem wl_X2_fill : Cond.selects RX2 yX2_fill yX2_fill ∈ gT := gm (tT_4 _ (List.mem_of_getElem? (i := 205) rfl)) rfl
theorem wc_X2_fill : Cond.code yX2_fill cX2_fill 6 none ∈ gT := gm (tT_4 _ (List.mem_of_getElem? (i := 206) rfl)) rfl
theorem wm_X2_25 : Cond.methodLink RX2 25 yX0_leftOutIn ∈ gT := gm (tT_4 _ (List.mem_of_getElem? (i := 207) rfl)) rfl
theorem wi_X0_leftOutIn : Cond.instanceMethod yX0_leftOutIn ∈ gT := gm (tT_4 _ (List.mem_of_getElem? (i := 208) rfl)) rfl
theorem wl_X0_leftOutIn : Cond.selects RX0 yX0_leftOutIn yX0_leftOutIn ∈ gT := gm (tT_4 _ (List.mem_of_getElem? (i := 209) rfl)) rfl
theorem wc_X0_leftOutIn : Cond.code yX0_leftOutIn cX0_leftOutIn 4 (some .int) ∈ gT := gm (tT_4 _ (List.mem_of_getElem? (i := 210) rfl)) rfl
theorem wm_X2_34 : Cond.methodLink RX2 34 yX0_isPut ∈ gT := gm (tT_4 _ (List.mem_of_getElem? (i := 211) rfl)) rfl
theorem wm_X2_38 : Cond.methodLink RX2 38 yX0_isIn ∈ gT := gm (tT_4 _ (List.mem_of_getElem? (i := 212) rfl)) rfl
theorem wm_X2_42 : Cond.methodLink RX2 42 yX0_isGone ∈ gT := gm (tT_4 _ (List.mem_of_getElem? (i := 213) rfl)) rfl
theorem wi_X0_isGone : Cond.instanceMethod yX0_isGone ∈ gT := gm (tT_4 _ (List.mem_of_getElem? (i := 214) rfl)) rfl
theorem wl_X0_isGone : Cond.selects RX0 yX0_isGone yX0_isGone ∈ gT := gm (tT_4 _ (List.mem_of_getElem? (i := 215) rfl)) rfl
theorem wc_X0_isGone : Cond.code yX0_isGone cX0_isGone 6 (some .boolean) ∈ gT := gm (tT_4 _ (List.mem_of_getElem? (i := 216) rfl)) rfl
theorem wm_X0_95 : Cond.methodLink RX0 95 yX0_ofThing ∈ gT := gm (tT_4 _ (List.mem_of_getElem? (i := 217) rfl)) rfl
theorem wi_X0_ofThing : Cond.instanceMethod yX0_ofThing ∈ gT := gm (tT_4 _ (List.mem_of_getElem? (i := 219) rfl)) rfl
theorem wc_X0_ofThing : Cond.code yX0_ofThing cX0_ofThing 6 (some .int) ∈ gT := gm (tT_4 _ (List.mem_of_getElem? (i := 220) rfl)) rfl
theorem wm_X0_92 : Cond.methodLink RX0 92 yX0_quarrelersOf ∈ gT := gm (tT_4 _ (List.mem_of_getElem? (i := 221) rfl)) rfl
theorem wi_X0_quarrelersOf : Cond.instanceMethod yX0_quarrelersOf ∈ gT := gm (tT_4 _ (List.mem_of_getElem? (i := 222) rfl)) rfl
theorem wl_X0_quarrelersOf : Cond.selects RX0 yX0_quarrelersOf yX0_quarrelersOf ∈ gT := gm (tT_4 _ (List.mem_of_getElem? (i := 223) rfl)) rfl
theorem wc_X0_quarrelersOf : Cond.code yX0_quarrelersOf cX0_quarrelersOf 5 (some .int) ∈ gT := gm (tT_4 _ (List.mem_of_getElem? (i := 224) rfl)) rfl
theorem wm_X2_46 : Cond.methodLink RX2 46 yX0_toldNumber ∈ gT := gm (tT_4 _ (List.mem_of_getElem? (i := 225) rfl)) rfl
theorem wi_X0_toldNumber : Cond.instanceMethod yX0_toldNumber ∈ gT := gm (tT_4 _ (List.mem_of_getElem? (i := 226) rfl)) rfl
theorem wl_X0_toldNumber : Cond.selects RX0 yX0_toldNumber yX0_toldNumber ∈ gT := gm (tT_4 _ (List.mem_of_getElem? (i := 227) rfl)) rfl
theorem wc_X0_toldNumber : Cond.code yX0_toldNumber cX0_toldNumber 10 (some .int) ∈ gT := gm (tT_4 _ (List.mem_of_getElem? (i := 228) rfl)) rfl
theorem wm_X0_99 : Cond.methodLink RX0 99 yX0_isPut ∈ gT := gm (tT_4 _ (List.mem_of_getElem? (i := 229) rfl)) rfl
theorem wm_X2_50 : Cond.methodLink RX2 50 yX2_insert ∈ gT := gm (tT_4 _ (List.mem_of_getElem? (i := 230) rfl)) rfl
theorem wi_X2_insert : Cond.instanceMethod yX2_insert ∈ gT := gm (tT_4 _ (List.mem_of_getElem? (i := 232) rfl)) rfl
theorem wc_X2_insert : Cond.code yX2_insert cX2_insert 5 none ∈ gT := gm (tT_4 _ (List.mem_of_getElem? (i := 233) rfl)) rfl
theorem wm_L_108 : Cond.methodLink RL 108 yX11_thing ∈ gT := gm (tT_4 _ (List.mem_of_getElem? (i := 234) rfl)) rfl
theorem wi_X11_thing : Cond.instanceMethod yX11_thing ∈ gT := gm (tT_4 _ (List.mem_of_getElem? (i := 235) rfl)) rfl
theorem wl_X11_thing : Cond.selects RX11 yX11_thing yX11_thing ∈ gT := gm (tT_4 _ (List.mem_of_getElem? (i := 236) rfl)) rfl
theorem wc_X11_thing : Cond.code yX11_thing cX11_thing 4 (some .int) ∈ gT := gm (tT_4 _ (List.mem_of_getElem? (i := 237) rfl)) rfl
theorem wm_X11_272 : Cond.methodLink RX11 272 yX2_isPlace ∈ gT := gm (tT_4 _ (List.mem_of_getElem? (i := 238) rfl)) rfl
theorem wi_X2_isPlace : Cond.instanceMethod yX2_isPlace ∈ gT := gm (tT_4 _ (List.mem_of_getElem? (i := 239) rfl)) rfl
theorem wl_X2_isPlace : Cond.selects RX2 yX2_isPlace yX2_isPlace ∈ gT := gm (tT_5 _ (List.mem_of_getElem? (i := 0) rfl)) rfl
theorem wc_X2_isPlace : Cond.code yX2_isPlace cX2_isPlace 2 (some .boolean) ∈ gT := gm (tT_5 _ (List.mem_of_getElem? (i := 1) rfl)) rfl
theorem wm_L_112 : Cond.methodLink RL 112 yX11_says ∈ gT := gm (tT_5 _ (List.mem_of_getElem? (i := 2) rfl)) rfl
theorem wi_X11_says : Cond.instanceMethod yX11_says ∈ gT := gm (tT_5 _ (List.mem_of_getElem? (i := 3) rfl)) rfl
theorem wl_X11_says : Cond.selects RX11 yX11_says yX11_says ∈ gT := gm (tT_5 _ (List.mem_of_getElem? (i := 4) rfl)) rfl
theorem wc_X11_says : Cond.code yX11_says cX11_says 4 (some .int) ∈ gT := gm (tT_5 _ (List.mem_of_getElem? (i := 5) rfl)) rfl
theorem wm_X11_281 : Cond.methodLink RX11 281 yX11_findThing ∈ gT := gm (tT_5 _ (List.mem_of_getElem? (i := 6) rfl)) rfl
theorem wi_X11_findThing : Cond.instanceMethod yX11_findThing ∈ gT := gm (tT_5 _ (List.mem_of_getElem? (i := 8) rfl)) rfl
theorem wc_X11_findThing : Cond.code yX11_findThing cX11_findThing 4 (some .int) ∈ gT := gm (tT_5 _ (List.mem_of_getElem? (i := 9) rfl)) rfl
theorem wm_X11_278 : Cond.methodLink RX11 278 yX2_placeOf ∈ gT := gm (tT_5 _ (List.mem_of_getElem? (i := 10) rfl)) rfl
theorem wi_X2_placeOf : Cond.instanceMethod yX2_placeOf ∈ gT := gm (tT_5 _ (List.mem_of_getElem? (i := 11) rfl)) rfl
theorem wl_X2_placeOf : Cond.selects RX2 yX2_placeOf yX2_placeOf ∈ gT := gm (tT_5 _ (List.mem_of_getElem? (i := 12) rfl)) rfl
theorem wc_X2_placeOf : Cond.code yX2_placeOf cX2_placeOf 3 (some .int) ∈ gT := gm (tT_5 _ (List.mem_of_getElem? (i := 13) rfl)) rfl
theorem wm_L_116 : Cond.methodLink RL 116 yX11_key ∈ gT := gm (tT_5 _ (List.mem_of_getElem? (i := 14) rfl)) rfl
theorem wi_X11_key : Cond.instanceMethod yX11_key ∈ gT := gm (tT_5 _ (List.mem_of_getElem? (i := 15) rfl)) rfl
theorem wl_X11_key : Cond.selects RX11 yX11_key yX11_key ∈ gT := gm (tT_5 _ (List.mem_of_getElem? (i := 16) rfl)) rfl
theorem wc_X11_key : Cond.code yX11_key cX11_key 4 (some .int) ∈ gT := gm (tT_5 _ (List.mem_of_getElem? (i := 17) rfl)) rfl
theorem wm_L_120 : Cond.methodLink RL 120 yX11_place ∈ gT := gm (tT_5 _ (List.mem_of_getElem? (i := 18) rfl)) rfl
theorem wi_X11_place : Cond.instanceMethod yX11_place ∈ gT := gm (tT_5 _ (List.mem_of_getElem? (i := 19) rfl)) rfl
theorem wl_X11_place : Cond.selects RX11 yX11_place yX11_place ∈ gT := gm (tT_5 _ (List.mem_of_getElem? (i := 20) rfl)) rfl
theorem wc_X11_place : Cond.code yX11_place cX11_place 3 (some .int) ∈ gT := gm (tT_5 _ (List.mem_of_getElem? (i := 21) rfl)) rfl
theorem wm_L_124 : Cond.methodLink RL 124 yX11_like ∈ gT := gm (tT_5 _ (List.mem_of_getElem? (i := 22) rfl)) rfl
theorem wi_X11_like : Cond.instanceMethod yX11_like ∈ gT := gm (tT_5 _ (List.mem_of_getElem? (i := 23) rfl)) rfl
theorem wl_X11_like : Cond.selects RX11 yX11_like yX11_like ∈ gT := gm (tT_5 _ (List.mem_of_getElem? (i := 24) rfl)) rfl
theorem wc_X11_like : Cond.code yX11_like cX11_like 5 (some .int) ∈ gT := gm (tT_5 _ (List.mem_of_getElem? (i := 25) rfl)) rfl
theorem wm_X11_288 : Cond.methodLink RX11 288 yX11_faultOfSets ∈ gT := gm (tT_5 _ (List.mem_of_getElem? (i := 26) rfl)) rfl
theorem wi_X11_faultOfSets : Cond.instanceMethod yX11_faultOfSets ∈ gT := gm (tT_5 _ (List.mem_of_getElem? (i := 28) rfl)) rfl
theorem wc_X11_faultOfSets : Cond.code yX11_faultOfSets cX11_faultOfSets 3 (some .int) ∈ gT := gm (tT_5 _ (List.mem_of_getElem? (i := 29) rfl)) rfl
theorem wm_X11_291 : Cond.methodLink RX11 291 yX2_isLike ∈ gT := gm (tT_5 _ (List.mem_of_getElem? (i := 30) rfl)) rfl
theorem wi_X2_isLike : Cond.instanceMethod yX2_isLike ∈ gT := gm (tT_5 _ (List.mem_of_getElem? (i := 31) rfl)) rfl
theorem wl_X2_isLike : Cond.selects RX2 yX2_isLike yX2_isLike ∈ gT := gm (tT_5 _ (List.mem_of_getElem? (i := 32) rfl)) rfl
theorem wc_X2_isLike : Cond.code yX2_isLike cX2_isLike 3 (some .boolean) ∈ gT := gm (tT_5 _ (List.mem_of_getElem? (i := 33) rfl)) rfl
theorem wm_X2_60 : Cond.methodLink RX2 60 yX2_firstDifference ∈ gT := gm (tT_5 _ (List.mem_of_getElem? (i := 34) rfl)) rfl
theorem wi_X2_firstDifference : Cond.instanceMethod yX2_firstDifference ∈ gT := gm (tT_5 _ (List.mem_of_getElem? (i := 35) rfl)) rfl
theorem wl_X2_firstDifference : Cond.selects RX2 yX2_firstDifference yX2_firstDifference ∈ gT := gm (tT_5 _ (List.mem_of_getElem? (i := 36) rfl)) rfl
theorem wc_X2_firstDifference : Cond.code yX2_firstDifference cX2_firstDifference 4 (some .int) ∈ gT := gm (tT_5 _ (List.mem_of_getElem? (i := 37) rfl)) rfl
theorem wm_X2_54 : Cond.methodLink RX2 54 yJ9_min_7cf53 ∈ gT := gm (tT_5 _ (List.mem_of_getElem? (i := 38) rfl)) rfl
theorem wm_X11_295 : Cond.methodLink RX11 295 yX0_quarrelAlike ∈ gT := gm (tT_5 _ (List.mem_of_getElem? (i := 39) rfl)) rfl
theorem wi_X0_quarrelAlike : Cond.instanceMethod yX0_quarrelAlike ∈ gT := gm (tT_5 _ (List.mem_of_getElem? (i := 40) rfl)) rfl
theorem wl_X0_quarrelAlike : Cond.selects RX0 yX0_quarrelAlike yX0_quarrelAlike ∈ gT := gm (tT_5 _ (List.mem_of_getElem? (i := 41) rfl)) rfl
theorem wc_X0_quarrelAlike : Cond.code yX0_quarrelAlike cX0_quarrelAlike 4 (some .boolean) ∈ gT := gm (tT_5 _ (List.mem_of_getElem? (i := 42) rfl)) rfl
theorem wm_L_128 : Cond.methodLink RL 128 yX11_apart ∈ gT := gm (tT_5 _ (List.mem_of_getElem? (i := 43) rfl)) rfl
theorem wi_X11_apart : Cond.instanceMethod yX11_apart ∈ gT := gm (tT_5 _ (List.mem_of_getElem? (i := 44) rfl)) rfl
theorem wl_X11_apart : Cond.selects RX11 yX11_apart yX11_apart ∈ gT := gm (tT_5 _ (List.mem_of_getElem? (i := 45) rfl)) rfl
theorem wc_X11_apart : Cond.code yX11_apart cX11_apart 5 (some .int) ∈ gT := gm (tT_5 _ (List.mem_of_getElem? (i := 46) rfl)) rfl
theorem wm_X11_298 : Cond.methodLink RX11 298 yX2_firstDifference ∈ gT := gm (tT_5 _ (List.mem_of_getElem? (i := 47) rfl)) rfl
theorem wm_L_132 : Cond.methodLink RL 132 yX11_quarrels ∈ gT := gm (tT_5 _ (List.mem_of_getElem? (i := 48) rfl)) rfl
theorem wi_X11_quarrels : Cond.instanceMethod yX11_quarrels ∈ gT := gm (tT_5 _ (List.mem_of_getElem? (i := 49) rfl)) rfl
theorem wl_X11_quarrels : Cond.selects RX11 yX11_quarrels yX11_quarrels ∈ gT := gm (tT_5 _ (List.mem_of_getElem? (i := 50) rfl)) rfl
theorem wc_X11_quarrels : Cond.code yX11_quarrels cX11_quarrels 2 (some .int) ∈ gT := gm (tT_5 _ (List.mem_of_getElem? (i := 51) rfl)) rfl
theorem wm_X11_302 : Cond.methodLink RX11 302 yX0_countQuarrels ∈ gT := gm (tT_5 _ (List.mem_of_getElem? (i := 52) rfl)) rfl
theorem wi_X0_countQuarrels : Cond.instanceMethod yX0_countQuarrels ∈ gT := gm (tT_5 _ (List.mem_of_getElem? (i := 53) rfl)) rfl
theorem wl_X0_countQuarrels : Cond.selects RX0 yX0_countQuarrels yX0_countQuarrels ∈ gT := gm (tT_5 _ (List.mem_of_getElem? (i := 54) rfl)) rfl
theorem wc_X0_countQuarrels : Cond.code yX0_countQuarrels cX0_countQuarrels 4 (some .int) ∈ gT := gm (tT_5 _ (List.mem_of_getElem? (i := 55) rfl)) rfl
theorem wm_L_136 : Cond.methodLink RL 136 yX11_with ∈ gT := gm (tT_5 _ (List.mem_of_getElem? (i := 56) rfl)) rfl
theorem wi_X11_with : Cond.instanceMethod yX11_with ∈ gT := gm (tT_5 _ (List.mem_of_getElem? (i := 57) rfl)) rfl
theorem wl_X11_with : Cond.selects RX11 yX11_with yX11_with ∈ gT := gm (tT_5 _ (List.mem_of_getElem? (i := 58) rfl)) rfl
theorem wc_X11_with : Cond.code yX11_with cX11_with 3 (some .int) ∈ gT := gm (tT_5 _ (List.mem_of_getElem? (i := 59) rfl)) rfl
theorem wm_X11_305 : Cond.methodLink RX11 305 yX0_isIn ∈ gT := gm (tT_5 _ (List.mem_of_getElem? (i := 60) rfl)) rfl
theorem wm_X11_308 : Cond.methodLink RX11 308 yX0_quarrelersOf ∈ gT := gm (tT_5 _ (List.mem_of_getElem? (i := 61) rfl)) rfl
theorem wm_L_140 : Cond.methodLink RL 140 yX11_leastOut ∈ gT := gm (tT_5 _ (List.mem_of_getElem? (i := 62) rfl)) rfl
theorem wi_X11_leastOut : Cond.instanceMethod yX11_leastOut ∈ gT := gm (tT_5 _ (List.mem_of_getElem? (i := 63) rfl)) rfl
theorem wl_X11_leastOut : Cond.selects RX11 yX11_leastOut yX11_leastOut ∈ gT := gm (tT_5 _ (List.mem_of_getElem? (i := 64) rfl)) rfl
theorem wc_X11_leastOut : Cond.code yX11_leastOut cX11_leastOut 3 (some .int) ∈ gT := gm (tT_5 _ (List.mem_of_getElem? (i := 65) rfl)) rfl
theorem wq_X11_311 : Cond.classLink RX11 311 RX6 ∈ gT := gm (tT_5 _ (List.mem_of_getElem? (i := 66) rfl)) rfl
theorem wz_X6 : Cond.instantiable RX6 3 ∈ gT := gm (tT_5 _ (List.mem_of_getElem? (i := 67) rfl)) rfl
theorem wm_X11_313 : Cond.methodLink RX11 313 yX6_init ∈ gT := gm (tT_5 _ (List.mem_of_getElem? (i := 68) rfl)) rfl
theorem wi_X6_init : Cond.instanceMethod yX6_init ∈ gT := gm (tT_5 _ (List.mem_of_getElem? (i := 69) rfl)) rfl
theorem wc_X6_init : Cond.code yX6_init cX6_init 3 none ∈ gT := gm (tT_5 _ (List.mem_of_getElem? (i := 70) rfl)) rfl
theorem wm_X6_3 : Cond.methodLink RX6 3 objectInit ∈ gT := gm (tT_5 _ (List.mem_of_getElem? (i := 71) rfl)) rfl
theorem wf_X6_9 : Cond.fieldLink RX6 9 "SwapBook$QuietSearch" "book" "LSwapBook$Book;" ∈ gT := gm (tT_5 _ (List.mem_of_getElem? (i := 72) rfl)) rfl
theorem wf_X6_15 : Cond.fieldLink RX6 15 "SwapBook$QuietSearch" "whole" "I" ∈ gT := gm (tT_5 _ (List.mem_of_getElem? (i := 73) rfl)) rfl
theorem wf_X6_19 : Cond.fieldLink RX6 19 "SwapBook$QuietSearch" "best" "I" ∈ gT := gm (tT_5 _ (List.mem_of_getElem? (i := 74) rfl)) rfl
theorem wy_X6_book : Cond.laysFinal RX6 "SwapBook$QuietSearch" "book" "LSwapBook$Book;" ∈ gT := gm (tT_5 _ (List.mem_of_getElem? (i := 75) rfl)) rfl
theorem wy_X6_whole : Cond.laysFinal RX6 "SwapBook$QuietSearch" "whole" "I" ∈ gT := gm (tT_5 _ (List.mem_of_getElem? (i := 77) rfl)) rfl
theorem wy_X6_best : Cond.lays RX6 "SwapBook$QuietSearch" "best" "I" ∈ gT := gm (tT_5 _ (List.mem_of_getElem? (i := 79) rfl)) rfl
theorem wm_X11_315 : Cond.methodLink RX11 315 yX6_fewestOut ∈ gT := gm (tT_5 _ (List.mem_of_getElem? (i := 82) rfl)) rfl
theorem wi_X6_fewestOut : Cond.instanceMethod yX6_fewestOut ∈ gT := gm (tT_5 _ (List.mem_of_getElem? (i := 83) rfl)) rfl
theorem wl_X6_fewestOut : Cond.selects RX6 yX6_fewestOut yX6_fewestOut ∈ gT := gm (tT_5 _ (List.mem_of_getElem? (i := 84) rfl)) rfl
theorem wc_X6_fewestOut : Cond.code yX6_fewestOut cX6_fewestOut 1 (some .int) ∈ gT := gm (tT_5 _ (List.mem_of_getElem? (i := 85) rfl)) rfl
theorem wm_X6_22 : Cond.methodLink RX6 22 yX6_seek ∈ gT := gm (tT_5 _ (List.mem_of_getElem? (i := 86) rfl)) rfl
theorem wi_X6_seek : Cond.instanceMethod yX6_seek ∈ gT := gm (tT_5 _ (List.mem_of_getElem? (i := 88) rfl)) rfl
theorem wc_X6_seek : Cond.code yX6_seek cX6_seek 8 none ∈ gT := gm (tT_5 _ (List.mem_of_getElem? (i := 89) rfl)) rfl
theorem wm_X6_26 : Cond.methodLink RX6 26 yJ6_bitCount_0f7a4 ∈ gT := gm (tT_5 _ (List.mem_of_getElem? (i := 90) rfl)) rfl
theorem wm_X6_32 : Cond.methodLink RX6 32 yX0_mostQuarrelling ∈ gT := gm (tT_5 _ (List.mem_of_getElem? (i := 91) rfl)) rfl
theorem wi_X0_mostQuarrelling : Cond.instanceMethod yX0_mostQuarrelling ∈ gT := gm (tT_5 _ (List.mem_of_getElem? (i := 92) rfl)) rfl
theorem wl_X0_mostQuarrelling : Cond.selects RX0 yX0_mostQuarrelling yX0_mostQuarrelling ∈ gT := gm (tT_5 _ (List.mem_of_getElem? (i := 93) rfl)) rfl
theorem wc_X0_mostQuarrelling : Cond.code yX0_mostQuarrelling cX0_mostQuarrelling 6 (some .int) ∈ gT := gm (tT_5 _ (List.mem_of_getElem? (i := 94) rfl)) rfl
theorem wm_X6_37 : Cond.methodLink RX6 37 yX6_keepBetter ∈ gT := gm (tT_5 _ (List.mem_of_getElem? (i := 95) rfl)) rfl
theorem wi_X6_keepBetter : Cond.instanceMethod yX6_keepBetter ∈ gT := gm (tT_5 _ (List.mem_of_getElem? (i := 97) rfl)) rfl
theorem wc_X6_keepBetter : Cond.code yX6_keepBetter cX6_keepBetter 4 none ∈ gT := gm (tT_5 _ (List.mem_of_getElem? (i := 98) rfl)) rfl
theorem wm_X6_41 : Cond.methodLink RX6 41 yX0_without ∈ gT := gm (tT_5 _ (List.mem_of_getElem? (i := 99) rfl)) rfl
theorem wm_X6_45 : Cond.methodLink RX6 45 yX0_quarrelersOf ∈ gT := gm (tT_5 _ (List.mem_of_getElem? (i := 100) rfl)) rfl
theorem wm_X6_51 : Cond.methodLink RX6 51 yX0_isIn ∈ gT := gm (tT_5 _ (List.mem_of_getElem? (i := 101) rfl)) rfl
theorem wm_L_144 : Cond.methodLink RL 144 yX11_mostQuiet ∈ gT := gm (tT_5 _ (List.mem_of_getElem? (i := 102) rfl)) rfl
theorem wi_X11_mostQuiet : Cond.instanceMethod yX11_mostQuiet ∈ gT := gm (tT_5 _ (List.mem_of_getElem? (i := 103) rfl)) rfl
theorem wl_X11_mostQuiet : Cond.selects RX11 yX11_mostQuiet yX11_mostQuiet ∈ gT := gm (tT_5 _ (List.mem_of_getElem? (i := 104) rfl)) rfl
theorem wc_X11_mostQuiet : Cond.code yX11_mostQuiet cX11_mostQuiet 2 (some .int) ∈ gT := gm (tT_5 _ (List.mem_of_getElem? (i := 105) rfl)) rfl
theorem wm_X11_318 : Cond.methodLink RX11 318 yX0_wholeSet ∈ gT := gm (tT_5 _ (List.mem_of_getElem? (i := 106) rfl)) rfl
theorem wm_L_148 : Cond.methodLink RL 148 yX11_orders ∈ gT := gm (tT_5 _ (List.mem_of_getElem? (i := 107) rfl)) rfl
theorem wi_X11_orders : Cond.instanceMethod yX11_orders ∈ gT := gm (tT_5 _ (List.mem_of_getElem? (i := 108) rfl)) rfl
theorem wl_X11_orders : Cond.selects RX11 yX11_orders yX11_orders ∈ gT := gm (tT_5 _ (List.mem_of_getElem? (i := 109) rfl)) rfl
theorem wc_X11_orders : Cond.code yX11_orders cX11_orders 3 (some .long) ∈ gT := gm (tT_5 _ (List.mem_of_getElem? (i := 110) rfl)) rfl
theorem wm_X11_321 : Cond.methodLink RX11 321 yX5_countOrders ∈ gT := gm (tT_5 _ (List.mem_of_getElem? (i := 111) rfl)) rfl
theorem wi_X5_countOrders : Cond.instanceMethod yX5_countOrders ∈ gT := gm (tT_5 _ (List.mem_of_getElem? (i := 112) rfl)) rfl
theorem wl_X5_countOrders : Cond.selects RX5 yX5_countOrders yX5_countOrders ∈ gT := gm (tT_5 _ (List.mem_of_getElem? (i := 113) rfl)) rfl
theorem wc_X5_countOrders : Cond.code yX5_countOrders cX5_countOrders 3 (some .long) ∈ gT := gm (tT_5 _ (List.mem_of_getElem? (i := 114) rfl)) rfl
theorem wm_X5_35 : Cond.methodLink RX5 35 yX5_countOrdersWith ∈ gT := gm (tT_5 _ (List.mem_of_getElem? (i := 115) rfl)) rfl
theorem wi_X5_countOrdersWith : Cond.instanceMethod yX5_countOrdersWith ∈ gT := gm (tT_5 _ (List.mem_of_getElem? (i := 116) rfl)) rfl
theorem wl_X5_countOrdersWith : Cond.selects RX5 yX5_countOrdersWith yX5_countOrdersWith ∈ gT := gm (tT_5 _ (List.mem_of_getElem? (i := 117) rfl)) rfl
theorem wc_X5_countOrdersWith : Cond.code yX5_countOrdersWith cX5_countOrdersWith 5 (some .long) ∈ gT := gm (tT_5 _ (List.mem_of_getElem? (i := 118) rfl)) rfl
theorem wk_X5_39 : Cond.constant RX5 39 (262144) ∈ gT := gm (tT_5 _ (List.mem_of_getElem? (i := 119) rfl)) rfl
theorem wm_X5_43 : Cond.methodLink RX5 43 yX5_waysBehind ∈ gT := gm (tT_5 _ (List.mem_of_getElem? (i := 120) rfl)) rfl
theorem wi_X5_waysBehind : Cond.instanceMethod yX5_waysBehind ∈ gT := gm (tT_5 _ (List.mem_of_getElem? (i := 122) rfl)) rfl
theorem wc_X5_waysBehind : Cond.code yX5_waysBehind cX5_waysBehind 8 (some .long) ∈ gT := gm (tT_5 _ (List.mem_of_getElem? (i := 123) rfl)) rfl
theorem wk_X5_58 : Cond.constantLong RX5 58 (35184372088831) ∈ gT := gm (tT_5 _ (List.mem_of_getElem? (i := 124) rfl)) rfl
theorem wm_X5_60 : Cond.methodLink RX5 60 yX5_readyOnes ∈ gT := gm (tT_5 _ (List.mem_of_getElem? (i := 125) rfl)) rfl
theorem wi_X5_readyOnes : Cond.instanceMethod yX5_readyOnes ∈ gT := gm (tT_5 _ (List.mem_of_getElem? (i := 127) rfl)) rfl
theorem wc_X5_readyOnes : Cond.code yX5_readyOnes cX5_readyOnes 4 (some .int) ∈ gT := gm (tT_5 _ (List.mem_of_getElem? (i := 128) rfl)) rfl
theorem wm_X5_54 : Cond.methodLink RX5 54 yX0_isIn ∈ gT := gm (tT_5 _ (List.mem_of_getElem? (i := 129) rfl)) rfl
theorem wm_X5_80 : Cond.methodLink RX5 80 yX5_isReady ∈ gT := gm (tT_5 _ (List.mem_of_getElem? (i := 130) rfl)) rfl
theorem wi_X5_isReady : Cond.instanceMethod yX5_isReady ∈ gT := gm (tT_5 _ (List.mem_of_getElem? (i := 132) rfl)) rfl
theorem wc_X5_isReady : Cond.code yX5_isReady cX5_isReady 4 (some .boolean) ∈ gT := gm (tT_5 _ (List.mem_of_getElem? (i := 133) rfl)) rfl
theorem wm_X5_64 : Cond.methodLink RX5 64 yX5_freeAmong ∈ gT := gm (tT_5 _ (List.mem_of_getElem? (i := 134) rfl)) rfl
theorem wi_X5_freeAmong : Cond.instanceMethod yX5_freeAmong ∈ gT := gm (tT_5 _ (List.mem_of_getElem? (i := 136) rfl)) rfl
theorem wc_X5_freeAmong : Cond.code yX5_freeAmong cX5_freeAmong 5 (some .int) ∈ gT := gm (tT_5 _ (List.mem_of_getElem? (i := 137) rfl)) rfl
theorem wm_X5_83 : Cond.methodLink RX5 83 yX5_isAwaited ∈ gT := gm (tT_5 _ (List.mem_of_getElem? (i := 138) rfl)) rfl
theorem wi_X5_isAwaited : Cond.instanceMethod yX5_isAwaited ∈ gT := gm (tT_5 _ (List.mem_of_getElem? (i := 140) rfl)) rfl
theorem wc_X5_isAwaited : Cond.code yX5_isAwaited cX5_isAwaited 3 (some .boolean) ∈ gT := gm (tT_5 _ (List.mem_of_getElem? (i := 141) rfl)) rfl
theorem wm_X5_68 : Cond.methodLink RX5 68 yJ6_bitCount_0f7a4 ∈ gT := gm (tT_5 _ (List.mem_of_getElem? (i := 142) rfl)) rfl
theorem wm_X5_73 : Cond.methodLink RX5 73 yX5_places ∈ gT := gm (tT_5 _ (List.mem_of_getElem? (i := 143) rfl)) rfl
theorem wt_X5_places : Cond.static yX5_places ∈ gT := gm (tT_5 _ (List.mem_of_getElem? (i := 144) rfl)) rfl
theorem wc_X5_places : Cond.code yX5_places cX5_places 5 (some .long) ∈ gT := gm (tT_5 _ (List.mem_of_getElem? (i := 145) rfl)) rfl
theorem wm_X5_76 : Cond.methodLink RX5 76 yX5_sumOver ∈ gT := gm (tT_5 _ (List.mem_of_getElem? (i := 146) rfl)) rfl
theorem wi_X5_sumOver : Cond.instanceMethod yX5_sumOver ∈ gT := gm (tT_5 _ (List.mem_of_getElem? (i := 148) rfl)) rfl
theorem wc_X5_sumOver : Cond.code yX5_sumOver cX5_sumOver 7 (some .long) ∈ gT := gm (tT_5 _ (List.mem_of_getElem? (i := 149) rfl)) rfl
theorem wm_L_153 : Cond.methodLink RL 153 yX11_ahead ∈ gT := gm (tT_5 _ (List.mem_of_getElem? (i := 150) rfl)) rfl
theorem wi_X11_ahead : Cond.instanceMethod yX11_ahead ∈ gT := gm (tT_5 _ (List.mem_of_getElem? (i := 151) rfl)) rfl
theorem wl_X11_ahead : Cond.selects RX11 yX11_ahead yX11_ahead ∈ gT := gm (tT_5 _ (List.mem_of_getElem? (i := 152) rfl)) rfl
theorem wc_X11_ahead : Cond.code yX11_ahead cX11_ahead 5 (some .boolean) ∈ gT := gm (tT_5 _ (List.mem_of_getElem? (i := 153) rfl)) rfl
theorem wm_X11_325 : Cond.methodLink RX11 325 yX5_countOrdersWith ∈ gT := gm (tT_5 _ (List.mem_of_getElem? (i := 154) rfl)) rfl
theorem wm_X11_329 : Cond.methodLink RX11 329 yX11_tellFraction ∈ gT := gm (tT_5 _ (List.mem_of_getElem? (i := 155) rfl)) rfl
theorem wi_X11_tellFraction : Cond.instanceMethod yX11_tellFraction ∈ gT := gm (tT_5 _ (List.mem_of_getElem? (i := 157) rfl)) rfl
theorem wc_X11_tellFraction : Cond.code yX11_tellFraction cX11_tellFraction 7 none ∈ gT := gm (tT_5 _ (List.mem_of_getElem? (i := 158) rfl)) rfl
theorem wm_X11_333 : Cond.methodLink RX11 333 yX11_commonDivisor ∈ gT := gm (tT_5 _ (List.mem_of_getElem? (i := 159) rfl)) rfl
theorem wt_X11_commonDivisor : Cond.static yX11_commonDivisor ∈ gT := gm (tT_5 _ (List.mem_of_getElem? (i := 160) rfl)) rfl
theorem wc_X11_commonDivisor : Cond.code yX11_commonDivisor cX11_commonDivisor 11 (some .long) ∈ gT := gm (tT_5 _ (List.mem_of_getElem? (i := 161) rfl)) rfl
theorem wm_L_157 : Cond.methodLink RL 157 yX11_ordered ∈ gT := gm (tT_5 _ (List.mem_of_getElem? (i := 162) rfl)) rfl
theorem wi_X11_ordered : Cond.instanceMethod yX11_ordered ∈ gT := gm (tT_5 _ (List.mem_of_getElem? (i := 163) rfl)) rfl
theorem wl_X11_ordered : Cond.selects RX11 yX11_ordered yX11_ordered ∈ gT := gm (tT_5 _ (List.mem_of_getElem? (i := 164) rfl)) rfl
theorem wc_X11_ordered : Cond.code yX11_ordered cX11_ordered 5 (some .int) ∈ gT := gm (tT_5 _ (List.mem_of_getElem? (i := 165) rfl)) rfl
theorem wm_X11_340 : Cond.methodLink RX11 340 yX5_writeOrder ∈ gT := gm (tT_5 _ (List.mem_of_getElem? (i := 166) rfl)) rfl
theorem wi_X5_writeOrder : Cond.instanceMethod yX5_writeOrder ∈ gT := gm (tT_5 _ (List.mem_of_getElem? (i := 167) rfl)) rfl
theorem wl_X5_writeOrder : Cond.selects RX5 yX5_writeOrder yX5_writeOrder ∈ gT := gm (tT_5 _ (List.mem_of_getElem? (i := 168) rfl)) rfl
theorem wc_X5_writeOrder : Cond.code yX5_writeOrder cX5_writeOrder 13 (some .int) ∈ gT := gm (tT_5 _ (List.mem_of_getElem? (i := 169) rfl)) rfl
theorem wm_L_162 : Cond.methodLink RL 162 yX11_order ∈ gT := gm (tT_5 _ (List.mem_of_getElem? (i := 170) rfl)) rfl
theorem wi_X11_order : Cond.instanceMethod yX11_order ∈ gT := gm (tT_5 _ (List.mem_of_getElem? (i := 171) rfl)) rfl
theorem wl_X11_order : Cond.selects RX11 yX11_order yX11_order ∈ gT := gm (tT_5 _ (List.mem_of_getElem? (i := 172) rfl)) rfl
theorem wc_X11_order : Cond.code yX11_order cX11_order 4 (some .boolean) ∈ gT := gm (tT_5 _ (List.mem_of_getElem? (i := 173) rfl)) rfl
theorem wm_X11_347 : Cond.methodLink RX11 347 yX11_areChangesOnce ∈ gT := gm (tT_5 _ (List.mem_of_getElem? (i := 174) rfl)) rfl
theorem wi_X11_areChangesOnce : Cond.instanceMethod yX11_areChangesOnce ∈ gT := gm (tT_5 _ (List.mem_of_getElem? (i := 176) rfl)) rfl
theorem wc_X11_areChangesOnce : Cond.code yX11_areChangesOnce cX11_areChangesOnce 7 (some .boolean) ∈ gT := gm (tT_5 _ (List.mem_of_getElem? (i := 177) rfl)) rfl
theorem wm_X11_351 : Cond.methodLink RX11 351 yX11_holdsInRow ∈ gT := gm (tT_5 _ (List.mem_of_getElem? (i := 178) rfl)) rfl
theorem wi_X11_holdsInRow : Cond.instanceMethod yX11_holdsInRow ∈ gT := gm (tT_5 _ (List.mem_of_getElem? (i := 180) rfl)) rfl
theorem wc_X11_holdsInRow : Cond.code yX11_holdsInRow cX11_holdsInRow 6 (some .boolean) ∈ gT := gm (tT_5 _ (List.mem_of_getElem? (i := 181) rfl)) rfl
theorem wm_L_167 : Cond.methodLink RL 167 yX11_number ∈ gT := gm (tT_5 _ (List.mem_of_getElem? (i := 182) rfl)) rfl
theorem wi_X11_number : Cond.instanceMethod yX11_number ∈ gT := gm (tT_5 _ (List.mem_of_getElem? (i := 183) rfl)) rfl
theorem wl_X11_number : Cond.selects RX11 yX11_number yX11_number ∈ gT := gm (tT_5 _ (List.mem_of_getElem? (i := 184) rfl)) rfl
theorem wc_X11_number : Cond.code yX11_number cX11_number 1 (some .long) ∈ gT := gm (tT_5 _ (List.mem_of_getElem? (i := 185) rfl)) rfl
theorem wm_X11_354 : Cond.methodLink RX11 354 yX5_numberOf ∈ gT := gm (tT_5 _ (List.mem_of_getElem? (i := 186) rfl)) rfl
theorem wi_X5_numberOf : Cond.instanceMethod yX5_numberOf ∈ gT := gm (tT_5 _ (List.mem_of_getElem? (i := 187) rfl)) rfl
theorem wl_X5_numberOf : Cond.selects RX5 yX5_numberOf yX5_numberOf ∈ gT := gm (tT_5 _ (List.mem_of_getElem? (i := 188) rfl)) rfl
theorem wc_X5_numberOf : Cond.code yX5_numberOf cX5_numberOf 10 (some .long) ∈ gT := gm (tT_5 _ (List.mem_of_getElem? (i := 189) rfl)) rfl
theorem wm_L_171 : Cond.methodLink RL 171 yX11_orderAt ∈ gT := gm (tT_5 _ (List.mem_of_getElem? (i := 190) rfl)) rfl
theorem wi_X11_orderAt : Cond.instanceMethod yX11_orderAt ∈ gT := gm (tT_5 _ (List.mem_of_getElem? (i := 191) rfl)) rfl
theorem wl_X11_orderAt : Cond.selects RX11 yX11_orderAt yX11_orderAt ∈ gT := gm (tT_5 _ (List.mem_of_getElem? (i := 192) rfl)) rfl
theorem wc_X11_orderAt : Cond.code yX11_orderAt cX11_orderAt 2 (some .int) ∈ gT := gm (tT_5 _ (List.mem_of_getElem? (i := 193) rfl)) rfl
theorem wm_X11_358 : Cond.methodLink RX11 358 yX7_isInOrder ∈ gT := gm (tT_5 _ (List.mem_of_getElem? (i := 194) rfl)) rfl
theorem wi_X7_isInOrder : Cond.instanceMethod yX7_isInOrder ∈ gT := gm (tT_5 _ (List.mem_of_getElem? (i := 195) rfl)) rfl
theorem wl_X7_isInOrder : Cond.selects RX7 yX7_isInOrder yX7_isInOrder ∈ gT := gm (tT_5 _ (List.mem_of_getElem? (i := 196) rfl)) rfl
theorem wc_X7_isInOrder : Cond.code yX7_isInOrder cX7_isInOrder 2 (some .boolean) ∈ gT := gm (tT_5 _ (List.mem_of_getElem? (i := 197) rfl)) rfl
theorem wm_L_175 : Cond.methodLink RL 175 yX11_acts ∈ gT := gm (tT_5 _ (List.mem_of_getElem? (i := 198) rfl)) rfl
theorem wi_X11_acts : Cond.instanceMethod yX11_acts ∈ gT := gm (tT_5 _ (List.mem_of_getElem? (i := 199) rfl)) rfl
theorem wl_X11_acts : Cond.selects RX11 yX11_acts yX11_acts ∈ gT := gm (tT_5 _ (List.mem_of_getElem? (i := 200) rfl)) rfl
theorem wc_X11_acts : Cond.code yX11_acts cX11_acts 4 (some .int) ∈ gT := gm (tT_5 _ (List.mem_of_getElem? (i := 201) rfl)) rfl
theorem wm_X11_361 : Cond.methodLink RX11 361 yX7_firstOfOrder ∈ gT := gm (tT_5 _ (List.mem_of_getElem? (i := 202) rfl)) rfl
theorem wi_X7_firstOfOrder : Cond.instanceMethod yX7_firstOfOrder ∈ gT := gm (tT_5 _ (List.mem_of_getElem? (i := 203) rfl)) rfl
theorem wl_X7_firstOfOrder : Cond.selects RX7 yX7_firstOfOrder yX7_firstOfOrder ∈ gT := gm (tT_5 _ (List.mem_of_getElem? (i := 204) rfl)) rfl
theorem wc_X7_firstOfOrder : Cond.code yX7_firstOfOrder cX7_firstOfOrder 4 (some .int) ∈ gT := gm (tT_5 _ (List.mem_of_getElem? (i := 205) rfl)) rfl
theorem wm_L_179 : Cond.methodLink RL 179 yX11_swap ∈ gT := gm (tT_5 _ (List.mem_of_getElem? (i := 206) rfl)) rfl
theorem wi_X11_swap : Cond.instanceMethod yX11_swap ∈ gT := gm (tT_5 _ (List.mem_of_getElem? (i := 207) rfl)) rfl
theorem wl_X11_swap : Cond.selects RX11 yX11_swap yX11_swap ∈ gT := gm (tT_5 _ (List.mem_of_getElem? (i := 208) rfl)) rfl
theorem wc_X11_swap : Cond.code yX11_swap cX11_swap 2 (some .boolean) ∈ gT := gm (tT_5 _ (List.mem_of_getElem? (i := 209) rfl)) rfl
theorem wm_X11_364 : Cond.methodLink RX11 364 yX7_maySwap ∈ gT := gm (tT_5 _ (List.mem_of_getElem? (i := 210) rfl)) rfl
theorem wi_X7_maySwap : Cond.instanceMethod yX7_maySwap ∈ gT := gm (tT_5 _ (List.mem_of_getElem? (i := 211) rfl)) rfl
theorem wl_X7_maySwap : Cond.selects RX7 yX7_maySwap yX7_maySwap ∈ gT := gm (tT_5 _ (List.mem_of_getElem? (i := 212) rfl)) rfl
theorem wc_X7_maySwap : Cond.code yX7_maySwap cX7_maySwap 2 (some .boolean) ∈ gT := gm (tT_5 _ (List.mem_of_getElem? (i := 213) rfl)) rfl
theorem wm_X7_39 : Cond.methodLink RX7 39 yX7_isInOrder ∈ gT := gm (tT_5 _ (List.mem_of_getElem? (i := 214) rfl)) rfl
theorem wm_X7_46 : Cond.methodLink RX7 46 yX0_isIn ∈ gT := gm (tT_5 _ (List.mem_of_getElem? (i := 215) rfl)) rfl
theorem wm_X11_367 : Cond.methodLink RX11 367 yX7_exchange ∈ gT := gm (tT_5 _ (List.mem_of_getElem? (i := 216) rfl)) rfl
theorem wi_X7_exchange : Cond.instanceMethod yX7_exchange ∈ gT := gm (tT_5 _ (List.mem_of_getElem? (i := 217) rfl)) rfl
theorem wl_X7_exchange : Cond.selects RX7 yX7_exchange yX7_exchange ∈ gT := gm (tT_5 _ (List.mem_of_getElem? (i := 218) rfl)) rfl
theorem wc_X7_exchange : Cond.code yX7_exchange cX7_exchange 3 none ∈ gT := gm (tT_5 _ (List.mem_of_getElem? (i := 219) rfl)) rfl
theorem wm_L_184 : Cond.methodLink RL 184 yX11_forward ∈ gT := gm (tT_5 _ (List.mem_of_getElem? (i := 220) rfl)) rfl
theorem wi_X11_forward : Cond.instanceMethod yX11_forward ∈ gT := gm (tT_5 _ (List.mem_of_getElem? (i := 221) rfl)) rfl
theorem wl_X11_forward : Cond.selects RX11 yX11_forward yX11_forward ∈ gT := gm (tT_5 _ (List.mem_of_getElem? (i := 222) rfl)) rfl
theorem wc_X11_forward : Cond.code yX11_forward cX11_forward 3 (some .int) ∈ gT := gm (tT_5 _ (List.mem_of_getElem? (i := 223) rfl)) rfl
theorem wm_X11_370 : Cond.methodLink RX11 370 yX7_placeInOrder ∈ gT := gm (tT_5 _ (List.mem_of_getElem? (i := 224) rfl)) rfl
theorem wi_X7_placeInOrder : Cond.instanceMethod yX7_placeInOrder ∈ gT := gm (tT_5 _ (List.mem_of_getElem? (i := 225) rfl)) rfl
theorem wl_X7_placeInOrder : Cond.selects RX7 yX7_placeInOrder yX7_placeInOrder ∈ gT := gm (tT_5 _ (List.mem_of_getElem? (i := 226) rfl)) rfl
theorem wc_X7_placeInOrder : Cond.code yX7_placeInOrder cX7_placeInOrder 3 (some .int) ∈ gT := gm (tT_5 _ (List.mem_of_getElem? (i := 227) rfl)) rfl
theorem wm_L_188 : Cond.methodLink RL 188 yX11_swaps ∈ gT := gm (tT_5 _ (List.mem_of_getElem? (i := 228) rfl)) rfl
theorem wi_X11_swaps : Cond.instanceMethod yX11_swaps ∈ gT := gm (tT_5 _ (List.mem_of_getElem? (i := 229) rfl)) rfl
theorem wl_X11_swaps : Cond.selects RX11 yX11_swaps yX11_swaps ∈ gT := gm (tT_5 _ (List.mem_of_getElem? (i := 230) rfl)) rfl
theorem wc_X11_swaps : Cond.code yX11_swaps cX11_swaps 1 (some .int) ∈ gT := gm (tT_5 _ (List.mem_of_getElem? (i := 231) rfl)) rfl
theorem wm_X11_373 : Cond.methodLink RX11 373 yX7_countTurned ∈ gT := gm (tT_5 _ (List.mem_of_getElem? (i := 232) rfl)) rfl
theorem wi_X7_countTurned : Cond.instanceMethod yX7_countTurned ∈ gT := gm (tT_5 _ (List.mem_of_getElem? (i := 233) rfl)) rfl
theorem wl_X7_countTurned : Cond.selects RX7 yX7_countTurned yX7_countTurned ∈ gT := gm (tT_5 _ (List.mem_of_getElem? (i := 234) rfl)) rfl
theorem wc_X7_countTurned : Cond.code yX7_countTurned cX7_countTurned 4 (some .int) ∈ gT := gm (tT_5 _ (List.mem_of_getElem? (i := 235) rfl)) rfl
theorem wm_L_192 : Cond.methodLink RL 192 yX11_has ∈ gT := gm (tT_5 _ (List.mem_of_getElem? (i := 236) rfl)) rfl
theorem wi_X11_has : Cond.instanceMethod yX11_has ∈ gT := gm (tT_5 _ (List.mem_of_getElem? (i := 237) rfl)) rfl
theorem wl_X11_has : Cond.selects RX11 yX11_has yX11_has ∈ gT := gm (tT_5 _ (List.mem_of_getElem? (i := 238) rfl)) rfl
theorem wc_X11_has : Cond.code yX11_has cX11_has 2 (some .int) ∈ gT := gm (tT_5 _ (List.mem_of_getElem? (i := 239) rfl)) rfl
theorem wm_X11_376 : Cond.methodLink RX11 376 yX0_isIsland ∈ gT := gm (tT_6 _ (List.mem_of_getElem? (i := 0) rfl)) rfl
theorem wi_X0_isIsland : Cond.instanceMethod yX0_isIsland ∈ gT := gm (tT_6 _ (List.mem_of_getElem? (i := 1) rfl)) rfl
theorem wl_X0_isIsland : Cond.selects RX0 yX0_isIsland yX0_isIsland ∈ gT := gm (tT_6 _ (List.mem_of_getElem? (i := 2) rfl)) rfl
theorem wc_X0_isIsland : Cond.code yX0_isIsland cX0_isIsland 2 (some .boolean) ∈ gT := gm (tT_6 _ (List.mem_of_getElem? (i := 3) rfl)) rfl
theorem wm_L_196 : Cond.methodLink RL 196 yX11_give ∈ gT := gm (tT_6 _ (List.mem_of_getElem? (i := 4) rfl)) rfl
theorem wi_X11_give : Cond.instanceMethod yX11_give ∈ gT := gm (tT_6 _ (List.mem_of_getElem? (i := 5) rfl)) rfl
theorem wl_X11_give : Cond.selects RX11 yX11_give yX11_give ∈ gT := gm (tT_6 _ (List.mem_of_getElem? (i := 6) rfl)) rfl
theorem wc_X11_give : Cond.code yX11_give cX11_give 3 (some .boolean) ∈ gT := gm (tT_6 _ (List.mem_of_getElem? (i := 7) rfl)) rfl
theorem wm_L_200 : Cond.methodLink RL 200 yX11_sail ∈ gT := gm (tT_6 _ (List.mem_of_getElem? (i := 8) rfl)) rfl
theorem wi_X11_sail : Cond.instanceMethod yX11_sail ∈ gT := gm (tT_6 _ (List.mem_of_getElem? (i := 9) rfl)) rfl
theorem wl_X11_sail : Cond.selects RX11 yX11_sail yX11_sail ∈ gT := gm (tT_6 _ (List.mem_of_getElem? (i := 10) rfl)) rfl
theorem wc_X11_sail : Cond.code yX11_sail cX11_sail 3 (some .int) ∈ gT := gm (tT_6 _ (List.mem_of_getElem? (i := 11) rfl)) rfl
theorem wm_X11_382 : Cond.methodLink RX11 382 yX10_run ∈ gT := gm (tT_6 _ (List.mem_of_getElem? (i := 12) rfl)) rfl
theorem wi_X10_run : Cond.instanceMethod yX10_run ∈ gT := gm (tT_6 _ (List.mem_of_getElem? (i := 13) rfl)) rfl
theorem wl_X10_run : Cond.selects RX10 yX10_run yX10_run ∈ gT := gm (tT_6 _ (List.mem_of_getElem? (i := 14) rfl)) rfl
theorem wc_X10_run : Cond.code yX10_run cX10_run 7 none ∈ gT := gm (tT_6 _ (List.mem_of_getElem? (i := 15) rfl)) rfl
theorem wk_X10_69 : Cond.constant RX10 69 (1000000) ∈ gT := gm (tT_6 _ (List.mem_of_getElem? (i := 16) rfl)) rfl
theorem wm_X10_70 : Cond.methodLink RX10 70 yX10_isRow ∈ gT := gm (tT_6 _ (List.mem_of_getElem? (i := 17) rfl)) rfl
theorem wi_X10_isRow : Cond.instanceMethod yX10_isRow ∈ gT := gm (tT_6 _ (List.mem_of_getElem? (i := 19) rfl)) rfl
theorem wc_X10_isRow : Cond.code yX10_isRow cX10_isRow 2 (some .boolean) ∈ gT := gm (tT_6 _ (List.mem_of_getElem? (i := 20) rfl)) rfl
theorem wm_X10_79 : Cond.methodLink RX10 79 yX10_rowAfterEnd ∈ gT := gm (tT_6 _ (List.mem_of_getElem? (i := 21) rfl)) rfl
theorem wi_X10_rowAfterEnd : Cond.instanceMethod yX10_rowAfterEnd ∈ gT := gm (tT_6 _ (List.mem_of_getElem? (i := 23) rfl)) rfl
theorem wc_X10_rowAfterEnd : Cond.code yX10_rowAfterEnd cX10_rowAfterEnd 3 (some .int) ∈ gT := gm (tT_6 _ (List.mem_of_getElem? (i := 24) rfl)) rfl
theorem wm_X10_83 : Cond.methodLink RX10 83 yX10_rowAfterStep ∈ gT := gm (tT_6 _ (List.mem_of_getElem? (i := 25) rfl)) rfl
theorem wi_X10_rowAfterStep : Cond.instanceMethod yX10_rowAfterStep ∈ gT := gm (tT_6 _ (List.mem_of_getElem? (i := 27) rfl)) rfl
theorem wc_X10_rowAfterStep : Cond.code yX10_rowAfterStep cX10_rowAfterStep 2 (some .int) ∈ gT := gm (tT_6 _ (List.mem_of_getElem? (i := 28) rfl)) rfl
theorem wm_X10_98 : Cond.methodLink RX10 98 yX10_isSo ∈ gT := gm (tT_6 _ (List.mem_of_getElem? (i := 29) rfl)) rfl
theorem wi_X10_isSo : Cond.instanceMethod yX10_isSo ∈ gT := gm (tT_6 _ (List.mem_of_getElem? (i := 31) rfl)) rfl
theorem wc_X10_isSo : Cond.code yX10_isSo cX10_isSo 3 (some .boolean) ∈ gT := gm (tT_6 _ (List.mem_of_getElem? (i := 32) rfl)) rfl
theorem wm_X10_106 : Cond.methodLink RX10 106 yX0_isIsland ∈ gT := gm (tT_6 _ (List.mem_of_getElem? (i := 33) rfl)) rfl
theorem wm_X10_112 : Cond.methodLink RX10 112 yX0_isIn ∈ gT := gm (tT_6 _ (List.mem_of_getElem? (i := 34) rfl)) rfl
theorem wm_X10_116 : Cond.methodLink RX10 116 yX0_mostQuarrelling ∈ gT := gm (tT_6 _ (List.mem_of_getElem? (i := 35) rfl)) rfl
theorem wm_X10_101 : Cond.methodLink RX10 101 yX10_doStep ∈ gT := gm (tT_6 _ (List.mem_of_getElem? (i := 36) rfl)) rfl
theorem wi_X10_doStep : Cond.instanceMethod yX10_doStep ∈ gT := gm (tT_6 _ (List.mem_of_getElem? (i := 38) rfl)) rfl
theorem wc_X10_doStep : Cond.code yX10_doStep cX10_doStep 2 (some .boolean) ∈ gT := gm (tT_6 _ (List.mem_of_getElem? (i := 39) rfl)) rfl
theorem wm_X10_119 : Cond.methodLink RX10 119 yX10_landDue ∈ gT := gm (tT_6 _ (List.mem_of_getElem? (i := 40) rfl)) rfl
theorem wi_X10_landDue : Cond.instanceMethod yX10_landDue ∈ gT := gm (tT_6 _ (List.mem_of_getElem? (i := 42) rfl)) rfl
theorem wc_X10_landDue : Cond.code yX10_landDue cX10_landDue 3 none ∈ gT := gm (tT_6 _ (List.mem_of_getElem? (i := 43) rfl)) rfl
theorem wm_X10_157 : Cond.methodLink RX10 157 yX10_land ∈ gT := gm (tT_6 _ (List.mem_of_getElem? (i := 44) rfl)) rfl
theorem wi_X10_land : Cond.instanceMethod yX10_land ∈ gT := gm (tT_6 _ (List.mem_of_getElem? (i := 46) rfl)) rfl
theorem wc_X10_land : Cond.code yX10_land cX10_land 3 none ∈ gT := gm (tT_6 _ (List.mem_of_getElem? (i := 47) rfl)) rfl
theorem wm_X10_161 : Cond.methodLink RX10 161 yX10_moveCargo ∈ gT := gm (tT_6 _ (List.mem_of_getElem? (i := 48) rfl)) rfl
theorem wi_X10_moveCargo : Cond.instanceMethod yX10_moveCargo ∈ gT := gm (tT_6 _ (List.mem_of_getElem? (i := 50) rfl)) rfl
theorem wc_X10_moveCargo : Cond.code yX10_moveCargo cX10_moveCargo 3 none ∈ gT := gm (tT_6 _ (List.mem_of_getElem? (i := 51) rfl)) rfl
theorem wm_X10_122 : Cond.methodLink RX10 122 yX10_draw ∈ gT := gm (tT_6 _ (List.mem_of_getElem? (i := 52) rfl)) rfl
theorem wi_X10_draw : Cond.instanceMethod yX10_draw ∈ gT := gm (tT_6 _ (List.mem_of_getElem? (i := 54) rfl)) rfl
theorem wc_X10_draw : Cond.code yX10_draw cX10_draw 4 none ∈ gT := gm (tT_6 _ (List.mem_of_getElem? (i := 55) rfl)) rfl
theorem wk_X10_164 : Cond.constant RX10 164 (65536) ∈ gT := gm (tT_6 _ (List.mem_of_getElem? (i := 56) rfl)) rfl
theorem wm_X10_126 : Cond.methodLink RX10 126 yX10_setOut ∈ gT := gm (tT_6 _ (List.mem_of_getElem? (i := 57) rfl)) rfl
theorem wi_X10_setOut : Cond.instanceMethod yX10_setOut ∈ gT := gm (tT_6 _ (List.mem_of_getElem? (i := 59) rfl)) rfl
theorem wc_X10_setOut : Cond.code yX10_setOut cX10_setOut 6 (some .boolean) ∈ gT := gm (tT_6 _ (List.mem_of_getElem? (i := 60) rfl)) rfl
theorem wm_X10_153 : Cond.methodLink RX10 153 yX10_addCargo ∈ gT := gm (tT_6 _ (List.mem_of_getElem? (i := 61) rfl)) rfl
theorem wi_X10_addCargo : Cond.instanceMethod yX10_addCargo ∈ gT := gm (tT_6 _ (List.mem_of_getElem? (i := 63) rfl)) rfl
theorem wc_X10_addCargo : Cond.code yX10_addCargo cX10_addCargo 4 none ∈ gT := gm (tT_6 _ (List.mem_of_getElem? (i := 64) rfl)) rfl
theorem wm_X10_129 : Cond.methodLink RX10 129 yX10_alter ∈ gT := gm (tT_6 _ (List.mem_of_getElem? (i := 65) rfl)) rfl
theorem wi_X10_alter : Cond.instanceMethod yX10_alter ∈ gT := gm (tT_6 _ (List.mem_of_getElem? (i := 67) rfl)) rfl
theorem wc_X10_alter : Cond.code yX10_alter cX10_alter 4 (some .boolean) ∈ gT := gm (tT_6 _ (List.mem_of_getElem? (i := 68) rfl)) rfl
theorem wm_X10_133 : Cond.methodLink RX10 133 yX0_isChange ∈ gT := gm (tT_6 _ (List.mem_of_getElem? (i := 69) rfl)) rfl
theorem wm_X10_139 : Cond.methodLink RX10 139 yX0_without ∈ gT := gm (tT_6 _ (List.mem_of_getElem? (i := 70) rfl)) rfl
theorem wm_X10_143 : Cond.methodLink RX10 143 yX10_isAnywhere ∈ gT := gm (tT_6 _ (List.mem_of_getElem? (i := 71) rfl)) rfl
theorem wi_X10_isAnywhere : Cond.instanceMethod yX10_isAnywhere ∈ gT := gm (tT_6 _ (List.mem_of_getElem? (i := 73) rfl)) rfl
theorem wc_X10_isAnywhere : Cond.code yX10_isAnywhere cX10_isAnywhere 3 (some .boolean) ∈ gT := gm (tT_6 _ (List.mem_of_getElem? (i := 74) rfl)) rfl
theorem wm_X10_146 : Cond.methodLink RX10 146 yX0_including ∈ gT := gm (tT_6 _ (List.mem_of_getElem? (i := 75) rfl)) rfl
theorem wm_L_204 : Cond.methodLink RL 204 yX11_sailed ∈ gT := gm (tT_6 _ (List.mem_of_getElem? (i := 76) rfl)) rfl
theorem wi_X11_sailed : Cond.instanceMethod yX11_sailed ∈ gT := gm (tT_6 _ (List.mem_of_getElem? (i := 77) rfl)) rfl
theorem wl_X11_sailed : Cond.selects RX11 yX11_sailed yX11_sailed ∈ gT := gm (tT_6 _ (List.mem_of_getElem? (i := 78) rfl)) rfl
theorem wc_X11_sailed : Cond.code yX11_sailed cX11_sailed 2 (some .int) ∈ gT := gm (tT_6 _ (List.mem_of_getElem? (i := 79) rfl)) rfl
theorem wm_L_208 : Cond.methodLink RL 208 yX11_agreed ∈ gT := gm (tT_6 _ (List.mem_of_getElem? (i := 80) rfl)) rfl
theorem wi_X11_agreed : Cond.instanceMethod yX11_agreed ∈ gT := gm (tT_6 _ (List.mem_of_getElem? (i := 81) rfl)) rfl
theorem wl_X11_agreed : Cond.selects RX11 yX11_agreed yX11_agreed ∈ gT := gm (tT_6 _ (List.mem_of_getElem? (i := 82) rfl)) rfl
theorem wc_X11_agreed : Cond.code yX11_agreed cX11_agreed 6 (some .int) ∈ gT := gm (tT_6 _ (List.mem_of_getElem? (i := 83) rfl)) rfl
theorem wm_X11_403 : Cond.methodLink RX11 403 yX10_allAlike ∈ gT := gm (tT_6 _ (List.mem_of_getElem? (i := 84) rfl)) rfl
theorem wi_X10_allAlike : Cond.instanceMethod yX10_allAlike ∈ gT := gm (tT_6 _ (List.mem_of_getElem? (i := 85) rfl)) rfl
theorem wl_X10_allAlike : Cond.selects RX10 yX10_allAlike yX10_allAlike ∈ gT := gm (tT_6 _ (List.mem_of_getElem? (i := 86) rfl)) rfl
theorem wc_X10_allAlike : Cond.code yX10_allAlike cX10_allAlike 2 (some .boolean) ∈ gT := gm (tT_6 _ (List.mem_of_getElem? (i := 87) rfl)) rfl
theorem wm_L_212 : Cond.methodLink RL 212 yX11_seal ∈ gT := gm (tT_6 _ (List.mem_of_getElem? (i := 88) rfl)) rfl
theorem wi_X11_seal : Cond.instanceMethod yX11_seal ∈ gT := gm (tT_6 _ (List.mem_of_getElem? (i := 89) rfl)) rfl
theorem wl_X11_seal : Cond.selects RX11 yX11_seal yX11_seal ∈ gT := gm (tT_6 _ (List.mem_of_getElem? (i := 90) rfl)) rfl
theorem wc_X11_seal : Cond.code yX11_seal cX11_seal 4 (some .int) ∈ gT := gm (tT_6 _ (List.mem_of_getElem? (i := 91) rfl)) rfl
theorem wm_X11_406 : Cond.methodLink RX11 406 yX11_writeSeal ∈ gT := gm (tT_6 _ (List.mem_of_getElem? (i := 92) rfl)) rfl
theorem wi_X11_writeSeal : Cond.instanceMethod yX11_writeSeal ∈ gT := gm (tT_6 _ (List.mem_of_getElem? (i := 94) rfl)) rfl
theorem wc_X11_writeSeal : Cond.code yX11_writeSeal cX11_writeSeal 7 none ∈ gT := gm (tT_6 _ (List.mem_of_getElem? (i := 95) rfl)) rfl
theorem wm_X11_410 : Cond.methodLink RX11 410 yX11_sealOf ∈ gT := gm (tT_6 _ (List.mem_of_getElem? (i := 96) rfl)) rfl
theorem wi_X11_sealOf : Cond.instanceMethod yX11_sealOf ∈ gT := gm (tT_6 _ (List.mem_of_getElem? (i := 98) rfl)) rfl
theorem wc_X11_sealOf : Cond.code yX11_sealOf cX11_sealOf 2 (some .int) ∈ gT := gm (tT_6 _ (List.mem_of_getElem? (i := 99) rfl)) rfl
theorem wm_L_216 : Cond.methodLink RL 216 yX11_open ∈ gT := gm (tT_6 _ (List.mem_of_getElem? (i := 100) rfl)) rfl
theorem wi_X11_open : Cond.instanceMethod yX11_open ∈ gT := gm (tT_6 _ (List.mem_of_getElem? (i := 101) rfl)) rfl
theorem wl_X11_open : Cond.selects RX11 yX11_open yX11_open ∈ gT := gm (tT_6 _ (List.mem_of_getElem? (i := 102) rfl)) rfl
theorem wc_X11_open : Cond.code yX11_open cX11_open 5 (some .int) ∈ gT := gm (tT_6 _ (List.mem_of_getElem? (i := 103) rfl)) rfl
theorem wm_X11_413 : Cond.methodLink RX11 413 yX11_sealedCount ∈ gT := gm (tT_6 _ (List.mem_of_getElem? (i := 104) rfl)) rfl
theorem wt_X11_sealedCount : Cond.static yX11_sealedCount ∈ gT := gm (tT_6 _ (List.mem_of_getElem? (i := 105) rfl)) rfl
theorem wc_X11_sealedCount : Cond.code yX11_sealedCount cX11_sealedCount 3 (some .int) ∈ gT := gm (tT_6 _ (List.mem_of_getElem? (i := 106) rfl)) rfl
theorem wk_X11_421 : Cond.constantLong RX11 421 (16) ∈ gT := gm (tT_6 _ (List.mem_of_getElem? (i := 107) rfl)) rfl
theorem wm_X11_417 : Cond.methodLink RX11 417 yX11_readSeal ∈ gT := gm (tT_6 _ (List.mem_of_getElem? (i := 108) rfl)) rfl
theorem wi_X11_readSeal : Cond.instanceMethod yX11_readSeal ∈ gT := gm (tT_6 _ (List.mem_of_getElem? (i := 110) rfl)) rfl
theorem wc_X11_readSeal : Cond.code yX11_readSeal cX11_readSeal 7 (some .int) ∈ gT := gm (tT_6 _ (List.mem_of_getElem? (i := 111) rfl)) rfl
theorem wm_L_220 : Cond.methodLink RL 220 yX11_mark ∈ gT := gm (tT_6 _ (List.mem_of_getElem? (i := 112) rfl)) rfl
theorem wi_X11_mark : Cond.instanceMethod yX11_mark ∈ gT := gm (tT_6 _ (List.mem_of_getElem? (i := 113) rfl)) rfl
theorem wl_X11_mark : Cond.selects RX11 yX11_mark yX11_mark ∈ gT := gm (tT_6 _ (List.mem_of_getElem? (i := 114) rfl)) rfl
theorem wc_X11_mark : Cond.code yX11_mark cX11_mark 1 (some .int) ∈ gT := gm (tT_6 _ (List.mem_of_getElem? (i := 115) rfl)) rfl
theorem wm_X11_423 : Cond.methodLink RX11 423 yX7_copyFrom ∈ gT := gm (tT_6 _ (List.mem_of_getElem? (i := 116) rfl)) rfl
theorem wi_X7_copyFrom : Cond.instanceMethod yX7_copyFrom ∈ gT := gm (tT_6 _ (List.mem_of_getElem? (i := 117) rfl)) rfl
theorem wl_X7_copyFrom : Cond.selects RX7 yX7_copyFrom yX7_copyFrom ∈ gT := gm (tT_6 _ (List.mem_of_getElem? (i := 118) rfl)) rfl
theorem wc_X7_copyFrom : Cond.code yX7_copyFrom cX7_copyFrom 2 none ∈ gT := gm (tT_6 _ (List.mem_of_getElem? (i := 119) rfl)) rfl
theorem wm_X7_33 : Cond.methodLink RX7 33 arraycopyName ∈ gT := gm (tT_6 _ (List.mem_of_getElem? (i := 120) rfl)) rfl
theorem wm_L_224 : Cond.methodLink RL 224 yX11_back ∈ gT := gm (tT_6 _ (List.mem_of_getElem? (i := 121) rfl)) rfl
theorem wi_X11_back : Cond.instanceMethod yX11_back ∈ gT := gm (tT_6 _ (List.mem_of_getElem? (i := 122) rfl)) rfl
theorem wl_X11_back : Cond.selects RX11 yX11_back yX11_back ∈ gT := gm (tT_6 _ (List.mem_of_getElem? (i := 123) rfl)) rfl
theorem wc_X11_back : Cond.code yX11_back cX11_back 1 (some .int) ∈ gT := gm (tT_6 _ (List.mem_of_getElem? (i := 124) rfl)) rfl
theorem wq_L_10 : Cond.classLink RL 10 RX12 ∈ gT := gm (tT_6 _ (List.mem_of_getElem? (i := 125) rfl)) rfl
theorem wz_X12 : Cond.instantiable RX12 47 ∈ gT := gm (tT_6 _ (List.mem_of_getElem? (i := 126) rfl)) rfl
theorem wm_L_12 : Cond.methodLink RL 12 yX12_init ∈ gT := gm (tT_6 _ (List.mem_of_getElem? (i := 127) rfl)) rfl
theorem wi_X12_init : Cond.instanceMethod yX12_init ∈ gT := gm (tT_6 _ (List.mem_of_getElem? (i := 128) rfl)) rfl
theorem wc_X12_init : Cond.code yX12_init cX12_init 2 none ∈ gT := gm (tT_6 _ (List.mem_of_getElem? (i := 129) rfl)) rfl
theorem wm_X12_1 : Cond.methodLink RX12 1 objectInit ∈ gT := gm (tT_6 _ (List.mem_of_getElem? (i := 130) rfl)) rfl
theorem wk_X12_47 : Cond.constant RX12 47 (65536) ∈ gT := gm (tT_6 _ (List.mem_of_getElem? (i := 131) rfl)) rfl
theorem wf_X12_78 : Cond.fieldLink RX12 78 "SwapBookModel" "status" "I" ∈ gT := gm (tT_6 _ (List.mem_of_getElem? (i := 132) rfl)) rfl
theorem wf_X12_75 : Cond.fieldLink RX12 75 "SwapBookModel" "thrown" "I" ∈ gT := gm (tT_6 _ (List.mem_of_getElem? (i := 133) rfl)) rfl
theorem wf_X12_81 : Cond.fieldLink RX12 81 "SwapBookModel" "above" "J" ∈ gT := gm (tT_6 _ (List.mem_of_getElem? (i := 134) rfl)) rfl
theorem wf_X12_7 : Cond.fieldLink RX12 7 "SwapBookModel" "under" "J" ∈ gT := gm (tT_6 _ (List.mem_of_getElem? (i := 135) rfl)) rfl
theorem wf_X12_13 : Cond.fieldLink RX12 13 "SwapBookModel" "traySort" "[I" ∈ gT := gm (tT_6 _ (List.mem_of_getElem? (i := 136) rfl)) rfl
theorem wf_X12_17 : Cond.fieldLink RX12 17 "SwapBookModel" "trayMany" "[I" ∈ gT := gm (tT_6 _ (List.mem_of_getElem? (i := 137) rfl)) rfl
theorem wf_X12_20 : Cond.fieldLink RX12 20 "SwapBookModel" "numbers" "[J" ∈ gT := gm (tT_6 _ (List.mem_of_getElem? (i := 138) rfl)) rfl
theorem wf_X12_24 : Cond.fieldLink RX12 24 "SwapBookModel" "tape" "[B" ∈ gT := gm (tT_6 _ (List.mem_of_getElem? (i := 139) rfl)) rfl
theorem wf_X12_225 : Cond.fieldLink RX12 225 "SwapBookModel" "taped" "I" ∈ gT := gm (tT_6 _ (List.mem_of_getElem? (i := 140) rfl)) rfl
theorem wf_X12_114 : Cond.fieldLink RX12 114 "SwapBookModel" "textEnd" "I" ∈ gT := gm (tT_6 _ (List.mem_of_getElem? (i := 141) rfl)) rfl
theorem wf_X12_28 : Cond.fieldLink RX12 28 "SwapBookModel" "faultKind" "I" ∈ gT := gm (tT_6 _ (List.mem_of_getElem? (i := 142) rfl)) rfl
theorem wf_X12_32 : Cond.fieldLink RX12 32 "SwapBookModel" "faultAt" "I" ∈ gT := gm (tT_6 _ (List.mem_of_getElem? (i := 143) rfl)) rfl
theorem wf_X12_209 : Cond.fieldLink RX12 209 "SwapBookModel" "bad" "I" ∈ gT := gm (tT_6 _ (List.mem_of_getElem? (i := 144) rfl)) rfl
theorem wf_X12_212 : Cond.fieldLink RX12 212 "SwapBookModel" "badAt" "I" ∈ gT := gm (tT_6 _ (List.mem_of_getElem? (i := 145) rfl)) rfl
theorem wf_X12_126 : Cond.fieldLink RX12 126 "SwapBookModel" "token" "I" ∈ gT := gm (tT_6 _ (List.mem_of_getElem? (i := 146) rfl)) rfl
theorem wf_X12_120 : Cond.fieldLink RX12 120 "SwapBookModel" "at" "I" ∈ gT := gm (tT_6 _ (List.mem_of_getElem? (i := 147) rfl)) rfl
theorem wf_X12_117 : Cond.fieldLink RX12 117 "SwapBookModel" "behind" "I" ∈ gT := gm (tT_6 _ (List.mem_of_getElem? (i := 148) rfl)) rfl
theorem wf_X12_145 : Cond.fieldLink RX12 145 "SwapBookModel" "number" "I" ∈ gT := gm (tT_6 _ (List.mem_of_getElem? (i := 149) rfl)) rfl
theorem wf_X12_139 : Cond.fieldLink RX12 139 "SwapBookModel" "letters" "I" ∈ gT := gm (tT_6 _ (List.mem_of_getElem? (i := 150) rfl)) rfl
theorem wf_X12_132 : Cond.fieldLink RX12 132 "SwapBookModel" "word" "J" ∈ gT := gm (tT_6 _ (List.mem_of_getElem? (i := 151) rfl)) rfl
theorem wf_X12_35 : Cond.fieldLink RX12 35 "SwapBookModel" "c" "[I" ∈ gT := gm (tT_6 _ (List.mem_of_getElem? (i := 152) rfl)) rfl
theorem wf_X12_38 : Cond.fieldLink RX12 38 "SwapBookModel" "words" "[J" ∈ gT := gm (tT_6 _ (List.mem_of_getElem? (i := 153) rfl)) rfl
theorem wf_X12_504 : Cond.fieldLink RX12 504 "SwapBookModel" "markMany" "I" ∈ gT := gm (tT_6 _ (List.mem_of_getElem? (i := 154) rfl)) rfl
theorem wf_X12_41 : Cond.fieldLink RX12 41 "SwapBookModel" "list" "[I" ∈ gT := gm (tT_6 _ (List.mem_of_getElem? (i := 155) rfl)) rfl
theorem wf_X12_44 : Cond.fieldLink RX12 44 "SwapBookModel" "listB" "[I" ∈ gT := gm (tT_6 _ (List.mem_of_getElem? (i := 156) rfl)) rfl
theorem wf_X12_356 : Cond.fieldLink RX12 356 "SwapBookModel" "listMany" "I" ∈ gT := gm (tT_6 _ (List.mem_of_getElem? (i := 157) rfl)) rfl
theorem wf_X12_368 : Cond.fieldLink RX12 368 "SwapBookModel" "listManyB" "I" ∈ gT := gm (tT_6 _ (List.mem_of_getElem? (i := 158) rfl)) rfl
theorem wf_X12_48 : Cond.fieldLink RX12 48 "SwapBookModel" "waysOf" "[J" ∈ gT := gm (tT_6 _ (List.mem_of_getElem? (i := 159) rfl)) rfl
theorem wf_X12_51 : Cond.fieldLink RX12 51 "SwapBookModel" "needed" "[I" ∈ gT := gm (tT_6 _ (List.mem_of_getElem? (i := 160) rfl)) rfl
theorem wf_X12_54 : Cond.fieldLink RX12 54 "SwapBookModel" "cargoTo" "[I" ∈ gT := gm (tT_6 _ (List.mem_of_getElem? (i := 161) rfl)) rfl
theorem wf_X12_57 : Cond.fieldLink RX12 57 "SwapBookModel" "cargoSet" "[I" ∈ gT := gm (tT_6 _ (List.mem_of_getElem? (i := 162) rfl)) rfl
theorem wf_X12_60 : Cond.fieldLink RX12 60 "SwapBookModel" "cargoDay" "[I" ∈ gT := gm (tT_6 _ (List.mem_of_getElem? (i := 163) rfl)) rfl
theorem wf_X12_63 : Cond.fieldLink RX12 63 "SwapBookModel" "cargoShip" "[I" ∈ gT := gm (tT_6 _ (List.mem_of_getElem? (i := 164) rfl)) rfl
theorem wf_X12_66 : Cond.fieldLink RX12 66 "SwapBookModel" "sailedLast" "[I" ∈ gT := gm (tT_6 _ (List.mem_of_getElem? (i := 165) rfl)) rfl
theorem wf_X12_69 : Cond.fieldLink RX12 69 "SwapBookModel" "kept" "[I" ∈ gT := gm (tT_6 _ (List.mem_of_getElem? (i := 166) rfl)) rfl
theorem wf_X12_431 : Cond.fieldLink RX12 431 "SwapBookModel" "cargoMany" "I" ∈ gT := gm (tT_6 _ (List.mem_of_getElem? (i := 167) rfl)) rfl
theorem wf_X12_437 : Cond.fieldLink RX12 437 "SwapBookModel" "ships" "I" ∈ gT := gm (tT_6 _ (List.mem_of_getElem? (i := 168) rfl)) rfl
theorem wf_X12_425 : Cond.fieldLink RX12 425 "SwapBookModel" "random" "I" ∈ gT := gm (tT_6 _ (List.mem_of_getElem? (i := 169) rfl)) rfl
theorem wf_X12_458 : Cond.fieldLink RX12 458 "SwapBookModel" "done" "I" ∈ gT := gm (tT_6 _ (List.mem_of_getElem? (i := 170) rfl)) rfl
theorem wf_X12_443 : Cond.fieldLink RX12 443 "SwapBookModel" "day" "I" ∈ gT := gm (tT_6 _ (List.mem_of_getElem? (i := 171) rfl)) rfl
theorem wf_X12_434 : Cond.fieldLink RX12 434 "SwapBookModel" "missed" "I" ∈ gT := gm (tT_6 _ (List.mem_of_getElem? (i := 172) rfl)) rfl
theorem wf_X12_428 : Cond.fieldLink RX12 428 "SwapBookModel" "came" "I" ∈ gT := gm (tT_6 _ (List.mem_of_getElem? (i := 173) rfl)) rfl
theorem wf_X12_452 : Cond.fieldLink RX12 452 "SwapBookModel" "lost" "I" ∈ gT := gm (tT_6 _ (List.mem_of_getElem? (i := 174) rfl)) rfl
theorem wf_X12_491 : Cond.fieldLink RX12 491 "SwapBookModel" "hasSailed" "Z" ∈ gT := gm (tT_6 _ (List.mem_of_getElem? (i := 175) rfl)) rfl
theorem wf_X12_461 : Cond.fieldLink RX12 461 "SwapBookModel" "isOver" "Z" ∈ gT := gm (tT_6 _ (List.mem_of_getElem? (i := 176) rfl)) rfl
theorem wf_X12_72 : Cond.fieldLink RX12 72 "SwapBookModel" "first" "[I" ∈ gT := gm (tT_6 _ (List.mem_of_getElem? (i := 177) rfl)) rfl
theorem wf_X12_416 : Cond.fieldLink RX12 416 "SwapBookModel" "newSteps" "I" ∈ gT := gm (tT_6 _ (List.mem_of_getElem? (i := 178) rfl)) rfl
theorem wy_X12_status : Cond.lays RX12 "SwapBookModel" "status" "I" ∈ gT := gm (tT_6 _ (List.mem_of_getElem? (i := 179) rfl)) rfl
theorem wy_X12_thrown : Cond.lays RX12 "SwapBookModel" "thrown" "I" ∈ gT := gm (tT_6 _ (List.mem_of_getElem? (i := 181) rfl)) rfl
theorem wy_X12_above : Cond.lays RX12 "SwapBookModel" "above" "J" ∈ gT := gm (tT_6 _ (List.mem_of_getElem? (i := 183) rfl)) rfl
theorem wy_X12_under : Cond.lays RX12 "SwapBookModel" "under" "J" ∈ gT := gm (tT_6 _ (List.mem_of_getElem? (i := 185) rfl)) rfl
theorem wy_X12_traySort : Cond.laysFinal RX12 "SwapBookModel" "traySort" "[I" ∈ gT := gm (tT_6 _ (List.mem_of_getElem? (i := 187) rfl)) rfl
theorem wy_X12_trayMany : Cond.laysFinal RX12 "SwapBookModel" "trayMany" "[I" ∈ gT := gm (tT_6 _ (List.mem_of_getElem? (i := 189) rfl)) rfl
theorem wy_X12_numbers : Cond.laysFinal RX12 "SwapBookModel" "numbers" "[J" ∈ gT := gm (tT_6 _ (List.mem_of_getElem? (i := 191) rfl)) rfl
theorem wy_X12_tape : Cond.laysFinal RX12 "SwapBookModel" "tape" "[B" ∈ gT := gm (tT_6 _ (List.mem_of_getElem? (i := 193) rfl)) rfl
theorem wy_X12_taped : Cond.lays RX12 "SwapBookModel" "taped" "I" ∈ gT := gm (tT_6 _ (List.mem_of_getElem? (i := 195) rfl)) rfl
theorem wy_X12_textEnd : Cond.lays RX12 "SwapBookModel" "textEnd" "I" ∈ gT := gm (tT_6 _ (List.mem_of_getElem? (i := 197) rfl)) rfl
theorem wy_X12_faultKind : Cond.lays RX12 "SwapBookModel" "faultKind" "I" ∈ gT := gm (tT_6 _ (List.mem_of_getElem? (i := 199) rfl)) rfl
theorem wy_X12_faultAt : Cond.lays RX12 "SwapBookModel" "faultAt" "I" ∈ gT := gm (tT_6 _ (List.mem_of_getElem? (i := 201) rfl)) rfl
theorem wy_X12_bad : Cond.lays RX12 "SwapBookModel" "bad" "I" ∈ gT := gm (tT_6 _ (List.mem_of_getElem? (i := 203) rfl)) rfl
theorem wy_X12_badAt : Cond.lays RX12 "SwapBookModel" "badAt" "I" ∈ gT := gm (tT_6 _ (List.mem_of_getElem? (i := 205) rfl)) rfl
theorem wy_X12_token : Cond.lays RX12 "SwapBookModel" "token" "I" ∈ gT := gm (tT_6 _ (List.mem_of_getElem? (i := 207) rfl)) rfl
theorem wy_X12_at : Cond.lays RX12 "SwapBookModel" "at" "I" ∈ gT := gm (tT_6 _ (List.mem_of_getElem? (i := 209) rfl)) rfl
theorem wy_X12_behind : Cond.lays RX12 "SwapBookModel" "behind" "I" ∈ gT := gm (tT_6 _ (List.mem_of_getElem? (i := 211) rfl)) rfl
theorem wy_X12_number : Cond.lays RX12 "SwapBookModel" "number" "I" ∈ gT := gm (tT_6 _ (List.mem_of_getElem? (i := 213) rfl)) rfl
theorem wy_X12_letters : Cond.lays RX12 "SwapBookModel" "letters" "I" ∈ gT := gm (tT_6 _ (List.mem_of_getElem? (i := 215) rfl)) rfl
theorem wy_X12_word : Cond.lays RX12 "SwapBookModel" "word" "J" ∈ gT := gm (tT_6 _ (List.mem_of_getElem? (i := 217) rfl)) rfl
theorem wy_X12_c : Cond.laysFinal RX12 "SwapBookModel" "c" "[I" ∈ gT := gm (tT_6 _ (List.mem_of_getElem? (i := 219) rfl)) rfl
theorem wy_X12_words : Cond.laysFinal RX12 "SwapBookModel" "words" "[J" ∈ gT := gm (tT_6 _ (List.mem_of_getElem? (i := 221) rfl)) rfl
theorem wy_X12_markMany : Cond.lays RX12 "SwapBookModel" "markMany" "I" ∈ gT := gm (tT_6 _ (List.mem_of_getElem? (i := 223) rfl)) rfl
theorem wy_X12_list : Cond.laysFinal RX12 "SwapBookModel" "list" "[I" ∈ gT := gm (tT_6 _ (List.mem_of_getElem? (i := 225) rfl)) rfl
theorem wy_X12_listB : Cond.laysFinal RX12 "SwapBookModel" "listB" "[I" ∈ gT := gm (tT_6 _ (List.mem_of_getElem? (i := 227) rfl)) rfl
theorem wy_X12_listMany : Cond.lays RX12 "SwapBookModel" "listMany" "I" ∈ gT := gm (tT_6 _ (List.mem_of_getElem? (i := 229) rfl)) rfl
theorem wy_X12_listManyB : Cond.lays RX12 "SwapBookModel" "listManyB" "I" ∈ gT := gm (tT_6 _ (List.mem_of_getElem? (i := 231) rfl)) rfl
theorem wy_X12_waysOf : Cond.laysFinal RX12 "SwapBookModel" "waysOf" "[J" ∈ gT := gm (tT_6 _ (List.mem_of_getElem? (i := 233) rfl)) rfl
theorem wy_X12_needed : Cond.laysFinal RX12 "SwapBookModel" "needed" "[I" ∈ gT := gm (tT_6 _ (List.mem_of_getElem? (i := 235) rfl)) rfl
theorem wy_X12_cargoTo : Cond.laysFinal RX12 "SwapBookModel" "cargoTo" "[I" ∈ gT := gm (tT_6 _ (List.mem_of_getElem? (i := 237) rfl)) rfl
theorem wy_X12_cargoSet : Cond.laysFinal RX12 "SwapBookModel" "cargoSet" "[I" ∈ gT := gm (tT_6 _ (List.mem_of_getElem? (i := 239) rfl)) rfl
theorem wy_X12_cargoDay : Cond.laysFinal RX12 "SwapBookModel" "cargoDay" "[I" ∈ gT := gm (tT_7 _ (List.mem_of_getElem? (i := 1) rfl)) rfl
theorem wy_X12_cargoShip : Cond.laysFinal RX12 "SwapBookModel" "cargoShip" "[I" ∈ gT := gm (tT_7 _ (List.mem_of_getElem? (i := 3) rfl)) rfl
theorem wy_X12_sailedLast : Cond.laysFinal RX12 "SwapBookModel" "sailedLast" "[I" ∈ gT := gm (tT_7 _ (List.mem_of_getElem? (i := 5) rfl)) rfl
theorem wy_X12_kept : Cond.laysFinal RX12 "SwapBookModel" "kept" "[I" ∈ gT := gm (tT_7 _ (List.mem_of_getElem? (i := 7) rfl)) rfl
theorem wy_X12_cargoMany : Cond.lays RX12 "SwapBookModel" "cargoMany" "I" ∈ gT := gm (tT_7 _ (List.mem_of_getElem? (i := 9) rfl)) rfl
theorem wy_X12_ships : Cond.lays RX12 "SwapBookModel" "ships" "I" ∈ gT := gm (tT_7 _ (List.mem_of_getElem? (i := 11) rfl)) rfl
theorem wy_X12_random : Cond.lays RX12 "SwapBookModel" "random" "I" ∈ gT := gm (tT_7 _ (List.mem_of_getElem? (i := 13) rfl)) rfl
theorem wy_X12_done : Cond.lays RX12 "SwapBookModel" "done" "I" ∈ gT := gm (tT_7 _ (List.mem_of_getElem? (i := 15) rfl)) rfl
theorem wy_X12_day : Cond.lays RX12 "SwapBookModel" "day" "I" ∈ gT := gm (tT_7 _ (List.mem_of_getElem? (i := 17) rfl)) rfl
theorem wy_X12_missed : Cond.lays RX12 "SwapBookModel" "missed" "I" ∈ gT := gm (tT_7 _ (List.mem_of_getElem? (i := 19) rfl)) rfl
theorem wy_X12_came : Cond.lays RX12 "SwapBookModel" "came" "I" ∈ gT := gm (tT_7 _ (List.mem_of_getElem? (i := 21) rfl)) rfl
theorem wy_X12_lost : Cond.lays RX12 "SwapBookModel" "lost" "I" ∈ gT := gm (tT_7 _ (List.mem_of_getElem? (i := 23) rfl)) rfl
theorem wy_X12_hasSailed : Cond.lays RX12 "SwapBookModel" "hasSailed" "Z" ∈ gT := gm (tT_7 _ (List.mem_of_getElem? (i := 25) rfl)) rfl
theorem wy_X12_isOver : Cond.lays RX12 "SwapBookModel" "isOver" "Z" ∈ gT := gm (tT_7 _ (List.mem_of_getElem? (i := 27) rfl)) rfl
theorem wy_X12_first : Cond.laysFinal RX12 "SwapBookModel" "first" "[I" ∈ gT := gm (tT_7 _ (List.mem_of_getElem? (i := 29) rfl)) rfl
theorem wy_X12_newSteps : Cond.lays RX12 "SwapBookModel" "newSteps" "I" ∈ gT := gm (tT_7 _ (List.mem_of_getElem? (i := 31) rfl)) rfl
theorem wm_L_17 : Cond.methodLink RL 17 yX12_status ∈ gT := gm (tT_7 _ (List.mem_of_getElem? (i := 34) rfl)) rfl
theorem wi_X12_status : Cond.instanceMethod yX12_status ∈ gT := gm (tT_7 _ (List.mem_of_getElem? (i := 35) rfl)) rfl
theorem wl_X12_status : Cond.selects RX12 yX12_status yX12_status ∈ gT := gm (tT_7 _ (List.mem_of_getElem? (i := 36) rfl)) rfl
theorem wc_X12_status : Cond.code yX12_status cX12_status 1 (some .int) ∈ gT := gm (tT_7 _ (List.mem_of_getElem? (i := 37) rfl)) rfl
theorem wm_L_22 : Cond.methodLink RL 22 yX12_top ∈ gT := gm (tT_7 _ (List.mem_of_getElem? (i := 38) rfl)) rfl
theorem wi_X12_top : Cond.instanceMethod yX12_top ∈ gT := gm (tT_7 _ (List.mem_of_getElem? (i := 39) rfl)) rfl
theorem wl_X12_top : Cond.selects RX12 yX12_top yX12_top ∈ gT := gm (tT_7 _ (List.mem_of_getElem? (i := 40) rfl)) rfl
theorem wc_X12_top : Cond.code yX12_top cX12_top 1 (some .long) ∈ gT := gm (tT_7 _ (List.mem_of_getElem? (i := 41) rfl)) rfl
theorem wm_L_26 : Cond.methodLink RL 26 yX12_bottom ∈ gT := gm (tT_7 _ (List.mem_of_getElem? (i := 42) rfl)) rfl
theorem wi_X12_bottom : Cond.instanceMethod yX12_bottom ∈ gT := gm (tT_7 _ (List.mem_of_getElem? (i := 43) rfl)) rfl
theorem wl_X12_bottom : Cond.selects RX12 yX12_bottom yX12_bottom ∈ gT := gm (tT_7 _ (List.mem_of_getElem? (i := 44) rfl)) rfl
theorem wc_X12_bottom : Cond.code yX12_bottom cX12_bottom 1 (some .long) ∈ gT := gm (tT_7 _ (List.mem_of_getElem? (i := 45) rfl)) rfl
theorem wm_L_31 : Cond.methodLink RL 31 yX12_tray ∈ gT := gm (tT_7 _ (List.mem_of_getElem? (i := 46) rfl)) rfl
theorem wi_X12_tray : Cond.instanceMethod yX12_tray ∈ gT := gm (tT_7 _ (List.mem_of_getElem? (i := 47) rfl)) rfl
theorem wl_X12_tray : Cond.selects RX12 yX12_tray yX12_tray ∈ gT := gm (tT_7 _ (List.mem_of_getElem? (i := 48) rfl)) rfl
theorem wc_X12_tray : Cond.code yX12_tray cX12_tray 5 (some .boolean) ∈ gT := gm (tT_7 _ (List.mem_of_getElem? (i := 49) rfl)) rfl
theorem wm_X12_90 : Cond.methodLink RX12 90 yX12_no ∈ gT := gm (tT_7 _ (List.mem_of_getElem? (i := 50) rfl)) rfl
theorem wi_X12_no : Cond.instanceMethod yX12_no ∈ gT := gm (tT_7 _ (List.mem_of_getElem? (i := 52) rfl)) rfl
theorem wc_X12_no : Cond.code yX12_no cX12_no 2 (some .boolean) ∈ gT := gm (tT_7 _ (List.mem_of_getElem? (i := 53) rfl)) rfl
theorem wm_L_38 : Cond.methodLink RL 38 yX12_write ∈ gT := gm (tT_7 _ (List.mem_of_getElem? (i := 54) rfl)) rfl
theorem wi_X12_write : Cond.instanceMethod yX12_write ∈ gT := gm (tT_7 _ (List.mem_of_getElem? (i := 55) rfl)) rfl
theorem wl_X12_write : Cond.selects RX12 yX12_write yX12_write ∈ gT := gm (tT_7 _ (List.mem_of_getElem? (i := 56) rfl)) rfl
theorem wc_X12_write : Cond.code yX12_write cX12_write 5 (some .boolean) ∈ gT := gm (tT_7 _ (List.mem_of_getElem? (i := 57) rfl)) rfl
theorem wm_X12_98 : Cond.methodLink RX12 98 yX12_placed ∈ gT := gm (tT_7 _ (List.mem_of_getElem? (i := 58) rfl)) rfl
theorem wi_X12_placed : Cond.instanceMethod yX12_placed ∈ gT := gm (tT_7 _ (List.mem_of_getElem? (i := 60) rfl)) rfl
theorem wc_X12_placed : Cond.code yX12_placed cX12_placed 4 (some .int) ∈ gT := gm (tT_7 _ (List.mem_of_getElem? (i := 61) rfl)) rfl
theorem wm_X12_94 : Cond.methodLink RX12 94 yX12_trayed ∈ gT := gm (tT_7 _ (List.mem_of_getElem? (i := 62) rfl)) rfl
theorem wi_X12_trayed : Cond.instanceMethod yX12_trayed ∈ gT := gm (tT_7 _ (List.mem_of_getElem? (i := 64) rfl)) rfl
theorem wc_X12_trayed : Cond.code yX12_trayed cX12_trayed 2 (some .int) ∈ gT := gm (tT_7 _ (List.mem_of_getElem? (i := 65) rfl)) rfl
theorem wm_X12_102 : Cond.methodLink RX12 102 yX12_cut ∈ gT := gm (tT_7 _ (List.mem_of_getElem? (i := 66) rfl)) rfl
theorem wt_X12_cut : Cond.static yX12_cut ∈ gT := gm (tT_7 _ (List.mem_of_getElem? (i := 67) rfl)) rfl
theorem wc_X12_cut : Cond.code yX12_cut cX12_cut 3 (some .long) ∈ gT := gm (tT_7 _ (List.mem_of_getElem? (i := 68) rfl)) rfl
theorem wm_L_43 : Cond.methodLink RL 43 yX12_read ∈ gT := gm (tT_7 _ (List.mem_of_getElem? (i := 69) rfl)) rfl
theorem wi_X12_read : Cond.instanceMethod yX12_read ∈ gT := gm (tT_7 _ (List.mem_of_getElem? (i := 70) rfl)) rfl
theorem wl_X12_read : Cond.selects RX12 yX12_read yX12_read ∈ gT := gm (tT_7 _ (List.mem_of_getElem? (i := 71) rfl)) rfl
theorem wc_X12_read : Cond.code yX12_read cX12_read 3 (some .long) ∈ gT := gm (tT_7 _ (List.mem_of_getElem? (i := 72) rfl)) rfl
theorem wk_X12_106 : Cond.constantLong RX12 106 (-1) ∈ gT := gm (tT_7 _ (List.mem_of_getElem? (i := 73) rfl)) rfl
theorem wm_L_48 : Cond.methodLink RL 48 yX12_pour ∈ gT := gm (tT_7 _ (List.mem_of_getElem? (i := 74) rfl)) rfl
theorem wi_X12_pour : Cond.instanceMethod yX12_pour ∈ gT := gm (tT_7 _ (List.mem_of_getElem? (i := 75) rfl)) rfl
theorem wl_X12_pour : Cond.selects RX12 yX12_pour yX12_pour ∈ gT := gm (tT_7 _ (List.mem_of_getElem? (i := 76) rfl)) rfl
theorem wc_X12_pour : Cond.code yX12_pour cX12_pour 9 (some .boolean) ∈ gT := gm (tT_7 _ (List.mem_of_getElem? (i := 77) rfl)) rfl
theorem wm_L_53 : Cond.methodLink RL 53 yX12_feed ∈ gT := gm (tT_7 _ (List.mem_of_getElem? (i := 78) rfl)) rfl
theorem wi_X12_feed : Cond.instanceMethod yX12_feed ∈ gT := gm (tT_7 _ (List.mem_of_getElem? (i := 79) rfl)) rfl
theorem wl_X12_feed : Cond.selects RX12 yX12_feed yX12_feed ∈ gT := gm (tT_7 _ (List.mem_of_getElem? (i := 80) rfl)) rfl
theorem wc_X12_feed : Cond.code yX12_feed cX12_feed 6 (some .int) ∈ gT := gm (tT_7 _ (List.mem_of_getElem? (i := 81) rfl)) rfl
theorem wm_X12_228 : Cond.methodLink RX12 228 yX12_lay ∈ gT := gm (tT_7 _ (List.mem_of_getElem? (i := 82) rfl)) rfl
theorem wi_X12_lay : Cond.instanceMethod yX12_lay ∈ gT := gm (tT_7 _ (List.mem_of_getElem? (i := 84) rfl)) rfl
theorem wc_X12_lay : Cond.code yX12_lay cX12_lay 3 none ∈ gT := gm (tT_7 _ (List.mem_of_getElem? (i := 85) rfl)) rfl
theorem wm_L_66 : Cond.methodLink RL 66 yX12_fault ∈ gT := gm (tT_7 _ (List.mem_of_getElem? (i := 86) rfl)) rfl
theorem wi_X12_fault : Cond.instanceMethod yX12_fault ∈ gT := gm (tT_7 _ (List.mem_of_getElem? (i := 87) rfl)) rfl
theorem wl_X12_fault : Cond.selects RX12 yX12_fault yX12_fault ∈ gT := gm (tT_7 _ (List.mem_of_getElem? (i := 88) rfl)) rfl
theorem wc_X12_fault : Cond.code yX12_fault cX12_fault 2 (some .int) ∈ gT := gm (tT_7 _ (List.mem_of_getElem? (i := 89) rfl)) rfl
theorem wm_L_58 : Cond.methodLink RL 58 yX12_book ∈ gT := gm (tT_7 _ (List.mem_of_getElem? (i := 90) rfl)) rfl
theorem wi_X12_book : Cond.instanceMethod yX12_book ∈ gT := gm (tT_7 _ (List.mem_of_getElem? (i := 91) rfl)) rfl
theorem wl_X12_book : Cond.selects RX12 yX12_book yX12_book ∈ gT := gm (tT_7 _ (List.mem_of_getElem? (i := 92) rfl)) rfl
theorem wc_X12_book : Cond.code yX12_book cX12_book 3 (some .int) ∈ gT := gm (tT_7 _ (List.mem_of_getElem? (i := 93) rfl)) rfl
theorem wm_X12_284 : Cond.methodLink RX12 284 yX12_opens ∈ gT := gm (tT_7 _ (List.mem_of_getElem? (i := 94) rfl)) rfl
theorem wi_X12_opens : Cond.instanceMethod yX12_opens ∈ gT := gm (tT_7 _ (List.mem_of_getElem? (i := 96) rfl)) rfl
theorem wc_X12_opens : Cond.code yX12_opens cX12_opens 3 (some .boolean) ∈ gT := gm (tT_7 _ (List.mem_of_getElem? (i := 97) rfl)) rfl
theorem wm_X12_219 : Cond.methodLink RX12 219 yX12_next ∈ gT := gm (tT_7 _ (List.mem_of_getElem? (i := 98) rfl)) rfl
theorem wi_X12_next : Cond.instanceMethod yX12_next ∈ gT := gm (tT_7 _ (List.mem_of_getElem? (i := 100) rfl)) rfl
theorem wc_X12_next : Cond.code yX12_next cX12_next 2 none ∈ gT := gm (tT_7 _ (List.mem_of_getElem? (i := 101) rfl)) rfl
theorem wm_X12_123 : Cond.methodLink RX12 123 yX12_look2 ∈ gT := gm (tT_7 _ (List.mem_of_getElem? (i := 102) rfl)) rfl
theorem wi_X12_look2 : Cond.instanceMethod yX12_look2 ∈ gT := gm (tT_7 _ (List.mem_of_getElem? (i := 104) rfl)) rfl
theorem wc_X12_look2 : Cond.code yX12_look2 cX12_look2 2 (some .int) ∈ gT := gm (tT_7 _ (List.mem_of_getElem? (i := 105) rfl)) rfl
theorem wm_X12_129 : Cond.methodLink RX12 129 yX12_isLetter ∈ gT := gm (tT_7 _ (List.mem_of_getElem? (i := 106) rfl)) rfl
theorem wt_X12_isLetter : Cond.static yX12_isLetter ∈ gT := gm (tT_7 _ (List.mem_of_getElem? (i := 107) rfl)) rfl
theorem wc_X12_isLetter : Cond.code yX12_isLetter cX12_isLetter 1 (some .boolean) ∈ gT := gm (tT_7 _ (List.mem_of_getElem? (i := 108) rfl)) rfl
theorem wk_X12_135 : Cond.constantLong RX12 135 (32) ∈ gT := gm (tT_7 _ (List.mem_of_getElem? (i := 109) rfl)) rfl
theorem wk_X12_137 : Cond.constantLong RX12 137 (96) ∈ gT := gm (tT_7 _ (List.mem_of_getElem? (i := 110) rfl)) rfl
theorem wm_X12_142 : Cond.methodLink RX12 142 yX12_isDigit ∈ gT := gm (tT_7 _ (List.mem_of_getElem? (i := 111) rfl)) rfl
theorem wt_X12_isDigit : Cond.static yX12_isDigit ∈ gT := gm (tT_7 _ (List.mem_of_getElem? (i := 112) rfl)) rfl
theorem wc_X12_isDigit : Cond.code yX12_isDigit cX12_isDigit 1 (some .boolean) ∈ gT := gm (tT_7 _ (List.mem_of_getElem? (i := 113) rfl)) rfl
theorem wm_X12_156 : Cond.methodLink RX12 156 yX12_isIslandWord ∈ gT := gm (tT_7 _ (List.mem_of_getElem? (i := 114) rfl)) rfl
theorem wi_X12_isIslandWord : Cond.instanceMethod yX12_isIslandWord ∈ gT := gm (tT_7 _ (List.mem_of_getElem? (i := 116) rfl)) rfl
theorem wc_X12_isIslandWord : Cond.code yX12_isIslandWord cX12_isIslandWord 1 (some .boolean) ∈ gT := gm (tT_7 _ (List.mem_of_getElem? (i := 117) rfl)) rfl
theorem wm_X12_148 : Cond.methodLink RX12 148 yX12_spelled ∈ gT := gm (tT_7 _ (List.mem_of_getElem? (i := 118) rfl)) rfl
theorem wt_X12_spelled : Cond.static yX12_spelled ∈ gT := gm (tT_7 _ (List.mem_of_getElem? (i := 119) rfl)) rfl
theorem wc_X12_spelled : Cond.code yX12_spelled cX12_spelled 8 (some .long) ∈ gT := gm (tT_7 _ (List.mem_of_getElem? (i := 120) rfl)) rfl
theorem wm_X12_152 : Cond.methodLink RX12 152 yX12_isWord ∈ gT := gm (tT_7 _ (List.mem_of_getElem? (i := 121) rfl)) rfl
theorem wi_X12_isWord : Cond.instanceMethod yX12_isWord ∈ gT := gm (tT_7 _ (List.mem_of_getElem? (i := 123) rfl)) rfl
theorem wc_X12_isWord : Cond.code yX12_isWord cX12_isWord 3 (some .boolean) ∈ gT := gm (tT_7 _ (List.mem_of_getElem? (i := 124) rfl)) rfl
theorem wm_X12_287 : Cond.methodLink RX12 287 yX12_readIsland ∈ gT := gm (tT_7 _ (List.mem_of_getElem? (i := 125) rfl)) rfl
theorem wi_X12_readIsland : Cond.instanceMethod yX12_readIsland ∈ gT := gm (tT_7 _ (List.mem_of_getElem? (i := 127) rfl)) rfl
theorem wc_X12_readIsland : Cond.code yX12_readIsland cX12_readIsland 2 none ∈ gT := gm (tT_7 _ (List.mem_of_getElem? (i := 128) rfl)) rfl
theorem wm_X12_215 : Cond.methodLink RX12 215 yX12_fail ∈ gT := gm (tT_7 _ (List.mem_of_getElem? (i := 129) rfl)) rfl
theorem wi_X12_fail : Cond.instanceMethod yX12_fail ∈ gT := gm (tT_7 _ (List.mem_of_getElem? (i := 131) rfl)) rfl
theorem wc_X12_fail : Cond.code yX12_fail cX12_fail 3 none ∈ gT := gm (tT_7 _ (List.mem_of_getElem? (i := 132) rfl)) rfl
theorem wm_X12_275 : Cond.methodLink RX12 275 yX12_readNew ∈ gT := gm (tT_7 _ (List.mem_of_getElem? (i := 133) rfl)) rfl
theorem wi_X12_readNew : Cond.instanceMethod yX12_readNew ∈ gT := gm (tT_7 _ (List.mem_of_getElem? (i := 135) rfl)) rfl
theorem wc_X12_readNew : Cond.code yX12_readNew cX12_readNew 3 none ∈ gT := gm (tT_7 _ (List.mem_of_getElem? (i := 136) rfl)) rfl
theorem wm_X12_232 : Cond.methodLink RX12 232 yX12_isName ∈ gT := gm (tT_7 _ (List.mem_of_getElem? (i := 137) rfl)) rfl
theorem wi_X12_isName : Cond.instanceMethod yX12_isName ∈ gT := gm (tT_7 _ (List.mem_of_getElem? (i := 139) rfl)) rfl
theorem wc_X12_isName : Cond.code yX12_isName cX12_isName 1 (some .boolean) ∈ gT := gm (tT_7 _ (List.mem_of_getElem? (i := 140) rfl)) rfl
theorem wm_X12_206 : Cond.methodLink RX12 206 yX12_isKept ∈ gT := gm (tT_7 _ (List.mem_of_getElem? (i := 141) rfl)) rfl
theorem wi_X12_isKept : Cond.instanceMethod yX12_isKept ∈ gT := gm (tT_7 _ (List.mem_of_getElem? (i := 143) rfl)) rfl
theorem wc_X12_isKept : Cond.code yX12_isKept cX12_isKept 1 (some .boolean) ∈ gT := gm (tT_7 _ (List.mem_of_getElem? (i := 144) rfl)) rfl
theorem wm_X12_160 : Cond.methodLink RX12 160 yX12_kindWord ∈ gT := gm (tT_7 _ (List.mem_of_getElem? (i := 145) rfl)) rfl
theorem wi_X12_kindWord : Cond.instanceMethod yX12_kindWord ∈ gT := gm (tT_7 _ (List.mem_of_getElem? (i := 147) rfl)) rfl
theorem wc_X12_kindWord : Cond.code yX12_kindWord cX12_kindWord 1 (some .int) ∈ gT := gm (tT_7 _ (List.mem_of_getElem? (i := 148) rfl)) rfl
theorem wm_X12_164 : Cond.methodLink RX12 164 yX12_isKey ∈ gT := gm (tT_7 _ (List.mem_of_getElem? (i := 149) rfl)) rfl
theorem wi_X12_isKey : Cond.instanceMethod yX12_isKey ∈ gT := gm (tT_7 _ (List.mem_of_getElem? (i := 151) rfl)) rfl
theorem wc_X12_isKey : Cond.code yX12_isKey cX12_isKey 1 (some .boolean) ∈ gT := gm (tT_7 _ (List.mem_of_getElem? (i := 152) rfl)) rfl
theorem wm_X12_167 : Cond.methodLink RX12 167 yX12_isSays ∈ gT := gm (tT_7 _ (List.mem_of_getElem? (i := 153) rfl)) rfl
theorem wi_X12_isSays : Cond.instanceMethod yX12_isSays ∈ gT := gm (tT_7 _ (List.mem_of_getElem? (i := 155) rfl)) rfl
theorem wc_X12_isSays : Cond.code yX12_isSays cX12_isSays 1 (some .boolean) ∈ gT := gm (tT_7 _ (List.mem_of_getElem? (i := 156) rfl)) rfl
theorem wm_X12_170 : Cond.methodLink RX12 170 yX12_isOf ∈ gT := gm (tT_7 _ (List.mem_of_getElem? (i := 157) rfl)) rfl
theorem wi_X12_isOf : Cond.instanceMethod yX12_isOf ∈ gT := gm (tT_7 _ (List.mem_of_getElem? (i := 159) rfl)) rfl
theorem wc_X12_isOf : Cond.code yX12_isOf cX12_isOf 1 (some .boolean) ∈ gT := gm (tT_7 _ (List.mem_of_getElem? (i := 160) rfl)) rfl
theorem wm_X12_173 : Cond.methodLink RX12 173 yX12_isNot ∈ gT := gm (tT_7 _ (List.mem_of_getElem? (i := 161) rfl)) rfl
theorem wi_X12_isNot : Cond.instanceMethod yX12_isNot ∈ gT := gm (tT_7 _ (List.mem_of_getElem? (i := 163) rfl)) rfl
theorem wc_X12_isNot : Cond.code yX12_isNot cX12_isNot 1 (some .boolean) ∈ gT := gm (tT_7 _ (List.mem_of_getElem? (i := 164) rfl)) rfl
theorem wm_X12_176 : Cond.methodLink RX12 176 yX12_isAfter ∈ gT := gm (tT_7 _ (List.mem_of_getElem? (i := 165) rfl)) rfl
theorem wi_X12_isAfter : Cond.instanceMethod yX12_isAfter ∈ gT := gm (tT_7 _ (List.mem_of_getElem? (i := 167) rfl)) rfl
theorem wc_X12_isAfter : Cond.code yX12_isAfter cX12_isAfter 1 (some .boolean) ∈ gT := gm (tT_7 _ (List.mem_of_getElem? (i := 168) rfl)) rfl
theorem wm_X12_179 : Cond.methodLink RX12 179 yX12_stepWord ∈ gT := gm (tT_7 _ (List.mem_of_getElem? (i := 169) rfl)) rfl
theorem wi_X12_stepWord : Cond.instanceMethod yX12_stepWord ∈ gT := gm (tT_7 _ (List.mem_of_getElem? (i := 171) rfl)) rfl
theorem wc_X12_stepWord : Cond.code yX12_stepWord cX12_stepWord 1 (some .int) ∈ gT := gm (tT_7 _ (List.mem_of_getElem? (i := 172) rfl)) rfl
theorem wm_X12_182 : Cond.methodLink RX12 182 yX12_isAt ∈ gT := gm (tT_7 _ (List.mem_of_getElem? (i := 173) rfl)) rfl
theorem wi_X12_isAt : Cond.instanceMethod yX12_isAt ∈ gT := gm (tT_7 _ (List.mem_of_getElem? (i := 175) rfl)) rfl
theorem wc_X12_isAt : Cond.code yX12_isAt cX12_isAt 1 (some .boolean) ∈ gT := gm (tT_7 _ (List.mem_of_getElem? (i := 176) rfl)) rfl
theorem wm_X12_185 : Cond.methodLink RX12 185 yX12_isTo ∈ gT := gm (tT_7 _ (List.mem_of_getElem? (i := 177) rfl)) rfl
theorem wi_X12_isTo : Cond.instanceMethod yX12_isTo ∈ gT := gm (tT_7 _ (List.mem_of_getElem? (i := 179) rfl)) rfl
theorem wc_X12_isTo : Cond.code yX12_isTo cX12_isTo 1 (some .boolean) ∈ gT := gm (tT_7 _ (List.mem_of_getElem? (i := 180) rfl)) rfl
theorem wm_X12_188 : Cond.methodLink RX12 188 yX12_isLate ∈ gT := gm (tT_7 _ (List.mem_of_getElem? (i := 181) rfl)) rfl
theorem wi_X12_isLate : Cond.instanceMethod yX12_isLate ∈ gT := gm (tT_7 _ (List.mem_of_getElem? (i := 183) rfl)) rfl
theorem wc_X12_isLate : Cond.code yX12_isLate cX12_isLate 1 (some .boolean) ∈ gT := gm (tT_7 _ (List.mem_of_getElem? (i := 184) rfl)) rfl
theorem wm_X12_191 : Cond.methodLink RX12 191 yX12_isTwice ∈ gT := gm (tT_7 _ (List.mem_of_getElem? (i := 185) rfl)) rfl
theorem wi_X12_isTwice : Cond.instanceMethod yX12_isTwice ∈ gT := gm (tT_7 _ (List.mem_of_getElem? (i := 187) rfl)) rfl
theorem wc_X12_isTwice : Cond.code yX12_isTwice cX12_isTwice 1 (some .boolean) ∈ gT := gm (tT_7 _ (List.mem_of_getElem? (i := 188) rfl)) rfl
theorem wm_X12_194 : Cond.methodLink RX12 194 yX12_isHas ∈ gT := gm (tT_7 _ (List.mem_of_getElem? (i := 189) rfl)) rfl
theorem wi_X12_isHas : Cond.instanceMethod yX12_isHas ∈ gT := gm (tT_7 _ (List.mem_of_getElem? (i := 191) rfl)) rfl
theorem wc_X12_isHas : Cond.code yX12_isHas cX12_isHas 1 (some .boolean) ∈ gT := gm (tT_7 _ (List.mem_of_getElem? (i := 192) rfl)) rfl
theorem wm_X12_197 : Cond.methodLink RX12 197 yX12_isQuietWord ∈ gT := gm (tT_7 _ (List.mem_of_getElem? (i := 193) rfl)) rfl
theorem wi_X12_isQuietWord : Cond.instanceMethod yX12_isQuietWord ∈ gT := gm (tT_7 _ (List.mem_of_getElem? (i := 195) rfl)) rfl
theorem wc_X12_isQuietWord : Cond.code yX12_isQuietWord cX12_isQuietWord 1 (some .boolean) ∈ gT := gm (tT_7 _ (List.mem_of_getElem? (i := 196) rfl)) rfl
theorem wm_X12_200 : Cond.methodLink RX12 200 yX12_isDayWord ∈ gT := gm (tT_7 _ (List.mem_of_getElem? (i := 197) rfl)) rfl
theorem wi_X12_isDayWord : Cond.instanceMethod yX12_isDayWord ∈ gT := gm (tT_7 _ (List.mem_of_getElem? (i := 199) rfl)) rfl
theorem wc_X12_isDayWord : Cond.code yX12_isDayWord cX12_isDayWord 1 (some .boolean) ∈ gT := gm (tT_7 _ (List.mem_of_getElem? (i := 200) rfl)) rfl
theorem wm_X12_203 : Cond.methodLink RX12 203 yX12_isEnd ∈ gT := gm (tT_7 _ (List.mem_of_getElem? (i := 201) rfl)) rfl
theorem wi_X12_isEnd : Cond.instanceMethod yX12_isEnd ∈ gT := gm (tT_7 _ (List.mem_of_getElem? (i := 203) rfl)) rfl
theorem wc_X12_isEnd : Cond.code yX12_isEnd cX12_isEnd 1 (some .boolean) ∈ gT := gm (tT_7 _ (List.mem_of_getElem? (i := 204) rfl)) rfl
theorem wm_X12_222 : Cond.methodLink RX12 222 yX12_wrong ∈ gT := gm (tT_7 _ (List.mem_of_getElem? (i := 205) rfl)) rfl
theorem wi_X12_wrong : Cond.instanceMethod yX12_wrong ∈ gT := gm (tT_7 _ (List.mem_of_getElem? (i := 207) rfl)) rfl
theorem wc_X12_wrong : Cond.code yX12_wrong cX12_wrong 1 none ∈ gT := gm (tT_7 _ (List.mem_of_getElem? (i := 208) rfl)) rfl
theorem wm_X12_235 : Cond.methodLink RX12 235 yX12_named ∈ gT := gm (tT_7 _ (List.mem_of_getElem? (i := 209) rfl)) rfl
theorem wi_X12_named : Cond.instanceMethod yX12_named ∈ gT := gm (tT_7 _ (List.mem_of_getElem? (i := 211) rfl)) rfl
theorem wc_X12_named : Cond.code yX12_named cX12_named 5 (some .int) ∈ gT := gm (tT_7 _ (List.mem_of_getElem? (i := 212) rfl)) rfl
theorem wm_X12_290 : Cond.methodLink RX12 290 yX12_readChange ∈ gT := gm (tT_7 _ (List.mem_of_getElem? (i := 213) rfl)) rfl
theorem wi_X12_readChange : Cond.instanceMethod yX12_readChange ∈ gT := gm (tT_7 _ (List.mem_of_getElem? (i := 215) rfl)) rfl
theorem wc_X12_readChange : Cond.code yX12_readChange cX12_readChange 6 none ∈ gT := gm (tT_7 _ (List.mem_of_getElem? (i := 216) rfl)) rfl
theorem wm_X12_278 : Cond.methodLink RX12 278 yX12_readWhat ∈ gT := gm (tT_7 _ (List.mem_of_getElem? (i := 217) rfl)) rfl
theorem wi_X12_readWhat : Cond.instanceMethod yX12_readWhat ∈ gT := gm (tT_7 _ (List.mem_of_getElem? (i := 219) rfl)) rfl
theorem wc_X12_readWhat : Cond.code yX12_readWhat cX12_readWhat 4 (some .int) ∈ gT := gm (tT_7 _ (List.mem_of_getElem? (i := 220) rfl)) rfl
theorem wm_X12_266 : Cond.methodLink RX12 266 yX12_readSettle ∈ gT := gm (tT_7 _ (List.mem_of_getElem? (i := 221) rfl)) rfl
theorem wi_X12_readSettle : Cond.instanceMethod yX12_readSettle ∈ gT := gm (tT_7 _ (List.mem_of_getElem? (i := 223) rfl)) rfl
theorem wc_X12_readSettle : Cond.code yX12_readSettle cX12_readSettle 4 (some .int) ∈ gT := gm (tT_7 _ (List.mem_of_getElem? (i := 224) rfl)) rfl
theorem wm_X12_252 : Cond.methodLink RX12 252 yX12_must ∈ gT := gm (tT_7 _ (List.mem_of_getElem? (i := 225) rfl)) rfl
theorem wi_X12_must : Cond.instanceMethod yX12_must ∈ gT := gm (tT_7 _ (List.mem_of_getElem? (i := 227) rfl)) rfl
theorem wc_X12_must : Cond.code yX12_must cX12_must 2 none ∈ gT := gm (tT_7 _ (List.mem_of_getElem? (i := 228) rfl)) rfl
theorem wm_X12_259 : Cond.methodLink RX12 259 yX12_readQuarreler ∈ gT := gm (tT_7 _ (List.mem_of_getElem? (i := 229) rfl)) rfl
theorem wi_X12_readQuarreler : Cond.instanceMethod yX12_readQuarreler ∈ gT := gm (tT_7 _ (List.mem_of_getElem? (i := 231) rfl)) rfl
theorem wc_X12_readQuarreler : Cond.code yX12_readQuarreler cX12_readQuarreler 2 (some .int) ∈ gT := gm (tT_7 _ (List.mem_of_getElem? (i := 232) rfl)) rfl
theorem wm_X12_256 : Cond.methodLink RX12 256 yX12_readTold ∈ gT := gm (tT_7 _ (List.mem_of_getElem? (i := 233) rfl)) rfl
theorem wi_X12_readTold : Cond.instanceMethod yX12_readTold ∈ gT := gm (tT_7 _ (List.mem_of_getElem? (i := 235) rfl)) rfl
theorem wc_X12_readTold : Cond.code yX12_readTold cX12_readTold 2 (some .int) ∈ gT := gm (tT_7 _ (List.mem_of_getElem? (i := 236) rfl)) rfl
theorem wm_X12_239 : Cond.methodLink RX12 239 yX12_kind ∈ gT := gm (tT_7 _ (List.mem_of_getElem? (i := 237) rfl)) rfl
theorem wi_X12_kind : Cond.instanceMethod yX12_kind ∈ gT := gm (tT_7 _ (List.mem_of_getElem? (i := 239) rfl)) rfl
theorem wc_X12_kind : Cond.code yX12_kind cX12_kind 3 (some .int) ∈ gT := gm (tT_8 _ (List.mem_of_getElem? (i := 0) rfl)) rfl
theorem wm_X12_262 : Cond.methodLink RX12 262 yX12_wouldQuarrel ∈ gT := gm (tT_8 _ (List.mem_of_getElem? (i := 1) rfl)) rfl
theorem wi_X12_wouldQuarrel : Cond.instanceMethod yX12_wouldQuarrel ∈ gT := gm (tT_8 _ (List.mem_of_getElem? (i := 3) rfl)) rfl
theorem wc_X12_wouldQuarrel : Cond.code yX12_wouldQuarrel cX12_wouldQuarrel 4 (some .boolean) ∈ gT := gm (tT_8 _ (List.mem_of_getElem? (i := 4) rfl)) rfl
theorem wm_X12_242 : Cond.methodLink RX12 242 yX12_fight ∈ gT := gm (tT_8 _ (List.mem_of_getElem? (i := 5) rfl)) rfl
theorem wt_X12_fight : Cond.static yX12_fight ∈ gT := gm (tT_8 _ (List.mem_of_getElem? (i := 6) rfl)) rfl
theorem wc_X12_fight : Cond.code yX12_fight cX12_fight 2 (some .boolean) ∈ gT := gm (tT_8 _ (List.mem_of_getElem? (i := 7) rfl)) rfl
theorem wm_X12_246 : Cond.methodLink RX12 246 yX12_thingOf ∈ gT := gm (tT_8 _ (List.mem_of_getElem? (i := 8) rfl)) rfl
theorem wi_X12_thingOf : Cond.instanceMethod yX12_thingOf ∈ gT := gm (tT_8 _ (List.mem_of_getElem? (i := 10) rfl)) rfl
theorem wc_X12_thingOf : Cond.code yX12_thingOf cX12_thingOf 4 (some .int) ∈ gT := gm (tT_8 _ (List.mem_of_getElem? (i := 11) rfl)) rfl
theorem wm_X12_249 : Cond.methodLink RX12 249 yX12_hangsOn ∈ gT := gm (tT_8 _ (List.mem_of_getElem? (i := 12) rfl)) rfl
theorem wi_X12_hangsOn : Cond.instanceMethod yX12_hangsOn ∈ gT := gm (tT_8 _ (List.mem_of_getElem? (i := 14) rfl)) rfl
theorem wc_X12_hangsOn : Cond.code yX12_hangsOn cX12_hangsOn 3 (some .int) ∈ gT := gm (tT_8 _ (List.mem_of_getElem? (i := 15) rfl)) rfl
theorem wm_X12_269 : Cond.methodLink RX12 269 yX12_readOf ∈ gT := gm (tT_8 _ (List.mem_of_getElem? (i := 16) rfl)) rfl
theorem wi_X12_readOf : Cond.instanceMethod yX12_readOf ∈ gT := gm (tT_8 _ (List.mem_of_getElem? (i := 18) rfl)) rfl
theorem wc_X12_readOf : Cond.code yX12_readOf cX12_readOf 2 (some .int) ∈ gT := gm (tT_8 _ (List.mem_of_getElem? (i := 19) rfl)) rfl
theorem wm_X12_272 : Cond.methodLink RX12 272 yX12_count ∈ gT := gm (tT_8 _ (List.mem_of_getElem? (i := 20) rfl)) rfl
theorem wi_X12_count : Cond.instanceMethod yX12_count ∈ gT := gm (tT_8 _ (List.mem_of_getElem? (i := 22) rfl)) rfl
theorem wc_X12_count : Cond.code yX12_count cX12_count 4 (some .int) ∈ gT := gm (tT_8 _ (List.mem_of_getElem? (i := 23) rfl)) rfl
theorem wm_X12_110 : Cond.methodLink RX12 110 yX12_isIn ∈ gT := gm (tT_8 _ (List.mem_of_getElem? (i := 24) rfl)) rfl
theorem wt_X12_isIn : Cond.static yX12_isIn ∈ gT := gm (tT_8 _ (List.mem_of_getElem? (i := 25) rfl)) rfl
theorem wc_X12_isIn : Cond.code yX12_isIn cX12_isIn 6 (some .boolean) ∈ gT := gm (tT_8 _ (List.mem_of_getElem? (i := 26) rfl)) rfl
theorem wm_X12_281 : Cond.methodLink RX12 281 yX12_readAfter ∈ gT := gm (tT_8 _ (List.mem_of_getElem? (i := 27) rfl)) rfl
theorem wi_X12_readAfter : Cond.instanceMethod yX12_readAfter ∈ gT := gm (tT_8 _ (List.mem_of_getElem? (i := 29) rfl)) rfl
theorem wc_X12_readAfter : Cond.code yX12_readAfter cX12_readAfter 4 (some .int) ∈ gT := gm (tT_8 _ (List.mem_of_getElem? (i := 30) rfl)) rfl
theorem wm_X12_293 : Cond.methodLink RX12 293 yX12_isClose ∈ gT := gm (tT_8 _ (List.mem_of_getElem? (i := 31) rfl)) rfl
theorem wi_X12_isClose : Cond.instanceMethod yX12_isClose ∈ gT := gm (tT_8 _ (List.mem_of_getElem? (i := 33) rfl)) rfl
theorem wc_X12_isClose : Cond.code yX12_isClose cX12_isClose 1 (some .boolean) ∈ gT := gm (tT_8 _ (List.mem_of_getElem? (i := 34) rfl)) rfl
theorem wm_X12_296 : Cond.methodLink RX12 296 yX12_isWell ∈ gT := gm (tT_8 _ (List.mem_of_getElem? (i := 35) rfl)) rfl
theorem wi_X12_isWell : Cond.instanceMethod yX12_isWell ∈ gT := gm (tT_8 _ (List.mem_of_getElem? (i := 37) rfl)) rfl
theorem wc_X12_isWell : Cond.code yX12_isWell cX12_isWell 1 (some .boolean) ∈ gT := gm (tT_8 _ (List.mem_of_getElem? (i := 38) rfl)) rfl
theorem wm_L_70 : Cond.methodLink RL 70 yX12_many ∈ gT := gm (tT_8 _ (List.mem_of_getElem? (i := 39) rfl)) rfl
theorem wi_X12_many : Cond.instanceMethod yX12_many ∈ gT := gm (tT_8 _ (List.mem_of_getElem? (i := 40) rfl)) rfl
theorem wl_X12_many : Cond.selects RX12 yX12_many yX12_many ∈ gT := gm (tT_8 _ (List.mem_of_getElem? (i := 41) rfl)) rfl
theorem wc_X12_many : Cond.code yX12_many cX12_many 5 (some .int) ∈ gT := gm (tT_8 _ (List.mem_of_getElem? (i := 42) rfl)) rfl
theorem wk_X12_108 : Cond.constantLong RX12 108 (3) ∈ gT := gm (tT_8 _ (List.mem_of_getElem? (i := 43) rfl)) rfl
theorem wm_X12_299 : Cond.methodLink RX12 299 yX12_refuse ∈ gT := gm (tT_8 _ (List.mem_of_getElem? (i := 44) rfl)) rfl
theorem wi_X12_refuse : Cond.instanceMethod yX12_refuse ∈ gT := gm (tT_8 _ (List.mem_of_getElem? (i := 46) rfl)) rfl
theorem wc_X12_refuse : Cond.code yX12_refuse cX12_refuse 2 (some .int) ∈ gT := gm (tT_8 _ (List.mem_of_getElem? (i := 47) rfl)) rfl
theorem wm_L_75 : Cond.methodLink RL 75 yX12_change ∈ gT := gm (tT_8 _ (List.mem_of_getElem? (i := 48) rfl)) rfl
theorem wi_X12_change : Cond.instanceMethod yX12_change ∈ gT := gm (tT_8 _ (List.mem_of_getElem? (i := 49) rfl)) rfl
theorem wl_X12_change : Cond.selects RX12 yX12_change yX12_change ∈ gT := gm (tT_8 _ (List.mem_of_getElem? (i := 50) rfl)) rfl
theorem wc_X12_change : Cond.code yX12_change cX12_change 4 (some .int) ∈ gT := gm (tT_8 _ (List.mem_of_getElem? (i := 51) rfl)) rfl
theorem wm_X12_311 : Cond.methodLink RX12 311 yX12_isChange ∈ gT := gm (tT_8 _ (List.mem_of_getElem? (i := 52) rfl)) rfl
theorem wi_X12_isChange : Cond.instanceMethod yX12_isChange ∈ gT := gm (tT_8 _ (List.mem_of_getElem? (i := 54) rfl)) rfl
theorem wc_X12_isChange : Cond.code yX12_isChange cX12_isChange 2 (some .boolean) ∈ gT := gm (tT_8 _ (List.mem_of_getElem? (i := 55) rfl)) rfl
theorem wm_X12_305 : Cond.methodLink RX12 305 yX12_levelOf ∈ gT := gm (tT_8 _ (List.mem_of_getElem? (i := 56) rfl)) rfl
theorem wi_X12_levelOf : Cond.instanceMethod yX12_levelOf ∈ gT := gm (tT_8 _ (List.mem_of_getElem? (i := 58) rfl)) rfl
theorem wc_X12_levelOf : Cond.code yX12_levelOf cX12_levelOf 4 (some .int) ∈ gT := gm (tT_8 _ (List.mem_of_getElem? (i := 59) rfl)) rfl
theorem wm_X12_302 : Cond.methodLink RX12 302 yX12_hasIn ∈ gT := gm (tT_8 _ (List.mem_of_getElem? (i := 60) rfl)) rfl
theorem wt_X12_hasIn : Cond.static yX12_hasIn ∈ gT := gm (tT_8 _ (List.mem_of_getElem? (i := 61) rfl)) rfl
theorem wc_X12_hasIn : Cond.code yX12_hasIn cX12_hasIn 2 (some .boolean) ∈ gT := gm (tT_8 _ (List.mem_of_getElem? (i := 62) rfl)) rfl
theorem wm_X12_308 : Cond.methodLink RX12 308 yJ9_max_7cf53 ∈ gT := gm (tT_8 _ (List.mem_of_getElem? (i := 63) rfl)) rfl
theorem wm_L_79 : Cond.methodLink RL 79 yX12_hangs ∈ gT := gm (tT_8 _ (List.mem_of_getElem? (i := 64) rfl)) rfl
theorem wi_X12_hangs : Cond.instanceMethod yX12_hangs ∈ gT := gm (tT_8 _ (List.mem_of_getElem? (i := 65) rfl)) rfl
theorem wl_X12_hangs : Cond.selects RX12 yX12_hangs yX12_hangs ∈ gT := gm (tT_8 _ (List.mem_of_getElem? (i := 66) rfl)) rfl
theorem wc_X12_hangs : Cond.code yX12_hangs cX12_hangs 3 (some .int) ∈ gT := gm (tT_8 _ (List.mem_of_getElem? (i := 67) rfl)) rfl
theorem wk_X12_314 : Cond.constantLong RX12 314 (2) ∈ gT := gm (tT_8 _ (List.mem_of_getElem? (i := 68) rfl)) rfl
theorem wm_X12_316 : Cond.methodLink RX12 316 yX12_hangers ∈ gT := gm (tT_8 _ (List.mem_of_getElem? (i := 69) rfl)) rfl
theorem wi_X12_hangers : Cond.instanceMethod yX12_hangers ∈ gT := gm (tT_8 _ (List.mem_of_getElem? (i := 71) rfl)) rfl
theorem wc_X12_hangers : Cond.code yX12_hangers cX12_hangers 4 (some .int) ∈ gT := gm (tT_8 _ (List.mem_of_getElem? (i := 72) rfl)) rfl
theorem wm_L_83 : Cond.methodLink RL 83 yX12_holds ∈ gT := gm (tT_8 _ (List.mem_of_getElem? (i := 73) rfl)) rfl
theorem wi_X12_holds : Cond.instanceMethod yX12_holds ∈ gT := gm (tT_8 _ (List.mem_of_getElem? (i := 74) rfl)) rfl
theorem wl_X12_holds : Cond.selects RX12 yX12_holds yX12_holds ∈ gT := gm (tT_8 _ (List.mem_of_getElem? (i := 75) rfl)) rfl
theorem wc_X12_holds : Cond.code yX12_holds cX12_holds 2 (some .int) ∈ gT := gm (tT_8 _ (List.mem_of_getElem? (i := 76) rfl)) rfl
theorem wm_X12_319 : Cond.methodLink RX12 319 yX12_isSet ∈ gT := gm (tT_8 _ (List.mem_of_getElem? (i := 77) rfl)) rfl
theorem wi_X12_isSet : Cond.instanceMethod yX12_isSet ∈ gT := gm (tT_8 _ (List.mem_of_getElem? (i := 79) rfl)) rfl
theorem wc_X12_isSet : Cond.code yX12_isSet cX12_isSet 2 (some .boolean) ∈ gT := gm (tT_8 _ (List.mem_of_getElem? (i := 80) rfl)) rfl
theorem wm_X12_322 : Cond.methodLink RX12 322 yX12_lackOf ∈ gT := gm (tT_8 _ (List.mem_of_getElem? (i := 81) rfl)) rfl
theorem wi_X12_lackOf : Cond.instanceMethod yX12_lackOf ∈ gT := gm (tT_8 _ (List.mem_of_getElem? (i := 83) rfl)) rfl
theorem wc_X12_lackOf : Cond.code yX12_lackOf cX12_lackOf 4 (some .int) ∈ gT := gm (tT_8 _ (List.mem_of_getElem? (i := 84) rfl)) rfl
theorem wm_L_87 : Cond.methodLink RL 87 yX12_lacks ∈ gT := gm (tT_8 _ (List.mem_of_getElem? (i := 85) rfl)) rfl
theorem wi_X12_lacks : Cond.instanceMethod yX12_lacks ∈ gT := gm (tT_8 _ (List.mem_of_getElem? (i := 86) rfl)) rfl
theorem wl_X12_lacks : Cond.selects RX12 yX12_lacks yX12_lacks ∈ gT := gm (tT_8 _ (List.mem_of_getElem? (i := 87) rfl)) rfl
theorem wc_X12_lacks : Cond.code yX12_lacks cX12_lacks 2 (some .int) ∈ gT := gm (tT_8 _ (List.mem_of_getElem? (i := 88) rfl)) rfl
theorem wm_L_91 : Cond.methodLink RL 91 yX12_out ∈ gT := gm (tT_8 _ (List.mem_of_getElem? (i := 89) rfl)) rfl
theorem wi_X12_out : Cond.instanceMethod yX12_out ∈ gT := gm (tT_8 _ (List.mem_of_getElem? (i := 90) rfl)) rfl
theorem wl_X12_out : Cond.selects RX12 yX12_out yX12_out ∈ gT := gm (tT_8 _ (List.mem_of_getElem? (i := 91) rfl)) rfl
theorem wc_X12_out : Cond.code yX12_out cX12_out 3 (some .int) ∈ gT := gm (tT_8 _ (List.mem_of_getElem? (i := 92) rfl)) rfl
theorem wm_L_95 : Cond.methodLink RL 95 yX12_pick ∈ gT := gm (tT_8 _ (List.mem_of_getElem? (i := 93) rfl)) rfl
theorem wi_X12_pick : Cond.instanceMethod yX12_pick ∈ gT := gm (tT_8 _ (List.mem_of_getElem? (i := 94) rfl)) rfl
theorem wl_X12_pick : Cond.selects RX12 yX12_pick yX12_pick ∈ gT := gm (tT_8 _ (List.mem_of_getElem? (i := 95) rfl)) rfl
theorem wc_X12_pick : Cond.code yX12_pick cX12_pick 3 (some .int) ∈ gT := gm (tT_8 _ (List.mem_of_getElem? (i := 96) rfl)) rfl
theorem wm_L_99 : Cond.methodLink RL 99 yX12_heaviest ∈ gT := gm (tT_8 _ (List.mem_of_getElem? (i := 97) rfl)) rfl
theorem wi_X12_heaviest : Cond.instanceMethod yX12_heaviest ∈ gT := gm (tT_8 _ (List.mem_of_getElem? (i := 98) rfl)) rfl
theorem wl_X12_heaviest : Cond.selects RX12 yX12_heaviest yX12_heaviest ∈ gT := gm (tT_8 _ (List.mem_of_getElem? (i := 99) rfl)) rfl
theorem wc_X12_heaviest : Cond.code yX12_heaviest cX12_heaviest 3 (some .int) ∈ gT := gm (tT_8 _ (List.mem_of_getElem? (i := 100) rfl)) rfl
theorem wm_X12_325 : Cond.methodLink RX12 325 yX12_bits ∈ gT := gm (tT_8 _ (List.mem_of_getElem? (i := 101) rfl)) rfl
theorem wt_X12_bits : Cond.static yX12_bits ∈ gT := gm (tT_8 _ (List.mem_of_getElem? (i := 102) rfl)) rfl
theorem wc_X12_bits : Cond.code yX12_bits cX12_bits 3 (some .int) ∈ gT := gm (tT_8 _ (List.mem_of_getElem? (i := 103) rfl)) rfl
theorem wm_L_103 : Cond.methodLink RL 103 yX12_alone ∈ gT := gm (tT_8 _ (List.mem_of_getElem? (i := 104) rfl)) rfl
theorem wi_X12_alone : Cond.instanceMethod yX12_alone ∈ gT := gm (tT_8 _ (List.mem_of_getElem? (i := 105) rfl)) rfl
theorem wl_X12_alone : Cond.selects RX12 yX12_alone yX12_alone ∈ gT := gm (tT_8 _ (List.mem_of_getElem? (i := 106) rfl)) rfl
theorem wc_X12_alone : Cond.code yX12_alone cX12_alone 3 (some .int) ∈ gT := gm (tT_8 _ (List.mem_of_getElem? (i := 107) rfl)) rfl
theorem wm_L_107 : Cond.methodLink RL 107 yX12_size ∈ gT := gm (tT_8 _ (List.mem_of_getElem? (i := 108) rfl)) rfl
theorem wi_X12_size : Cond.instanceMethod yX12_size ∈ gT := gm (tT_8 _ (List.mem_of_getElem? (i := 109) rfl)) rfl
theorem wl_X12_size : Cond.selects RX12 yX12_size yX12_size ∈ gT := gm (tT_8 _ (List.mem_of_getElem? (i := 110) rfl)) rfl
theorem wc_X12_size : Cond.code yX12_size cX12_size 2 (some .int) ∈ gT := gm (tT_8 _ (List.mem_of_getElem? (i := 111) rfl)) rfl
theorem wm_X12_349 : Cond.methodLink RX12 349 yX12_whyNot ∈ gT := gm (tT_8 _ (List.mem_of_getElem? (i := 112) rfl)) rfl
theorem wi_X12_whyNot : Cond.instanceMethod yX12_whyNot ∈ gT := gm (tT_8 _ (List.mem_of_getElem? (i := 114) rfl)) rfl
theorem wc_X12_whyNot : Cond.code yX12_whyNot cX12_whyNot 2 (some .int) ∈ gT := gm (tT_8 _ (List.mem_of_getElem? (i := 115) rfl)) rfl
theorem wm_X12_352 : Cond.methodLink RX12 352 yX12_listOf ∈ gT := gm (tT_8 _ (List.mem_of_getElem? (i := 116) rfl)) rfl
theorem wi_X12_listOf : Cond.instanceMethod yX12_listOf ∈ gT := gm (tT_8 _ (List.mem_of_getElem? (i := 118) rfl)) rfl
theorem wc_X12_listOf : Cond.code yX12_listOf cX12_listOf 7 (some .int) ∈ gT := gm (tT_8 _ (List.mem_of_getElem? (i := 119) rfl)) rfl
theorem wm_X12_343 : Cond.methodLink RX12 343 yX12_isThere ∈ gT := gm (tT_8 _ (List.mem_of_getElem? (i := 120) rfl)) rfl
theorem wi_X12_isThere : Cond.instanceMethod yX12_isThere ∈ gT := gm (tT_8 _ (List.mem_of_getElem? (i := 122) rfl)) rfl
theorem wc_X12_isThere : Cond.code yX12_isThere cX12_isThere 4 (some .boolean) ∈ gT := gm (tT_8 _ (List.mem_of_getElem? (i := 123) rfl)) rfl
theorem wm_X12_337 : Cond.methodLink RX12 337 yX12_isLeftOut ∈ gT := gm (tT_8 _ (List.mem_of_getElem? (i := 124) rfl)) rfl
theorem wi_X12_isLeftOut : Cond.instanceMethod yX12_isLeftOut ∈ gT := gm (tT_8 _ (List.mem_of_getElem? (i := 126) rfl)) rfl
theorem wc_X12_isLeftOut : Cond.code yX12_isLeftOut cX12_isLeftOut 4 (some .boolean) ∈ gT := gm (tT_8 _ (List.mem_of_getElem? (i := 127) rfl)) rfl
theorem wm_X12_334 : Cond.methodLink RX12 334 yX12_quarrelers ∈ gT := gm (tT_8 _ (List.mem_of_getElem? (i := 128) rfl)) rfl
theorem wi_X12_quarrelers : Cond.instanceMethod yX12_quarrelers ∈ gT := gm (tT_8 _ (List.mem_of_getElem? (i := 130) rfl)) rfl
theorem wc_X12_quarrelers : Cond.code yX12_quarrelers cX12_quarrelers 5 (some .int) ∈ gT := gm (tT_8 _ (List.mem_of_getElem? (i := 131) rfl)) rfl
theorem wm_X12_331 : Cond.methodLink RX12 331 yX12_quarrel ∈ gT := gm (tT_8 _ (List.mem_of_getElem? (i := 132) rfl)) rfl
theorem wi_X12_quarrel : Cond.instanceMethod yX12_quarrel ∈ gT := gm (tT_8 _ (List.mem_of_getElem? (i := 134) rfl)) rfl
theorem wc_X12_quarrel : Cond.code yX12_quarrel cX12_quarrel 4 (some .boolean) ∈ gT := gm (tT_8 _ (List.mem_of_getElem? (i := 135) rfl)) rfl
theorem wm_X12_328 : Cond.methodLink RX12 328 yX12_isSettled ∈ gT := gm (tT_8 _ (List.mem_of_getElem? (i := 136) rfl)) rfl
theorem wi_X12_isSettled : Cond.instanceMethod yX12_isSettled ∈ gT := gm (tT_8 _ (List.mem_of_getElem? (i := 138) rfl)) rfl
theorem wc_X12_isSettled : Cond.code yX12_isSettled cX12_isSettled 5 (some .boolean) ∈ gT := gm (tT_8 _ (List.mem_of_getElem? (i := 139) rfl)) rfl
theorem wm_X12_346 : Cond.methodLink RX12 346 yX12_toldBy ∈ gT := gm (tT_8 _ (List.mem_of_getElem? (i := 140) rfl)) rfl
theorem wi_X12_toldBy : Cond.instanceMethod yX12_toldBy ∈ gT := gm (tT_8 _ (List.mem_of_getElem? (i := 142) rfl)) rfl
theorem wc_X12_toldBy : Cond.code yX12_toldBy cX12_toldBy 10 (some .int) ∈ gT := gm (tT_8 _ (List.mem_of_getElem? (i := 143) rfl)) rfl
theorem wm_X12_340 : Cond.methodLink RX12 340 yX12_allHang ∈ gT := gm (tT_8 _ (List.mem_of_getElem? (i := 144) rfl)) rfl
theorem wi_X12_allHang : Cond.instanceMethod yX12_allHang ∈ gT := gm (tT_8 _ (List.mem_of_getElem? (i := 146) rfl)) rfl
theorem wc_X12_allHang : Cond.code yX12_allHang cX12_allHang 4 (some .boolean) ∈ gT := gm (tT_8 _ (List.mem_of_getElem? (i := 147) rfl)) rfl
theorem wm_L_111 : Cond.methodLink RL 111 yX12_thing ∈ gT := gm (tT_8 _ (List.mem_of_getElem? (i := 148) rfl)) rfl
theorem wi_X12_thing : Cond.instanceMethod yX12_thing ∈ gT := gm (tT_8 _ (List.mem_of_getElem? (i := 149) rfl)) rfl
theorem wl_X12_thing : Cond.selects RX12 yX12_thing yX12_thing ∈ gT := gm (tT_8 _ (List.mem_of_getElem? (i := 150) rfl)) rfl
theorem wc_X12_thing : Cond.code yX12_thing cX12_thing 3 (some .int) ∈ gT := gm (tT_8 _ (List.mem_of_getElem? (i := 151) rfl)) rfl
theorem wm_L_115 : Cond.methodLink RL 115 yX12_says ∈ gT := gm (tT_8 _ (List.mem_of_getElem? (i := 152) rfl)) rfl
theorem wi_X12_says : Cond.instanceMethod yX12_says ∈ gT := gm (tT_8 _ (List.mem_of_getElem? (i := 153) rfl)) rfl
theorem wl_X12_says : Cond.selects RX12 yX12_says yX12_says ∈ gT := gm (tT_8 _ (List.mem_of_getElem? (i := 154) rfl)) rfl
theorem wc_X12_says : Cond.code yX12_says cX12_says 3 (some .int) ∈ gT := gm (tT_8 _ (List.mem_of_getElem? (i := 155) rfl)) rfl
theorem wm_X12_359 : Cond.methodLink RX12 359 yX12_whyNoThing ∈ gT := gm (tT_8 _ (List.mem_of_getElem? (i := 156) rfl)) rfl
theorem wi_X12_whyNoThing : Cond.instanceMethod yX12_whyNoThing ∈ gT := gm (tT_8 _ (List.mem_of_getElem? (i := 158) rfl)) rfl
theorem wc_X12_whyNoThing : Cond.code yX12_whyNoThing cX12_whyNoThing 3 (some .int) ∈ gT := gm (tT_8 _ (List.mem_of_getElem? (i := 159) rfl)) rfl
theorem wm_L_119 : Cond.methodLink RL 119 yX12_key ∈ gT := gm (tT_8 _ (List.mem_of_getElem? (i := 160) rfl)) rfl
theorem wi_X12_key : Cond.instanceMethod yX12_key ∈ gT := gm (tT_8 _ (List.mem_of_getElem? (i := 161) rfl)) rfl
theorem wl_X12_key : Cond.selects RX12 yX12_key yX12_key ∈ gT := gm (tT_8 _ (List.mem_of_getElem? (i := 162) rfl)) rfl
theorem wc_X12_key : Cond.code yX12_key cX12_key 3 (some .int) ∈ gT := gm (tT_8 _ (List.mem_of_getElem? (i := 163) rfl)) rfl
theorem wm_L_123 : Cond.methodLink RL 123 yX12_place ∈ gT := gm (tT_8 _ (List.mem_of_getElem? (i := 164) rfl)) rfl
theorem wi_X12_place : Cond.instanceMethod yX12_place ∈ gT := gm (tT_8 _ (List.mem_of_getElem? (i := 165) rfl)) rfl
theorem wl_X12_place : Cond.selects RX12 yX12_place yX12_place ∈ gT := gm (tT_8 _ (List.mem_of_getElem? (i := 166) rfl)) rfl
theorem wc_X12_place : Cond.code yX12_place cX12_place 3 (some .int) ∈ gT := gm (tT_8 _ (List.mem_of_getElem? (i := 167) rfl)) rfl
theorem wm_X12_362 : Cond.methodLink RX12 362 yX12_placeIn ∈ gT := gm (tT_8 _ (List.mem_of_getElem? (i := 168) rfl)) rfl
theorem wi_X12_placeIn : Cond.instanceMethod yX12_placeIn ∈ gT := gm (tT_8 _ (List.mem_of_getElem? (i := 170) rfl)) rfl
theorem wc_X12_placeIn : Cond.code yX12_placeIn cX12_placeIn 4 (some .int) ∈ gT := gm (tT_8 _ (List.mem_of_getElem? (i := 171) rfl)) rfl
theorem wm_L_127 : Cond.methodLink RL 127 yX12_like ∈ gT := gm (tT_8 _ (List.mem_of_getElem? (i := 172) rfl)) rfl
theorem wi_X12_like : Cond.instanceMethod yX12_like ∈ gT := gm (tT_8 _ (List.mem_of_getElem? (i := 173) rfl)) rfl
theorem wl_X12_like : Cond.selects RX12 yX12_like yX12_like ∈ gT := gm (tT_8 _ (List.mem_of_getElem? (i := 174) rfl)) rfl
theorem wc_X12_like : Cond.code yX12_like cX12_like 4 (some .int) ∈ gT := gm (tT_8 _ (List.mem_of_getElem? (i := 175) rfl)) rfl
theorem wm_X12_365 : Cond.methodLink RX12 365 yX12_whyNotTwo ∈ gT := gm (tT_8 _ (List.mem_of_getElem? (i := 176) rfl)) rfl
theorem wi_X12_whyNotTwo : Cond.instanceMethod yX12_whyNotTwo ∈ gT := gm (tT_8 _ (List.mem_of_getElem? (i := 178) rfl)) rfl
theorem wc_X12_whyNotTwo : Cond.code yX12_whyNotTwo cX12_whyNotTwo 3 (some .int) ∈ gT := gm (tT_8 _ (List.mem_of_getElem? (i := 179) rfl)) rfl
theorem wm_L_131 : Cond.methodLink RL 131 yX12_apart ∈ gT := gm (tT_8 _ (List.mem_of_getElem? (i := 180) rfl)) rfl
theorem wi_X12_apart : Cond.instanceMethod yX12_apart ∈ gT := gm (tT_8 _ (List.mem_of_getElem? (i := 181) rfl)) rfl
theorem wl_X12_apart : Cond.selects RX12 yX12_apart yX12_apart ∈ gT := gm (tT_8 _ (List.mem_of_getElem? (i := 182) rfl)) rfl
theorem wc_X12_apart : Cond.code yX12_apart cX12_apart 4 (some .int) ∈ gT := gm (tT_8 _ (List.mem_of_getElem? (i := 183) rfl)) rfl
theorem wm_L_135 : Cond.methodLink RL 135 yX12_quarrels ∈ gT := gm (tT_8 _ (List.mem_of_getElem? (i := 184) rfl)) rfl
theorem wi_X12_quarrels : Cond.instanceMethod yX12_quarrels ∈ gT := gm (tT_8 _ (List.mem_of_getElem? (i := 185) rfl)) rfl
theorem wl_X12_quarrels : Cond.selects RX12 yX12_quarrels yX12_quarrels ∈ gT := gm (tT_8 _ (List.mem_of_getElem? (i := 186) rfl)) rfl
theorem wc_X12_quarrels : Cond.code yX12_quarrels cX12_quarrels 2 (some .int) ∈ gT := gm (tT_8 _ (List.mem_of_getElem? (i := 187) rfl)) rfl
theorem wm_X12_371 : Cond.methodLink RX12 371 yX12_quarrelsIn ∈ gT := gm (tT_8 _ (List.mem_of_getElem? (i := 188) rfl)) rfl
theorem wi_X12_quarrelsIn : Cond.instanceMethod yX12_quarrelsIn ∈ gT := gm (tT_8 _ (List.mem_of_getElem? (i := 190) rfl)) rfl
theorem wc_X12_quarrelsIn : Cond.code yX12_quarrelsIn cX12_quarrelsIn 4 (some .int) ∈ gT := gm (tT_8 _ (List.mem_of_getElem? (i := 191) rfl)) rfl
theorem wm_L_139 : Cond.methodLink RL 139 yX12_with ∈ gT := gm (tT_8 _ (List.mem_of_getElem? (i := 192) rfl)) rfl
theorem wi_X12_with : Cond.instanceMethod yX12_with ∈ gT := gm (tT_8 _ (List.mem_of_getElem? (i := 193) rfl)) rfl
theorem wl_X12_with : Cond.selects RX12 yX12_with yX12_with ∈ gT := gm (tT_8 _ (List.mem_of_getElem? (i := 194) rfl)) rfl
theorem wc_X12_with : Cond.code yX12_with cX12_with 3 (some .int) ∈ gT := gm (tT_8 _ (List.mem_of_getElem? (i := 195) rfl)) rfl
theorem wm_L_143 : Cond.methodLink RL 143 yX12_leastOut ∈ gT := gm (tT_8 _ (List.mem_of_getElem? (i := 196) rfl)) rfl
theorem wi_X12_leastOut : Cond.instanceMethod yX12_leastOut ∈ gT := gm (tT_8 _ (List.mem_of_getElem? (i := 197) rfl)) rfl
theorem wl_X12_leastOut : Cond.selects RX12 yX12_leastOut yX12_leastOut ∈ gT := gm (tT_8 _ (List.mem_of_getElem? (i := 198) rfl)) rfl
theorem wc_X12_leastOut : Cond.code yX12_leastOut cX12_leastOut 4 (some .int) ∈ gT := gm (tT_8 _ (List.mem_of_getElem? (i := 199) rfl)) rfl
theorem wm_X12_374 : Cond.methodLink RX12 374 yX12_isQuiet ∈ gT := gm (tT_8 _ (List.mem_of_getElem? (i := 200) rfl)) rfl
theorem wi_X12_isQuiet : Cond.instanceMethod yX12_isQuiet ∈ gT := gm (tT_8 _ (List.mem_of_getElem? (i := 202) rfl)) rfl
theorem wc_X12_isQuiet : Cond.code yX12_isQuiet cX12_isQuiet 2 (some .boolean) ∈ gT := gm (tT_8 _ (List.mem_of_getElem? (i := 203) rfl)) rfl
theorem wm_L_147 : Cond.methodLink RL 147 yX12_mostQuiet ∈ gT := gm (tT_8 _ (List.mem_of_getElem? (i := 204) rfl)) rfl
theorem wi_X12_mostQuiet : Cond.instanceMethod yX12_mostQuiet ∈ gT := gm (tT_8 _ (List.mem_of_getElem? (i := 205) rfl)) rfl
theorem wl_X12_mostQuiet : Cond.selects RX12 yX12_mostQuiet yX12_mostQuiet ∈ gT := gm (tT_8 _ (List.mem_of_getElem? (i := 206) rfl)) rfl
theorem wc_X12_mostQuiet : Cond.code yX12_mostQuiet cX12_mostQuiet 3 (some .int) ∈ gT := gm (tT_8 _ (List.mem_of_getElem? (i := 207) rfl)) rfl
theorem wm_L_152 : Cond.methodLink RL 152 yX12_orders ∈ gT := gm (tT_8 _ (List.mem_of_getElem? (i := 208) rfl)) rfl
theorem wi_X12_orders : Cond.instanceMethod yX12_orders ∈ gT := gm (tT_8 _ (List.mem_of_getElem? (i := 209) rfl)) rfl
theorem wl_X12_orders : Cond.selects RX12 yX12_orders yX12_orders ∈ gT := gm (tT_8 _ (List.mem_of_getElem? (i := 210) rfl)) rfl
theorem wc_X12_orders : Cond.code yX12_orders cX12_orders 2 (some .long) ∈ gT := gm (tT_8 _ (List.mem_of_getElem? (i := 211) rfl)) rfl
theorem wm_X12_377 : Cond.methodLink RX12 377 yX12_need ∈ gT := gm (tT_8 _ (List.mem_of_getElem? (i := 212) rfl)) rfl
theorem wi_X12_need : Cond.instanceMethod yX12_need ∈ gT := gm (tT_8 _ (List.mem_of_getElem? (i := 214) rfl)) rfl
theorem wc_X12_need : Cond.code yX12_need cX12_need 5 none ∈ gT := gm (tT_8 _ (List.mem_of_getElem? (i := 215) rfl)) rfl
theorem wm_X12_381 : Cond.methodLink RX12 381 yX12_countWays ∈ gT := gm (tT_8 _ (List.mem_of_getElem? (i := 216) rfl)) rfl
theorem wi_X12_countWays : Cond.instanceMethod yX12_countWays ∈ gT := gm (tT_8 _ (List.mem_of_getElem? (i := 218) rfl)) rfl
theorem wc_X12_countWays : Cond.code yX12_countWays cX12_countWays 4 none ∈ gT := gm (tT_8 _ (List.mem_of_getElem? (i := 219) rfl)) rfl
theorem wm_L_156 : Cond.methodLink RL 156 yX12_ahead ∈ gT := gm (tT_8 _ (List.mem_of_getElem? (i := 220) rfl)) rfl
theorem wi_X12_ahead : Cond.instanceMethod yX12_ahead ∈ gT := gm (tT_8 _ (List.mem_of_getElem? (i := 221) rfl)) rfl
theorem wl_X12_ahead : Cond.selects RX12 yX12_ahead yX12_ahead ∈ gT := gm (tT_8 _ (List.mem_of_getElem? (i := 222) rfl)) rfl
theorem wc_X12_ahead : Cond.code yX12_ahead cX12_ahead 6 (some .boolean) ∈ gT := gm (tT_8 _ (List.mem_of_getElem? (i := 223) rfl)) rfl
theorem wm_X12_384 : Cond.methodLink RX12 384 yX12_fraction ∈ gT := gm (tT_8 _ (List.mem_of_getElem? (i := 224) rfl)) rfl
theorem wi_X12_fraction : Cond.instanceMethod yX12_fraction ∈ gT := gm (tT_8 _ (List.mem_of_getElem? (i := 226) rfl)) rfl
theorem wc_X12_fraction : Cond.code yX12_fraction cX12_fraction 11 (some .boolean) ∈ gT := gm (tT_8 _ (List.mem_of_getElem? (i := 227) rfl)) rfl
theorem wm_X12_84 : Cond.methodLink RX12 84 yJ9_abs_067f4 ∈ gT := gm (tT_8 _ (List.mem_of_getElem? (i := 228) rfl)) rfl
theorem wt_J9_abs_067f4 : Cond.static yJ9_abs_067f4 ∈ gT := gm (tT_8 _ (List.mem_of_getElem? (i := 229) rfl)) rfl
theorem wc_J9_abs_067f4 : Cond.code yJ9_abs_067f4 cJ9_abs_067f4 2 (some .long) ∈ gT := gm (tT_8 _ (List.mem_of_getElem? (i := 230) rfl)) rfl
theorem wm_L_161 : Cond.methodLink RL 161 yX12_ordered ∈ gT := gm (tT_8 _ (List.mem_of_getElem? (i := 231) rfl)) rfl
theorem wi_X12_ordered : Cond.instanceMethod yX12_ordered ∈ gT := gm (tT_8 _ (List.mem_of_getElem? (i := 232) rfl)) rfl
theorem wl_X12_ordered : Cond.selects RX12 yX12_ordered yX12_ordered ∈ gT := gm (tT_8 _ (List.mem_of_getElem? (i := 233) rfl)) rfl
theorem wc_X12_ordered : Cond.code yX12_ordered cX12_ordered 11 (some .int) ∈ gT := gm (tT_8 _ (List.mem_of_getElem? (i := 234) rfl)) rfl
theorem wm_L_166 : Cond.methodLink RL 166 yX12_order ∈ gT := gm (tT_8 _ (List.mem_of_getElem? (i := 235) rfl)) rfl
theorem wi_X12_order : Cond.instanceMethod yX12_order ∈ gT := gm (tT_8 _ (List.mem_of_getElem? (i := 236) rfl)) rfl
theorem wl_X12_order : Cond.selects RX12 yX12_order yX12_order ∈ gT := gm (tT_8 _ (List.mem_of_getElem? (i := 237) rfl)) rfl
theorem wc_X12_order : Cond.code yX12_order cX12_order 7 (some .boolean) ∈ gT := gm (tT_8 _ (List.mem_of_getElem? (i := 238) rfl)) rfl
theorem wm_X12_388 : Cond.methodLink RX12 388 yX12_isTray ∈ gT := gm (tT_8 _ (List.mem_of_getElem? (i := 239) rfl)) rfl
theorem wi_X12_isTray : Cond.instanceMethod yX12_isTray ∈ gT := gm (tT_9 _ (List.mem_of_getElem? (i := 1) rfl)) rfl
theorem wc_X12_isTray : Cond.code yX12_isTray cX12_isTray 2 (some .boolean) ∈ gT := gm (tT_9 _ (List.mem_of_getElem? (i := 2) rfl)) rfl
theorem wk_X12_391 : Cond.constantLong RX12 391 (16) ∈ gT := gm (tT_9 _ (List.mem_of_getElem? (i := 3) rfl)) rfl
theorem wm_X12_393 : Cond.methodLink RX12 393 yX12_numberOf ∈ gT := gm (tT_9 _ (List.mem_of_getElem? (i := 4) rfl)) rfl
theorem wi_X12_numberOf : Cond.instanceMethod yX12_numberOf ∈ gT := gm (tT_9 _ (List.mem_of_getElem? (i := 6) rfl)) rfl
theorem wc_X12_numberOf : Cond.code yX12_numberOf cX12_numberOf 3 (some .long) ∈ gT := gm (tT_9 _ (List.mem_of_getElem? (i := 7) rfl)) rfl
theorem wm_L_170 : Cond.methodLink RL 170 yX12_number ∈ gT := gm (tT_9 _ (List.mem_of_getElem? (i := 8) rfl)) rfl
theorem wi_X12_number : Cond.instanceMethod yX12_number ∈ gT := gm (tT_9 _ (List.mem_of_getElem? (i := 9) rfl)) rfl
theorem wl_X12_number : Cond.selects RX12 yX12_number yX12_number ∈ gT := gm (tT_9 _ (List.mem_of_getElem? (i := 10) rfl)) rfl
theorem wc_X12_number : Cond.code yX12_number cX12_number 8 (some .long) ∈ gT := gm (tT_9 _ (List.mem_of_getElem? (i := 11) rfl)) rfl
theorem wm_X12_397 : Cond.methodLink RX12 397 yX12_orderSet ∈ gT := gm (tT_9 _ (List.mem_of_getElem? (i := 12) rfl)) rfl
theorem wi_X12_orderSet : Cond.instanceMethod yX12_orderSet ∈ gT := gm (tT_9 _ (List.mem_of_getElem? (i := 14) rfl)) rfl
theorem wc_X12_orderSet : Cond.code yX12_orderSet cX12_orderSet 3 (some .int) ∈ gT := gm (tT_9 _ (List.mem_of_getElem? (i := 15) rfl)) rfl
theorem wm_L_174 : Cond.methodLink RL 174 yX12_orderAt ∈ gT := gm (tT_9 _ (List.mem_of_getElem? (i := 16) rfl)) rfl
theorem wi_X12_orderAt : Cond.instanceMethod yX12_orderAt ∈ gT := gm (tT_9 _ (List.mem_of_getElem? (i := 17) rfl)) rfl
theorem wl_X12_orderAt : Cond.selects RX12 yX12_orderAt yX12_orderAt ∈ gT := gm (tT_9 _ (List.mem_of_getElem? (i := 18) rfl)) rfl
theorem wc_X12_orderAt : Cond.code yX12_orderAt cX12_orderAt 2 (some .int) ∈ gT := gm (tT_9 _ (List.mem_of_getElem? (i := 19) rfl)) rfl
theorem wm_L_178 : Cond.methodLink RL 178 yX12_acts ∈ gT := gm (tT_9 _ (List.mem_of_getElem? (i := 20) rfl)) rfl
theorem wi_X12_acts : Cond.instanceMethod yX12_acts ∈ gT := gm (tT_9 _ (List.mem_of_getElem? (i := 21) rfl)) rfl
theorem wl_X12_acts : Cond.selects RX12 yX12_acts yX12_acts ∈ gT := gm (tT_9 _ (List.mem_of_getElem? (i := 22) rfl)) rfl
theorem wc_X12_acts : Cond.code yX12_acts cX12_acts 4 (some .int) ∈ gT := gm (tT_9 _ (List.mem_of_getElem? (i := 23) rfl)) rfl
theorem wm_L_183 : Cond.methodLink RL 183 yX12_swap ∈ gT := gm (tT_9 _ (List.mem_of_getElem? (i := 24) rfl)) rfl
theorem wi_X12_swap : Cond.instanceMethod yX12_swap ∈ gT := gm (tT_9 _ (List.mem_of_getElem? (i := 25) rfl)) rfl
theorem wl_X12_swap : Cond.selects RX12 yX12_swap yX12_swap ∈ gT := gm (tT_9 _ (List.mem_of_getElem? (i := 26) rfl)) rfl
theorem wc_X12_swap : Cond.code yX12_swap cX12_swap 2 (some .boolean) ∈ gT := gm (tT_9 _ (List.mem_of_getElem? (i := 27) rfl)) rfl
theorem wm_X12_400 : Cond.methodLink RX12 400 yX12_swapped ∈ gT := gm (tT_9 _ (List.mem_of_getElem? (i := 28) rfl)) rfl
theorem wi_X12_swapped : Cond.instanceMethod yX12_swapped ∈ gT := gm (tT_9 _ (List.mem_of_getElem? (i := 30) rfl)) rfl
theorem wc_X12_swapped : Cond.code yX12_swapped cX12_swapped 4 (some .boolean) ∈ gT := gm (tT_9 _ (List.mem_of_getElem? (i := 31) rfl)) rfl
theorem wm_L_187 : Cond.methodLink RL 187 yX12_forward ∈ gT := gm (tT_9 _ (List.mem_of_getElem? (i := 32) rfl)) rfl
theorem wi_X12_forward : Cond.instanceMethod yX12_forward ∈ gT := gm (tT_9 _ (List.mem_of_getElem? (i := 33) rfl)) rfl
theorem wl_X12_forward : Cond.selects RX12 yX12_forward yX12_forward ∈ gT := gm (tT_9 _ (List.mem_of_getElem? (i := 34) rfl)) rfl
theorem wc_X12_forward : Cond.code yX12_forward cX12_forward 4 (some .int) ∈ gT := gm (tT_9 _ (List.mem_of_getElem? (i := 35) rfl)) rfl
theorem wm_L_191 : Cond.methodLink RL 191 yX12_swaps ∈ gT := gm (tT_9 _ (List.mem_of_getElem? (i := 36) rfl)) rfl
theorem wi_X12_swaps : Cond.instanceMethod yX12_swaps ∈ gT := gm (tT_9 _ (List.mem_of_getElem? (i := 37) rfl)) rfl
theorem wl_X12_swaps : Cond.selects RX12 yX12_swaps yX12_swaps ∈ gT := gm (tT_9 _ (List.mem_of_getElem? (i := 38) rfl)) rfl
theorem wc_X12_swaps : Cond.code yX12_swaps cX12_swaps 7 (some .int) ∈ gT := gm (tT_9 _ (List.mem_of_getElem? (i := 39) rfl)) rfl
theorem wm_L_195 : Cond.methodLink RL 195 yX12_has ∈ gT := gm (tT_9 _ (List.mem_of_getElem? (i := 40) rfl)) rfl
theorem wi_X12_has : Cond.instanceMethod yX12_has ∈ gT := gm (tT_9 _ (List.mem_of_getElem? (i := 41) rfl)) rfl
theorem wl_X12_has : Cond.selects RX12 yX12_has yX12_has ∈ gT := gm (tT_9 _ (List.mem_of_getElem? (i := 42) rfl)) rfl
theorem wc_X12_has : Cond.code yX12_has cX12_has 2 (some .int) ∈ gT := gm (tT_9 _ (List.mem_of_getElem? (i := 43) rfl)) rfl
theorem wm_X12_403 : Cond.methodLink RX12 403 yX12_isIsland ∈ gT := gm (tT_9 _ (List.mem_of_getElem? (i := 44) rfl)) rfl
theorem wi_X12_isIsland : Cond.instanceMethod yX12_isIsland ∈ gT := gm (tT_9 _ (List.mem_of_getElem? (i := 46) rfl)) rfl
theorem wc_X12_isIsland : Cond.code yX12_isIsland cX12_isIsland 2 (some .boolean) ∈ gT := gm (tT_9 _ (List.mem_of_getElem? (i := 47) rfl)) rfl
theorem wm_L_199 : Cond.methodLink RL 199 yX12_give ∈ gT := gm (tT_9 _ (List.mem_of_getElem? (i := 48) rfl)) rfl
theorem wi_X12_give : Cond.instanceMethod yX12_give ∈ gT := gm (tT_9 _ (List.mem_of_getElem? (i := 49) rfl)) rfl
theorem wl_X12_give : Cond.selects RX12 yX12_give yX12_give ∈ gT := gm (tT_9 _ (List.mem_of_getElem? (i := 50) rfl)) rfl
theorem wc_X12_give : Cond.code yX12_give cX12_give 3 (some .boolean) ∈ gT := gm (tT_9 _ (List.mem_of_getElem? (i := 51) rfl)) rfl
theorem wm_L_62 : Cond.methodLink RL 62 yX12_log ∈ gT := gm (tT_9 _ (List.mem_of_getElem? (i := 52) rfl)) rfl
theorem wi_X12_log : Cond.instanceMethod yX12_log ∈ gT := gm (tT_9 _ (List.mem_of_getElem? (i := 53) rfl)) rfl
theorem wl_X12_log : Cond.selects RX12 yX12_log yX12_log ∈ gT := gm (tT_9 _ (List.mem_of_getElem? (i := 54) rfl)) rfl
theorem wc_X12_log : Cond.code yX12_log cX12_log 3 (some .int) ∈ gT := gm (tT_9 _ (List.mem_of_getElem? (i := 55) rfl)) rfl
theorem wm_X12_422 : Cond.methodLink RX12 422 yX12_readStep ∈ gT := gm (tT_9 _ (List.mem_of_getElem? (i := 56) rfl)) rfl
theorem wi_X12_readStep : Cond.instanceMethod yX12_readStep ∈ gT := gm (tT_9 _ (List.mem_of_getElem? (i := 58) rfl)) rfl
theorem wc_X12_readStep : Cond.code yX12_readStep cX12_readStep 5 none ∈ gT := gm (tT_9 _ (List.mem_of_getElem? (i := 59) rfl)) rfl
theorem wm_X12_419 : Cond.methodLink RX12 419 yX12_readRest ∈ gT := gm (tT_9 _ (List.mem_of_getElem? (i := 60) rfl)) rfl
theorem wi_X12_readRest : Cond.instanceMethod yX12_readRest ∈ gT := gm (tT_9 _ (List.mem_of_getElem? (i := 62) rfl)) rfl
theorem wc_X12_readRest : Cond.code yX12_readRest cX12_readRest 3 none ∈ gT := gm (tT_9 _ (List.mem_of_getElem? (i := 63) rfl)) rfl
theorem wm_X12_406 : Cond.methodLink RX12 406 yX12_readLogName ∈ gT := gm (tT_9 _ (List.mem_of_getElem? (i := 64) rfl)) rfl
theorem wi_X12_readLogName : Cond.instanceMethod yX12_readLogName ∈ gT := gm (tT_9 _ (List.mem_of_getElem? (i := 66) rfl)) rfl
theorem wc_X12_readLogName : Cond.code yX12_readLogName cX12_readLogName 3 (some .int) ∈ gT := gm (tT_9 _ (List.mem_of_getElem? (i := 67) rfl)) rfl
theorem wm_X12_410 : Cond.methodLink RX12 410 yX12_readShip ∈ gT := gm (tT_9 _ (List.mem_of_getElem? (i := 68) rfl)) rfl
theorem wi_X12_readShip : Cond.instanceMethod yX12_readShip ∈ gT := gm (tT_9 _ (List.mem_of_getElem? (i := 70) rfl)) rfl
theorem wc_X12_readShip : Cond.code yX12_readShip cX12_readShip 2 none ∈ gT := gm (tT_9 _ (List.mem_of_getElem? (i := 71) rfl)) rfl
theorem wm_X12_413 : Cond.methodLink RX12 413 yX12_readTest ∈ gT := gm (tT_9 _ (List.mem_of_getElem? (i := 72) rfl)) rfl
theorem wi_X12_readTest : Cond.instanceMethod yX12_readTest ∈ gT := gm (tT_9 _ (List.mem_of_getElem? (i := 74) rfl)) rfl
theorem wc_X12_readTest : Cond.code yX12_readTest cX12_readTest 3 none ∈ gT := gm (tT_9 _ (List.mem_of_getElem? (i := 75) rfl)) rfl
theorem wm_L_203 : Cond.methodLink RL 203 yX12_sail ∈ gT := gm (tT_9 _ (List.mem_of_getElem? (i := 76) rfl)) rfl
theorem wi_X12_sail : Cond.instanceMethod yX12_sail ∈ gT := gm (tT_9 _ (List.mem_of_getElem? (i := 77) rfl)) rfl
theorem wl_X12_sail : Cond.selects RX12 yX12_sail yX12_sail ∈ gT := gm (tT_9 _ (List.mem_of_getElem? (i := 78) rfl)) rfl
theorem wc_X12_sail : Cond.code yX12_sail cX12_sail 2 (some .int) ∈ gT := gm (tT_9 _ (List.mem_of_getElem? (i := 79) rfl)) rfl
theorem wk_X12_486 : Cond.constantLong RX12 486 (9999) ∈ gT := gm (tT_9 _ (List.mem_of_getElem? (i := 80) rfl)) rfl
theorem wm_X12_488 : Cond.methodLink RX12 488 yX12_run ∈ gT := gm (tT_9 _ (List.mem_of_getElem? (i := 81) rfl)) rfl
theorem wi_X12_run : Cond.instanceMethod yX12_run ∈ gT := gm (tT_9 _ (List.mem_of_getElem? (i := 83) rfl)) rfl
theorem wc_X12_run : Cond.code yX12_run cX12_run 2 none ∈ gT := gm (tT_9 _ (List.mem_of_getElem? (i := 84) rfl)) rfl
theorem wm_X12_480 : Cond.methodLink RX12 480 yX12_doAll ∈ gT := gm (tT_9 _ (List.mem_of_getElem? (i := 85) rfl)) rfl
theorem wi_X12_doAll : Cond.instanceMethod yX12_doAll ∈ gT := gm (tT_9 _ (List.mem_of_getElem? (i := 87) rfl)) rfl
theorem wc_X12_doAll : Cond.code yX12_doAll cX12_doAll 4 none ∈ gT := gm (tT_9 _ (List.mem_of_getElem? (i := 88) rfl)) rfl
theorem wm_X12_483 : Cond.methodLink RX12 483 yX12_doOne ∈ gT := gm (tT_9 _ (List.mem_of_getElem? (i := 89) rfl)) rfl
theorem wi_X12_doOne : Cond.instanceMethod yX12_doOne ∈ gT := gm (tT_9 _ (List.mem_of_getElem? (i := 91) rfl)) rfl
theorem wc_X12_doOne : Cond.code yX12_doOne cX12_doOne 5 none ∈ gT := gm (tT_9 _ (List.mem_of_getElem? (i := 92) rfl)) rfl
theorem wm_X12_465 : Cond.methodLink RX12 465 yX12_doAt ∈ gT := gm (tT_9 _ (List.mem_of_getElem? (i := 93) rfl)) rfl
theorem wi_X12_doAt : Cond.instanceMethod yX12_doAt ∈ gT := gm (tT_9 _ (List.mem_of_getElem? (i := 95) rfl)) rfl
theorem wc_X12_doAt : Cond.code yX12_doAt cX12_doAt 6 none ∈ gT := gm (tT_9 _ (List.mem_of_getElem? (i := 96) rfl)) rfl
theorem wm_X12_468 : Cond.methodLink RX12 468 yX12_doShip ∈ gT := gm (tT_9 _ (List.mem_of_getElem? (i := 97) rfl)) rfl
theorem wi_X12_doShip : Cond.instanceMethod yX12_doShip ∈ gT := gm (tT_9 _ (List.mem_of_getElem? (i := 99) rfl)) rfl
theorem wc_X12_doShip : Cond.code yX12_doShip cX12_doShip 7 none ∈ gT := gm (tT_9 _ (List.mem_of_getElem? (i := 100) rfl)) rfl
theorem wm_X12_440 : Cond.methodLink RX12 440 yX12_comes ∈ gT := gm (tT_9 _ (List.mem_of_getElem? (i := 101) rfl)) rfl
theorem wi_X12_comes : Cond.instanceMethod yX12_comes ∈ gT := gm (tT_9 _ (List.mem_of_getElem? (i := 103) rfl)) rfl
theorem wc_X12_comes : Cond.code yX12_comes cX12_comes 3 none ∈ gT := gm (tT_9 _ (List.mem_of_getElem? (i := 104) rfl)) rfl
theorem wm_X12_446 : Cond.methodLink RX12 446 yX12_load ∈ gT := gm (tT_9 _ (List.mem_of_getElem? (i := 105) rfl)) rfl
theorem wi_X12_load : Cond.instanceMethod yX12_load ∈ gT := gm (tT_9 _ (List.mem_of_getElem? (i := 107) rfl)) rfl
theorem wc_X12_load : Cond.code yX12_load cX12_load 4 none ∈ gT := gm (tT_9 _ (List.mem_of_getElem? (i := 108) rfl)) rfl
theorem wm_X12_471 : Cond.methodLink RX12 471 yX12_doWait ∈ gT := gm (tT_9 _ (List.mem_of_getElem? (i := 109) rfl)) rfl
theorem wi_X12_doWait : Cond.instanceMethod yX12_doWait ∈ gT := gm (tT_9 _ (List.mem_of_getElem? (i := 111) rfl)) rfl
theorem wc_X12_doWait : Cond.code yX12_doWait cX12_doWait 4 none ∈ gT := gm (tT_9 _ (List.mem_of_getElem? (i := 112) rfl)) rfl
theorem wm_X12_455 : Cond.methodLink RX12 455 yX12_takeAway ∈ gT := gm (tT_9 _ (List.mem_of_getElem? (i := 113) rfl)) rfl
theorem wi_X12_takeAway : Cond.instanceMethod yX12_takeAway ∈ gT := gm (tT_9 _ (List.mem_of_getElem? (i := 115) rfl)) rfl
theorem wc_X12_takeAway : Cond.code yX12_takeAway cX12_takeAway 3 none ∈ gT := gm (tT_9 _ (List.mem_of_getElem? (i := 116) rfl)) rfl
theorem wm_X12_474 : Cond.methodLink RX12 474 yX12_doDraw ∈ gT := gm (tT_9 _ (List.mem_of_getElem? (i := 117) rfl)) rfl
theorem wi_X12_doDraw : Cond.instanceMethod yX12_doDraw ∈ gT := gm (tT_9 _ (List.mem_of_getElem? (i := 119) rfl)) rfl
theorem wc_X12_doDraw : Cond.code yX12_doDraw cX12_doDraw 3 none ∈ gT := gm (tT_9 _ (List.mem_of_getElem? (i := 120) rfl)) rfl
theorem wm_X12_449 : Cond.methodLink RX12 449 yX12_draw ∈ gT := gm (tT_9 _ (List.mem_of_getElem? (i := 121) rfl)) rfl
theorem wi_X12_draw : Cond.instanceMethod yX12_draw ∈ gT := gm (tT_9 _ (List.mem_of_getElem? (i := 123) rfl)) rfl
theorem wc_X12_draw : Cond.code yX12_draw cX12_draw 1 (some .int) ∈ gT := gm (tT_9 _ (List.mem_of_getElem? (i := 124) rfl)) rfl
theorem wm_X12_477 : Cond.methodLink RX12 477 yX12_isSo ∈ gT := gm (tT_9 _ (List.mem_of_getElem? (i := 125) rfl)) rfl
theorem wi_X12_isSo : Cond.instanceMethod yX12_isSo ∈ gT := gm (tT_9 _ (List.mem_of_getElem? (i := 127) rfl)) rfl
theorem wc_X12_isSo : Cond.code yX12_isSo cX12_isSo 3 (some .boolean) ∈ gT := gm (tT_9 _ (List.mem_of_getElem? (i := 128) rfl)) rfl
theorem wm_L_207 : Cond.methodLink RL 207 yX12_sailed ∈ gT := gm (tT_9 _ (List.mem_of_getElem? (i := 129) rfl)) rfl
theorem wi_X12_sailed : Cond.instanceMethod yX12_sailed ∈ gT := gm (tT_9 _ (List.mem_of_getElem? (i := 130) rfl)) rfl
theorem wl_X12_sailed : Cond.selects RX12 yX12_sailed yX12_sailed ∈ gT := gm (tT_9 _ (List.mem_of_getElem? (i := 131) rfl)) rfl
theorem wc_X12_sailed : Cond.code yX12_sailed cX12_sailed 2 (some .int) ∈ gT := gm (tT_9 _ (List.mem_of_getElem? (i := 132) rfl)) rfl
theorem wk_X12_494 : Cond.constantLong RX12 494 (4) ∈ gT := gm (tT_9 _ (List.mem_of_getElem? (i := 133) rfl)) rfl
theorem wm_L_211 : Cond.methodLink RL 211 yX12_agreed ∈ gT := gm (tT_9 _ (List.mem_of_getElem? (i := 134) rfl)) rfl
theorem wi_X12_agreed : Cond.instanceMethod yX12_agreed ∈ gT := gm (tT_9 _ (List.mem_of_getElem? (i := 135) rfl)) rfl
theorem wl_X12_agreed : Cond.selects RX12 yX12_agreed yX12_agreed ∈ gT := gm (tT_9 _ (List.mem_of_getElem? (i := 136) rfl)) rfl
theorem wc_X12_agreed : Cond.code yX12_agreed cX12_agreed 7 (some .int) ∈ gT := gm (tT_9 _ (List.mem_of_getElem? (i := 137) rfl)) rfl
theorem wk_X12_496 : Cond.constantLong RX12 496 (30) ∈ gT := gm (tT_9 _ (List.mem_of_getElem? (i := 138) rfl)) rfl
theorem wm_L_215 : Cond.methodLink RL 215 yX12_seal ∈ gT := gm (tT_9 _ (List.mem_of_getElem? (i := 139) rfl)) rfl
theorem wi_X12_seal : Cond.instanceMethod yX12_seal ∈ gT := gm (tT_9 _ (List.mem_of_getElem? (i := 140) rfl)) rfl
theorem wl_X12_seal : Cond.selects RX12 yX12_seal yX12_seal ∈ gT := gm (tT_9 _ (List.mem_of_getElem? (i := 141) rfl)) rfl
theorem wc_X12_seal : Cond.code yX12_seal cX12_seal 8 (some .int) ∈ gT := gm (tT_9 _ (List.mem_of_getElem? (i := 142) rfl)) rfl
theorem wk_X12_498 : Cond.constantLong RX12 498 (5) ∈ gT := gm (tT_9 _ (List.mem_of_getElem? (i := 143) rfl)) rfl
theorem wk_X12_500 : Cond.constantLong RX12 500 (251) ∈ gT := gm (tT_9 _ (List.mem_of_getElem? (i := 144) rfl)) rfl
theorem wm_L_219 : Cond.methodLink RL 219 yX12_open ∈ gT := gm (tT_9 _ (List.mem_of_getElem? (i := 145) rfl)) rfl
theorem wi_X12_open : Cond.instanceMethod yX12_open ∈ gT := gm (tT_9 _ (List.mem_of_getElem? (i := 146) rfl)) rfl
theorem wl_X12_open : Cond.selects RX12 yX12_open yX12_open ∈ gT := gm (tT_9 _ (List.mem_of_getElem? (i := 147) rfl)) rfl
theorem wc_X12_open : Cond.code yX12_open cX12_open 13 (some .int) ∈ gT := gm (tT_9 _ (List.mem_of_getElem? (i := 148) rfl)) rfl
theorem wk_X12_502 : Cond.constantLong RX12 502 (79) ∈ gT := gm (tT_9 _ (List.mem_of_getElem? (i := 149) rfl)) rfl
theorem wm_L_223 : Cond.methodLink RL 223 yX12_mark ∈ gT := gm (tT_9 _ (List.mem_of_getElem? (i := 150) rfl)) rfl
theorem wi_X12_mark : Cond.instanceMethod yX12_mark ∈ gT := gm (tT_9 _ (List.mem_of_getElem? (i := 151) rfl)) rfl
theorem wl_X12_mark : Cond.selects RX12 yX12_mark yX12_mark ∈ gT := gm (tT_9 _ (List.mem_of_getElem? (i := 152) rfl)) rfl
theorem wc_X12_mark : Cond.code yX12_mark cX12_mark 1 (some .int) ∈ gT := gm (tT_9 _ (List.mem_of_getElem? (i := 153) rfl)) rfl
theorem wm_X12_507 : Cond.methodLink RX12 507 yX12_copy ∈ gT := gm (tT_9 _ (List.mem_of_getElem? (i := 154) rfl)) rfl
theorem wi_X12_copy : Cond.instanceMethod yX12_copy ∈ gT := gm (tT_9 _ (List.mem_of_getElem? (i := 156) rfl)) rfl
theorem wc_X12_copy : Cond.code yX12_copy cX12_copy 4 none ∈ gT := gm (tT_9 _ (List.mem_of_getElem? (i := 157) rfl)) rfl
theorem wm_L_227 : Cond.methodLink RL 227 yX12_back ∈ gT := gm (tT_9 _ (List.mem_of_getElem? (i := 158) rfl)) rfl
theorem wi_X12_back : Cond.instanceMethod yX12_back ∈ gT := gm (tT_9 _ (List.mem_of_getElem? (i := 159) rfl)) rfl
theorem wl_X12_back : Cond.selects RX12 yX12_back yX12_back ∈ gT := gm (tT_9 _ (List.mem_of_getElem? (i := 160) rfl)) rfl
theorem wc_X12_back : Cond.code yX12_back cX12_back 1 (some .int) ∈ gT := gm (tT_9 _ (List.mem_of_getElem? (i := 161) rfl)) rfl
theorem wk_L_32 : Cond.constantLong RL 32 (4294967295) ∈ gT := gm (tT_9 _ (List.mem_of_getElem? (i := 162) rfl)) rfl
theorem wf_J0_9 : Cond.fieldLink RJ0 9 "java/lang/String" "value" "[B" ∈ gT := gm (tT_9 _ (List.mem_of_getElem? (i := 163) rfl)) rfl
theorem wf_J0_15 : Cond.fieldLink RJ0 15 "java/lang/String" "coder" "B" ∈ gT := gm (tT_9 _ (List.mem_of_getElem? (i := 164) rfl)) rfl
theorem wl_X11_deny : Cond.selects RX11 yX11_deny yX11_deny ∈ gT := gm (List.mem_append_left _ (List.mem_map.mpr ⟨(yX11_deny, (lw_privs[0]?.map (fun q => q.2)).getD 0), List.mem_of_getElem? (i := 0) rfl, rfl⟩)) rfl
theorem wl_X11_grant : Cond.selects RX11 yX11_grant yX11_grant ∈ gT := gm (List.mem_append_left _ (List.mem_map.mpr ⟨(yX11_grant, (lw_privs[1]?.map (fun q => q.2)).getD 0), List.mem_of_getElem? (i := 1) rfl, rfl⟩)) rfl
theorem wl_X11_faultOfPlace : Cond.selects RX11 yX11_faultOfPlace yX11_faultOfPlace ∈ gT := gm (List.mem_append_left _ (List.mem_map.mpr ⟨(yX11_faultOfPlace, (lw_privs[2]?.map (fun q => q.2)).getD 0), List.mem_of_getElem? (i := 2) rfl, rfl⟩)) rfl
theorem wl_X9_cut : Cond.selects RX9 yX9_cut yX9_cut ∈ gT := gm (List.mem_append_left _ (List.mem_map.mpr ⟨(yX9_cut, (lw_privs[3]?.map (fun q => q.2)).getD 0), List.mem_of_getElem? (i := 3) rfl, rfl⟩)) rfl
theorem wl_X11_refuse : Cond.selects RX11 yX11_refuse yX11_refuse ∈ gT := gm (List.mem_append_left _ (List.mem_map.mpr ⟨(yX11_refuse, (lw_privs[4]?.map (fun q => q.2)).getD 0), List.mem_of_getElem? (i := 4) rfl, rfl⟩)) rfl
theorem wl_X11_tellLong : Cond.selects RX11 yX11_tellLong yX11_tellLong ∈ gT := gm (List.mem_append_left _ (List.mem_map.mpr ⟨(yX11_tellLong, (lw_privs[5]?.map (fun q => q.2)).getD 0), List.mem_of_getElem? (i := 5) rfl, rfl⟩)) rfl
theorem wl_X8_addToken : Cond.selects RX8 yX8_addToken yX8_addToken ∈ gT := gm (List.mem_append_left _ (List.mem_map.mpr ⟨(yX8_addToken, (lw_privs[6]?.map (fun q => q.2)).getD 0), List.mem_of_getElem? (i := 6) rfl, rfl⟩)) rfl
theorem wl_X8_addWord : Cond.selects RX8 yX8_addWord yX8_addWord ∈ gT := gm (List.mem_append_left _ (List.mem_map.mpr ⟨(yX8_addWord, (lw_privs[7]?.map (fun q => q.2)).getD 0), List.mem_of_getElem? (i := 7) rfl, rfl⟩)) rfl
theorem wl_X8_kindOfWord : Cond.selects RX8 yX8_kindOfWord yX8_kindOfWord ∈ gT := gm (List.mem_append_left _ (List.mem_map.mpr ⟨(yX8_kindOfWord, (lw_privs[8]?.map (fun q => q.2)).getD 0), List.mem_of_getElem? (i := 8) rfl, rfl⟩)) rfl
theorem wl_X8_addNumber : Cond.selects RX8 yX8_addNumber yX8_addNumber ∈ gT := gm (List.mem_append_left _ (List.mem_map.mpr ⟨(yX8_addNumber, (lw_privs[9]?.map (fun q => q.2)).getD 0), List.mem_of_getElem? (i := 9) rfl, rfl⟩)) rfl
theorem wl_X1_readIsland : Cond.selects RX1 yX1_readIsland yX1_readIsland ∈ gT := gm (List.mem_append_left _ (List.mem_map.mpr ⟨(yX1_readIsland, (lw_privs[10]?.map (fun q => q.2)).getD 0), List.mem_of_getElem? (i := 10) rfl, rfl⟩)) rfl
theorem wl_X1_isNewName : Cond.selects RX1 yX1_isNewName yX1_isNewName ∈ gT := gm (List.mem_append_left _ (List.mem_map.mpr ⟨(yX1_isNewName, (lw_privs[11]?.map (fun q => q.2)).getD 0), List.mem_of_getElem? (i := 11) rfl, rfl⟩)) rfl
theorem wl_X1_readChange : Cond.selects RX1 yX1_readChange yX1_readChange ∈ gT := gm (List.mem_append_left _ (List.mem_map.mpr ⟨(yX1_readChange, (lw_privs[12]?.map (fun q => q.2)).getD 0), List.mem_of_getElem? (i := 12) rfl, rfl⟩)) rfl
theorem wl_X1_readBody : Cond.selects RX1 yX1_readBody yX1_readBody ∈ gT := gm (List.mem_append_left _ (List.mem_map.mpr ⟨(yX1_readBody, (lw_privs[13]?.map (fun q => q.2)).getD 0), List.mem_of_getElem? (i := 13) rfl, rfl⟩)) rfl
theorem wl_X1_readNumber : Cond.selects RX1 yX1_readNumber yX1_readNumber ∈ gT := gm (List.mem_append_left _ (List.mem_map.mpr ⟨(yX1_readNumber, (lw_privs[14]?.map (fun q => q.2)).getD 0), List.mem_of_getElem? (i := 14) rfl, rfl⟩)) rfl
theorem wl_X1_readSaying : Cond.selects RX1 yX1_readSaying yX1_readSaying ∈ gT := gm (List.mem_append_left _ (List.mem_map.mpr ⟨(yX1_readSaying, (lw_privs[15]?.map (fun q => q.2)).getD 0), List.mem_of_getElem? (i := 15) rfl, rfl⟩)) rfl
theorem wl_X1_readOf : Cond.selects RX1 yX1_readOf yX1_readOf ∈ gT := gm (List.mem_append_left _ (List.mem_map.mpr ⟨(yX1_readOf, (lw_privs[16]?.map (fun q => q.2)).getD 0), List.mem_of_getElem? (i := 16) rfl, rfl⟩)) rfl
theorem wl_X1_readSettled : Cond.selects RX1 yX1_readSettled yX1_readSettled ∈ gT := gm (List.mem_append_left _ (List.mem_map.mpr ⟨(yX1_readSettled, (lw_privs[17]?.map (fun q => q.2)).getD 0), List.mem_of_getElem? (i := 17) rfl, rfl⟩)) rfl
theorem wl_X1_readAfter : Cond.selects RX1 yX1_readAfter yX1_readAfter ∈ gT := gm (List.mem_append_left _ (List.mem_map.mpr ⟨(yX1_readAfter, (lw_privs[18]?.map (fun q => q.2)).getD 0), List.mem_of_getElem? (i := 18) rfl, rfl⟩)) rfl
theorem wl_X11_tell : Cond.selects RX11 yX11_tell yX11_tell ∈ gT := gm (List.mem_append_left _ (List.mem_map.mpr ⟨(yX11_tell, (lw_privs[19]?.map (fun q => q.2)).getD 0), List.mem_of_getElem? (i := 19) rfl, rfl⟩)) rfl
theorem wl_X4_beginEnd : Cond.selects RX4 yX4_beginEnd yX4_beginEnd ∈ gT := gm (List.mem_append_left _ (List.mem_map.mpr ⟨(yX4_beginEnd, (lw_privs[20]?.map (fun q => q.2)).getD 0), List.mem_of_getElem? (i := 20) rfl, rfl⟩)) rfl
theorem wl_X4_beginStep : Cond.selects RX4 yX4_beginStep yX4_beginStep ∈ gT := gm (List.mem_append_left _ (List.mem_map.mpr ⟨(yX4_beginStep, (lw_privs[21]?.map (fun q => q.2)).getD 0), List.mem_of_getElem? (i := 21) rfl, rfl⟩)) rfl
theorem wl_X4_readBody : Cond.selects RX4 yX4_readBody yX4_readBody ∈ gT := gm (List.mem_append_left _ (List.mem_map.mpr ⟨(yX4_readBody, (lw_privs[22]?.map (fun q => q.2)).getD 0), List.mem_of_getElem? (i := 22) rfl, rfl⟩)) rfl
theorem wl_X4_readChange : Cond.selects RX4 yX4_readChange yX4_readChange ∈ gT := gm (List.mem_append_left _ (List.mem_map.mpr ⟨(yX4_readChange, (lw_privs[23]?.map (fun q => q.2)).getD 0), List.mem_of_getElem? (i := 23) rfl, rfl⟩)) rfl
theorem wl_X4_advanceBehind : Cond.selects RX4 yX4_advanceBehind yX4_advanceBehind ∈ gT := gm (List.mem_append_left _ (List.mem_map.mpr ⟨(yX4_advanceBehind, (lw_privs[24]?.map (fun q => q.2)).getD 0), List.mem_of_getElem? (i := 24) rfl, rfl⟩)) rfl
theorem wl_X4_readIsland : Cond.selects RX4 yX4_readIsland yX4_readIsland ∈ gT := gm (List.mem_append_left _ (List.mem_map.mpr ⟨(yX4_readIsland, (lw_privs[25]?.map (fun q => q.2)).getD 0), List.mem_of_getElem? (i := 25) rfl, rfl⟩)) rfl
theorem wl_X4_readTarget : Cond.selects RX4 yX4_readTarget yX4_readTarget ∈ gT := gm (List.mem_append_left _ (List.mem_map.mpr ⟨(yX4_readTarget, (lw_privs[26]?.map (fun q => q.2)).getD 0), List.mem_of_getElem? (i := 26) rfl, rfl⟩)) rfl
theorem wl_X4_readDelay : Cond.selects RX4 yX4_readDelay yX4_readDelay ∈ gT := gm (List.mem_append_left _ (List.mem_map.mpr ⟨(yX4_readDelay, (lw_privs[27]?.map (fun q => q.2)).getD 0), List.mem_of_getElem? (i := 27) rfl, rfl⟩)) rfl
theorem wl_X4_readNumber : Cond.selects RX4 yX4_readNumber yX4_readNumber ∈ gT := gm (List.mem_append_left _ (List.mem_map.mpr ⟨(yX4_readNumber, (lw_privs[28]?.map (fun q => q.2)).getD 0), List.mem_of_getElem? (i := 28) rfl, rfl⟩)) rfl
theorem wl_X4_readTest : Cond.selects RX4 yX4_readTest yX4_readTest ∈ gT := gm (List.mem_append_left _ (List.mem_map.mpr ⟨(yX4_readTest, (lw_privs[29]?.map (fun q => q.2)).getD 0), List.mem_of_getElem? (i := 29) rfl, rfl⟩)) rfl
theorem wl_X11_faultOfSet : Cond.selects RX11 yX11_faultOfSet yX11_faultOfSet ∈ gT := gm (List.mem_append_left _ (List.mem_map.mpr ⟨(yX11_faultOfSet, (lw_privs[30]?.map (fun q => q.2)).getD 0), List.mem_of_getElem? (i := 30) rfl, rfl⟩)) rfl
theorem wl_X0_ofThing : Cond.selects RX0 yX0_ofThing yX0_ofThing ∈ gT := gm (List.mem_append_left _ (List.mem_map.mpr ⟨(yX0_ofThing, (lw_privs[31]?.map (fun q => q.2)).getD 0), List.mem_of_getElem? (i := 31) rfl, rfl⟩)) rfl
theorem wl_X2_insert : Cond.selects RX2 yX2_insert yX2_insert ∈ gT := gm (List.mem_append_left _ (List.mem_map.mpr ⟨(yX2_insert, (lw_privs[32]?.map (fun q => q.2)).getD 0), List.mem_of_getElem? (i := 32) rfl, rfl⟩)) rfl
theorem wl_X11_findThing : Cond.selects RX11 yX11_findThing yX11_findThing ∈ gT := gm (List.mem_append_left _ (List.mem_map.mpr ⟨(yX11_findThing, (lw_privs[33]?.map (fun q => q.2)).getD 0), List.mem_of_getElem? (i := 33) rfl, rfl⟩)) rfl
theorem wl_X11_faultOfSets : Cond.selects RX11 yX11_faultOfSets yX11_faultOfSets ∈ gT := gm (List.mem_append_left _ (List.mem_map.mpr ⟨(yX11_faultOfSets, (lw_privs[34]?.map (fun q => q.2)).getD 0), List.mem_of_getElem? (i := 34) rfl, rfl⟩)) rfl
theorem wl_X6_seek : Cond.selects RX6 yX6_seek yX6_seek ∈ gT := gm (List.mem_append_left _ (List.mem_map.mpr ⟨(yX6_seek, (lw_privs[35]?.map (fun q => q.2)).getD 0), List.mem_of_getElem? (i := 35) rfl, rfl⟩)) rfl
theorem wl_X6_keepBetter : Cond.selects RX6 yX6_keepBetter yX6_keepBetter ∈ gT := gm (List.mem_append_left _ (List.mem_map.mpr ⟨(yX6_keepBetter, (lw_privs[36]?.map (fun q => q.2)).getD 0), List.mem_of_getElem? (i := 36) rfl, rfl⟩)) rfl
theorem wl_X5_waysBehind : Cond.selects RX5 yX5_waysBehind yX5_waysBehind ∈ gT := gm (List.mem_append_left _ (List.mem_map.mpr ⟨(yX5_waysBehind, (lw_privs[37]?.map (fun q => q.2)).getD 0), List.mem_of_getElem? (i := 37) rfl, rfl⟩)) rfl
theorem wl_X5_readyOnes : Cond.selects RX5 yX5_readyOnes yX5_readyOnes ∈ gT := gm (List.mem_append_left _ (List.mem_map.mpr ⟨(yX5_readyOnes, (lw_privs[38]?.map (fun q => q.2)).getD 0), List.mem_of_getElem? (i := 38) rfl, rfl⟩)) rfl
theorem wl_X5_isReady : Cond.selects RX5 yX5_isReady yX5_isReady ∈ gT := gm (List.mem_append_left _ (List.mem_map.mpr ⟨(yX5_isReady, (lw_privs[39]?.map (fun q => q.2)).getD 0), List.mem_of_getElem? (i := 39) rfl, rfl⟩)) rfl
theorem wl_X5_freeAmong : Cond.selects RX5 yX5_freeAmong yX5_freeAmong ∈ gT := gm (List.mem_append_left _ (List.mem_map.mpr ⟨(yX5_freeAmong, (lw_privs[40]?.map (fun q => q.2)).getD 0), List.mem_of_getElem? (i := 40) rfl, rfl⟩)) rfl
theorem wl_X5_isAwaited : Cond.selects RX5 yX5_isAwaited yX5_isAwaited ∈ gT := gm (List.mem_append_left _ (List.mem_map.mpr ⟨(yX5_isAwaited, (lw_privs[41]?.map (fun q => q.2)).getD 0), List.mem_of_getElem? (i := 41) rfl, rfl⟩)) rfl
theorem wl_X5_sumOver : Cond.selects RX5 yX5_sumOver yX5_sumOver ∈ gT := gm (List.mem_append_left _ (List.mem_map.mpr ⟨(yX5_sumOver, (lw_privs[42]?.map (fun q => q.2)).getD 0), List.mem_of_getElem? (i := 42) rfl, rfl⟩)) rfl
theorem wl_X11_tellFraction : Cond.selects RX11 yX11_tellFraction yX11_tellFraction ∈ gT := gm (List.mem_append_left _ (List.mem_map.mpr ⟨(yX11_tellFraction, (lw_privs[43]?.map (fun q => q.2)).getD 0), List.mem_of_getElem? (i := 43) rfl, rfl⟩)) rfl
theorem wl_X11_areChangesOnce : Cond.selects RX11 yX11_areChangesOnce yX11_areChangesOnce ∈ gT := gm (List.mem_append_left _ (List.mem_map.mpr ⟨(yX11_areChangesOnce, (lw_privs[44]?.map (fun q => q.2)).getD 0), List.mem_of_getElem? (i := 44) rfl, rfl⟩)) rfl
theorem wl_X11_holdsInRow : Cond.selects RX11 yX11_holdsInRow yX11_holdsInRow ∈ gT := gm (List.mem_append_left _ (List.mem_map.mpr ⟨(yX11_holdsInRow, (lw_privs[45]?.map (fun q => q.2)).getD 0), List.mem_of_getElem? (i := 45) rfl, rfl⟩)) rfl
theorem wl_X10_isRow : Cond.selects RX10 yX10_isRow yX10_isRow ∈ gT := gm (List.mem_append_left _ (List.mem_map.mpr ⟨(yX10_isRow, (lw_privs[46]?.map (fun q => q.2)).getD 0), List.mem_of_getElem? (i := 46) rfl, rfl⟩)) rfl
theorem wl_X10_rowAfterEnd : Cond.selects RX10 yX10_rowAfterEnd yX10_rowAfterEnd ∈ gT := gm (List.mem_append_left _ (List.mem_map.mpr ⟨(yX10_rowAfterEnd, (lw_privs[47]?.map (fun q => q.2)).getD 0), List.mem_of_getElem? (i := 47) rfl, rfl⟩)) rfl
theorem wl_X10_rowAfterStep : Cond.selects RX10 yX10_rowAfterStep yX10_rowAfterStep ∈ gT := gm (List.mem_append_left _ (List.mem_map.mpr ⟨(yX10_rowAfterStep, (lw_privs[48]?.map (fun q => q.2)).getD 0), List.mem_of_getElem? (i := 48) rfl, rfl⟩)) rfl
theorem wl_X10_isSo : Cond.selects RX10 yX10_isSo yX10_isSo ∈ gT := gm (List.mem_append_left _ (List.mem_map.mpr ⟨(yX10_isSo, (lw_privs[49]?.map (fun q => q.2)).getD 0), List.mem_of_getElem? (i := 49) rfl, rfl⟩)) rfl
theorem wl_X10_doStep : Cond.selects RX10 yX10_doStep yX10_doStep ∈ gT := gm (List.mem_append_left _ (List.mem_map.mpr ⟨(yX10_doStep, (lw_privs[50]?.map (fun q => q.2)).getD 0), List.mem_of_getElem? (i := 50) rfl, rfl⟩)) rfl
theorem wl_X10_landDue : Cond.selects RX10 yX10_landDue yX10_landDue ∈ gT := gm (List.mem_append_left _ (List.mem_map.mpr ⟨(yX10_landDue, (lw_privs[51]?.map (fun q => q.2)).getD 0), List.mem_of_getElem? (i := 51) rfl, rfl⟩)) rfl
theorem wl_X10_land : Cond.selects RX10 yX10_land yX10_land ∈ gT := gm (List.mem_append_left _ (List.mem_map.mpr ⟨(yX10_land, (lw_privs[52]?.map (fun q => q.2)).getD 0), List.mem_of_getElem? (i := 52) rfl, rfl⟩)) rfl
theorem wl_X10_moveCargo : Cond.selects RX10 yX10_moveCargo yX10_moveCargo ∈ gT := gm (List.mem_append_left _ (List.mem_map.mpr ⟨(yX10_moveCargo, (lw_privs[53]?.map (fun q => q.2)).getD 0), List.mem_of_getElem? (i := 53) rfl, rfl⟩)) rfl
theorem wl_X10_draw : Cond.selects RX10 yX10_draw yX10_draw ∈ gT := gm (List.mem_append_left _ (List.mem_map.mpr ⟨(yX10_draw, (lw_privs[54]?.map (fun q => q.2)).getD 0), List.mem_of_getElem? (i := 54) rfl, rfl⟩)) rfl
theorem wl_X10_setOut : Cond.selects RX10 yX10_setOut yX10_setOut ∈ gT := gm (List.mem_append_left _ (List.mem_map.mpr ⟨(yX10_setOut, (lw_privs[55]?.map (fun q => q.2)).getD 0), List.mem_of_getElem? (i := 55) rfl, rfl⟩)) rfl
theorem wl_X10_addCargo : Cond.selects RX10 yX10_addCargo yX10_addCargo ∈ gT := gm (List.mem_append_left _ (List.mem_map.mpr ⟨(yX10_addCargo, (lw_privs[56]?.map (fun q => q.2)).getD 0), List.mem_of_getElem? (i := 56) rfl, rfl⟩)) rfl
theorem wl_X10_alter : Cond.selects RX10 yX10_alter yX10_alter ∈ gT := gm (List.mem_append_left _ (List.mem_map.mpr ⟨(yX10_alter, (lw_privs[57]?.map (fun q => q.2)).getD 0), List.mem_of_getElem? (i := 57) rfl, rfl⟩)) rfl
theorem wl_X10_isAnywhere : Cond.selects RX10 yX10_isAnywhere yX10_isAnywhere ∈ gT := gm (List.mem_append_left _ (List.mem_map.mpr ⟨(yX10_isAnywhere, (lw_privs[58]?.map (fun q => q.2)).getD 0), List.mem_of_getElem? (i := 58) rfl, rfl⟩)) rfl
theorem wl_X11_writeSeal : Cond.selects RX11 yX11_writeSeal yX11_writeSeal ∈ gT := gm (List.mem_append_left _ (List.mem_map.mpr ⟨(yX11_writeSeal, (lw_privs[59]?.map (fun q => q.2)).getD 0), List.mem_of_getElem? (i := 59) rfl, rfl⟩)) rfl
theorem wl_X11_sealOf : Cond.selects RX11 yX11_sealOf yX11_sealOf ∈ gT := gm (List.mem_append_left _ (List.mem_map.mpr ⟨(yX11_sealOf, (lw_privs[60]?.map (fun q => q.2)).getD 0), List.mem_of_getElem? (i := 60) rfl, rfl⟩)) rfl
theorem wl_X11_readSeal : Cond.selects RX11 yX11_readSeal yX11_readSeal ∈ gT := gm (List.mem_append_left _ (List.mem_map.mpr ⟨(yX11_readSeal, (lw_privs[61]?.map (fun q => q.2)).getD 0), List.mem_of_getElem? (i := 61) rfl, rfl⟩)) rfl
theorem wl_X12_no : Cond.selects RX12 yX12_no yX12_no ∈ gT := gm (List.mem_append_left _ (List.mem_map.mpr ⟨(yX12_no, (lw_privs[62]?.map (fun q => q.2)).getD 0), List.mem_of_getElem? (i := 62) rfl, rfl⟩)) rfl
theorem wl_X12_placed : Cond.selects RX12 yX12_placed yX12_placed ∈ gT := gm (List.mem_append_left _ (List.mem_map.mpr ⟨(yX12_placed, (lw_privs[63]?.map (fun q => q.2)).getD 0), List.mem_of_getElem? (i := 63) rfl, rfl⟩)) rfl
theorem wl_X12_trayed : Cond.selects RX12 yX12_trayed yX12_trayed ∈ gT := gm (List.mem_append_left _ (List.mem_map.mpr ⟨(yX12_trayed, (lw_privs[64]?.map (fun q => q.2)).getD 0), List.mem_of_getElem? (i := 64) rfl, rfl⟩)) rfl
theorem wl_X12_lay : Cond.selects RX12 yX12_lay yX12_lay ∈ gT := gm (List.mem_append_left _ (List.mem_map.mpr ⟨(yX12_lay, (lw_privs[65]?.map (fun q => q.2)).getD 0), List.mem_of_getElem? (i := 65) rfl, rfl⟩)) rfl
theorem wl_X12_opens : Cond.selects RX12 yX12_opens yX12_opens ∈ gT := gm (List.mem_append_left _ (List.mem_map.mpr ⟨(yX12_opens, (lw_privs[66]?.map (fun q => q.2)).getD 0), List.mem_of_getElem? (i := 66) rfl, rfl⟩)) rfl
theorem wl_X12_next : Cond.selects RX12 yX12_next yX12_next ∈ gT := gm (List.mem_append_left _ (List.mem_map.mpr ⟨(yX12_next, (lw_privs[67]?.map (fun q => q.2)).getD 0), List.mem_of_getElem? (i := 67) rfl, rfl⟩)) rfl
theorem wl_X12_look2 : Cond.selects RX12 yX12_look2 yX12_look2 ∈ gT := gm (List.mem_append_left _ (List.mem_map.mpr ⟨(yX12_look2, (lw_privs[68]?.map (fun q => q.2)).getD 0), List.mem_of_getElem? (i := 68) rfl, rfl⟩)) rfl
theorem wl_X12_isIslandWord : Cond.selects RX12 yX12_isIslandWord yX12_isIslandWord ∈ gT := gm (List.mem_append_left _ (List.mem_map.mpr ⟨(yX12_isIslandWord, (lw_privs[69]?.map (fun q => q.2)).getD 0), List.mem_of_getElem? (i := 69) rfl, rfl⟩)) rfl
theorem wl_X12_isWord : Cond.selects RX12 yX12_isWord yX12_isWord ∈ gT := gm (List.mem_append_left _ (List.mem_map.mpr ⟨(yX12_isWord, (lw_privs[70]?.map (fun q => q.2)).getD 0), List.mem_of_getElem? (i := 70) rfl, rfl⟩)) rfl
theorem wl_X12_readIsland : Cond.selects RX12 yX12_readIsland yX12_readIsland ∈ gT := gm (List.mem_append_left _ (List.mem_map.mpr ⟨(yX12_readIsland, (lw_privs[71]?.map (fun q => q.2)).getD 0), List.mem_of_getElem? (i := 71) rfl, rfl⟩)) rfl
theorem wl_X12_fail : Cond.selects RX12 yX12_fail yX12_fail ∈ gT := gm (List.mem_append_left _ (List.mem_map.mpr ⟨(yX12_fail, (lw_privs[72]?.map (fun q => q.2)).getD 0), List.mem_of_getElem? (i := 72) rfl, rfl⟩)) rfl
theorem wl_X12_readNew : Cond.selects RX12 yX12_readNew yX12_readNew ∈ gT := gm (List.mem_append_left _ (List.mem_map.mpr ⟨(yX12_readNew, (lw_privs[73]?.map (fun q => q.2)).getD 0), List.mem_of_getElem? (i := 73) rfl, rfl⟩)) rfl
theorem wl_X12_isName : Cond.selects RX12 yX12_isName yX12_isName ∈ gT := gm (List.mem_append_left _ (List.mem_map.mpr ⟨(yX12_isName, (lw_privs[74]?.map (fun q => q.2)).getD 0), List.mem_of_getElem? (i := 74) rfl, rfl⟩)) rfl
theorem wl_X12_isKept : Cond.selects RX12 yX12_isKept yX12_isKept ∈ gT := gm (List.mem_append_left _ (List.mem_map.mpr ⟨(yX12_isKept, (lw_privs[75]?.map (fun q => q.2)).getD 0), List.mem_of_getElem? (i := 75) rfl, rfl⟩)) rfl
theorem wl_X12_kindWord : Cond.selects RX12 yX12_kindWord yX12_kindWord ∈ gT := gm (List.mem_append_left _ (List.mem_map.mpr ⟨(yX12_kindWord, (lw_privs[76]?.map (fun q => q.2)).getD 0), List.mem_of_getElem? (i := 76) rfl, rfl⟩)) rfl
theorem wl_X12_isKey : Cond.selects RX12 yX12_isKey yX12_isKey ∈ gT := gm (List.mem_append_left _ (List.mem_map.mpr ⟨(yX12_isKey, (lw_privs[77]?.map (fun q => q.2)).getD 0), List.mem_of_getElem? (i := 77) rfl, rfl⟩)) rfl
theorem wl_X12_isSays : Cond.selects RX12 yX12_isSays yX12_isSays ∈ gT := gm (List.mem_append_left _ (List.mem_map.mpr ⟨(yX12_isSays, (lw_privs[78]?.map (fun q => q.2)).getD 0), List.mem_of_getElem? (i := 78) rfl, rfl⟩)) rfl
theorem wl_X12_isOf : Cond.selects RX12 yX12_isOf yX12_isOf ∈ gT := gm (List.mem_append_left _ (List.mem_map.mpr ⟨(yX12_isOf, (lw_privs[79]?.map (fun q => q.2)).getD 0), List.mem_of_getElem? (i := 79) rfl, rfl⟩)) rfl
theorem wl_X12_isNot : Cond.selects RX12 yX12_isNot yX12_isNot ∈ gT := gm (List.mem_append_left _ (List.mem_map.mpr ⟨(yX12_isNot, (lw_privs[80]?.map (fun q => q.2)).getD 0), List.mem_of_getElem? (i := 80) rfl, rfl⟩)) rfl
theorem wl_X12_isAfter : Cond.selects RX12 yX12_isAfter yX12_isAfter ∈ gT := gm (List.mem_append_left _ (List.mem_map.mpr ⟨(yX12_isAfter, (lw_privs[81]?.map (fun q => q.2)).getD 0), List.mem_of_getElem? (i := 81) rfl, rfl⟩)) rfl
theorem wl_X12_stepWord : Cond.selects RX12 yX12_stepWord yX12_stepWord ∈ gT := gm (List.mem_append_left _ (List.mem_map.mpr ⟨(yX12_stepWord, (lw_privs[82]?.map (fun q => q.2)).getD 0), List.mem_of_getElem? (i := 82) rfl, rfl⟩)) rfl
theorem wl_X12_isAt : Cond.selects RX12 yX12_isAt yX12_isAt ∈ gT := gm (List.mem_append_left _ (List.mem_map.mpr ⟨(yX12_isAt, (lw_privs[83]?.map (fun q => q.2)).getD 0), List.mem_of_getElem? (i := 83) rfl, rfl⟩)) rfl
theorem wl_X12_isTo : Cond.selects RX12 yX12_isTo yX12_isTo ∈ gT := gm (List.mem_append_left _ (List.mem_map.mpr ⟨(yX12_isTo, (lw_privs[84]?.map (fun q => q.2)).getD 0), List.mem_of_getElem? (i := 84) rfl, rfl⟩)) rfl
theorem wl_X12_isLate : Cond.selects RX12 yX12_isLate yX12_isLate ∈ gT := gm (List.mem_append_left _ (List.mem_map.mpr ⟨(yX12_isLate, (lw_privs[85]?.map (fun q => q.2)).getD 0), List.mem_of_getElem? (i := 85) rfl, rfl⟩)) rfl
theorem wl_X12_isTwice : Cond.selects RX12 yX12_isTwice yX12_isTwice ∈ gT := gm (List.mem_append_left _ (List.mem_map.mpr ⟨(yX12_isTwice, (lw_privs[86]?.map (fun q => q.2)).getD 0), List.mem_of_getElem? (i := 86) rfl, rfl⟩)) rfl
theorem wl_X12_isHas : Cond.selects RX12 yX12_isHas yX12_isHas ∈ gT := gm (List.mem_append_left _ (List.mem_map.mpr ⟨(yX12_isHas, (lw_privs[87]?.map (fun q => q.2)).getD 0), List.mem_of_getElem? (i := 87) rfl, rfl⟩)) rfl
theorem wl_X12_isQuietWord : Cond.selects RX12 yX12_isQuietWord yX12_isQuietWord ∈ gT := gm (List.mem_append_left _ (List.mem_map.mpr ⟨(yX12_isQuietWord, (lw_privs[88]?.map (fun q => q.2)).getD 0), List.mem_of_getElem? (i := 88) rfl, rfl⟩)) rfl
theorem wl_X12_isDayWord : Cond.selects RX12 yX12_isDayWord yX12_isDayWord ∈ gT := gm (List.mem_append_left _ (List.mem_map.mpr ⟨(yX12_isDayWord, (lw_privs[89]?.map (fun q => q.2)).getD 0), List.mem_of_getElem? (i := 89) rfl, rfl⟩)) rfl
theorem wl_X12_isEnd : Cond.selects RX12 yX12_isEnd yX12_isEnd ∈ gT := gm (List.mem_append_left _ (List.mem_map.mpr ⟨(yX12_isEnd, (lw_privs[90]?.map (fun q => q.2)).getD 0), List.mem_of_getElem? (i := 90) rfl, rfl⟩)) rfl
theorem wl_X12_wrong : Cond.selects RX12 yX12_wrong yX12_wrong ∈ gT := gm (List.mem_append_left _ (List.mem_map.mpr ⟨(yX12_wrong, (lw_privs[91]?.map (fun q => q.2)).getD 0), List.mem_of_getElem? (i := 91) rfl, rfl⟩)) rfl
theorem wl_X12_named : Cond.selects RX12 yX12_named yX12_named ∈ gT := gm (List.mem_append_left _ (List.mem_map.mpr ⟨(yX12_named, (lw_privs[92]?.map (fun q => q.2)).getD 0), List.mem_of_getElem? (i := 92) rfl, rfl⟩)) rfl
theorem wl_X12_readChange : Cond.selects RX12 yX12_readChange yX12_readChange ∈ gT := gm (List.mem_append_left _ (List.mem_map.mpr ⟨(yX12_readChange, (lw_privs[93]?.map (fun q => q.2)).getD 0), List.mem_of_getElem? (i := 93) rfl, rfl⟩)) rfl
theorem wl_X12_readWhat : Cond.selects RX12 yX12_readWhat yX12_readWhat ∈ gT := gm (List.mem_append_left _ (List.mem_map.mpr ⟨(yX12_readWhat, (lw_privs[94]?.map (fun q => q.2)).getD 0), List.mem_of_getElem? (i := 94) rfl, rfl⟩)) rfl
theorem wl_X12_readSettle : Cond.selects RX12 yX12_readSettle yX12_readSettle ∈ gT := gm (List.mem_append_left _ (List.mem_map.mpr ⟨(yX12_readSettle, (lw_privs[95]?.map (fun q => q.2)).getD 0), List.mem_of_getElem? (i := 95) rfl, rfl⟩)) rfl
theorem wl_X12_must : Cond.selects RX12 yX12_must yX12_must ∈ gT := gm (List.mem_append_left _ (List.mem_map.mpr ⟨(yX12_must, (lw_privs[96]?.map (fun q => q.2)).getD 0), List.mem_of_getElem? (i := 96) rfl, rfl⟩)) rfl
theorem wl_X12_readQuarreler : Cond.selects RX12 yX12_readQuarreler yX12_readQuarreler ∈ gT := gm (List.mem_append_left _ (List.mem_map.mpr ⟨(yX12_readQuarreler, (lw_privs[97]?.map (fun q => q.2)).getD 0), List.mem_of_getElem? (i := 97) rfl, rfl⟩)) rfl
theorem wl_X12_readTold : Cond.selects RX12 yX12_readTold yX12_readTold ∈ gT := gm (List.mem_append_left _ (List.mem_map.mpr ⟨(yX12_readTold, (lw_privs[98]?.map (fun q => q.2)).getD 0), List.mem_of_getElem? (i := 98) rfl, rfl⟩)) rfl
theorem wl_X12_kind : Cond.selects RX12 yX12_kind yX12_kind ∈ gT := gm (List.mem_append_left _ (List.mem_map.mpr ⟨(yX12_kind, (lw_privs[99]?.map (fun q => q.2)).getD 0), List.mem_of_getElem? (i := 99) rfl, rfl⟩)) rfl
theorem wl_X12_wouldQuarrel : Cond.selects RX12 yX12_wouldQuarrel yX12_wouldQuarrel ∈ gT := gm (List.mem_append_left _ (List.mem_map.mpr ⟨(yX12_wouldQuarrel, (lw_privs[100]?.map (fun q => q.2)).getD 0), List.mem_of_getElem? (i := 100) rfl, rfl⟩)) rfl
theorem wl_X12_thingOf : Cond.selects RX12 yX12_thingOf yX12_thingOf ∈ gT := gm (List.mem_append_left _ (List.mem_map.mpr ⟨(yX12_thingOf, (lw_privs[101]?.map (fun q => q.2)).getD 0), List.mem_of_getElem? (i := 101) rfl, rfl⟩)) rfl
theorem wl_X12_hangsOn : Cond.selects RX12 yX12_hangsOn yX12_hangsOn ∈ gT := gm (List.mem_append_left _ (List.mem_map.mpr ⟨(yX12_hangsOn, (lw_privs[102]?.map (fun q => q.2)).getD 0), List.mem_of_getElem? (i := 102) rfl, rfl⟩)) rfl
theorem wl_X12_readOf : Cond.selects RX12 yX12_readOf yX12_readOf ∈ gT := gm (List.mem_append_left _ (List.mem_map.mpr ⟨(yX12_readOf, (lw_privs[103]?.map (fun q => q.2)).getD 0), List.mem_of_getElem? (i := 103) rfl, rfl⟩)) rfl
theorem wl_X12_count : Cond.selects RX12 yX12_count yX12_count ∈ gT := gm (List.mem_append_left _ (List.mem_map.mpr ⟨(yX12_count, (lw_privs[104]?.map (fun q => q.2)).getD 0), List.mem_of_getElem? (i := 104) rfl, rfl⟩)) rfl
theorem wl_X12_readAfter : Cond.selects RX12 yX12_readAfter yX12_readAfter ∈ gT := gm (List.mem_append_left _ (List.mem_map.mpr ⟨(yX12_readAfter, (lw_privs[105]?.map (fun q => q.2)).getD 0), List.mem_of_getElem? (i := 105) rfl, rfl⟩)) rfl
theorem wl_X12_isClose : Cond.selects RX12 yX12_isClose yX12_isClose ∈ gT := gm (List.mem_append_left _ (List.mem_map.mpr ⟨(yX12_isClose, (lw_privs[106]?.map (fun q => q.2)).getD 0), List.mem_of_getElem? (i := 106) rfl, rfl⟩)) rfl
theorem wl_X12_isWell : Cond.selects RX12 yX12_isWell yX12_isWell ∈ gT := gm (List.mem_append_left _ (List.mem_map.mpr ⟨(yX12_isWell, (lw_privs[107]?.map (fun q => q.2)).getD 0), List.mem_of_getElem? (i := 107) rfl, rfl⟩)) rfl
theorem wl_X12_refuse : Cond.selects RX12 yX12_refuse yX12_refuse ∈ gT := gm (List.mem_append_left _ (List.mem_map.mpr ⟨(yX12_refuse, (lw_privs[108]?.map (fun q => q.2)).getD 0), List.mem_of_getElem? (i := 108) rfl, rfl⟩)) rfl
theorem wl_X12_isChange : Cond.selects RX12 yX12_isChange yX12_isChange ∈ gT := gm (List.mem_append_left _ (List.mem_map.mpr ⟨(yX12_isChange, (lw_privs[109]?.map (fun q => q.2)).getD 0), List.mem_of_getElem? (i := 109) rfl, rfl⟩)) rfl
theorem wl_X12_levelOf : Cond.selects RX12 yX12_levelOf yX12_levelOf ∈ gT := gm (List.mem_append_left _ (List.mem_map.mpr ⟨(yX12_levelOf, (lw_privs[110]?.map (fun q => q.2)).getD 0), List.mem_of_getElem? (i := 110) rfl, rfl⟩)) rfl
theorem wl_X12_hangers : Cond.selects RX12 yX12_hangers yX12_hangers ∈ gT := gm (List.mem_append_left _ (List.mem_map.mpr ⟨(yX12_hangers, (lw_privs[111]?.map (fun q => q.2)).getD 0), List.mem_of_getElem? (i := 111) rfl, rfl⟩)) rfl
theorem wl_X12_isSet : Cond.selects RX12 yX12_isSet yX12_isSet ∈ gT := gm (List.mem_append_left _ (List.mem_map.mpr ⟨(yX12_isSet, (lw_privs[112]?.map (fun q => q.2)).getD 0), List.mem_of_getElem? (i := 112) rfl, rfl⟩)) rfl
theorem wl_X12_lackOf : Cond.selects RX12 yX12_lackOf yX12_lackOf ∈ gT := gm (List.mem_append_left _ (List.mem_map.mpr ⟨(yX12_lackOf, (lw_privs[113]?.map (fun q => q.2)).getD 0), List.mem_of_getElem? (i := 113) rfl, rfl⟩)) rfl
theorem wl_X12_whyNot : Cond.selects RX12 yX12_whyNot yX12_whyNot ∈ gT := gm (List.mem_append_left _ (List.mem_map.mpr ⟨(yX12_whyNot, (lw_privs[114]?.map (fun q => q.2)).getD 0), List.mem_of_getElem? (i := 114) rfl, rfl⟩)) rfl
theorem wl_X12_listOf : Cond.selects RX12 yX12_listOf yX12_listOf ∈ gT := gm (List.mem_append_left _ (List.mem_map.mpr ⟨(yX12_listOf, (lw_privs[115]?.map (fun q => q.2)).getD 0), List.mem_of_getElem? (i := 115) rfl, rfl⟩)) rfl
theorem wl_X12_isThere : Cond.selects RX12 yX12_isThere yX12_isThere ∈ gT := gm (List.mem_append_left _ (List.mem_map.mpr ⟨(yX12_isThere, (lw_privs[116]?.map (fun q => q.2)).getD 0), List.mem_of_getElem? (i := 116) rfl, rfl⟩)) rfl
theorem wl_X12_isLeftOut : Cond.selects RX12 yX12_isLeftOut yX12_isLeftOut ∈ gT := gm (List.mem_append_left _ (List.mem_map.mpr ⟨(yX12_isLeftOut, (lw_privs[117]?.map (fun q => q.2)).getD 0), List.mem_of_getElem? (i := 117) rfl, rfl⟩)) rfl
theorem wl_X12_quarrelers : Cond.selects RX12 yX12_quarrelers yX12_quarrelers ∈ gT := gm (List.mem_append_left _ (List.mem_map.mpr ⟨(yX12_quarrelers, (lw_privs[118]?.map (fun q => q.2)).getD 0), List.mem_of_getElem? (i := 118) rfl, rfl⟩)) rfl
theorem wl_X12_quarrel : Cond.selects RX12 yX12_quarrel yX12_quarrel ∈ gT := gm (List.mem_append_left _ (List.mem_map.mpr ⟨(yX12_quarrel, (lw_privs[119]?.map (fun q => q.2)).getD 0), List.mem_of_getElem? (i := 119) rfl, rfl⟩)) rfl
theorem wl_X12_isSettled : Cond.selects RX12 yX12_isSettled yX12_isSettled ∈ gT := gm (List.mem_append_left _ (List.mem_map.mpr ⟨(yX12_isSettled, (lw_privs[120]?.map (fun q => q.2)).getD 0), List.mem_of_getElem? (i := 120) rfl, rfl⟩)) rfl
theorem wl_X12_toldBy : Cond.selects RX12 yX12_toldBy yX12_toldBy ∈ gT := gm (List.mem_append_left _ (List.mem_map.mpr ⟨(yX12_toldBy, (lw_privs[121]?.map (fun q => q.2)).getD 0), List.mem_of_getElem? (i := 121) rfl, rfl⟩)) rfl
theorem wl_X12_allHang : Cond.selects RX12 yX12_allHang yX12_allHang ∈ gT := gm (List.mem_append_left _ (List.mem_map.mpr ⟨(yX12_allHang, (lw_privs[122]?.map (fun q => q.2)).getD 0), List.mem_of_getElem? (i := 122) rfl, rfl⟩)) rfl
theorem wl_X12_whyNoThing : Cond.selects RX12 yX12_whyNoThing yX12_whyNoThing ∈ gT := gm (List.mem_append_left _ (List.mem_map.mpr ⟨(yX12_whyNoThing, (lw_privs[123]?.map (fun q => q.2)).getD 0), List.mem_of_getElem? (i := 123) rfl, rfl⟩)) rfl
theorem wl_X12_placeIn : Cond.selects RX12 yX12_placeIn yX12_placeIn ∈ gT := gm (List.mem_append_left _ (List.mem_map.mpr ⟨(yX12_placeIn, (lw_privs[124]?.map (fun q => q.2)).getD 0), List.mem_of_getElem? (i := 124) rfl, rfl⟩)) rfl
theorem wl_X12_whyNotTwo : Cond.selects RX12 yX12_whyNotTwo yX12_whyNotTwo ∈ gT := gm (List.mem_append_left _ (List.mem_map.mpr ⟨(yX12_whyNotTwo, (lw_privs[125]?.map (fun q => q.2)).getD 0), List.mem_of_getElem? (i := 125) rfl, rfl⟩)) rfl
theorem wl_X12_quarrelsIn : Cond.selects RX12 yX12_quarrelsIn yX12_quarrelsIn ∈ gT := gm (List.mem_append_left _ (List.mem_map.mpr ⟨(yX12_quarrelsIn, (lw_privs[126]?.map (fun q => q.2)).getD 0), List.mem_of_getElem? (i := 126) rfl, rfl⟩)) rfl
theorem wl_X12_isQuiet : Cond.selects RX12 yX12_isQuiet yX12_isQuiet ∈ gT := gm (List.mem_append_left _ (List.mem_map.mpr ⟨(yX12_isQuiet, (lw_privs[127]?.map (fun q => q.2)).getD 0), List.mem_of_getElem? (i := 127) rfl, rfl⟩)) rfl
theorem wl_X12_need : Cond.selects RX12 yX12_need yX12_need ∈ gT := gm (List.mem_append_left _ (List.mem_map.mpr ⟨(yX12_need, (lw_privs[128]?.map (fun q => q.2)).getD 0), List.mem_of_getElem? (i := 128) rfl, rfl⟩)) rfl
theorem wl_X12_countWays : Cond.selects RX12 yX12_countWays yX12_countWays ∈ gT := gm (List.mem_append_left _ (List.mem_map.mpr ⟨(yX12_countWays, (lw_privs[129]?.map (fun q => q.2)).getD 0), List.mem_of_getElem? (i := 129) rfl, rfl⟩)) rfl
theorem wl_X12_fraction : Cond.selects RX12 yX12_fraction yX12_fraction ∈ gT := gm (List.mem_append_left _ (List.mem_map.mpr ⟨(yX12_fraction, (lw_privs[130]?.map (fun q => q.2)).getD 0), List.mem_of_getElem? (i := 130) rfl, rfl⟩)) rfl
theorem wl_X12_isTray : Cond.selects RX12 yX12_isTray yX12_isTray ∈ gT := gm (List.mem_append_left _ (List.mem_map.mpr ⟨(yX12_isTray, (lw_privs[131]?.map (fun q => q.2)).getD 0), List.mem_of_getElem? (i := 131) rfl, rfl⟩)) rfl
theorem wl_X12_numberOf : Cond.selects RX12 yX12_numberOf yX12_numberOf ∈ gT := gm (List.mem_append_left _ (List.mem_map.mpr ⟨(yX12_numberOf, (lw_privs[132]?.map (fun q => q.2)).getD 0), List.mem_of_getElem? (i := 132) rfl, rfl⟩)) rfl
theorem wl_X12_orderSet : Cond.selects RX12 yX12_orderSet yX12_orderSet ∈ gT := gm (List.mem_append_left _ (List.mem_map.mpr ⟨(yX12_orderSet, (lw_privs[133]?.map (fun q => q.2)).getD 0), List.mem_of_getElem? (i := 133) rfl, rfl⟩)) rfl
theorem wl_X12_swapped : Cond.selects RX12 yX12_swapped yX12_swapped ∈ gT := gm (List.mem_append_left _ (List.mem_map.mpr ⟨(yX12_swapped, (lw_privs[134]?.map (fun q => q.2)).getD 0), List.mem_of_getElem? (i := 134) rfl, rfl⟩)) rfl
theorem wl_X12_isIsland : Cond.selects RX12 yX12_isIsland yX12_isIsland ∈ gT := gm (List.mem_append_left _ (List.mem_map.mpr ⟨(yX12_isIsland, (lw_privs[135]?.map (fun q => q.2)).getD 0), List.mem_of_getElem? (i := 135) rfl, rfl⟩)) rfl
theorem wl_X12_readStep : Cond.selects RX12 yX12_readStep yX12_readStep ∈ gT := gm (List.mem_append_left _ (List.mem_map.mpr ⟨(yX12_readStep, (lw_privs[136]?.map (fun q => q.2)).getD 0), List.mem_of_getElem? (i := 136) rfl, rfl⟩)) rfl
theorem wl_X12_readRest : Cond.selects RX12 yX12_readRest yX12_readRest ∈ gT := gm (List.mem_append_left _ (List.mem_map.mpr ⟨(yX12_readRest, (lw_privs[137]?.map (fun q => q.2)).getD 0), List.mem_of_getElem? (i := 137) rfl, rfl⟩)) rfl
theorem wl_X12_readLogName : Cond.selects RX12 yX12_readLogName yX12_readLogName ∈ gT := gm (List.mem_append_left _ (List.mem_map.mpr ⟨(yX12_readLogName, (lw_privs[138]?.map (fun q => q.2)).getD 0), List.mem_of_getElem? (i := 138) rfl, rfl⟩)) rfl
theorem wl_X12_readShip : Cond.selects RX12 yX12_readShip yX12_readShip ∈ gT := gm (List.mem_append_left _ (List.mem_map.mpr ⟨(yX12_readShip, (lw_privs[139]?.map (fun q => q.2)).getD 0), List.mem_of_getElem? (i := 139) rfl, rfl⟩)) rfl
theorem wl_X12_readTest : Cond.selects RX12 yX12_readTest yX12_readTest ∈ gT := gm (List.mem_append_left _ (List.mem_map.mpr ⟨(yX12_readTest, (lw_privs[140]?.map (fun q => q.2)).getD 0), List.mem_of_getElem? (i := 140) rfl, rfl⟩)) rfl
theorem wl_X12_run : Cond.selects RX12 yX12_run yX12_run ∈ gT := gm (List.mem_append_left _ (List.mem_map.mpr ⟨(yX12_run, (lw_privs[141]?.map (fun q => q.2)).getD 0), List.mem_of_getElem? (i := 141) rfl, rfl⟩)) rfl
theorem wl_X12_doAll : Cond.selects RX12 yX12_doAll yX12_doAll ∈ gT := gm (List.mem_append_left _ (List.mem_map.mpr ⟨(yX12_doAll, (lw_privs[142]?.map (fun q => q.2)).getD 0), List.mem_of_getElem? (i := 142) rfl, rfl⟩)) rfl
theorem wl_X12_doOne : Cond.selects RX12 yX12_doOne yX12_doOne ∈ gT := gm (List.mem_append_left _ (List.mem_map.mpr ⟨(yX12_doOne, (lw_privs[143]?.map (fun q => q.2)).getD 0), List.mem_of_getElem? (i := 143) rfl, rfl⟩)) rfl
theorem wl_X12_doAt : Cond.selects RX12 yX12_doAt yX12_doAt ∈ gT := gm (List.mem_append_left _ (List.mem_map.mpr ⟨(yX12_doAt, (lw_privs[144]?.map (fun q => q.2)).getD 0), List.mem_of_getElem? (i := 144) rfl, rfl⟩)) rfl
theorem wl_X12_doShip : Cond.selects RX12 yX12_doShip yX12_doShip ∈ gT := gm (List.mem_append_left _ (List.mem_map.mpr ⟨(yX12_doShip, (lw_privs[145]?.map (fun q => q.2)).getD 0), List.mem_of_getElem? (i := 145) rfl, rfl⟩)) rfl
theorem wl_X12_comes : Cond.selects RX12 yX12_comes yX12_comes ∈ gT := gm (List.mem_append_left _ (List.mem_map.mpr ⟨(yX12_comes, (lw_privs[146]?.map (fun q => q.2)).getD 0), List.mem_of_getElem? (i := 146) rfl, rfl⟩)) rfl
theorem wl_X12_load : Cond.selects RX12 yX12_load yX12_load ∈ gT := gm (List.mem_append_left _ (List.mem_map.mpr ⟨(yX12_load, (lw_privs[147]?.map (fun q => q.2)).getD 0), List.mem_of_getElem? (i := 147) rfl, rfl⟩)) rfl
theorem wl_X12_doWait : Cond.selects RX12 yX12_doWait yX12_doWait ∈ gT := gm (List.mem_append_left _ (List.mem_map.mpr ⟨(yX12_doWait, (lw_privs[148]?.map (fun q => q.2)).getD 0), List.mem_of_getElem? (i := 148) rfl, rfl⟩)) rfl
theorem wl_X12_takeAway : Cond.selects RX12 yX12_takeAway yX12_takeAway ∈ gT := gm (List.mem_append_left _ (List.mem_map.mpr ⟨(yX12_takeAway, (lw_privs[149]?.map (fun q => q.2)).getD 0), List.mem_of_getElem? (i := 149) rfl, rfl⟩)) rfl
theorem wl_X12_doDraw : Cond.selects RX12 yX12_doDraw yX12_doDraw ∈ gT := gm (List.mem_append_left _ (List.mem_map.mpr ⟨(yX12_doDraw, (lw_privs[150]?.map (fun q => q.2)).getD 0), List.mem_of_getElem? (i := 150) rfl, rfl⟩)) rfl
theorem wl_X12_draw : Cond.selects RX12 yX12_draw yX12_draw ∈ gT := gm (List.mem_append_left _ (List.mem_map.mpr ⟨(yX12_draw, (lw_privs[151]?.map (fun q => q.2)).getD 0), List.mem_of_getElem? (i := 151) rfl, rfl⟩)) rfl
theorem wl_X12_isSo : Cond.selects RX12 yX12_isSo yX12_isSo ∈ gT := gm (List.mem_append_left _ (List.mem_map.mpr ⟨(yX12_isSo, (lw_privs[152]?.map (fun q => q.2)).getD 0), List.mem_of_getElem? (i := 152) rfl, rfl⟩)) rfl
theorem wl_X12_copy : Cond.selects RX12 yX12_copy yX12_copy ∈ gT := gm (List.mem_append_left _ (List.mem_map.mpr ⟨(yX12_copy, (lw_privs[153]?.map (fun q => q.2)).getD 0), List.mem_of_getElem? (i := 153) rfl, rfl⟩)) rfl
set_option maxRecDepth 20000 in
theorem inG0 : ∀ w ∈ u_ws RX0 TX0 16, w ∈ gT := List.forall_mem_cons.mpr ⟨wy_X0_islands, List.forall_mem_cons.mpr ⟨wy_X0_changes, List.forall_mem_cons.mpr ⟨wy_X0_islandNames, List.forall_mem_cons.mpr ⟨wy_X0_changeNames, List.forall_mem_cons.mpr ⟨wy_X0_kinds, List.forall_mem_cons.mpr ⟨wy_X0_numbers, List.forall_mem_cons.mpr ⟨wy_X0_sayings, List.forall_mem_cons.mpr ⟨wy_X0_things, List.forall_mem_cons.mpr ⟨wy_X0_levels, List.forall_mem_cons.mpr ⟨wy_X0_direct, List.forall_mem_cons.mpr ⟨wy_X0_below, List.forall_mem_cons.mpr ⟨wy_X0_above, List.forall_mem_cons.mpr ⟨wy_X0_foes, List.forall_mem_cons.mpr ⟨wy_X0_winners, List.forall_mem_cons.mpr ⟨wy_X0_losers, List.forall_mem_cons.mpr ⟨wy_X0_settles, fun _ h => absurd h List.not_mem_nil⟩⟩⟩⟩⟩⟩⟩⟩⟩⟩⟩⟩⟩⟩⟩⟩
set_option maxRecDepth 20000 in
theorem inG1 : ∀ w ∈ u_ws RX1 TX1 2, w ∈ gT := List.forall_mem_cons.mpr ⟨wy_X1_tokens, List.forall_mem_cons.mpr ⟨wy_X1_book, fun _ h => absurd h List.not_mem_nil⟩⟩
set_option maxRecDepth 20000 in
theorem inG2 : ∀ w ∈ u_ws RX2 TX2 4, w ∈ gT := List.forall_mem_cons.mpr ⟨wy_X2_count, List.forall_mem_cons.mpr ⟨wy_X2_puts, List.forall_mem_cons.mpr ⟨wy_X2_sayings, List.forall_mem_cons.mpr ⟨wy_X2_keys, fun _ h => absurd h List.not_mem_nil⟩⟩⟩⟩
set_option maxRecDepth 20000 in
theorem inG3 : ∀ w ∈ u_ws RX3 TX3 8, w ∈ gT := List.forall_mem_cons.mpr ⟨wy_X3_steps, List.forall_mem_cons.mpr ⟨wy_X3_rows, List.forall_mem_cons.mpr ⟨wy_X3_words, List.forall_mem_cons.mpr ⟨wy_X3_islands, List.forall_mem_cons.mpr ⟨wy_X3_others, List.forall_mem_cons.mpr ⟨wy_X3_numbers, List.forall_mem_cons.mpr ⟨wy_X3_twice, List.forall_mem_cons.mpr ⟨wy_X3_partners, fun _ h => absurd h List.not_mem_nil⟩⟩⟩⟩⟩⟩⟩⟩
set_option maxRecDepth 20000 in
theorem inG4 : ∀ w ∈ u_ws RX4 TX4 5, w ∈ gT := List.forall_mem_cons.mpr ⟨wy_X4_tokens, List.forall_mem_cons.mpr ⟨wy_X4_book, List.forall_mem_cons.mpr ⟨wy_X4_log, List.forall_mem_cons.mpr ⟨wy_X4_opened, List.forall_mem_cons.mpr ⟨wy_X4_depth, fun _ h => absurd h List.not_mem_nil⟩⟩⟩⟩⟩
set_option maxRecDepth 20000 in
theorem inG5 : ∀ w ∈ u_ws RX5 TX5 6, w ∈ gT := List.forall_mem_cons.mpr ⟨wy_X5_book, List.forall_mem_cons.mpr ⟨wy_X5_set, List.forall_mem_cons.mpr ⟨wy_X5_early, List.forall_mem_cons.mpr ⟨wy_X5_late, List.forall_mem_cons.mpr ⟨wy_X5_stamp, List.forall_mem_cons.mpr ⟨wy_X5_ways, fun _ h => absurd h List.not_mem_nil⟩⟩⟩⟩⟩⟩
set_option maxRecDepth 20000 in
theorem inG6 : ∀ w ∈ u_ws RX6 TX6 3, w ∈ gT := List.forall_mem_cons.mpr ⟨wy_X6_book, List.forall_mem_cons.mpr ⟨wy_X6_whole, List.forall_mem_cons.mpr ⟨wy_X6_best, fun _ h => absurd h List.not_mem_nil⟩⟩⟩
set_option maxRecDepth 20000 in
theorem inG7 : ∀ w ∈ u_ws RX7 TX7 5, w ∈ gT := List.forall_mem_cons.mpr ⟨wy_X7_book, List.forall_mem_cons.mpr ⟨wy_X7_log, List.forall_mem_cons.mpr ⟨wy_X7_has, List.forall_mem_cons.mpr ⟨wy_X7_order, List.forall_mem_cons.mpr ⟨wy_X7_orderLength, fun _ h => absurd h List.not_mem_nil⟩⟩⟩⟩⟩
set_option maxRecDepth 20000 in
theorem inG8 : ∀ w ∈ u_ws RX8 TX8 11, w ∈ gT := List.forall_mem_cons.mpr ⟨wy_X8_tape, List.forall_mem_cons.mpr ⟨wy_X8_keywordNames, List.forall_mem_cons.mpr ⟨wy_X8_tapeLength, List.forall_mem_cons.mpr ⟨wy_X8_fault, List.forall_mem_cons.mpr ⟨wy_X8_faultPlace, List.forall_mem_cons.mpr ⟨wy_X8_textLength, List.forall_mem_cons.mpr ⟨wy_X8_kinds, List.forall_mem_cons.mpr ⟨wy_X8_starts, List.forall_mem_cons.mpr ⟨wy_X8_values, List.forall_mem_cons.mpr ⟨wy_X8_last, List.forall_mem_cons.mpr ⟨wy_X8_at, fun _ h => absurd h List.not_mem_nil⟩⟩⟩⟩⟩⟩⟩⟩⟩⟩⟩
set_option maxRecDepth 20000 in
theorem inG9 : ∀ w ∈ u_ws RX9 TX9 3, w ∈ gT := List.forall_mem_cons.mpr ⟨wy_X9_numbers, List.forall_mem_cons.mpr ⟨wy_X9_sort, List.forall_mem_cons.mpr ⟨wy_X9_length, fun _ h => absurd h List.not_mem_nil⟩⟩⟩
set_option maxRecDepth 20000 in
theorem inG10 : ∀ w ∈ u_ws RX10 TX10 16, w ∈ gT := List.forall_mem_cons.mpr ⟨wy_X10_has, List.forall_mem_cons.mpr ⟨wy_X10_steps, List.forall_mem_cons.mpr ⟨wy_X10_day, List.forall_mem_cons.mpr ⟨wy_X10_missed, List.forall_mem_cons.mpr ⟨wy_X10_came, List.forall_mem_cons.mpr ⟨wy_X10_lost, List.forall_mem_cons.mpr ⟨wy_X10_cargoes, List.forall_mem_cons.mpr ⟨wy_X10_book, List.forall_mem_cons.mpr ⟨wy_X10_log, List.forall_mem_cons.mpr ⟨wy_X10_chance, List.forall_mem_cons.mpr ⟨wy_X10_ships, List.forall_mem_cons.mpr ⟨wy_X10_cargoSets, List.forall_mem_cons.mpr ⟨wy_X10_cargoTargets, List.forall_mem_cons.mpr ⟨wy_X10_cargoDays, List.forall_mem_cons.mpr ⟨wy_X10_cargoShips, List.forall_mem_cons.mpr ⟨wy_X10_roundsLeft, fun _ h => absurd h List.not_mem_nil⟩⟩⟩⟩⟩⟩⟩⟩⟩⟩⟩⟩⟩⟩⟩⟩
set_option maxRecDepth 20000 in
theorem inG11 : ∀ w ∈ u_ws RX11 TX11 14, w ∈ gT := List.forall_mem_cons.mpr ⟨wy_X11_trays, List.forall_mem_cons.mpr ⟨wy_X11_tokens, List.forall_mem_cons.mpr ⟨wy_X11_now, List.forall_mem_cons.mpr ⟨wy_X11_marks, List.forall_mem_cons.mpr ⟨wy_X11_listing, List.forall_mem_cons.mpr ⟨wy_X11_otherListing, List.forall_mem_cons.mpr ⟨wy_X11_counter, List.forall_mem_cons.mpr ⟨wy_X11_voyage, List.forall_mem_cons.mpr ⟨wy_X11_lastVoyage, List.forall_mem_cons.mpr ⟨wy_X11_hasSailed, List.forall_mem_cons.mpr ⟨wy_X11_markCount, List.forall_mem_cons.mpr ⟨wy_X11_status, List.forall_mem_cons.mpr ⟨wy_X11_top, List.forall_mem_cons.mpr ⟨wy_X11_bottom, fun _ h => absurd h List.not_mem_nil⟩⟩⟩⟩⟩⟩⟩⟩⟩⟩⟩⟩⟩⟩
set_option maxRecDepth 20000 in
theorem inG12 : ∀ w ∈ u_ws RX12 TX12 47, w ∈ gT := List.forall_mem_cons.mpr ⟨wy_X12_status, List.forall_mem_cons.mpr ⟨wy_X12_thrown, List.forall_mem_cons.mpr ⟨wy_X12_above, List.forall_mem_cons.mpr ⟨wy_X12_under, List.forall_mem_cons.mpr ⟨wy_X12_traySort, List.forall_mem_cons.mpr ⟨wy_X12_trayMany, List.forall_mem_cons.mpr ⟨wy_X12_numbers, List.forall_mem_cons.mpr ⟨wy_X12_tape, List.forall_mem_cons.mpr ⟨wy_X12_taped, List.forall_mem_cons.mpr ⟨wy_X12_textEnd, List.forall_mem_cons.mpr ⟨wy_X12_faultKind, List.forall_mem_cons.mpr ⟨wy_X12_faultAt, List.forall_mem_cons.mpr ⟨wy_X12_bad, List.forall_mem_cons.mpr ⟨wy_X12_badAt, List.forall_mem_cons.mpr ⟨wy_X12_token, List.forall_mem_cons.mpr ⟨wy_X12_at, List.forall_mem_cons.mpr ⟨wy_X12_behind, List.forall_mem_cons.mpr ⟨wy_X12_number, List.forall_mem_cons.mpr ⟨wy_X12_letters, List.forall_mem_cons.mpr ⟨wy_X12_word, List.forall_mem_cons.mpr ⟨wy_X12_c, List.forall_mem_cons.mpr ⟨wy_X12_words, List.forall_mem_cons.mpr ⟨wy_X12_markMany, List.forall_mem_cons.mpr ⟨wy_X12_list, List.forall_mem_cons.mpr ⟨wy_X12_listB, List.forall_mem_cons.mpr ⟨wy_X12_listMany, List.forall_mem_cons.mpr ⟨wy_X12_listManyB, List.forall_mem_cons.mpr ⟨wy_X12_waysOf, List.forall_mem_cons.mpr ⟨wy_X12_needed, List.forall_mem_cons.mpr ⟨wy_X12_cargoTo, List.forall_mem_cons.mpr ⟨wy_X12_cargoSet, List.forall_mem_cons.mpr ⟨wy_X12_cargoDay, List.forall_mem_cons.mpr ⟨wy_X12_cargoShip, List.forall_mem_cons.mpr ⟨wy_X12_sailedLast, List.forall_mem_cons.mpr ⟨wy_X12_kept, List.forall_mem_cons.mpr ⟨wy_X12_cargoMany, List.forall_mem_cons.mpr ⟨wy_X12_ships, List.forall_mem_cons.mpr ⟨wy_X12_random, List.forall_mem_cons.mpr ⟨wy_X12_done, List.forall_mem_cons.mpr ⟨wy_X12_day, List.forall_mem_cons.mpr ⟨wy_X12_missed, List.forall_mem_cons.mpr ⟨wy_X12_came, List.forall_mem_cons.mpr ⟨wy_X12_lost, List.forall_mem_cons.mpr ⟨wy_X12_hasSailed, List.forall_mem_cons.mpr ⟨wy_X12_isOver, List.forall_mem_cons.mpr ⟨wy_X12_first, List.forall_mem_cons.mpr ⟨wy_X12_newSteps, fun _ h => absurd h List.not_mem_nil⟩⟩⟩⟩⟩⟩⟩⟩⟩⟩⟩⟩⟩⟩⟩⟩⟩⟩⟩⟩⟩⟩⟩⟩⟩⟩⟩⟩⟩⟩⟩⟩⟩⟩⟩⟩⟩⟩⟩⟩⟩⟩⟩⟩⟩⟩⟩
theorem fl_X0_15 : a_FL RX0 15 0 1 := ⟨RX0, TX0, 16, rfl, by decide, inG0, wf_X0_15⟩
theorem fw_X0_15 : a_FW RX0 15 0 1 .int false := ⟨RX0, TX0, 16, tyX0, rfl, by decide, inG0, wf_X0_15, tyX0_ok, nmX0, rfl, rfl, fun _ => rfl⟩
theorem fl_X0_18 : a_FL RX0 18 0 2 := ⟨RX0, TX0, 16, rfl, by decide, inG0, wf_X0_18⟩
theorem fw_X0_18 : a_FW RX0 18 0 2 (.array .long) true := ⟨RX0, TX0, 16, tyX0, rfl, by decide, inG0, wf_X0_18, tyX0_ok, nmX0, rfl, rfl, fun _ => rfl⟩
theorem fl_X0_22 : a_FL RX0 22 0 3 := ⟨RX0, TX0, 16, rfl, by decide, inG0, wf_X0_22⟩
theorem fw_X0_22 : a_FW RX0 22 0 3 (.array .long) true := ⟨RX0, TX0, 16, tyX0, rfl, by decide, inG0, wf_X0_22, tyX0_ok, nmX0, rfl, rfl, fun _ => rfl⟩
theorem fl_X0_25 : a_FL RX0 25 0 4 := ⟨RX0, TX0, 16, rfl, by decide, inG0, wf_X0_25⟩
theorem fw_X0_25 : a_FW RX0 25 0 4 (.array .int) true := ⟨RX0, TX0, 16, tyX0, rfl, by decide, inG0, wf_X0_25, tyX0_ok, nmX0, rfl, rfl, fun _ => rfl⟩
theorem fl_X0_29 : a_FL RX0 29 0 5 := ⟨RX0, TX0, 16, rfl, by decide, inG0, wf_X0_29⟩
theorem fw_X0_29 : a_FW RX0 29 0 5 (.array .int) true := ⟨RX0, TX0, 16, tyX0, rfl, by decide, inG0, wf_X0_29, tyX0_ok, nmX0, rfl, rfl, fun _ => rfl⟩
theorem fl_X0_32 : a_FL RX0 32 0 6 := ⟨RX0, TX0, 16, rfl, by decide, inG0, wf_X0_32⟩
theorem fw_X0_32 : a_FW RX0 32 0 6 (.array .int) true := ⟨RX0, TX0, 16, tyX0, rfl, by decide, inG0, wf_X0_32, tyX0_ok, nmX0, rfl, rfl, fun _ => rfl⟩
theorem fl_X0_35 : a_FL RX0 35 0 7 := ⟨RX0, TX0, 16, rfl, by decide, inG0, wf_X0_35⟩
theorem fw_X0_35 : a_FW RX0 35 0 7 (.array .int) true := ⟨RX0, TX0, 16, tyX0, rfl, by decide, inG0, wf_X0_35, tyX0_ok, nmX0, rfl, rfl, fun _ => rfl⟩
theorem fl_X0_38 : a_FL RX0 38 0 8 := ⟨RX0, TX0, 16, rfl, by decide, inG0, wf_X0_38⟩
theorem fw_X0_38 : a_FW RX0 38 0 8 (.array .int) true := ⟨RX0, TX0, 16, tyX0, rfl, by decide, inG0, wf_X0_38, tyX0_ok, nmX0, rfl, rfl, fun _ => rfl⟩
theorem fl_X0_41 : a_FL RX0 41 0 9 := ⟨RX0, TX0, 16, rfl, by decide, inG0, wf_X0_41⟩
theorem fw_X0_41 : a_FW RX0 41 0 9 (.array .int) true := ⟨RX0, TX0, 16, tyX0, rfl, by decide, inG0, wf_X0_41, tyX0_ok, nmX0, rfl, rfl, fun _ => rfl⟩
theorem fl_X0_44 : a_FL RX0 44 0 10 := ⟨RX0, TX0, 16, rfl, by decide, inG0, wf_X0_44⟩
theorem fw_X0_44 : a_FW RX0 44 0 10 (.array .int) true := ⟨RX0, TX0, 16, tyX0, rfl, by decide, inG0, wf_X0_44, tyX0_ok, nmX0, rfl, rfl, fun _ => rfl⟩
theorem fl_X0_47 : a_FL RX0 47 0 11 := ⟨RX0, TX0, 16, rfl, by decide, inG0, wf_X0_47⟩
theorem fw_X0_47 : a_FW RX0 47 0 11 (.array .int) true := ⟨RX0, TX0, 16, tyX0, rfl, by decide, inG0, wf_X0_47, tyX0_ok, nmX0, rfl, rfl, fun _ => rfl⟩
theorem fl_X0_50 : a_FL RX0 50 0 12 := ⟨RX0, TX0, 16, rfl, by decide, inG0, wf_X0_50⟩
theorem fw_X0_50 : a_FW RX0 50 0 12 (.array .int) true := ⟨RX0, TX0, 16, tyX0, rfl, by decide, inG0, wf_X0_50, tyX0_ok, nmX0, rfl, rfl, fun _ => rfl⟩
theorem fl_X0_53 : a_FL RX0 53 0 13 := ⟨RX0, TX0, 16, rfl, by decide, inG0, wf_X0_53⟩
theorem fw_X0_53 : a_FW RX0 53 0 13 (.array .int) true := ⟨RX0, TX0, 16, tyX0, rfl, by decide, inG0, wf_X0_53, tyX0_ok, nmX0, rfl, rfl, fun _ => rfl⟩
theorem fl_X0_56 : a_FL RX0 56 0 14 := ⟨RX0, TX0, 16, rfl, by decide, inG0, wf_X0_56⟩
theorem fw_X0_56 : a_FW RX0 56 0 14 (.array .int) true := ⟨RX0, TX0, 16, tyX0, rfl, by decide, inG0, wf_X0_56, tyX0_ok, nmX0, rfl, rfl, fun _ => rfl⟩
theorem fl_X0_59 : a_FL RX0 59 0 15 := ⟨RX0, TX0, 16, rfl, by decide, inG0, wf_X0_59⟩
theorem fw_X0_59 : a_FW RX0 59 0 15 .int false := ⟨RX0, TX0, 16, tyX0, rfl, by decide, inG0, wf_X0_59, tyX0_ok, nmX0, rfl, rfl, fun _ => rfl⟩
theorem fl_X0_9 : a_FL RX0 9 0 0 := ⟨RX0, TX0, 16, rfl, by decide, inG0, wf_X0_9⟩
theorem fw_X0_9 : a_FW RX0 9 0 0 .int false := ⟨RX0, TX0, 16, tyX0, rfl, by decide, inG0, wf_X0_9, tyX0_ok, nmX0, rfl, rfl, fun _ => rfl⟩
theorem fl_X10_104 : a_FL RX10 104 3 3 := ⟨RX3, TX3, 8, rfl, by decide, inG3, wf_X10_104⟩
theorem fl_X10_109 : a_FL RX10 109 3 4 := ⟨RX3, TX3, 8, rfl, by decide, inG3, wf_X10_109⟩
theorem fl_X10_136 : a_FL RX10 136 0 10 := ⟨RX0, TX0, 16, rfl, by decide, inG0, wf_X10_136⟩
theorem fl_X10_149 : a_FL RX10 149 3 6 := ⟨RX3, TX3, 8, rfl, by decide, inG3, wf_X10_149⟩
theorem fl_X10_15 : a_FL RX10 15 10 1 := ⟨RX10, TX10, 16, rfl, by decide, inG10, wf_X10_15⟩
theorem fw_X10_15 : a_FW RX10 15 10 1 .int false := ⟨RX10, TX10, 16, tyX10, rfl, by decide, inG10, wf_X10_15, tyX10_ok, nmX10, rfl, rfl, fun _ => rfl⟩
theorem fl_X10_19 : a_FL RX10 19 10 2 := ⟨RX10, TX10, 16, rfl, by decide, inG10, wf_X10_19⟩
theorem fw_X10_19 : a_FW RX10 19 10 2 .int false := ⟨RX10, TX10, 16, tyX10, rfl, by decide, inG10, wf_X10_19, tyX10_ok, nmX10, rfl, rfl, fun _ => rfl⟩
theorem fl_X10_22 : a_FL RX10 22 10 3 := ⟨RX10, TX10, 16, rfl, by decide, inG10, wf_X10_22⟩
theorem fw_X10_22 : a_FW RX10 22 10 3 .int false := ⟨RX10, TX10, 16, tyX10, rfl, by decide, inG10, wf_X10_22, tyX10_ok, nmX10, rfl, rfl, fun _ => rfl⟩
theorem fl_X10_25 : a_FL RX10 25 10 4 := ⟨RX10, TX10, 16, rfl, by decide, inG10, wf_X10_25⟩
theorem fw_X10_25 : a_FW RX10 25 10 4 .int false := ⟨RX10, TX10, 16, tyX10, rfl, by decide, inG10, wf_X10_25, tyX10_ok, nmX10, rfl, rfl, fun _ => rfl⟩
theorem fl_X10_28 : a_FL RX10 28 10 5 := ⟨RX10, TX10, 16, rfl, by decide, inG10, wf_X10_28⟩
theorem fw_X10_28 : a_FW RX10 28 10 5 .int false := ⟨RX10, TX10, 16, tyX10, rfl, by decide, inG10, wf_X10_28, tyX10_ok, nmX10, rfl, rfl, fun _ => rfl⟩
theorem fl_X10_31 : a_FL RX10 31 10 6 := ⟨RX10, TX10, 16, rfl, by decide, inG10, wf_X10_31⟩
theorem fw_X10_31 : a_FW RX10 31 10 6 .int false := ⟨RX10, TX10, 16, tyX10, rfl, by decide, inG10, wf_X10_31, tyX10_ok, nmX10, rfl, rfl, fun _ => rfl⟩
theorem fl_X10_37 : a_FL RX10 37 10 7 := ⟨RX10, TX10, 16, rfl, by decide, inG10, wf_X10_37⟩
theorem fw_X10_37 : a_FW RX10 37 10 7 (.object "SwapBook$Book") false := ⟨RX10, TX10, 16, tyX10, rfl, by decide, inG10, wf_X10_37, tyX10_ok, nmX10, rfl, rfl, fun _ => rfl⟩
theorem fl_X10_44 : a_FL RX10 44 10 8 := ⟨RX10, TX10, 16, rfl, by decide, inG10, wf_X10_44⟩
theorem fw_X10_44 : a_FW RX10 44 10 8 (.object "SwapBook$Log") false := ⟨RX10, TX10, 16, tyX10, rfl, by decide, inG10, wf_X10_44, tyX10_ok, nmX10, rfl, rfl, fun _ => rfl⟩
theorem fl_X10_48 : a_FL RX10 48 10 9 := ⟨RX10, TX10, 16, rfl, by decide, inG10, wf_X10_48⟩
theorem fw_X10_48 : a_FW RX10 48 10 9 .int false := ⟨RX10, TX10, 16, tyX10, rfl, by decide, inG10, wf_X10_48, tyX10_ok, nmX10, rfl, rfl, fun _ => rfl⟩
theorem fl_X10_51 : a_FL RX10 51 10 10 := ⟨RX10, TX10, 16, rfl, by decide, inG10, wf_X10_51⟩
theorem fw_X10_51 : a_FW RX10 51 10 10 .int false := ⟨RX10, TX10, 16, tyX10, rfl, by decide, inG10, wf_X10_51, tyX10_ok, nmX10, rfl, rfl, fun _ => rfl⟩
theorem fl_X10_54 : a_FL RX10 54 10 11 := ⟨RX10, TX10, 16, rfl, by decide, inG10, wf_X10_54⟩
theorem fw_X10_54 : a_FW RX10 54 10 11 (.array .int) true := ⟨RX10, TX10, 16, tyX10, rfl, by decide, inG10, wf_X10_54, tyX10_ok, nmX10, rfl, rfl, fun _ => rfl⟩
theorem fl_X10_57 : a_FL RX10 57 10 12 := ⟨RX10, TX10, 16, rfl, by decide, inG10, wf_X10_57⟩
theorem fw_X10_57 : a_FW RX10 57 10 12 (.array .int) true := ⟨RX10, TX10, 16, tyX10, rfl, by decide, inG10, wf_X10_57, tyX10_ok, nmX10, rfl, rfl, fun _ => rfl⟩
theorem fl_X10_60 : a_FL RX10 60 10 13 := ⟨RX10, TX10, 16, rfl, by decide, inG10, wf_X10_60⟩
theorem fw_X10_60 : a_FW RX10 60 10 13 (.array .int) true := ⟨RX10, TX10, 16, tyX10, rfl, by decide, inG10, wf_X10_60, tyX10_ok, nmX10, rfl, rfl, fun _ => rfl⟩
theorem fl_X10_63 : a_FL RX10 63 10 14 := ⟨RX10, TX10, 16, rfl, by decide, inG10, wf_X10_63⟩
theorem fw_X10_63 : a_FW RX10 63 10 14 (.array .int) true := ⟨RX10, TX10, 16, tyX10, rfl, by decide, inG10, wf_X10_63, tyX10_ok, nmX10, rfl, rfl, fun _ => rfl⟩
theorem fl_X10_66 : a_FL RX10 66 10 15 := ⟨RX10, TX10, 16, rfl, by decide, inG10, wf_X10_66⟩
theorem fw_X10_66 : a_FW RX10 66 10 15 (.array .int) true := ⟨RX10, TX10, 16, tyX10, rfl, by decide, inG10, wf_X10_66, tyX10_ok, nmX10, rfl, rfl, fun _ => rfl⟩
theorem fl_X10_74 : a_FL RX10 74 3 2 := ⟨RX3, TX3, 8, rfl, by decide, inG3, wf_X10_74⟩
theorem fl_X10_86 : a_FL RX10 86 3 1 := ⟨RX3, TX3, 8, rfl, by decide, inG3, wf_X10_86⟩
theorem fw_X10_86 : a_FW RX10 86 3 1 .int false := ⟨RX3, TX3, 8, tyX3, rfl, by decide, inG3, wf_X10_86, tyX3_ok, nmX3, rfl, rfl, fun h => by cases h⟩
theorem fl_X10_89 : a_FL RX10 89 0 0 := ⟨RX0, TX0, 16, rfl, by decide, inG0, wf_X10_89⟩
theorem fw_X10_89 : a_FW RX10 89 0 0 .int false := ⟨RX0, TX0, 16, tyX0, rfl, by decide, inG0, wf_X10_89, tyX0_ok, nmX0, rfl, rfl, fun h => by cases h⟩
theorem fl_X10_9 : a_FL RX10 9 10 0 := ⟨RX10, TX10, 16, rfl, by decide, inG10, wf_X10_9⟩
theorem fw_X10_9 : a_FW RX10 9 10 0 (.array .int) true := ⟨RX10, TX10, 16, tyX10, rfl, by decide, inG10, wf_X10_9, tyX10_ok, nmX10, rfl, rfl, fun _ => rfl⟩
theorem fl_X10_92 : a_FL RX10 92 3 7 := ⟨RX3, TX3, 8, rfl, by decide, inG3, wf_X10_92⟩
theorem fl_X10_95 : a_FL RX10 95 3 5 := ⟨RX3, TX3, 8, rfl, by decide, inG3, wf_X10_95⟩
theorem fl_X11_11 : a_FL RX11 11 11 0 := ⟨RX11, TX11, 14, rfl, by decide, inG11, wf_X11_11⟩
theorem fw_X11_11 : a_FW RX11 11 11 0 (.array (.object "SwapBook$Tray")) true := ⟨RX11, TX11, 14, tyX11, rfl, by decide, inG11, wf_X11_11, tyX11_ok, nmX11, rfl, rfl, fun _ => rfl⟩
theorem fl_X11_125 : a_FL RX11 125 9 1 := ⟨RX9, TX9, 3, rfl, by decide, inG9, wf_X11_125⟩
theorem fw_X11_125 : a_FW RX11 125 9 1 .int false := ⟨RX9, TX9, 3, tyX9, rfl, by decide, inG9, wf_X11_125, tyX9_ok, nmX9, rfl, rfl, fun h => by cases h⟩
theorem fl_X11_128 : a_FL RX11 128 9 0 := ⟨RX9, TX9, 3, rfl, by decide, inG9, wf_X11_128⟩
theorem fl_X11_145 : a_FL RX11 145 8 2 := ⟨RX8, TX8, 11, rfl, by decide, inG8, wf_X11_145⟩
theorem fw_X11_145 : a_FW RX11 145 8 2 .int false := ⟨RX8, TX8, 11, tyX8, rfl, by decide, inG8, wf_X11_145, tyX8_ok, nmX8, rfl, rfl, fun h => by cases h⟩
theorem fl_X11_157 : a_FL RX11 157 8 3 := ⟨RX8, TX8, 11, rfl, by decide, inG8, wf_X11_157⟩
theorem fw_X11_157 : a_FW RX11 157 8 3 .int false := ⟨RX8, TX8, 11, tyX8, rfl, by decide, inG8, wf_X11_157, tyX8_ok, nmX8, rfl, rfl, fun h => by cases h⟩
theorem fl_X11_164 : a_FL RX11 164 0 1 := ⟨RX0, TX0, 16, rfl, by decide, inG0, wf_X11_164⟩
theorem fw_X11_164 : a_FW RX11 164 0 1 .int false := ⟨RX0, TX0, 16, tyX0, rfl, by decide, inG0, wf_X11_164, tyX0_ok, nmX0, rfl, rfl, fun h => by cases h⟩
theorem fl_X11_174 : a_FL RX11 174 7 0 := ⟨RX7, TX7, 5, rfl, by decide, inG7, wf_X11_174⟩
theorem fw_X11_174 : a_FW RX11 174 7 0 (.object "SwapBook$Book") false := ⟨RX7, TX7, 5, tyX7, rfl, by decide, inG7, wf_X11_174, tyX7_ok, nmX7, rfl, rfl, fun h => by cases h⟩
theorem fl_X11_18 : a_FL RX11 18 11 1 := ⟨RX11, TX11, 14, rfl, by decide, inG11, wf_X11_18⟩
theorem fw_X11_18 : a_FW RX11 18 11 1 (.object "SwapBook$Tokens") true := ⟨RX11, TX11, 14, tyX11, rfl, by decide, inG11, wf_X11_18, tyX11_ok, nmX11, rfl, rfl, fun _ => rfl⟩
theorem fl_X11_185 : a_FL RX11 185 7 1 := ⟨RX7, TX7, 5, rfl, by decide, inG7, wf_X11_185⟩
theorem fw_X11_185 : a_FW RX11 185 7 1 (.object "SwapBook$Log") false := ⟨RX7, TX7, 5, tyX7, rfl, by decide, inG7, wf_X11_185, tyX7_ok, nmX7, rfl, rfl, fun h => by cases h⟩
theorem fl_X11_189 : a_FL RX11 189 3 0 := ⟨RX3, TX3, 8, rfl, by decide, inG3, wf_X11_189⟩
theorem fw_X11_189 : a_FW RX11 189 3 0 .int false := ⟨RX3, TX3, 8, tyX3, rfl, by decide, inG3, wf_X11_189, tyX3_ok, nmX3, rfl, rfl, fun h => by cases h⟩
theorem fl_X11_194 : a_FL RX11 194 8 4 := ⟨RX8, TX8, 11, rfl, by decide, inG8, wf_X11_194⟩
theorem fw_X11_194 : a_FW RX11 194 8 4 .int false := ⟨RX8, TX8, 11, tyX8, rfl, by decide, inG8, wf_X11_194, tyX8_ok, nmX8, rfl, rfl, fun h => by cases h⟩
theorem fl_X11_197 : a_FL RX11 197 0 0 := ⟨RX0, TX0, 16, rfl, by decide, inG0, wf_X11_197⟩
theorem fw_X11_197 : a_FW RX11 197 0 0 .int false := ⟨RX0, TX0, 16, tyX0, rfl, by decide, inG0, wf_X11_197, tyX0_ok, nmX0, rfl, rfl, fun h => by cases h⟩
theorem fl_X11_215 : a_FL RX11 215 0 4 := ⟨RX0, TX0, 16, rfl, by decide, inG0, wf_X11_215⟩
theorem fl_X11_218 : a_FL RX11 218 0 5 := ⟨RX0, TX0, 16, rfl, by decide, inG0, wf_X11_218⟩
theorem fl_X11_223 : a_FL RX11 223 0 6 := ⟨RX0, TX0, 16, rfl, by decide, inG0, wf_X11_223⟩
theorem fl_X11_226 : a_FL RX11 226 0 7 := ⟨RX0, TX0, 16, rfl, by decide, inG0, wf_X11_226⟩
theorem fl_X11_229 : a_FL RX11 229 0 8 := ⟨RX0, TX0, 16, rfl, by decide, inG0, wf_X11_229⟩
theorem fl_X11_232 : a_FL RX11 232 0 9 := ⟨RX0, TX0, 16, rfl, by decide, inG0, wf_X11_232⟩
theorem fl_X11_235 : a_FL RX11 235 0 10 := ⟨RX0, TX0, 16, rfl, by decide, inG0, wf_X11_235⟩
theorem fl_X11_238 : a_FL RX11 238 0 11 := ⟨RX0, TX0, 16, rfl, by decide, inG0, wf_X11_238⟩
theorem fl_X11_25 : a_FL RX11 25 11 2 := ⟨RX11, TX11, 14, rfl, by decide, inG11, wf_X11_25⟩
theorem fw_X11_25 : a_FW RX11 25 11 2 (.object "SwapBook$State") true := ⟨RX11, TX11, 14, tyX11, rfl, by decide, inG11, wf_X11_25, tyX11_ok, nmX11, rfl, rfl, fun _ => rfl⟩
theorem fl_X11_269 : a_FL RX11 269 2 0 := ⟨RX2, TX2, 4, rfl, by decide, inG2, wf_X11_269⟩
theorem fw_X11_269 : a_FW RX11 269 2 0 .int false := ⟨RX2, TX2, 4, tyX2, rfl, by decide, inG2, wf_X11_269, tyX2_ok, nmX2, rfl, rfl, fun h => by cases h⟩
theorem fl_X11_275 : a_FL RX11 275 2 1 := ⟨RX2, TX2, 4, rfl, by decide, inG2, wf_X11_275⟩
theorem fl_X11_284 : a_FL RX11 284 2 2 := ⟨RX2, TX2, 4, rfl, by decide, inG2, wf_X11_284⟩
theorem fl_X11_285 : a_FL RX11 285 2 3 := ⟨RX2, TX2, 4, rfl, by decide, inG2, wf_X11_285⟩
theorem fl_X11_29 : a_FL RX11 29 11 3 := ⟨RX11, TX11, 14, rfl, by decide, inG11, wf_X11_29⟩
theorem fw_X11_29 : a_FW RX11 29 11 3 (.array (.object "SwapBook$State")) true := ⟨RX11, TX11, 14, tyX11, rfl, by decide, inG11, wf_X11_29, tyX11_ok, nmX11, rfl, rfl, fun _ => rfl⟩
theorem fl_X11_337 : a_FL RX11 337 7 3 := ⟨RX7, TX7, 5, rfl, by decide, inG7, wf_X11_337⟩
theorem fl_X11_344 : a_FL RX11 344 7 4 := ⟨RX7, TX7, 5, rfl, by decide, inG7, wf_X11_344⟩
theorem fw_X11_344 : a_FW RX11 344 7 4 .int false := ⟨RX7, TX7, 5, tyX7, rfl, by decide, inG7, wf_X11_344, tyX7_ok, nmX7, rfl, rfl, fun h => by cases h⟩
theorem fl_X11_36 : a_FL RX11 36 11 4 := ⟨RX11, TX11, 14, rfl, by decide, inG11, wf_X11_36⟩
theorem fw_X11_36 : a_FW RX11 36 11 4 (.object "SwapBook$Listing") true := ⟨RX11, TX11, 14, tyX11, rfl, by decide, inG11, wf_X11_36, tyX11_ok, nmX11, rfl, rfl, fun _ => rfl⟩
theorem fl_X11_379 : a_FL RX11 379 7 2 := ⟨RX7, TX7, 5, rfl, by decide, inG7, wf_X11_379⟩
theorem fl_X11_386 : a_FL RX11 386 10 0 := ⟨RX10, TX10, 16, rfl, by decide, inG10, wf_X11_386⟩
theorem fl_X11_387 : a_FL RX11 387 10 2 := ⟨RX10, TX10, 16, rfl, by decide, inG10, wf_X11_387⟩
theorem fw_X11_387 : a_FW RX11 387 10 2 .int false := ⟨RX10, TX10, 16, tyX10, rfl, by decide, inG10, wf_X11_387, tyX10_ok, nmX10, rfl, rfl, fun h => by cases h⟩
theorem fl_X11_390 : a_FL RX11 390 10 3 := ⟨RX10, TX10, 16, rfl, by decide, inG10, wf_X11_390⟩
theorem fw_X11_390 : a_FW RX11 390 10 3 .int false := ⟨RX10, TX10, 16, tyX10, rfl, by decide, inG10, wf_X11_390, tyX10_ok, nmX10, rfl, rfl, fun h => by cases h⟩
theorem fl_X11_393 : a_FL RX11 393 10 4 := ⟨RX10, TX10, 16, rfl, by decide, inG10, wf_X11_393⟩
theorem fw_X11_393 : a_FW RX11 393 10 4 .int false := ⟨RX10, TX10, 16, tyX10, rfl, by decide, inG10, wf_X11_393, tyX10_ok, nmX10, rfl, rfl, fun h => by cases h⟩
theorem fl_X11_396 : a_FL RX11 396 10 5 := ⟨RX10, TX10, 16, rfl, by decide, inG10, wf_X11_396⟩
theorem fw_X11_396 : a_FW RX11 396 10 5 .int false := ⟨RX10, TX10, 16, tyX10, rfl, by decide, inG10, wf_X11_396, tyX10_ok, nmX10, rfl, rfl, fun h => by cases h⟩
theorem fl_X11_399 : a_FL RX11 399 10 6 := ⟨RX10, TX10, 16, rfl, by decide, inG10, wf_X11_399⟩
theorem fw_X11_399 : a_FW RX11 399 10 6 .int false := ⟨RX10, TX10, 16, tyX10, rfl, by decide, inG10, wf_X11_399, tyX10_ok, nmX10, rfl, rfl, fun h => by cases h⟩
theorem fl_X11_40 : a_FL RX11 40 11 5 := ⟨RX11, TX11, 14, rfl, by decide, inG11, wf_X11_40⟩
theorem fw_X11_40 : a_FW RX11 40 11 5 (.object "SwapBook$Listing") true := ⟨RX11, TX11, 14, tyX11, rfl, by decide, inG11, wf_X11_40, tyX11_ok, nmX11, rfl, rfl, fun _ => rfl⟩
theorem fl_X11_402 : a_FL RX11 402 10 1 := ⟨RX10, TX10, 16, rfl, by decide, inG10, wf_X11_402⟩
theorem fw_X11_402 : a_FW RX11 402 10 1 .int false := ⟨RX10, TX10, 16, tyX10, rfl, by decide, inG10, wf_X11_402, tyX10_ok, nmX10, rfl, rfl, fun h => by cases h⟩
theorem fl_X11_46 : a_FL RX11 46 11 6 := ⟨RX11, TX11, 14, rfl, by decide, inG11, wf_X11_46⟩
theorem fw_X11_46 : a_FW RX11 46 11 6 (.object "SwapBook$OrderCounter") true := ⟨RX11, TX11, 14, tyX11, rfl, by decide, inG11, wf_X11_46, tyX11_ok, nmX11, rfl, rfl, fun _ => rfl⟩
theorem fl_X11_53 : a_FL RX11 53 11 7 := ⟨RX11, TX11, 14, rfl, by decide, inG11, wf_X11_53⟩
theorem fw_X11_53 : a_FW RX11 53 11 7 (.object "SwapBook$Voyage") true := ⟨RX11, TX11, 14, tyX11, rfl, by decide, inG11, wf_X11_53, tyX11_ok, nmX11, rfl, rfl, fun _ => rfl⟩
theorem fl_X11_57 : a_FL RX11 57 11 8 := ⟨RX11, TX11, 14, rfl, by decide, inG11, wf_X11_57⟩
theorem fw_X11_57 : a_FW RX11 57 11 8 (.array .int) true := ⟨RX11, TX11, 14, tyX11, rfl, by decide, inG11, wf_X11_57, tyX11_ok, nmX11, rfl, rfl, fun _ => rfl⟩
theorem fl_X11_61 : a_FL RX11 61 11 9 := ⟨RX11, TX11, 14, rfl, by decide, inG11, wf_X11_61⟩
theorem fw_X11_61 : a_FW RX11 61 11 9 .boolean false := ⟨RX11, TX11, 14, tyX11, rfl, by decide, inG11, wf_X11_61, tyX11_ok, nmX11, rfl, rfl, fun _ => rfl⟩
theorem fl_X11_65 : a_FL RX11 65 11 10 := ⟨RX11, TX11, 14, rfl, by decide, inG11, wf_X11_65⟩
theorem fw_X11_65 : a_FW RX11 65 11 10 .int false := ⟨RX11, TX11, 14, tyX11, rfl, by decide, inG11, wf_X11_65, tyX11_ok, nmX11, rfl, rfl, fun _ => rfl⟩
theorem fl_X11_69 : a_FL RX11 69 11 11 := ⟨RX11, TX11, 14, rfl, by decide, inG11, wf_X11_69⟩
theorem fw_X11_69 : a_FW RX11 69 11 11 .int false := ⟨RX11, TX11, 14, tyX11, rfl, by decide, inG11, wf_X11_69, tyX11_ok, nmX11, rfl, rfl, fun _ => rfl⟩
theorem fl_X11_72 : a_FL RX11 72 11 12 := ⟨RX11, TX11, 14, rfl, by decide, inG11, wf_X11_72⟩
theorem fw_X11_72 : a_FW RX11 72 11 12 .long false := ⟨RX11, TX11, 14, tyX11, rfl, by decide, inG11, wf_X11_72, tyX11_ok, nmX11, rfl, rfl, fun _ => rfl⟩
theorem fl_X11_76 : a_FL RX11 76 11 13 := ⟨RX11, TX11, 14, rfl, by decide, inG11, wf_X11_76⟩
theorem fw_X11_76 : a_FW RX11 76 11 13 .long false := ⟨RX11, TX11, 14, tyX11, rfl, by decide, inG11, wf_X11_76, tyX11_ok, nmX11, rfl, rfl, fun _ => rfl⟩
theorem fl_X12_114 : a_FL RX12 114 12 9 := ⟨RX12, TX12, 47, rfl, by decide, inG12, wf_X12_114⟩
theorem fw_X12_114 : a_FW RX12 114 12 9 .int false := ⟨RX12, TX12, 47, tyX12, rfl, by decide, inG12, wf_X12_114, tyX12_ok, nmX12, rfl, rfl, fun _ => rfl⟩
theorem fl_X12_117 : a_FL RX12 117 12 16 := ⟨RX12, TX12, 47, rfl, by decide, inG12, wf_X12_117⟩
theorem fw_X12_117 : a_FW RX12 117 12 16 .int false := ⟨RX12, TX12, 47, tyX12, rfl, by decide, inG12, wf_X12_117, tyX12_ok, nmX12, rfl, rfl, fun _ => rfl⟩
theorem fl_X12_120 : a_FL RX12 120 12 15 := ⟨RX12, TX12, 47, rfl, by decide, inG12, wf_X12_120⟩
theorem fw_X12_120 : a_FW RX12 120 12 15 .int false := ⟨RX12, TX12, 47, tyX12, rfl, by decide, inG12, wf_X12_120, tyX12_ok, nmX12, rfl, rfl, fun _ => rfl⟩
theorem fl_X12_126 : a_FL RX12 126 12 14 := ⟨RX12, TX12, 47, rfl, by decide, inG12, wf_X12_126⟩
theorem fw_X12_126 : a_FW RX12 126 12 14 .int false := ⟨RX12, TX12, 47, tyX12, rfl, by decide, inG12, wf_X12_126, tyX12_ok, nmX12, rfl, rfl, fun _ => rfl⟩
theorem fl_X12_13 : a_FL RX12 13 12 4 := ⟨RX12, TX12, 47, rfl, by decide, inG12, wf_X12_13⟩
theorem fw_X12_13 : a_FW RX12 13 12 4 (.array .int) true := ⟨RX12, TX12, 47, tyX12, rfl, by decide, inG12, wf_X12_13, tyX12_ok, nmX12, rfl, rfl, fun _ => rfl⟩
theorem fl_X12_132 : a_FL RX12 132 12 19 := ⟨RX12, TX12, 47, rfl, by decide, inG12, wf_X12_132⟩
theorem fw_X12_132 : a_FW RX12 132 12 19 .long false := ⟨RX12, TX12, 47, tyX12, rfl, by decide, inG12, wf_X12_132, tyX12_ok, nmX12, rfl, rfl, fun _ => rfl⟩
theorem fl_X12_139 : a_FL RX12 139 12 18 := ⟨RX12, TX12, 47, rfl, by decide, inG12, wf_X12_139⟩
theorem fw_X12_139 : a_FW RX12 139 12 18 .int false := ⟨RX12, TX12, 47, tyX12, rfl, by decide, inG12, wf_X12_139, tyX12_ok, nmX12, rfl, rfl, fun _ => rfl⟩
theorem fl_X12_145 : a_FL RX12 145 12 17 := ⟨RX12, TX12, 47, rfl, by decide, inG12, wf_X12_145⟩
theorem fw_X12_145 : a_FW RX12 145 12 17 .int false := ⟨RX12, TX12, 47, tyX12, rfl, by decide, inG12, wf_X12_145, tyX12_ok, nmX12, rfl, rfl, fun _ => rfl⟩
theorem fl_X12_17 : a_FL RX12 17 12 5 := ⟨RX12, TX12, 47, rfl, by decide, inG12, wf_X12_17⟩
theorem fw_X12_17 : a_FW RX12 17 12 5 (.array .int) true := ⟨RX12, TX12, 47, tyX12, rfl, by decide, inG12, wf_X12_17, tyX12_ok, nmX12, rfl, rfl, fun _ => rfl⟩
theorem fl_X12_20 : a_FL RX12 20 12 6 := ⟨RX12, TX12, 47, rfl, by decide, inG12, wf_X12_20⟩
theorem fw_X12_20 : a_FW RX12 20 12 6 (.array .long) true := ⟨RX12, TX12, 47, tyX12, rfl, by decide, inG12, wf_X12_20, tyX12_ok, nmX12, rfl, rfl, fun _ => rfl⟩
theorem fl_X12_209 : a_FL RX12 209 12 12 := ⟨RX12, TX12, 47, rfl, by decide, inG12, wf_X12_209⟩
theorem fw_X12_209 : a_FW RX12 209 12 12 .int false := ⟨RX12, TX12, 47, tyX12, rfl, by decide, inG12, wf_X12_209, tyX12_ok, nmX12, rfl, rfl, fun _ => rfl⟩
theorem fl_X12_212 : a_FL RX12 212 12 13 := ⟨RX12, TX12, 47, rfl, by decide, inG12, wf_X12_212⟩
theorem fw_X12_212 : a_FW RX12 212 12 13 .int false := ⟨RX12, TX12, 47, tyX12, rfl, by decide, inG12, wf_X12_212, tyX12_ok, nmX12, rfl, rfl, fun _ => rfl⟩
theorem fl_X12_225 : a_FL RX12 225 12 8 := ⟨RX12, TX12, 47, rfl, by decide, inG12, wf_X12_225⟩
theorem fw_X12_225 : a_FW RX12 225 12 8 .int false := ⟨RX12, TX12, 47, tyX12, rfl, by decide, inG12, wf_X12_225, tyX12_ok, nmX12, rfl, rfl, fun _ => rfl⟩
theorem fl_X12_24 : a_FL RX12 24 12 7 := ⟨RX12, TX12, 47, rfl, by decide, inG12, wf_X12_24⟩
theorem fw_X12_24 : a_FW RX12 24 12 7 (.array .byte) true := ⟨RX12, TX12, 47, tyX12, rfl, by decide, inG12, wf_X12_24, tyX12_ok, nmX12, rfl, rfl, fun _ => rfl⟩
theorem fl_X12_28 : a_FL RX12 28 12 10 := ⟨RX12, TX12, 47, rfl, by decide, inG12, wf_X12_28⟩
theorem fw_X12_28 : a_FW RX12 28 12 10 .int false := ⟨RX12, TX12, 47, tyX12, rfl, by decide, inG12, wf_X12_28, tyX12_ok, nmX12, rfl, rfl, fun _ => rfl⟩
theorem fl_X12_32 : a_FL RX12 32 12 11 := ⟨RX12, TX12, 47, rfl, by decide, inG12, wf_X12_32⟩
theorem fw_X12_32 : a_FW RX12 32 12 11 .int false := ⟨RX12, TX12, 47, tyX12, rfl, by decide, inG12, wf_X12_32, tyX12_ok, nmX12, rfl, rfl, fun _ => rfl⟩
theorem fl_X12_35 : a_FL RX12 35 12 20 := ⟨RX12, TX12, 47, rfl, by decide, inG12, wf_X12_35⟩
theorem fw_X12_35 : a_FW RX12 35 12 20 (.array .int) true := ⟨RX12, TX12, 47, tyX12, rfl, by decide, inG12, wf_X12_35, tyX12_ok, nmX12, rfl, rfl, fun _ => rfl⟩
theorem fl_X12_356 : a_FL RX12 356 12 25 := ⟨RX12, TX12, 47, rfl, by decide, inG12, wf_X12_356⟩
theorem fw_X12_356 : a_FW RX12 356 12 25 .int false := ⟨RX12, TX12, 47, tyX12, rfl, by decide, inG12, wf_X12_356, tyX12_ok, nmX12, rfl, rfl, fun _ => rfl⟩
theorem fl_X12_368 : a_FL RX12 368 12 26 := ⟨RX12, TX12, 47, rfl, by decide, inG12, wf_X12_368⟩
theorem fw_X12_368 : a_FW RX12 368 12 26 .int false := ⟨RX12, TX12, 47, tyX12, rfl, by decide, inG12, wf_X12_368, tyX12_ok, nmX12, rfl, rfl, fun _ => rfl⟩
theorem fl_X12_38 : a_FL RX12 38 12 21 := ⟨RX12, TX12, 47, rfl, by decide, inG12, wf_X12_38⟩
theorem fw_X12_38 : a_FW RX12 38 12 21 (.array .long) true := ⟨RX12, TX12, 47, tyX12, rfl, by decide, inG12, wf_X12_38, tyX12_ok, nmX12, rfl, rfl, fun _ => rfl⟩
theorem fl_X12_41 : a_FL RX12 41 12 23 := ⟨RX12, TX12, 47, rfl, by decide, inG12, wf_X12_41⟩
theorem fw_X12_41 : a_FW RX12 41 12 23 (.array .int) true := ⟨RX12, TX12, 47, tyX12, rfl, by decide, inG12, wf_X12_41, tyX12_ok, nmX12, rfl, rfl, fun _ => rfl⟩
theorem fl_X12_416 : a_FL RX12 416 12 46 := ⟨RX12, TX12, 47, rfl, by decide, inG12, wf_X12_416⟩
theorem fw_X12_416 : a_FW RX12 416 12 46 .int false := ⟨RX12, TX12, 47, tyX12, rfl, by decide, inG12, wf_X12_416, tyX12_ok, nmX12, rfl, rfl, fun _ => rfl⟩
theorem fl_X12_425 : a_FL RX12 425 12 37 := ⟨RX12, TX12, 47, rfl, by decide, inG12, wf_X12_425⟩
theorem fw_X12_425 : a_FW RX12 425 12 37 .int false := ⟨RX12, TX12, 47, tyX12, rfl, by decide, inG12, wf_X12_425, tyX12_ok, nmX12, rfl, rfl, fun _ => rfl⟩
theorem fl_X12_428 : a_FL RX12 428 12 41 := ⟨RX12, TX12, 47, rfl, by decide, inG12, wf_X12_428⟩
theorem fw_X12_428 : a_FW RX12 428 12 41 .int false := ⟨RX12, TX12, 47, tyX12, rfl, by decide, inG12, wf_X12_428, tyX12_ok, nmX12, rfl, rfl, fun _ => rfl⟩
theorem fl_X12_431 : a_FL RX12 431 12 35 := ⟨RX12, TX12, 47, rfl, by decide, inG12, wf_X12_431⟩
theorem fw_X12_431 : a_FW RX12 431 12 35 .int false := ⟨RX12, TX12, 47, tyX12, rfl, by decide, inG12, wf_X12_431, tyX12_ok, nmX12, rfl, rfl, fun _ => rfl⟩
theorem fl_X12_434 : a_FL RX12 434 12 40 := ⟨RX12, TX12, 47, rfl, by decide, inG12, wf_X12_434⟩
theorem fw_X12_434 : a_FW RX12 434 12 40 .int false := ⟨RX12, TX12, 47, tyX12, rfl, by decide, inG12, wf_X12_434, tyX12_ok, nmX12, rfl, rfl, fun _ => rfl⟩
theorem fl_X12_437 : a_FL RX12 437 12 36 := ⟨RX12, TX12, 47, rfl, by decide, inG12, wf_X12_437⟩
theorem fw_X12_437 : a_FW RX12 437 12 36 .int false := ⟨RX12, TX12, 47, tyX12, rfl, by decide, inG12, wf_X12_437, tyX12_ok, nmX12, rfl, rfl, fun _ => rfl⟩
theorem fl_X12_44 : a_FL RX12 44 12 24 := ⟨RX12, TX12, 47, rfl, by decide, inG12, wf_X12_44⟩
theorem fw_X12_44 : a_FW RX12 44 12 24 (.array .int) true := ⟨RX12, TX12, 47, tyX12, rfl, by decide, inG12, wf_X12_44, tyX12_ok, nmX12, rfl, rfl, fun _ => rfl⟩
theorem fl_X12_443 : a_FL RX12 443 12 39 := ⟨RX12, TX12, 47, rfl, by decide, inG12, wf_X12_443⟩
theorem fw_X12_443 : a_FW RX12 443 12 39 .int false := ⟨RX12, TX12, 47, tyX12, rfl, by decide, inG12, wf_X12_443, tyX12_ok, nmX12, rfl, rfl, fun _ => rfl⟩
theorem fl_X12_452 : a_FL RX12 452 12 42 := ⟨RX12, TX12, 47, rfl, by decide, inG12, wf_X12_452⟩
theorem fw_X12_452 : a_FW RX12 452 12 42 .int false := ⟨RX12, TX12, 47, tyX12, rfl, by decide, inG12, wf_X12_452, tyX12_ok, nmX12, rfl, rfl, fun _ => rfl⟩
theorem fl_X12_458 : a_FL RX12 458 12 38 := ⟨RX12, TX12, 47, rfl, by decide, inG12, wf_X12_458⟩
theorem fw_X12_458 : a_FW RX12 458 12 38 .int false := ⟨RX12, TX12, 47, tyX12, rfl, by decide, inG12, wf_X12_458, tyX12_ok, nmX12, rfl, rfl, fun _ => rfl⟩
theorem fl_X12_461 : a_FL RX12 461 12 44 := ⟨RX12, TX12, 47, rfl, by decide, inG12, wf_X12_461⟩
theorem fw_X12_461 : a_FW RX12 461 12 44 .boolean false := ⟨RX12, TX12, 47, tyX12, rfl, by decide, inG12, wf_X12_461, tyX12_ok, nmX12, rfl, rfl, fun _ => rfl⟩
theorem fl_X12_48 : a_FL RX12 48 12 27 := ⟨RX12, TX12, 47, rfl, by decide, inG12, wf_X12_48⟩
theorem fw_X12_48 : a_FW RX12 48 12 27 (.array .long) true := ⟨RX12, TX12, 47, tyX12, rfl, by decide, inG12, wf_X12_48, tyX12_ok, nmX12, rfl, rfl, fun _ => rfl⟩
theorem fl_X12_491 : a_FL RX12 491 12 43 := ⟨RX12, TX12, 47, rfl, by decide, inG12, wf_X12_491⟩
theorem fw_X12_491 : a_FW RX12 491 12 43 .boolean false := ⟨RX12, TX12, 47, tyX12, rfl, by decide, inG12, wf_X12_491, tyX12_ok, nmX12, rfl, rfl, fun _ => rfl⟩
theorem fl_X12_504 : a_FL RX12 504 12 22 := ⟨RX12, TX12, 47, rfl, by decide, inG12, wf_X12_504⟩
theorem fw_X12_504 : a_FW RX12 504 12 22 .int false := ⟨RX12, TX12, 47, tyX12, rfl, by decide, inG12, wf_X12_504, tyX12_ok, nmX12, rfl, rfl, fun _ => rfl⟩
theorem fl_X12_51 : a_FL RX12 51 12 28 := ⟨RX12, TX12, 47, rfl, by decide, inG12, wf_X12_51⟩
theorem fw_X12_51 : a_FW RX12 51 12 28 (.array .int) true := ⟨RX12, TX12, 47, tyX12, rfl, by decide, inG12, wf_X12_51, tyX12_ok, nmX12, rfl, rfl, fun _ => rfl⟩
theorem fl_X12_54 : a_FL RX12 54 12 29 := ⟨RX12, TX12, 47, rfl, by decide, inG12, wf_X12_54⟩
theorem fw_X12_54 : a_FW RX12 54 12 29 (.array .int) true := ⟨RX12, TX12, 47, tyX12, rfl, by decide, inG12, wf_X12_54, tyX12_ok, nmX12, rfl, rfl, fun _ => rfl⟩
theorem fl_X12_57 : a_FL RX12 57 12 30 := ⟨RX12, TX12, 47, rfl, by decide, inG12, wf_X12_57⟩
theorem fw_X12_57 : a_FW RX12 57 12 30 (.array .int) true := ⟨RX12, TX12, 47, tyX12, rfl, by decide, inG12, wf_X12_57, tyX12_ok, nmX12, rfl, rfl, fun _ => rfl⟩
theorem fl_X12_60 : a_FL RX12 60 12 31 := ⟨RX12, TX12, 47, rfl, by decide, inG12, wf_X12_60⟩
theorem fw_X12_60 : a_FW RX12 60 12 31 (.array .int) true := ⟨RX12, TX12, 47, tyX12, rfl, by decide, inG12, wf_X12_60, tyX12_ok, nmX12, rfl, rfl, fun _ => rfl⟩
theorem fl_X12_63 : a_FL RX12 63 12 32 := ⟨RX12, TX12, 47, rfl, by decide, inG12, wf_X12_63⟩
theorem fw_X12_63 : a_FW RX12 63 12 32 (.array .int) true := ⟨RX12, TX12, 47, tyX12, rfl, by decide, inG12, wf_X12_63, tyX12_ok, nmX12, rfl, rfl, fun _ => rfl⟩
theorem fl_X12_66 : a_FL RX12 66 12 33 := ⟨RX12, TX12, 47, rfl, by decide, inG12, wf_X12_66⟩
theorem fw_X12_66 : a_FW RX12 66 12 33 (.array .int) true := ⟨RX12, TX12, 47, tyX12, rfl, by decide, inG12, wf_X12_66, tyX12_ok, nmX12, rfl, rfl, fun _ => rfl⟩
theorem fl_X12_69 : a_FL RX12 69 12 34 := ⟨RX12, TX12, 47, rfl, by decide, inG12, wf_X12_69⟩
theorem fw_X12_69 : a_FW RX12 69 12 34 (.array .int) true := ⟨RX12, TX12, 47, tyX12, rfl, by decide, inG12, wf_X12_69, tyX12_ok, nmX12, rfl, rfl, fun _ => rfl⟩
theorem fl_X12_7 : a_FL RX12 7 12 3 := ⟨RX12, TX12, 47, rfl, by decide, inG12, wf_X12_7⟩
theorem fw_X12_7 : a_FW RX12 7 12 3 .long false := ⟨RX12, TX12, 47, tyX12, rfl, by decide, inG12, wf_X12_7, tyX12_ok, nmX12, rfl, rfl, fun _ => rfl⟩
theorem fl_X12_72 : a_FL RX12 72 12 45 := ⟨RX12, TX12, 47, rfl, by decide, inG12, wf_X12_72⟩
theorem fw_X12_72 : a_FW RX12 72 12 45 (.array .int) true := ⟨RX12, TX12, 47, tyX12, rfl, by decide, inG12, wf_X12_72, tyX12_ok, nmX12, rfl, rfl, fun _ => rfl⟩
theorem fl_X12_75 : a_FL RX12 75 12 1 := ⟨RX12, TX12, 47, rfl, by decide, inG12, wf_X12_75⟩
theorem fw_X12_75 : a_FW RX12 75 12 1 .int false := ⟨RX12, TX12, 47, tyX12, rfl, by decide, inG12, wf_X12_75, tyX12_ok, nmX12, rfl, rfl, fun _ => rfl⟩
theorem fl_X12_78 : a_FL RX12 78 12 0 := ⟨RX12, TX12, 47, rfl, by decide, inG12, wf_X12_78⟩
theorem fw_X12_78 : a_FW RX12 78 12 0 .int false := ⟨RX12, TX12, 47, tyX12, rfl, by decide, inG12, wf_X12_78, tyX12_ok, nmX12, rfl, rfl, fun _ => rfl⟩
theorem fl_X12_81 : a_FL RX12 81 12 2 := ⟨RX12, TX12, 47, rfl, by decide, inG12, wf_X12_81⟩
theorem fw_X12_81 : a_FW RX12 81 12 2 .long false := ⟨RX12, TX12, 47, tyX12, rfl, by decide, inG12, wf_X12_81, tyX12_ok, nmX12, rfl, rfl, fun _ => rfl⟩
theorem fl_X1_108 : a_FL RX1 108 0 7 := ⟨RX0, TX0, 16, rfl, by decide, inG0, wf_X1_108⟩
theorem fl_X1_12 : a_FL RX1 12 1 1 := ⟨RX1, TX1, 2, rfl, by decide, inG1, wf_X1_12⟩
theorem fw_X1_12 : a_FW RX1 12 1 1 (.object "SwapBook$Book") true := ⟨RX1, TX1, 2, tyX1, rfl, by decide, inG1, wf_X1_12, tyX1_ok, nmX1, rfl, rfl, fun _ => rfl⟩
theorem fl_X1_127 : a_FL RX1 127 0 6 := ⟨RX0, TX0, 16, rfl, by decide, inG0, wf_X1_127⟩
theorem fl_X1_134 : a_FL RX1 134 0 9 := ⟨RX0, TX0, 16, rfl, by decide, inG0, wf_X1_134⟩
theorem fl_X1_137 : a_FL RX1 137 0 12 := ⟨RX0, TX0, 16, rfl, by decide, inG0, wf_X1_137⟩
theorem fl_X1_143 : a_FL RX1 143 0 13 := ⟨RX0, TX0, 16, rfl, by decide, inG0, wf_X1_143⟩
theorem fl_X1_146 : a_FL RX1 146 0 14 := ⟨RX0, TX0, 16, rfl, by decide, inG0, wf_X1_146⟩
theorem fl_X1_18 : a_FL RX1 18 1 0 := ⟨RX1, TX1, 2, rfl, by decide, inG1, wf_X1_18⟩
theorem fw_X1_18 : a_FW RX1 18 1 0 (.object "SwapBook$Tokens") true := ⟨RX1, TX1, 2, tyX1, rfl, by decide, inG1, wf_X1_18, tyX1_ok, nmX1, rfl, rfl, fun _ => rfl⟩
theorem fl_X1_42 : a_FL RX1 42 0 0 := ⟨RX0, TX0, 16, rfl, by decide, inG0, wf_X1_42⟩
theorem fw_X1_42 : a_FW RX1 42 0 0 .int false := ⟨RX0, TX0, 16, tyX0, rfl, by decide, inG0, wf_X1_42, tyX0_ok, nmX0, rfl, rfl, fun h => by cases h⟩
theorem fl_X1_84 : a_FL RX1 84 0 1 := ⟨RX0, TX0, 16, rfl, by decide, inG0, wf_X1_84⟩
theorem fw_X1_84 : a_FW RX1 84 0 1 .int false := ⟨RX0, TX0, 16, tyX0, rfl, by decide, inG0, wf_X1_84, tyX0_ok, nmX0, rfl, rfl, fun h => by cases h⟩
theorem fl_X1_87 : a_FL RX1 87 0 3 := ⟨RX0, TX0, 16, rfl, by decide, inG0, wf_X1_87⟩
theorem fl_X1_91 : a_FL RX1 91 0 4 := ⟨RX0, TX0, 16, rfl, by decide, inG0, wf_X1_91⟩
theorem fl_X1_95 : a_FL RX1 95 0 5 := ⟨RX0, TX0, 16, rfl, by decide, inG0, wf_X1_95⟩
theorem fl_X2_15 : a_FL RX2 15 2 1 := ⟨RX2, TX2, 4, rfl, by decide, inG2, wf_X2_15⟩
theorem fw_X2_15 : a_FW RX2 15 2 1 (.array .int) true := ⟨RX2, TX2, 4, tyX2, rfl, by decide, inG2, wf_X2_15, tyX2_ok, nmX2, rfl, rfl, fun _ => rfl⟩
theorem fl_X2_19 : a_FL RX2 19 2 2 := ⟨RX2, TX2, 4, rfl, by decide, inG2, wf_X2_19⟩
theorem fw_X2_19 : a_FW RX2 19 2 2 (.array .int) true := ⟨RX2, TX2, 4, tyX2, rfl, by decide, inG2, wf_X2_19, tyX2_ok, nmX2, rfl, rfl, fun _ => rfl⟩
theorem fl_X2_22 : a_FL RX2 22 2 3 := ⟨RX2, TX2, 4, rfl, by decide, inG2, wf_X2_22⟩
theorem fw_X2_22 : a_FW RX2 22 2 3 (.array .int) true := ⟨RX2, TX2, 4, tyX2, rfl, by decide, inG2, wf_X2_22, tyX2_ok, nmX2, rfl, rfl, fun _ => rfl⟩
theorem fl_X2_31 : a_FL RX2 31 0 1 := ⟨RX0, TX0, 16, rfl, by decide, inG0, wf_X2_31⟩
theorem fw_X2_31 : a_FW RX2 31 0 1 .int false := ⟨RX0, TX0, 16, tyX0, rfl, by decide, inG0, wf_X2_31, tyX0_ok, nmX0, rfl, rfl, fun h => by cases h⟩
theorem fl_X2_9 : a_FL RX2 9 2 0 := ⟨RX2, TX2, 4, rfl, by decide, inG2, wf_X2_9⟩
theorem fw_X2_9 : a_FW RX2 9 2 0 .int false := ⟨RX2, TX2, 4, tyX2, rfl, by decide, inG2, wf_X2_9, tyX2_ok, nmX2, rfl, rfl, fun _ => rfl⟩
theorem fl_X3_13 : a_FL RX3 13 3 1 := ⟨RX3, TX3, 8, rfl, by decide, inG3, wf_X3_13⟩
theorem fw_X3_13 : a_FW RX3 13 3 1 .int false := ⟨RX3, TX3, 8, tyX3, rfl, by decide, inG3, wf_X3_13, tyX3_ok, nmX3, rfl, rfl, fun _ => rfl⟩
theorem fl_X3_16 : a_FL RX3 16 3 2 := ⟨RX3, TX3, 8, rfl, by decide, inG3, wf_X3_16⟩
theorem fw_X3_16 : a_FW RX3 16 3 2 (.array .int) true := ⟨RX3, TX3, 8, tyX3, rfl, by decide, inG3, wf_X3_16, tyX3_ok, nmX3, rfl, rfl, fun _ => rfl⟩
theorem fl_X3_20 : a_FL RX3 20 3 3 := ⟨RX3, TX3, 8, rfl, by decide, inG3, wf_X3_20⟩
theorem fw_X3_20 : a_FW RX3 20 3 3 (.array .int) true := ⟨RX3, TX3, 8, tyX3, rfl, by decide, inG3, wf_X3_20, tyX3_ok, nmX3, rfl, rfl, fun _ => rfl⟩
theorem fl_X3_23 : a_FL RX3 23 3 4 := ⟨RX3, TX3, 8, rfl, by decide, inG3, wf_X3_23⟩
theorem fw_X3_23 : a_FW RX3 23 3 4 (.array .int) true := ⟨RX3, TX3, 8, tyX3, rfl, by decide, inG3, wf_X3_23, tyX3_ok, nmX3, rfl, rfl, fun _ => rfl⟩
theorem fl_X3_26 : a_FL RX3 26 3 5 := ⟨RX3, TX3, 8, rfl, by decide, inG3, wf_X3_26⟩
theorem fw_X3_26 : a_FW RX3 26 3 5 (.array .int) true := ⟨RX3, TX3, 8, tyX3, rfl, by decide, inG3, wf_X3_26, tyX3_ok, nmX3, rfl, rfl, fun _ => rfl⟩
theorem fl_X3_29 : a_FL RX3 29 3 6 := ⟨RX3, TX3, 8, rfl, by decide, inG3, wf_X3_29⟩
theorem fw_X3_29 : a_FW RX3 29 3 6 (.array .boolean) true := ⟨RX3, TX3, 8, tyX3, rfl, by decide, inG3, wf_X3_29, tyX3_ok, nmX3, rfl, rfl, fun _ => rfl⟩
theorem fl_X3_33 : a_FL RX3 33 3 7 := ⟨RX3, TX3, 8, rfl, by decide, inG3, wf_X3_33⟩
theorem fw_X3_33 : a_FW RX3 33 3 7 (.array .int) true := ⟨RX3, TX3, 8, tyX3, rfl, by decide, inG3, wf_X3_33, tyX3_ok, nmX3, rfl, rfl, fun _ => rfl⟩
theorem fl_X3_7 : a_FL RX3 7 3 0 := ⟨RX3, TX3, 8, rfl, by decide, inG3, wf_X3_7⟩
theorem fw_X3_7 : a_FW RX3 7 3 0 .int false := ⟨RX3, TX3, 8, tyX3, rfl, by decide, inG3, wf_X3_7, tyX3_ok, nmX3, rfl, rfl, fun _ => rfl⟩
theorem fl_X4_105 : a_FL RX4 105 3 6 := ⟨RX3, TX3, 8, rfl, by decide, inG3, wf_X4_105⟩
theorem fl_X4_109 : a_FL RX4 109 3 4 := ⟨RX3, TX3, 8, rfl, by decide, inG3, wf_X4_109⟩
theorem fl_X4_12 : a_FL RX4 12 4 2 := ⟨RX4, TX4, 5, rfl, by decide, inG4, wf_X4_12⟩
theorem fw_X4_12 : a_FW RX4 12 4 2 (.object "SwapBook$Log") true := ⟨RX4, TX4, 5, tyX4, rfl, by decide, inG4, wf_X4_12, tyX4_ok, nmX4, rfl, rfl, fun _ => rfl⟩
theorem fl_X4_122 : a_FL RX4 122 3 3 := ⟨RX3, TX3, 8, rfl, by decide, inG3, wf_X4_122⟩
theorem fl_X4_125 : a_FL RX4 125 3 5 := ⟨RX3, TX3, 8, rfl, by decide, inG3, wf_X4_125⟩
theorem fl_X4_18 : a_FL RX4 18 4 3 := ⟨RX4, TX4, 5, rfl, by decide, inG4, wf_X4_18⟩
theorem fw_X4_18 : a_FW RX4 18 4 3 (.array .int) true := ⟨RX4, TX4, 5, tyX4, rfl, by decide, inG4, wf_X4_18, tyX4_ok, nmX4, rfl, rfl, fun _ => rfl⟩
theorem fl_X4_22 : a_FL RX4 22 4 4 := ⟨RX4, TX4, 5, rfl, by decide, inG4, wf_X4_22⟩
theorem fw_X4_22 : a_FW RX4 22 4 4 .int false := ⟨RX4, TX4, 5, tyX4, rfl, by decide, inG4, wf_X4_22, tyX4_ok, nmX4, rfl, rfl, fun _ => rfl⟩
theorem fl_X4_26 : a_FL RX4 26 4 0 := ⟨RX4, TX4, 5, rfl, by decide, inG4, wf_X4_26⟩
theorem fw_X4_26 : a_FW RX4 26 4 0 (.object "SwapBook$Tokens") true := ⟨RX4, TX4, 5, tyX4, rfl, by decide, inG4, wf_X4_26, tyX4_ok, nmX4, rfl, rfl, fun _ => rfl⟩
theorem fl_X4_30 : a_FL RX4 30 4 1 := ⟨RX4, TX4, 5, rfl, by decide, inG4, wf_X4_30⟩
theorem fw_X4_30 : a_FW RX4 30 4 1 (.object "SwapBook$Book") true := ⟨RX4, TX4, 5, tyX4, rfl, by decide, inG4, wf_X4_30, tyX4_ok, nmX4, rfl, rfl, fun _ => rfl⟩
theorem fl_X4_44 : a_FL RX4 44 3 1 := ⟨RX3, TX3, 8, rfl, by decide, inG3, wf_X4_44⟩
theorem fw_X4_44 : a_FW RX4 44 3 1 .int false := ⟨RX3, TX3, 8, tyX3, rfl, by decide, inG3, wf_X4_44, tyX3_ok, nmX3, rfl, rfl, fun h => by cases h⟩
theorem fl_X4_68 : a_FL RX4 68 3 2 := ⟨RX3, TX3, 8, rfl, by decide, inG3, wf_X4_68⟩
theorem fl_X4_71 : a_FL RX4 71 3 7 := ⟨RX3, TX3, 8, rfl, by decide, inG3, wf_X4_71⟩
theorem fl_X4_80 : a_FL RX4 80 3 0 := ⟨RX3, TX3, 8, rfl, by decide, inG3, wf_X4_80⟩
theorem fw_X4_80 : a_FW RX4 80 3 0 .int false := ⟨RX3, TX3, 8, tyX3, rfl, by decide, inG3, wf_X4_80, tyX3_ok, nmX3, rfl, rfl, fun h => by cases h⟩
theorem fl_X5_14 : a_FL RX5 14 5 0 := ⟨RX5, TX5, 6, rfl, by decide, inG5, wf_X5_14⟩
theorem fw_X5_14 : a_FW RX5 14 5 0 (.object "SwapBook$Book") false := ⟨RX5, TX5, 6, tyX5, rfl, by decide, inG5, wf_X5_14, tyX5_ok, nmX5, rfl, rfl, fun _ => rfl⟩
theorem fl_X5_18 : a_FL RX5 18 5 1 := ⟨RX5, TX5, 6, rfl, by decide, inG5, wf_X5_18⟩
theorem fw_X5_18 : a_FW RX5 18 5 1 .int false := ⟨RX5, TX5, 6, tyX5, rfl, by decide, inG5, wf_X5_18, tyX5_ok, nmX5, rfl, rfl, fun _ => rfl⟩
theorem fl_X5_22 : a_FL RX5 22 5 2 := ⟨RX5, TX5, 6, rfl, by decide, inG5, wf_X5_22⟩
theorem fw_X5_22 : a_FW RX5 22 5 2 .int false := ⟨RX5, TX5, 6, tyX5, rfl, by decide, inG5, wf_X5_22, tyX5_ok, nmX5, rfl, rfl, fun _ => rfl⟩
theorem fl_X5_25 : a_FL RX5 25 5 3 := ⟨RX5, TX5, 6, rfl, by decide, inG5, wf_X5_25⟩
theorem fw_X5_25 : a_FW RX5 25 5 3 .int false := ⟨RX5, TX5, 6, tyX5, rfl, by decide, inG5, wf_X5_25, tyX5_ok, nmX5, rfl, rfl, fun _ => rfl⟩
theorem fl_X5_28 : a_FL RX5 28 5 4 := ⟨RX5, TX5, 6, rfl, by decide, inG5, wf_X5_28⟩
theorem fw_X5_28 : a_FW RX5 28 5 4 .int false := ⟨RX5, TX5, 6, tyX5, rfl, by decide, inG5, wf_X5_28, tyX5_ok, nmX5, rfl, rfl, fun _ => rfl⟩
theorem fl_X5_31 : a_FL RX5 31 5 5 := ⟨RX5, TX5, 6, rfl, by decide, inG5, wf_X5_31⟩
theorem fw_X5_31 : a_FW RX5 31 5 5 (.array .long) false := ⟨RX5, TX5, 6, tyX5, rfl, by decide, inG5, wf_X5_31, tyX5_ok, nmX5, rfl, rfl, fun _ => rfl⟩
theorem fl_X5_40 : a_FL RX5 40 0 1 := ⟨RX0, TX0, 16, rfl, by decide, inG0, wf_X5_40⟩
theorem fw_X5_40 : a_FW RX5 40 0 1 .int false := ⟨RX0, TX0, 16, tyX0, rfl, by decide, inG0, wf_X5_40, tyX0_ok, nmX0, rfl, rfl, fun h => by cases h⟩
theorem fl_X5_47 : a_FL RX5 47 0 10 := ⟨RX0, TX0, 16, rfl, by decide, inG0, wf_X5_47⟩
theorem fl_X5_51 : a_FL RX5 51 0 11 := ⟨RX0, TX0, 16, rfl, by decide, inG0, wf_X5_51⟩
theorem fl_X6_15 : a_FL RX6 15 6 1 := ⟨RX6, TX6, 3, rfl, by decide, inG6, wf_X6_15⟩
theorem fw_X6_15 : a_FW RX6 15 6 1 .int true := ⟨RX6, TX6, 3, tyX6, rfl, by decide, inG6, wf_X6_15, tyX6_ok, nmX6, rfl, rfl, fun _ => rfl⟩
theorem fl_X6_19 : a_FL RX6 19 6 2 := ⟨RX6, TX6, 3, rfl, by decide, inG6, wf_X6_19⟩
theorem fw_X6_19 : a_FW RX6 19 6 2 .int false := ⟨RX6, TX6, 3, tyX6, rfl, by decide, inG6, wf_X6_19, tyX6_ok, nmX6, rfl, rfl, fun _ => rfl⟩
theorem fl_X6_48 : a_FL RX6 48 0 1 := ⟨RX0, TX0, 16, rfl, by decide, inG0, wf_X6_48⟩
theorem fw_X6_48 : a_FW RX6 48 0 1 .int false := ⟨RX0, TX0, 16, tyX0, rfl, by decide, inG0, wf_X6_48, tyX0_ok, nmX0, rfl, rfl, fun h => by cases h⟩
theorem fl_X6_9 : a_FL RX6 9 6 0 := ⟨RX6, TX6, 3, rfl, by decide, inG6, wf_X6_9⟩
theorem fw_X6_9 : a_FW RX6 9 6 0 (.object "SwapBook$Book") true := ⟨RX6, TX6, 3, tyX6, rfl, by decide, inG6, wf_X6_9, tyX6_ok, nmX6, rfl, rfl, fun _ => rfl⟩
theorem fl_X7_12 : a_FL RX7 12 7 0 := ⟨RX7, TX7, 5, rfl, by decide, inG7, wf_X7_12⟩
theorem fw_X7_12 : a_FW RX7 12 7 0 (.object "SwapBook$Book") false := ⟨RX7, TX7, 5, tyX7, rfl, by decide, inG7, wf_X7_12, tyX7_ok, nmX7, rfl, rfl, fun _ => rfl⟩
theorem fl_X7_18 : a_FL RX7 18 7 1 := ⟨RX7, TX7, 5, rfl, by decide, inG7, wf_X7_18⟩
theorem fw_X7_18 : a_FW RX7 18 7 1 (.object "SwapBook$Log") false := ⟨RX7, TX7, 5, tyX7, rfl, by decide, inG7, wf_X7_18, tyX7_ok, nmX7, rfl, rfl, fun _ => rfl⟩
theorem fl_X7_22 : a_FL RX7 22 7 2 := ⟨RX7, TX7, 5, rfl, by decide, inG7, wf_X7_22⟩
theorem fw_X7_22 : a_FW RX7 22 7 2 (.array .int) true := ⟨RX7, TX7, 5, tyX7, rfl, by decide, inG7, wf_X7_22, tyX7_ok, nmX7, rfl, rfl, fun _ => rfl⟩
theorem fl_X7_26 : a_FL RX7 26 7 3 := ⟨RX7, TX7, 5, rfl, by decide, inG7, wf_X7_26⟩
theorem fw_X7_26 : a_FW RX7 26 7 3 (.array .int) true := ⟨RX7, TX7, 5, tyX7, rfl, by decide, inG7, wf_X7_26, tyX7_ok, nmX7, rfl, rfl, fun _ => rfl⟩
theorem fl_X7_29 : a_FL RX7 29 7 4 := ⟨RX7, TX7, 5, rfl, by decide, inG7, wf_X7_29⟩
theorem fw_X7_29 : a_FW RX7 29 7 4 .int false := ⟨RX7, TX7, 5, tyX7, rfl, by decide, inG7, wf_X7_29, tyX7_ok, nmX7, rfl, rfl, fun _ => rfl⟩
theorem fl_X7_43 : a_FL RX7 43 0 9 := ⟨RX0, TX0, 16, rfl, by decide, inG0, wf_X7_43⟩
theorem fl_X8_15 : a_FL RX8 15 8 1 := ⟨RX8, TX8, 11, rfl, by decide, inG8, wf_X8_15⟩
theorem fw_X8_15 : a_FW RX8 15 8 1 (.array .long) true := ⟨RX8, TX8, 11, tyX8, rfl, by decide, inG8, wf_X8_15, tyX8_ok, nmX8, rfl, rfl, fun _ => rfl⟩
theorem fl_X8_19 : a_FL RX8 19 8 2 := ⟨RX8, TX8, 11, rfl, by decide, inG8, wf_X8_19⟩
theorem fw_X8_19 : a_FW RX8 19 8 2 .int false := ⟨RX8, TX8, 11, tyX8, rfl, by decide, inG8, wf_X8_19, tyX8_ok, nmX8, rfl, rfl, fun _ => rfl⟩
theorem fl_X8_23 : a_FL RX8 23 8 3 := ⟨RX8, TX8, 11, rfl, by decide, inG8, wf_X8_23⟩
theorem fw_X8_23 : a_FW RX8 23 8 3 .int false := ⟨RX8, TX8, 11, tyX8, rfl, by decide, inG8, wf_X8_23, tyX8_ok, nmX8, rfl, rfl, fun _ => rfl⟩
theorem fl_X8_26 : a_FL RX8 26 8 4 := ⟨RX8, TX8, 11, rfl, by decide, inG8, wf_X8_26⟩
theorem fw_X8_26 : a_FW RX8 26 8 4 .int false := ⟨RX8, TX8, 11, tyX8, rfl, by decide, inG8, wf_X8_26, tyX8_ok, nmX8, rfl, rfl, fun _ => rfl⟩
theorem fl_X8_29 : a_FL RX8 29 8 5 := ⟨RX8, TX8, 11, rfl, by decide, inG8, wf_X8_29⟩
theorem fw_X8_29 : a_FW RX8 29 8 5 .int false := ⟨RX8, TX8, 11, tyX8, rfl, by decide, inG8, wf_X8_29, tyX8_ok, nmX8, rfl, rfl, fun _ => rfl⟩
theorem fl_X8_32 : a_FL RX8 32 8 6 := ⟨RX8, TX8, 11, rfl, by decide, inG8, wf_X8_32⟩
theorem fw_X8_32 : a_FW RX8 32 8 6 (.array .int) true := ⟨RX8, TX8, 11, tyX8, rfl, by decide, inG8, wf_X8_32, tyX8_ok, nmX8, rfl, rfl, fun _ => rfl⟩
theorem fl_X8_36 : a_FL RX8 36 8 7 := ⟨RX8, TX8, 11, rfl, by decide, inG8, wf_X8_36⟩
theorem fw_X8_36 : a_FW RX8 36 8 7 (.array .int) true := ⟨RX8, TX8, 11, tyX8, rfl, by decide, inG8, wf_X8_36, tyX8_ok, nmX8, rfl, rfl, fun _ => rfl⟩
theorem fl_X8_39 : a_FL RX8 39 8 8 := ⟨RX8, TX8, 11, rfl, by decide, inG8, wf_X8_39⟩
theorem fw_X8_39 : a_FW RX8 39 8 8 (.array .long) true := ⟨RX8, TX8, 11, tyX8, rfl, by decide, inG8, wf_X8_39, tyX8_ok, nmX8, rfl, rfl, fun _ => rfl⟩
theorem fl_X8_42 : a_FL RX8 42 8 9 := ⟨RX8, TX8, 11, rfl, by decide, inG8, wf_X8_42⟩
theorem fw_X8_42 : a_FW RX8 42 8 9 .int false := ⟨RX8, TX8, 11, tyX8, rfl, by decide, inG8, wf_X8_42, tyX8_ok, nmX8, rfl, rfl, fun _ => rfl⟩
theorem fl_X8_45 : a_FL RX8 45 8 10 := ⟨RX8, TX8, 11, rfl, by decide, inG8, wf_X8_45⟩
theorem fw_X8_45 : a_FW RX8 45 8 10 .int false := ⟨RX8, TX8, 11, tyX8, rfl, by decide, inG8, wf_X8_45, tyX8_ok, nmX8, rfl, rfl, fun _ => rfl⟩
theorem fl_X8_9 : a_FL RX8 9 8 0 := ⟨RX8, TX8, 11, rfl, by decide, inG8, wf_X8_9⟩
theorem fw_X8_9 : a_FW RX8 9 8 0 (.array .byte) true := ⟨RX8, TX8, 11, tyX8, rfl, by decide, inG8, wf_X8_9, tyX8_ok, nmX8, rfl, rfl, fun _ => rfl⟩
theorem fl_X9_15 : a_FL RX9 15 9 1 := ⟨RX9, TX9, 3, rfl, by decide, inG9, wf_X9_15⟩
theorem fw_X9_15 : a_FW RX9 15 9 1 .int false := ⟨RX9, TX9, 3, tyX9, rfl, by decide, inG9, wf_X9_15, tyX9_ok, nmX9, rfl, rfl, fun _ => rfl⟩
theorem fl_X9_19 : a_FL RX9 19 9 2 := ⟨RX9, TX9, 3, rfl, by decide, inG9, wf_X9_19⟩
theorem fw_X9_19 : a_FW RX9 19 9 2 .int false := ⟨RX9, TX9, 3, tyX9, rfl, by decide, inG9, wf_X9_19, tyX9_ok, nmX9, rfl, rfl, fun _ => rfl⟩
theorem fl_X9_9 : a_FL RX9 9 9 0 := ⟨RX9, TX9, 3, rfl, by decide, inG9, wf_X9_9⟩
theorem fw_X9_9 : a_FW RX9 9 9 0 (.array .long) true := ⟨RX9, TX9, 3, tyX9, rfl, by decide, inG9, wf_X9_9, tyX9_ok, nmX9, rfl, rfl, fun _ => rfl⟩
theorem cs_J0_1059 : a_CS RJ0 1059 yJ3_checkIndex_8e157 cJ3_checkIndex_8e157 3 (some .int) 3 := ⟨⟨wm_J0_1059, wc_J3_checkIndex_8e157, wn_J3, by decide, by decide +kernel⟩, wt_J3_checkIndex_8e157⟩
theorem cs_J0_495 : a_CS RJ0 495 yJ1_charAt_3b067 cJ1_charAt_3b067 2 (some .char) 2 := ⟨⟨wm_J0_495, wc_J1_charAt_3b067, wn_J1, by decide, by decide +kernel⟩, wt_J1_charAt_3b067⟩
theorem cs_J0_498 : a_CS RJ0 498 yJ2_charAt_3b067 cJ2_charAt_3b067 2 (some .char) 2 := ⟨⟨wm_J0_498, wc_J2_charAt_3b067, wn_J2, by decide, by decide +kernel⟩, wt_J2_charAt_3b067⟩
theorem cs_J1_9 : a_CS RJ1 9 yJ0_checkIndex_df160 cJ0_checkIndex_df160 2 none 2 := ⟨⟨wm_J1_9, wc_J0_checkIndex_df160, wn_J0, by decide, by decide +kernel⟩, wt_J0_checkIndex_df160⟩
theorem cs_J2_414 : a_CS RJ2 414 yJ0_checkIndex_df160 cJ0_checkIndex_df160 2 none 2 := ⟨⟨wm_J2_414, wc_J0_checkIndex_df160, wn_J0, by decide, by decide +kernel⟩, wt_J0_checkIndex_df160⟩
theorem cs_J2_48 : a_CS RJ2 48 yJ2_length_9d52b cJ2_length_9d52b 1 (some .int) 1 := ⟨⟨wm_J2_48, wc_J2_length_9d52b, wn_J2, by decide, by decide +kernel⟩, wt_J2_length_9d52b⟩
theorem cs_J2_67 : a_CS RJ2 67 yJ2_checkIndex_2214a cJ2_checkIndex_2214a 2 none 2 := ⟨⟨wm_J2_67, wc_J2_checkIndex_2214a, wn_J2, by decide, by decide +kernel⟩, wt_J2_checkIndex_2214a⟩
theorem cs_J2_71 : a_CS RJ2 71 yJ2_getChar_3b067 cJ2_getChar_3b067 2 (some .char) 2 := ⟨⟨wm_J2_71, wc_J2_getChar_3b067, wn_J2, by decide, by decide +kernel⟩, wt_J2_getChar_3b067⟩
theorem cv_L_100 : a_CV RL 100 11 yX11_alone cX11_alone 1 (some .int) 0 := ⟨⟨wm_L_100, wc_X11_alone, wn_X11, by decide, by decide +kernel⟩, wi_X11_alone, wl_X11_alone, (RX11, TX11, 14), rfl, rfl⟩
theorem cv_L_103 : a_CV RL 103 12 yX12_alone cX12_alone 3 (some .int) 0 := ⟨⟨wm_L_103, wc_X12_alone, wn_X12, by decide, by decide +kernel⟩, wi_X12_alone, wl_X12_alone, (RX12, TX12, 47), rfl, rfl⟩
theorem cv_L_104 : a_CV RL 104 11 yX11_size cX11_size 3 (some .int) 1 := ⟨⟨wm_L_104, wc_X11_size, wn_X11, by decide, by decide +kernel⟩, wi_X11_size, wl_X11_size, (RX11, TX11, 14), rfl, rfl⟩
theorem cv_L_107 : a_CV RL 107 12 yX12_size cX12_size 2 (some .int) 1 := ⟨⟨wm_L_107, wc_X12_size, wn_X12, by decide, by decide +kernel⟩, wi_X12_size, wl_X12_size, (RX12, TX12, 47), rfl, rfl⟩
theorem cv_L_108 : a_CV RL 108 11 yX11_thing cX11_thing 4 (some .int) 2 := ⟨⟨wm_L_108, wc_X11_thing, wn_X11, by decide, by decide +kernel⟩, wi_X11_thing, wl_X11_thing, (RX11, TX11, 14), rfl, rfl⟩
theorem cv_L_111 : a_CV RL 111 12 yX12_thing cX12_thing 3 (some .int) 2 := ⟨⟨wm_L_111, wc_X12_thing, wn_X12, by decide, by decide +kernel⟩, wi_X12_thing, wl_X12_thing, (RX12, TX12, 47), rfl, rfl⟩
theorem cv_L_112 : a_CV RL 112 11 yX11_says cX11_says 4 (some .int) 2 := ⟨⟨wm_L_112, wc_X11_says, wn_X11, by decide, by decide +kernel⟩, wi_X11_says, wl_X11_says, (RX11, TX11, 14), rfl, rfl⟩
theorem cv_L_115 : a_CV RL 115 12 yX12_says cX12_says 3 (some .int) 2 := ⟨⟨wm_L_115, wc_X12_says, wn_X12, by decide, by decide +kernel⟩, wi_X12_says, wl_X12_says, (RX12, TX12, 47), rfl, rfl⟩
theorem cv_L_116 : a_CV RL 116 11 yX11_key cX11_key 4 (some .int) 2 := ⟨⟨wm_L_116, wc_X11_key, wn_X11, by decide, by decide +kernel⟩, wi_X11_key, wl_X11_key, (RX11, TX11, 14), rfl, rfl⟩
theorem cv_L_119 : a_CV RL 119 12 yX12_key cX12_key 3 (some .int) 2 := ⟨⟨wm_L_119, wc_X12_key, wn_X12, by decide, by decide +kernel⟩, wi_X12_key, wl_X12_key, (RX12, TX12, 47), rfl, rfl⟩
theorem ci_L_12 : a_CI RL 12 yX12_init cX12_init 2 0 := ⟨⟨wm_L_12, wc_X12_init, wn_X12, by decide, by decide +kernel⟩, wi_X12_init, rfl⟩
theorem cv_L_120 : a_CV RL 120 11 yX11_place cX11_place 3 (some .int) 2 := ⟨⟨wm_L_120, wc_X11_place, wn_X11, by decide, by decide +kernel⟩, wi_X11_place, wl_X11_place, (RX11, TX11, 14), rfl, rfl⟩
theorem cv_L_123 : a_CV RL 123 12 yX12_place cX12_place 3 (some .int) 2 := ⟨⟨wm_L_123, wc_X12_place, wn_X12, by decide, by decide +kernel⟩, wi_X12_place, wl_X12_place, (RX12, TX12, 47), rfl, rfl⟩
theorem cv_L_124 : a_CV RL 124 11 yX11_like cX11_like 5 (some .int) 2 := ⟨⟨wm_L_124, wc_X11_like, wn_X11, by decide, by decide +kernel⟩, wi_X11_like, wl_X11_like, (RX11, TX11, 14), rfl, rfl⟩
theorem cv_L_127 : a_CV RL 127 12 yX12_like cX12_like 4 (some .int) 2 := ⟨⟨wm_L_127, wc_X12_like, wn_X12, by decide, by decide +kernel⟩, wi_X12_like, wl_X12_like, (RX12, TX12, 47), rfl, rfl⟩
theorem cv_L_128 : a_CV RL 128 11 yX11_apart cX11_apart 5 (some .int) 2 := ⟨⟨wm_L_128, wc_X11_apart, wn_X11, by decide, by decide +kernel⟩, wi_X11_apart, wl_X11_apart, (RX11, TX11, 14), rfl, rfl⟩
theorem cv_L_13 : a_CV RL 13 11 yX11_status cX11_status 1 (some .int) 0 := ⟨⟨wm_L_13, wc_X11_status, wn_X11, by decide, by decide +kernel⟩, wi_X11_status, wl_X11_status, (RX11, TX11, 14), rfl, rfl⟩
theorem cv_L_131 : a_CV RL 131 12 yX12_apart cX12_apart 4 (some .int) 2 := ⟨⟨wm_L_131, wc_X12_apart, wn_X12, by decide, by decide +kernel⟩, wi_X12_apart, wl_X12_apart, (RX12, TX12, 47), rfl, rfl⟩
theorem cv_L_132 : a_CV RL 132 11 yX11_quarrels cX11_quarrels 2 (some .int) 1 := ⟨⟨wm_L_132, wc_X11_quarrels, wn_X11, by decide, by decide +kernel⟩, wi_X11_quarrels, wl_X11_quarrels, (RX11, TX11, 14), rfl, rfl⟩
theorem cv_L_135 : a_CV RL 135 12 yX12_quarrels cX12_quarrels 2 (some .int) 1 := ⟨⟨wm_L_135, wc_X12_quarrels, wn_X12, by decide, by decide +kernel⟩, wi_X12_quarrels, wl_X12_quarrels, (RX12, TX12, 47), rfl, rfl⟩
theorem cv_L_136 : a_CV RL 136 11 yX11_with cX11_with 3 (some .int) 2 := ⟨⟨wm_L_136, wc_X11_with, wn_X11, by decide, by decide +kernel⟩, wi_X11_with, wl_X11_with, (RX11, TX11, 14), rfl, rfl⟩
theorem cv_L_139 : a_CV RL 139 12 yX12_with cX12_with 3 (some .int) 2 := ⟨⟨wm_L_139, wc_X12_with, wn_X12, by decide, by decide +kernel⟩, wi_X12_with, wl_X12_with, (RX12, TX12, 47), rfl, rfl⟩
theorem cv_L_140 : a_CV RL 140 11 yX11_leastOut cX11_leastOut 3 (some .int) 1 := ⟨⟨wm_L_140, wc_X11_leastOut, wn_X11, by decide, by decide +kernel⟩, wi_X11_leastOut, wl_X11_leastOut, (RX11, TX11, 14), rfl, rfl⟩
theorem cv_L_143 : a_CV RL 143 12 yX12_leastOut cX12_leastOut 4 (some .int) 1 := ⟨⟨wm_L_143, wc_X12_leastOut, wn_X12, by decide, by decide +kernel⟩, wi_X12_leastOut, wl_X12_leastOut, (RX12, TX12, 47), rfl, rfl⟩
theorem cv_L_144 : a_CV RL 144 11 yX11_mostQuiet cX11_mostQuiet 2 (some .int) 0 := ⟨⟨wm_L_144, wc_X11_mostQuiet, wn_X11, by decide, by decide +kernel⟩, wi_X11_mostQuiet, wl_X11_mostQuiet, (RX11, TX11, 14), rfl, rfl⟩
theorem cv_L_147 : a_CV RL 147 12 yX12_mostQuiet cX12_mostQuiet 3 (some .int) 0 := ⟨⟨wm_L_147, wc_X12_mostQuiet, wn_X12, by decide, by decide +kernel⟩, wi_X12_mostQuiet, wl_X12_mostQuiet, (RX12, TX12, 47), rfl, rfl⟩
theorem cv_L_148 : a_CV RL 148 11 yX11_orders cX11_orders 3 (some .long) 1 := ⟨⟨wm_L_148, wc_X11_orders, wn_X11, by decide, by decide +kernel⟩, wi_X11_orders, wl_X11_orders, (RX11, TX11, 14), rfl, rfl⟩
theorem cv_L_152 : a_CV RL 152 12 yX12_orders cX12_orders 2 (some .long) 1 := ⟨⟨wm_L_152, wc_X12_orders, wn_X12, by decide, by decide +kernel⟩, wi_X12_orders, wl_X12_orders, (RX12, TX12, 47), rfl, rfl⟩
theorem cv_L_153 : a_CV RL 153 11 yX11_ahead cX11_ahead 5 (some .boolean) 3 := ⟨⟨wm_L_153, wc_X11_ahead, wn_X11, by decide, by decide +kernel⟩, wi_X11_ahead, wl_X11_ahead, (RX11, TX11, 14), rfl, rfl⟩
theorem cv_L_156 : a_CV RL 156 12 yX12_ahead cX12_ahead 6 (some .boolean) 3 := ⟨⟨wm_L_156, wc_X12_ahead, wn_X12, by decide, by decide +kernel⟩, wi_X12_ahead, wl_X12_ahead, (RX12, TX12, 47), rfl, rfl⟩
theorem cv_L_157 : a_CV RL 157 11 yX11_ordered cX11_ordered 5 (some .int) 2 := ⟨⟨wm_L_157, wc_X11_ordered, wn_X11, by decide, by decide +kernel⟩, wi_X11_ordered, wl_X11_ordered, (RX11, TX11, 14), rfl, rfl⟩
theorem cv_L_161 : a_CV RL 161 12 yX12_ordered cX12_ordered 11 (some .int) 2 := ⟨⟨wm_L_161, wc_X12_ordered, wn_X12, by decide, by decide +kernel⟩, wi_X12_ordered, wl_X12_ordered, (RX12, TX12, 47), rfl, rfl⟩
theorem cv_L_162 : a_CV RL 162 11 yX11_order cX11_order 4 (some .boolean) 2 := ⟨⟨wm_L_162, wc_X11_order, wn_X11, by decide, by decide +kernel⟩, wi_X11_order, wl_X11_order, (RX11, TX11, 14), rfl, rfl⟩
theorem cv_L_166 : a_CV RL 166 12 yX12_order cX12_order 7 (some .boolean) 2 := ⟨⟨wm_L_166, wc_X12_order, wn_X12, by decide, by decide +kernel⟩, wi_X12_order, wl_X12_order, (RX12, TX12, 47), rfl, rfl⟩
theorem cv_L_167 : a_CV RL 167 11 yX11_number cX11_number 1 (some .long) 0 := ⟨⟨wm_L_167, wc_X11_number, wn_X11, by decide, by decide +kernel⟩, wi_X11_number, wl_X11_number, (RX11, TX11, 14), rfl, rfl⟩
theorem cv_L_17 : a_CV RL 17 12 yX12_status cX12_status 1 (some .int) 0 := ⟨⟨wm_L_17, wc_X12_status, wn_X12, by decide, by decide +kernel⟩, wi_X12_status, wl_X12_status, (RX12, TX12, 47), rfl, rfl⟩
theorem cv_L_170 : a_CV RL 170 12 yX12_number cX12_number 8 (some .long) 0 := ⟨⟨wm_L_170, wc_X12_number, wn_X12, by decide, by decide +kernel⟩, wi_X12_number, wl_X12_number, (RX12, TX12, 47), rfl, rfl⟩
theorem cv_L_171 : a_CV RL 171 11 yX11_orderAt cX11_orderAt 2 (some .int) 1 := ⟨⟨wm_L_171, wc_X11_orderAt, wn_X11, by decide, by decide +kernel⟩, wi_X11_orderAt, wl_X11_orderAt, (RX11, TX11, 14), rfl, rfl⟩
theorem cv_L_174 : a_CV RL 174 12 yX12_orderAt cX12_orderAt 2 (some .int) 1 := ⟨⟨wm_L_174, wc_X12_orderAt, wn_X12, by decide, by decide +kernel⟩, wi_X12_orderAt, wl_X12_orderAt, (RX12, TX12, 47), rfl, rfl⟩
theorem cv_L_175 : a_CV RL 175 11 yX11_acts cX11_acts 4 (some .int) 1 := ⟨⟨wm_L_175, wc_X11_acts, wn_X11, by decide, by decide +kernel⟩, wi_X11_acts, wl_X11_acts, (RX11, TX11, 14), rfl, rfl⟩
theorem cv_L_178 : a_CV RL 178 12 yX12_acts cX12_acts 4 (some .int) 1 := ⟨⟨wm_L_178, wc_X12_acts, wn_X12, by decide, by decide +kernel⟩, wi_X12_acts, wl_X12_acts, (RX12, TX12, 47), rfl, rfl⟩
theorem cv_L_179 : a_CV RL 179 11 yX11_swap cX11_swap 2 (some .boolean) 1 := ⟨⟨wm_L_179, wc_X11_swap, wn_X11, by decide, by decide +kernel⟩, wi_X11_swap, wl_X11_swap, (RX11, TX11, 14), rfl, rfl⟩
theorem cv_L_18 : a_CV RL 18 11 yX11_top cX11_top 1 (some .long) 0 := ⟨⟨wm_L_18, wc_X11_top, wn_X11, by decide, by decide +kernel⟩, wi_X11_top, wl_X11_top, (RX11, TX11, 14), rfl, rfl⟩
theorem cv_L_183 : a_CV RL 183 12 yX12_swap cX12_swap 2 (some .boolean) 1 := ⟨⟨wm_L_183, wc_X12_swap, wn_X12, by decide, by decide +kernel⟩, wi_X12_swap, wl_X12_swap, (RX12, TX12, 47), rfl, rfl⟩
theorem cv_L_184 : a_CV RL 184 11 yX11_forward cX11_forward 3 (some .int) 1 := ⟨⟨wm_L_184, wc_X11_forward, wn_X11, by decide, by decide +kernel⟩, wi_X11_forward, wl_X11_forward, (RX11, TX11, 14), rfl, rfl⟩
theorem cv_L_187 : a_CV RL 187 12 yX12_forward cX12_forward 4 (some .int) 1 := ⟨⟨wm_L_187, wc_X12_forward, wn_X12, by decide, by decide +kernel⟩, wi_X12_forward, wl_X12_forward, (RX12, TX12, 47), rfl, rfl⟩
theorem cv_L_188 : a_CV RL 188 11 yX11_swaps cX11_swaps 1 (some .int) 0 := ⟨⟨wm_L_188, wc_X11_swaps, wn_X11, by decide, by decide +kernel⟩, wi_X11_swaps, wl_X11_swaps, (RX11, TX11, 14), rfl, rfl⟩
theorem cv_L_191 : a_CV RL 191 12 yX12_swaps cX12_swaps 7 (some .int) 0 := ⟨⟨wm_L_191, wc_X12_swaps, wn_X12, by decide, by decide +kernel⟩, wi_X12_swaps, wl_X12_swaps, (RX12, TX12, 47), rfl, rfl⟩
theorem cv_L_192 : a_CV RL 192 11 yX11_has cX11_has 2 (some .int) 1 := ⟨⟨wm_L_192, wc_X11_has, wn_X11, by decide, by decide +kernel⟩, wi_X11_has, wl_X11_has, (RX11, TX11, 14), rfl, rfl⟩
theorem cv_L_195 : a_CV RL 195 12 yX12_has cX12_has 2 (some .int) 1 := ⟨⟨wm_L_195, wc_X12_has, wn_X12, by decide, by decide +kernel⟩, wi_X12_has, wl_X12_has, (RX12, TX12, 47), rfl, rfl⟩
theorem cv_L_196 : a_CV RL 196 11 yX11_give cX11_give 3 (some .boolean) 2 := ⟨⟨wm_L_196, wc_X11_give, wn_X11, by decide, by decide +kernel⟩, wi_X11_give, wl_X11_give, (RX11, TX11, 14), rfl, rfl⟩
theorem cv_L_199 : a_CV RL 199 12 yX12_give cX12_give 3 (some .boolean) 2 := ⟨⟨wm_L_199, wc_X12_give, wn_X12, by decide, by decide +kernel⟩, wi_X12_give, wl_X12_give, (RX12, TX12, 47), rfl, rfl⟩
theorem cv_L_200 : a_CV RL 200 11 yX11_sail cX11_sail 3 (some .int) 1 := ⟨⟨wm_L_200, wc_X11_sail, wn_X11, by decide, by decide +kernel⟩, wi_X11_sail, wl_X11_sail, (RX11, TX11, 14), rfl, rfl⟩
theorem cv_L_203 : a_CV RL 203 12 yX12_sail cX12_sail 2 (some .int) 1 := ⟨⟨wm_L_203, wc_X12_sail, wn_X12, by decide, by decide +kernel⟩, wi_X12_sail, wl_X12_sail, (RX12, TX12, 47), rfl, rfl⟩
theorem cv_L_204 : a_CV RL 204 11 yX11_sailed cX11_sailed 2 (some .int) 1 := ⟨⟨wm_L_204, wc_X11_sailed, wn_X11, by decide, by decide +kernel⟩, wi_X11_sailed, wl_X11_sailed, (RX11, TX11, 14), rfl, rfl⟩
theorem cv_L_207 : a_CV RL 207 12 yX12_sailed cX12_sailed 2 (some .int) 1 := ⟨⟨wm_L_207, wc_X12_sailed, wn_X12, by decide, by decide +kernel⟩, wi_X12_sailed, wl_X12_sailed, (RX12, TX12, 47), rfl, rfl⟩
theorem cv_L_208 : a_CV RL 208 11 yX11_agreed cX11_agreed 6 (some .int) 2 := ⟨⟨wm_L_208, wc_X11_agreed, wn_X11, by decide, by decide +kernel⟩, wi_X11_agreed, wl_X11_agreed, (RX11, TX11, 14), rfl, rfl⟩
theorem cv_L_211 : a_CV RL 211 12 yX12_agreed cX12_agreed 7 (some .int) 2 := ⟨⟨wm_L_211, wc_X12_agreed, wn_X12, by decide, by decide +kernel⟩, wi_X12_agreed, wl_X12_agreed, (RX12, TX12, 47), rfl, rfl⟩
theorem cv_L_212 : a_CV RL 212 11 yX11_seal cX11_seal 4 (some .int) 2 := ⟨⟨wm_L_212, wc_X11_seal, wn_X11, by decide, by decide +kernel⟩, wi_X11_seal, wl_X11_seal, (RX11, TX11, 14), rfl, rfl⟩
theorem cv_L_215 : a_CV RL 215 12 yX12_seal cX12_seal 8 (some .int) 2 := ⟨⟨wm_L_215, wc_X12_seal, wn_X12, by decide, by decide +kernel⟩, wi_X12_seal, wl_X12_seal, (RX12, TX12, 47), rfl, rfl⟩
theorem cv_L_216 : a_CV RL 216 11 yX11_open cX11_open 5 (some .int) 1 := ⟨⟨wm_L_216, wc_X11_open, wn_X11, by decide, by decide +kernel⟩, wi_X11_open, wl_X11_open, (RX11, TX11, 14), rfl, rfl⟩
theorem cv_L_219 : a_CV RL 219 12 yX12_open cX12_open 13 (some .int) 1 := ⟨⟨wm_L_219, wc_X12_open, wn_X12, by decide, by decide +kernel⟩, wi_X12_open, wl_X12_open, (RX12, TX12, 47), rfl, rfl⟩
theorem cv_L_22 : a_CV RL 22 12 yX12_top cX12_top 1 (some .long) 0 := ⟨⟨wm_L_22, wc_X12_top, wn_X12, by decide, by decide +kernel⟩, wi_X12_top, wl_X12_top, (RX12, TX12, 47), rfl, rfl⟩
theorem cv_L_220 : a_CV RL 220 11 yX11_mark cX11_mark 1 (some .int) 0 := ⟨⟨wm_L_220, wc_X11_mark, wn_X11, by decide, by decide +kernel⟩, wi_X11_mark, wl_X11_mark, (RX11, TX11, 14), rfl, rfl⟩
theorem cv_L_223 : a_CV RL 223 12 yX12_mark cX12_mark 1 (some .int) 0 := ⟨⟨wm_L_223, wc_X12_mark, wn_X12, by decide, by decide +kernel⟩, wi_X12_mark, wl_X12_mark, (RX12, TX12, 47), rfl, rfl⟩
theorem cv_L_224 : a_CV RL 224 11 yX11_back cX11_back 1 (some .int) 0 := ⟨⟨wm_L_224, wc_X11_back, wn_X11, by decide, by decide +kernel⟩, wi_X11_back, wl_X11_back, (RX11, TX11, 14), rfl, rfl⟩
theorem cv_L_227 : a_CV RL 227 12 yX12_back cX12_back 1 (some .int) 0 := ⟨⟨wm_L_227, wc_X12_back, wn_X12, by decide, by decide +kernel⟩, wi_X12_back, wl_X12_back, (RX12, TX12, 47), rfl, rfl⟩
theorem cv_L_23 : a_CV RL 23 11 yX11_bottom cX11_bottom 1 (some .long) 0 := ⟨⟨wm_L_23, wc_X11_bottom, wn_X11, by decide, by decide +kernel⟩, wi_X11_bottom, wl_X11_bottom, (RX11, TX11, 14), rfl, rfl⟩
theorem cv_L_26 : a_CV RL 26 12 yX12_bottom cX12_bottom 1 (some .long) 0 := ⟨⟨wm_L_26, wc_X12_bottom, wn_X12, by decide, by decide +kernel⟩, wi_X12_bottom, wl_X12_bottom, (RX12, TX12, 47), rfl, rfl⟩
theorem cv_L_27 : a_CV RL 27 11 yX11_tray cX11_tray 4 (some .boolean) 3 := ⟨⟨wm_L_27, wc_X11_tray, wn_X11, by decide, by decide +kernel⟩, wi_X11_tray, wl_X11_tray, (RX11, TX11, 14), rfl, rfl⟩
theorem cv_L_31 : a_CV RL 31 12 yX12_tray cX12_tray 5 (some .boolean) 3 := ⟨⟨wm_L_31, wc_X12_tray, wn_X12, by decide, by decide +kernel⟩, wi_X12_tray, wl_X12_tray, (RX12, TX12, 47), rfl, rfl⟩
theorem cv_L_34 : a_CV RL 34 11 yX11_write cX11_write 6 (some .boolean) 3 := ⟨⟨wm_L_34, wc_X11_write, wn_X11, by decide, by decide +kernel⟩, wi_X11_write, wl_X11_write, (RX11, TX11, 14), rfl, rfl⟩
theorem cv_L_38 : a_CV RL 38 12 yX12_write cX12_write 5 (some .boolean) 3 := ⟨⟨wm_L_38, wc_X12_write, wn_X12, by decide, by decide +kernel⟩, wi_X12_write, wl_X12_write, (RX12, TX12, 47), rfl, rfl⟩
theorem cv_L_39 : a_CV RL 39 11 yX11_read cX11_read 4 (some .long) 2 := ⟨⟨wm_L_39, wc_X11_read, wn_X11, by decide, by decide +kernel⟩, wi_X11_read, wl_X11_read, (RX11, TX11, 14), rfl, rfl⟩
theorem cv_L_43 : a_CV RL 43 12 yX12_read cX12_read 3 (some .long) 2 := ⟨⟨wm_L_43, wc_X12_read, wn_X12, by decide, by decide +kernel⟩, wi_X12_read, wl_X12_read, (RX12, TX12, 47), rfl, rfl⟩
theorem cv_L_44 : a_CV RL 44 11 yX11_pour cX11_pour 8 (some .boolean) 5 := ⟨⟨wm_L_44, wc_X11_pour, wn_X11, by decide, by decide +kernel⟩, wi_X11_pour, wl_X11_pour, (RX11, TX11, 14), rfl, rfl⟩
theorem cv_L_48 : a_CV RL 48 12 yX12_pour cX12_pour 9 (some .boolean) 5 := ⟨⟨wm_L_48, wc_X12_pour, wn_X12, by decide, by decide +kernel⟩, wi_X12_pour, wl_X12_pour, (RX12, TX12, 47), rfl, rfl⟩
theorem cv_L_49 : a_CV RL 49 11 yX11_feed cX11_feed 6 (some .int) 5 := ⟨⟨wm_L_49, wc_X11_feed, wn_X11, by decide, by decide +kernel⟩, wi_X11_feed, wl_X11_feed, (RX11, TX11, 14), rfl, rfl⟩
theorem cv_L_53 : a_CV RL 53 12 yX12_feed cX12_feed 6 (some .int) 5 := ⟨⟨wm_L_53, wc_X12_feed, wn_X12, by decide, by decide +kernel⟩, wi_X12_feed, wl_X12_feed, (RX12, TX12, 47), rfl, rfl⟩
theorem cv_L_54 : a_CV RL 54 11 yX11_book cX11_book 3 (some .int) 1 := ⟨⟨wm_L_54, wc_X11_book, wn_X11, by decide, by decide +kernel⟩, wi_X11_book, wl_X11_book, (RX11, TX11, 14), rfl, rfl⟩
theorem cv_L_58 : a_CV RL 58 12 yX12_book cX12_book 3 (some .int) 1 := ⟨⟨wm_L_58, wc_X12_book, wn_X12, by decide, by decide +kernel⟩, wi_X12_book, wl_X12_book, (RX12, TX12, 47), rfl, rfl⟩
theorem cv_L_59 : a_CV RL 59 11 yX11_log cX11_log 3 (some .int) 1 := ⟨⟨wm_L_59, wc_X11_log, wn_X11, by decide, by decide +kernel⟩, wi_X11_log, wl_X11_log, (RX11, TX11, 14), rfl, rfl⟩
theorem cv_L_62 : a_CV RL 62 12 yX12_log cX12_log 3 (some .int) 1 := ⟨⟨wm_L_62, wc_X12_log, wn_X12, by decide, by decide +kernel⟩, wi_X12_log, wl_X12_log, (RX12, TX12, 47), rfl, rfl⟩
theorem cv_L_63 : a_CV RL 63 11 yX11_fault cX11_fault 2 (some .int) 1 := ⟨⟨wm_L_63, wc_X11_fault, wn_X11, by decide, by decide +kernel⟩, wi_X11_fault, wl_X11_fault, (RX11, TX11, 14), rfl, rfl⟩
theorem cv_L_66 : a_CV RL 66 12 yX12_fault cX12_fault 2 (some .int) 1 := ⟨⟨wm_L_66, wc_X12_fault, wn_X12, by decide, by decide +kernel⟩, wi_X12_fault, wl_X12_fault, (RX12, TX12, 47), rfl, rfl⟩
theorem cv_L_67 : a_CV RL 67 11 yX11_many cX11_many 3 (some .int) 1 := ⟨⟨wm_L_67, wc_X11_many, wn_X11, by decide, by decide +kernel⟩, wi_X11_many, wl_X11_many, (RX11, TX11, 14), rfl, rfl⟩
theorem cv_L_70 : a_CV RL 70 12 yX12_many cX12_many 5 (some .int) 1 := ⟨⟨wm_L_70, wc_X12_many, wn_X12, by decide, by decide +kernel⟩, wi_X12_many, wl_X12_many, (RX12, TX12, 47), rfl, rfl⟩
theorem cv_L_71 : a_CV RL 71 11 yX11_change cX11_change 4 (some .int) 2 := ⟨⟨wm_L_71, wc_X11_change, wn_X11, by decide, by decide +kernel⟩, wi_X11_change, wl_X11_change, (RX11, TX11, 14), rfl, rfl⟩
theorem cv_L_75 : a_CV RL 75 12 yX12_change cX12_change 4 (some .int) 2 := ⟨⟨wm_L_75, wc_X12_change, wn_X12, by decide, by decide +kernel⟩, wi_X12_change, wl_X12_change, (RX12, TX12, 47), rfl, rfl⟩
theorem cv_L_76 : a_CV RL 76 11 yX11_hangs cX11_hangs 4 (some .int) 2 := ⟨⟨wm_L_76, wc_X11_hangs, wn_X11, by decide, by decide +kernel⟩, wi_X11_hangs, wl_X11_hangs, (RX11, TX11, 14), rfl, rfl⟩
theorem cv_L_79 : a_CV RL 79 12 yX12_hangs cX12_hangs 3 (some .int) 2 := ⟨⟨wm_L_79, wc_X12_hangs, wn_X12, by decide, by decide +kernel⟩, wi_X12_hangs, wl_X12_hangs, (RX12, TX12, 47), rfl, rfl⟩
theorem cv_L_80 : a_CV RL 80 11 yX11_holds cX11_holds 2 (some .int) 1 := ⟨⟨wm_L_80, wc_X11_holds, wn_X11, by decide, by decide +kernel⟩, wi_X11_holds, wl_X11_holds, (RX11, TX11, 14), rfl, rfl⟩
theorem cv_L_83 : a_CV RL 83 12 yX12_holds cX12_holds 2 (some .int) 1 := ⟨⟨wm_L_83, wc_X12_holds, wn_X12, by decide, by decide +kernel⟩, wi_X12_holds, wl_X12_holds, (RX12, TX12, 47), rfl, rfl⟩
theorem cv_L_84 : a_CV RL 84 11 yX11_lacks cX11_lacks 2 (some .int) 1 := ⟨⟨wm_L_84, wc_X11_lacks, wn_X11, by decide, by decide +kernel⟩, wi_X11_lacks, wl_X11_lacks, (RX11, TX11, 14), rfl, rfl⟩
theorem cv_L_87 : a_CV RL 87 12 yX12_lacks cX12_lacks 2 (some .int) 1 := ⟨⟨wm_L_87, wc_X12_lacks, wn_X12, by decide, by decide +kernel⟩, wi_X12_lacks, wl_X12_lacks, (RX12, TX12, 47), rfl, rfl⟩
theorem cv_L_88 : a_CV RL 88 11 yX11_out cX11_out 3 (some .int) 2 := ⟨⟨wm_L_88, wc_X11_out, wn_X11, by decide, by decide +kernel⟩, wi_X11_out, wl_X11_out, (RX11, TX11, 14), rfl, rfl⟩
theorem ci_L_9 : a_CI RL 9 yX11_init cX11_init 2 0 := ⟨⟨wm_L_9, wc_X11_init, wn_X11, by decide, by decide +kernel⟩, wi_X11_init, rfl⟩
theorem cv_L_91 : a_CV RL 91 12 yX12_out cX12_out 3 (some .int) 2 := ⟨⟨wm_L_91, wc_X12_out, wn_X12, by decide, by decide +kernel⟩, wi_X12_out, wl_X12_out, (RX12, TX12, 47), rfl, rfl⟩
theorem cv_L_92 : a_CV RL 92 11 yX11_pick cX11_pick 3 (some .int) 2 := ⟨⟨wm_L_92, wc_X11_pick, wn_X11, by decide, by decide +kernel⟩, wi_X11_pick, wl_X11_pick, (RX11, TX11, 14), rfl, rfl⟩
theorem cv_L_95 : a_CV RL 95 12 yX12_pick cX12_pick 3 (some .int) 2 := ⟨⟨wm_L_95, wc_X12_pick, wn_X12, by decide, by decide +kernel⟩, wi_X12_pick, wl_X12_pick, (RX12, TX12, 47), rfl, rfl⟩
theorem cv_L_96 : a_CV RL 96 11 yX11_heaviest cX11_heaviest 1 (some .int) 0 := ⟨⟨wm_L_96, wc_X11_heaviest, wn_X11, by decide, by decide +kernel⟩, wi_X11_heaviest, wl_X11_heaviest, (RX11, TX11, 14), rfl, rfl⟩
theorem cv_L_99 : a_CV RL 99 12 yX12_heaviest cX12_heaviest 3 (some .int) 0 := ⟨⟨wm_L_99, wc_X12_heaviest, wn_X12, by decide, by decide +kernel⟩, wi_X12_heaviest, wl_X12_heaviest, (RX12, TX12, 47), rfl, rfl⟩
theorem cv_X0_62 : a_CV RX0 62 0 yX0_wholeSet cX0_wholeSet 1 (some .int) 0 := ⟨⟨wm_X0_62, wc_X0_wholeSet, wn_X0, by decide, by decide +kernel⟩, wi_X0_wholeSet, wl_X0_wholeSet, (RX0, TX0, 16), rfl, rfl⟩
theorem cv_X0_66 : a_CV RX0 66 0 yX0_isChange cX0_isChange 2 (some .boolean) 1 := ⟨⟨wm_X0_66, wc_X0_isChange, wn_X0, by decide, by decide +kernel⟩, wi_X0_isChange, wl_X0_isChange, (RX0, TX0, 16), rfl, rfl⟩
theorem cs_X0_70 : a_CS RX0 70 yX0_isIn cX0_isIn 2 (some .boolean) 2 := ⟨⟨wm_X0_70, wc_X0_isIn, wn_X0, by decide, by decide +kernel⟩, wt_X0_isIn⟩
theorem cs_X0_74 : a_CS RX0 74 yJ9_max_7cf53 cJ9_max_7cf53 2 (some .int) 2 := ⟨⟨wm_X0_74, wc_J9_max_7cf53, wn_J9, by decide, by decide +kernel⟩, wt_J9_max_7cf53⟩
theorem cs_X0_80 : a_CS RX0 80 yX0_doClash cX0_doClash 2 (some .boolean) 2 := ⟨⟨wm_X0_80, wc_X0_doClash, wn_X0, by decide, by decide +kernel⟩, wt_X0_doClash⟩
theorem cs_X0_83 : a_CS RX0 83 yJ6_bitCount_0f7a4 cJ6_bitCount_0f7a4 1 (some .int) 1 := ⟨⟨wm_X0_83, wc_J6_bitCount_0f7a4, wn_J6, by decide, by decide +kernel⟩, wt_J6_bitCount_0f7a4⟩
theorem cv_X0_89 : a_CV RX0 89 0 yX0_missingFrom cX0_missingFrom 4 (some .int) 1 := ⟨⟨wm_X0_89, wc_X0_missingFrom, wn_X0, by decide, by decide +kernel⟩, wi_X0_missingFrom, wl_X0_missingFrom, (RX0, TX0, 16), rfl, rfl⟩
theorem cv_X0_92 : a_CV RX0 92 0 yX0_quarrelersOf cX0_quarrelersOf 5 (some .int) 2 := ⟨⟨wm_X0_92, wc_X0_quarrelersOf, wn_X0, by decide, by decide +kernel⟩, wi_X0_quarrelersOf, wl_X0_quarrelersOf, (RX0, TX0, 16), rfl, rfl⟩
theorem cv_X0_95 : a_CV RX0 95 0 yX0_ofThing cX0_ofThing 6 (some .int) 3 := ⟨⟨wm_X0_95, wc_X0_ofThing, wn_X0, by decide, by decide +kernel⟩, wi_X0_ofThing, wl_X0_ofThing, (RX0, TX0, 16), rfl, rfl⟩
theorem cv_X0_99 : a_CV RX0 99 0 yX0_isPut cX0_isPut 2 (some .boolean) 1 := ⟨⟨wm_X0_99, wc_X0_isPut, wn_X0, by decide, by decide +kernel⟩, wi_X0_isPut, wl_X0_isPut, (RX0, TX0, 16), rfl, rfl⟩
theorem cv_X10_101 : a_CV RX10 101 10 yX10_doStep cX10_doStep 2 (some .boolean) 1 := ⟨⟨wm_X10_101, wc_X10_doStep, wn_X10, by decide, by decide +kernel⟩, wi_X10_doStep, wl_X10_doStep, (RX10, TX10, 16), rfl, rfl⟩
theorem cv_X10_106 : a_CV RX10 106 0 yX0_isIsland cX0_isIsland 2 (some .boolean) 1 := ⟨⟨wm_X10_106, wc_X0_isIsland, wn_X0, by decide, by decide +kernel⟩, wi_X0_isIsland, wl_X0_isIsland, (RX0, TX0, 16), rfl, rfl⟩
theorem cs_X10_112 : a_CS RX10 112 yX0_isIn cX0_isIn 2 (some .boolean) 2 := ⟨⟨wm_X10_112, wc_X0_isIn, wn_X0, by decide, by decide +kernel⟩, wt_X0_isIn⟩
theorem cv_X10_116 : a_CV RX10 116 0 yX0_mostQuarrelling cX0_mostQuarrelling 6 (some .int) 1 := ⟨⟨wm_X10_116, wc_X0_mostQuarrelling, wn_X0, by decide, by decide +kernel⟩, wi_X0_mostQuarrelling, wl_X0_mostQuarrelling, (RX0, TX0, 16), rfl, rfl⟩
theorem cv_X10_119 : a_CV RX10 119 10 yX10_landDue cX10_landDue 3 none 0 := ⟨⟨wm_X10_119, wc_X10_landDue, wn_X10, by decide, by decide +kernel⟩, wi_X10_landDue, wl_X10_landDue, (RX10, TX10, 16), rfl, rfl⟩
theorem cv_X10_122 : a_CV RX10 122 10 yX10_draw cX10_draw 4 none 1 := ⟨⟨wm_X10_122, wc_X10_draw, wn_X10, by decide, by decide +kernel⟩, wi_X10_draw, wl_X10_draw, (RX10, TX10, 16), rfl, rfl⟩
theorem cv_X10_126 : a_CV RX10 126 10 yX10_setOut cX10_setOut 6 (some .boolean) 1 := ⟨⟨wm_X10_126, wc_X10_setOut, wn_X10, by decide, by decide +kernel⟩, wi_X10_setOut, wl_X10_setOut, (RX10, TX10, 16), rfl, rfl⟩
theorem cv_X10_129 : a_CV RX10 129 10 yX10_alter cX10_alter 4 (some .boolean) 3 := ⟨⟨wm_X10_129, wc_X10_alter, wn_X10, by decide, by decide +kernel⟩, wi_X10_alter, wl_X10_alter, (RX10, TX10, 16), rfl, rfl⟩
theorem cv_X10_133 : a_CV RX10 133 0 yX0_isChange cX0_isChange 2 (some .boolean) 1 := ⟨⟨wm_X10_133, wc_X0_isChange, wn_X0, by decide, by decide +kernel⟩, wi_X0_isChange, wl_X0_isChange, (RX0, TX0, 16), rfl, rfl⟩
theorem cv_X10_139 : a_CV RX10 139 0 yX0_without cX0_without 3 (some .int) 2 := ⟨⟨wm_X10_139, wc_X0_without, wn_X0, by decide, by decide +kernel⟩, wi_X0_without, wl_X0_without, (RX0, TX0, 16), rfl, rfl⟩
theorem cv_X10_143 : a_CV RX10 143 10 yX10_isAnywhere cX10_isAnywhere 3 (some .boolean) 1 := ⟨⟨wm_X10_143, wc_X10_isAnywhere, wn_X10, by decide, by decide +kernel⟩, wi_X10_isAnywhere, wl_X10_isAnywhere, (RX10, TX10, 16), rfl, rfl⟩
theorem cv_X10_146 : a_CV RX10 146 0 yX0_including cX0_including 3 (some .int) 2 := ⟨⟨wm_X10_146, wc_X0_including, wn_X0, by decide, by decide +kernel⟩, wi_X0_including, wl_X0_including, (RX0, TX0, 16), rfl, rfl⟩
theorem cv_X10_153 : a_CV RX10 153 10 yX10_addCargo cX10_addCargo 4 none 3 := ⟨⟨wm_X10_153, wc_X10_addCargo, wn_X10, by decide, by decide +kernel⟩, wi_X10_addCargo, wl_X10_addCargo, (RX10, TX10, 16), rfl, rfl⟩
theorem cv_X10_157 : a_CV RX10 157 10 yX10_land cX10_land 3 none 2 := ⟨⟨wm_X10_157, wc_X10_land, wn_X10, by decide, by decide +kernel⟩, wi_X10_land, wl_X10_land, (RX10, TX10, 16), rfl, rfl⟩
theorem cv_X10_161 : a_CV RX10 161 10 yX10_moveCargo cX10_moveCargo 3 none 2 := ⟨⟨wm_X10_161, wc_X10_moveCargo, wn_X10, by decide, by decide +kernel⟩, wi_X10_moveCargo, wl_X10_moveCargo, (RX10, TX10, 16), rfl, rfl⟩
theorem cv_X10_70 : a_CV RX10 70 10 yX10_isRow cX10_isRow 2 (some .boolean) 1 := ⟨⟨wm_X10_70, wc_X10_isRow, wn_X10, by decide, by decide +kernel⟩, wi_X10_isRow, wl_X10_isRow, (RX10, TX10, 16), rfl, rfl⟩
theorem cv_X10_79 : a_CV RX10 79 10 yX10_rowAfterEnd cX10_rowAfterEnd 3 (some .int) 1 := ⟨⟨wm_X10_79, wc_X10_rowAfterEnd, wn_X10, by decide, by decide +kernel⟩, wi_X10_rowAfterEnd, wl_X10_rowAfterEnd, (RX10, TX10, 16), rfl, rfl⟩
theorem cv_X10_83 : a_CV RX10 83 10 yX10_rowAfterStep cX10_rowAfterStep 2 (some .int) 1 := ⟨⟨wm_X10_83, wc_X10_rowAfterStep, wn_X10, by decide, by decide +kernel⟩, wi_X10_rowAfterStep, wl_X10_rowAfterStep, (RX10, TX10, 16), rfl, rfl⟩
theorem cv_X10_98 : a_CV RX10 98 10 yX10_isSo cX10_isSo 3 (some .boolean) 1 := ⟨⟨wm_X10_98, wc_X10_isSo, wn_X10, by decide, by decide +kernel⟩, wi_X10_isSo, wl_X10_isSo, (RX10, TX10, 16), rfl, rfl⟩
theorem cv_X11_102 : a_CV RX11 102 11 yX11_grant cX11_grant 1 (some .boolean) 0 := ⟨⟨wm_X11_102, wc_X11_grant, wn_X11, by decide, by decide +kernel⟩, wi_X11_grant, wl_X11_grant, (RX11, TX11, 14), rfl, rfl⟩
theorem cv_X11_105 : a_CV RX11 105 11 yX11_faultOfPlace cX11_faultOfPlace 3 (some .int) 2 := ⟨⟨wm_X11_105, wc_X11_faultOfPlace, wn_X11, by decide, by decide +kernel⟩, wi_X11_faultOfPlace, wl_X11_faultOfPlace, (RX11, TX11, 14), rfl, rfl⟩
theorem cv_X11_109 : a_CV RX11 109 9 yX9_set cX9_set 4 none 2 := ⟨⟨wm_X11_109, wc_X9_set, wn_X9, by decide, by decide +kernel⟩, wi_X9_set, wl_X9_set, (RX9, TX9, 3), rfl, rfl⟩
theorem cv_X11_113 : a_CV RX11 113 11 yX11_refuse cX11_refuse 2 (some .int) 1 := ⟨⟨wm_X11_113, wc_X11_refuse, wn_X11, by decide, by decide +kernel⟩, wi_X11_refuse, wl_X11_refuse, (RX11, TX11, 14), rfl, rfl⟩
theorem cv_X11_117 : a_CV RX11 117 9 yX9_get cX9_get 2 (some .long) 1 := ⟨⟨wm_X11_117, wc_X9_get, wn_X9, by decide, by decide +kernel⟩, wi_X9_get, wl_X9_get, (RX9, TX9, 3), rfl, rfl⟩
theorem cv_X11_121 : a_CV RX11 121 11 yX11_tellLong cX11_tellLong 3 (some .long) 1 := ⟨⟨wm_X11_121, wc_X11_tellLong, wn_X11, by decide, by decide +kernel⟩, wi_X11_tellLong, wl_X11_tellLong, (RX11, TX11, 14), rfl, rfl⟩
theorem cv_X11_138 : a_CV RX11 138 8 yX8_hasRoom cX8_hasRoom 2 (some .boolean) 1 := ⟨⟨wm_X11_138, wc_X8_hasRoom, wn_X8, by decide, by decide +kernel⟩, wi_X8_hasRoom, wl_X8_hasRoom, (RX8, TX8, 11), rfl, rfl⟩
theorem cv_X11_141 : a_CV RX11 141 8 yX8_addBytes cX8_addBytes 3 none 1 := ⟨⟨wm_X11_141, wc_X8_addBytes, wn_X8, by decide, by decide +kernel⟩, wi_X8_addBytes, wl_X8_addBytes, (RX8, TX8, 11), rfl, rfl⟩
theorem ci_X11_150 : a_CI RX11 150 yX1_init cX1_init 2 1 := ⟨⟨wm_X11_150, wc_X1_init, wn_X1, by decide, by decide +kernel⟩, wi_X1_init, rfl⟩
theorem cv_X11_153 : a_CV RX11 153 1 yX1_readBook cX1_readBook 4 (some (.object "SwapBook$Book")) 1 := ⟨⟨wm_X11_153, wc_X1_readBook, wn_X1, by decide, by decide +kernel⟩, wi_X1_readBook, wl_X1_readBook, (RX1, TX1, 2), rfl, rfl⟩
theorem cv_X11_160 : a_CV RX11 160 7 yX7_begin cX7_begin 3 none 1 := ⟨⟨wm_X11_160, wc_X7_begin, wn_X7, by decide, by decide +kernel⟩, wi_X7_begin, wl_X7_begin, (RX7, TX7, 5), rfl, rfl⟩
theorem cv_X11_169 : a_CV RX11 169 11 yX11_tell cX11_tell 2 (some .int) 1 := ⟨⟨wm_X11_169, wc_X11_tell, wn_X11, by decide, by decide +kernel⟩, wi_X11_tell, wl_X11_tell, (RX11, TX11, 14), rfl, rfl⟩
theorem ci_X11_17 : a_CI RX11 17 yX8_init cX8_init 6 0 := ⟨⟨wm_X11_17, wc_X8_init, wn_X8, by decide, by decide +kernel⟩, wi_X8_init, rfl⟩
theorem ci_X11_178 : a_CI RX11 178 yX4_init cX4_init 3 2 := ⟨⟨wm_X11_178, wc_X4_init, wn_X4, by decide, by decide +kernel⟩, wi_X4_init, rfl⟩
theorem cv_X11_181 : a_CV RX11 181 4 yX4_readLog cX4_readLog 6 (some (.object "SwapBook$Log")) 1 := ⟨⟨wm_X11_181, wc_X4_readLog, wn_X4, by decide, by decide +kernel⟩, wi_X4_readLog, wl_X4_readLog, (RX4, TX4, 5), rfl, rfl⟩
theorem cv_X11_200 : a_CV RX11 200 0 yX0_allOfKind cX0_allOfKind 4 (some .int) 1 := ⟨⟨wm_X11_200, wc_X0_allOfKind, wn_X0, by decide, by decide +kernel⟩, wi_X0_allOfKind, wl_X0_allOfKind, (RX0, TX0, 16), rfl, rfl⟩
theorem cs_X11_203 : a_CS RX11 203 yJ6_bitCount_0f7a4 cJ6_bitCount_0f7a4 1 (some .int) 1 := ⟨⟨wm_X11_203, wc_J6_bitCount_0f7a4, wn_J6, by decide, by decide +kernel⟩, wt_J6_bitCount_0f7a4⟩
theorem cv_X11_208 : a_CV RX11 208 0 yX0_countFoes cX0_countFoes 3 (some .int) 0 := ⟨⟨wm_X11_208, wc_X0_countFoes, wn_X0, by decide, by decide +kernel⟩, wi_X0_countFoes, wl_X0_countFoes, (RX0, TX0, 16), rfl, rfl⟩
theorem cv_X11_212 : a_CV RX11 212 0 yX0_isChange cX0_isChange 2 (some .boolean) 1 := ⟨⟨wm_X11_212, wc_X0_isChange, wn_X0, by decide, by decide +kernel⟩, wi_X0_isChange, wl_X0_isChange, (RX0, TX0, 16), rfl, rfl⟩
theorem cv_X11_220 : a_CV RX11 220 0 yX0_isPut cX0_isPut 2 (some .boolean) 1 := ⟨⟨wm_X11_220, wc_X0_isPut, wn_X0, by decide, by decide +kernel⟩, wi_X0_isPut, wl_X0_isPut, (RX0, TX0, 16), rfl, rfl⟩
theorem cv_X11_241 : a_CV RX11 241 0 yX0_isSet cX0_isSet 2 (some .boolean) 1 := ⟨⟨wm_X11_241, wc_X0_isSet, wn_X0, by decide, by decide +kernel⟩, wi_X0_isSet, wl_X0_isSet, (RX0, TX0, 16), rfl, rfl⟩
theorem cv_X11_244 : a_CV RX11 244 0 yX0_isClosed cX0_isClosed 2 (some .boolean) 1 := ⟨⟨wm_X11_244, wc_X0_isClosed, wn_X0, by decide, by decide +kernel⟩, wi_X0_isClosed, wl_X0_isClosed, (RX0, TX0, 16), rfl, rfl⟩
theorem cv_X11_247 : a_CV RX11 247 0 yX0_missingFrom cX0_missingFrom 4 (some .int) 1 := ⟨⟨wm_X11_247, wc_X0_missingFrom, wn_X0, by decide, by decide +kernel⟩, wi_X0_missingFrom, wl_X0_missingFrom, (RX0, TX0, 16), rfl, rfl⟩
theorem cv_X11_250 : a_CV RX11 250 0 yX0_without cX0_without 3 (some .int) 2 := ⟨⟨wm_X11_250, wc_X0_without, wn_X0, by decide, by decide +kernel⟩, wi_X0_without, wl_X0_without, (RX0, TX0, 16), rfl, rfl⟩
theorem cv_X11_253 : a_CV RX11 253 0 yX0_including cX0_including 3 (some .int) 2 := ⟨⟨wm_X11_253, wc_X0_including, wn_X0, by decide, by decide +kernel⟩, wi_X0_including, wl_X0_including, (RX0, TX0, 16), rfl, rfl⟩
theorem cv_X11_256 : a_CV RX11 256 0 yX0_heaviestChange cX0_heaviestChange 3 (some .int) 0 := ⟨⟨wm_X11_256, wc_X0_heaviestChange, wn_X0, by decide, by decide +kernel⟩, wi_X0_heaviestChange, wl_X0_heaviestChange, (RX0, TX0, 16), rfl, rfl⟩
theorem cv_X11_259 : a_CV RX11 259 0 yX0_lonelyPuts cX0_lonelyPuts 3 (some .int) 0 := ⟨⟨wm_X11_259, wc_X0_lonelyPuts, wn_X0, by decide, by decide +kernel⟩, wi_X0_lonelyPuts, wl_X0_lonelyPuts, (RX0, TX0, 16), rfl, rfl⟩
theorem cv_X11_262 : a_CV RX11 262 11 yX11_faultOfSet cX11_faultOfSet 2 (some .int) 1 := ⟨⟨wm_X11_262, wc_X11_faultOfSet, wn_X11, by decide, by decide +kernel⟩, wi_X11_faultOfSet, wl_X11_faultOfSet, (RX11, TX11, 14), rfl, rfl⟩
theorem cv_X11_265 : a_CV RX11 265 2 yX2_fill cX2_fill 6 none 2 := ⟨⟨wm_X11_265, wc_X2_fill, wn_X2, by decide, by decide +kernel⟩, wi_X2_fill, wl_X2_fill, (RX2, TX2, 4), rfl, rfl⟩
theorem cv_X11_272 : a_CV RX11 272 2 yX2_isPlace cX2_isPlace 2 (some .boolean) 1 := ⟨⟨wm_X11_272, wc_X2_isPlace, wn_X2, by decide, by decide +kernel⟩, wi_X2_isPlace, wl_X2_isPlace, (RX2, TX2, 4), rfl, rfl⟩
theorem cv_X11_278 : a_CV RX11 278 2 yX2_placeOf cX2_placeOf 3 (some .int) 1 := ⟨⟨wm_X11_278, wc_X2_placeOf, wn_X2, by decide, by decide +kernel⟩, wi_X2_placeOf, wl_X2_placeOf, (RX2, TX2, 4), rfl, rfl⟩
theorem cv_X11_281 : a_CV RX11 281 11 yX11_findThing cX11_findThing 4 (some .int) 2 := ⟨⟨wm_X11_281, wc_X11_findThing, wn_X11, by decide, by decide +kernel⟩, wi_X11_findThing, wl_X11_findThing, (RX11, TX11, 14), rfl, rfl⟩
theorem cv_X11_288 : a_CV RX11 288 11 yX11_faultOfSets cX11_faultOfSets 3 (some .int) 2 := ⟨⟨wm_X11_288, wc_X11_faultOfSets, wn_X11, by decide, by decide +kernel⟩, wi_X11_faultOfSets, wl_X11_faultOfSets, (RX11, TX11, 14), rfl, rfl⟩
theorem cv_X11_291 : a_CV RX11 291 2 yX2_isLike cX2_isLike 3 (some .boolean) 1 := ⟨⟨wm_X11_291, wc_X2_isLike, wn_X2, by decide, by decide +kernel⟩, wi_X2_isLike, wl_X2_isLike, (RX2, TX2, 4), rfl, rfl⟩
theorem cv_X11_295 : a_CV RX11 295 0 yX0_quarrelAlike cX0_quarrelAlike 4 (some .boolean) 2 := ⟨⟨wm_X11_295, wc_X0_quarrelAlike, wn_X0, by decide, by decide +kernel⟩, wi_X0_quarrelAlike, wl_X0_quarrelAlike, (RX0, TX0, 16), rfl, rfl⟩
theorem cv_X11_298 : a_CV RX11 298 2 yX2_firstDifference cX2_firstDifference 4 (some .int) 1 := ⟨⟨wm_X11_298, wc_X2_firstDifference, wn_X2, by decide, by decide +kernel⟩, wi_X2_firstDifference, wl_X2_firstDifference, (RX2, TX2, 4), rfl, rfl⟩
theorem cv_X11_302 : a_CV RX11 302 0 yX0_countQuarrels cX0_countQuarrels 4 (some .int) 1 := ⟨⟨wm_X11_302, wc_X0_countQuarrels, wn_X0, by decide, by decide +kernel⟩, wi_X0_countQuarrels, wl_X0_countQuarrels, (RX0, TX0, 16), rfl, rfl⟩
theorem cs_X11_305 : a_CS RX11 305 yX0_isIn cX0_isIn 2 (some .boolean) 2 := ⟨⟨wm_X11_305, wc_X0_isIn, wn_X0, by decide, by decide +kernel⟩, wt_X0_isIn⟩
theorem cv_X11_308 : a_CV RX11 308 0 yX0_quarrelersOf cX0_quarrelersOf 5 (some .int) 2 := ⟨⟨wm_X11_308, wc_X0_quarrelersOf, wn_X0, by decide, by decide +kernel⟩, wi_X0_quarrelersOf, wl_X0_quarrelersOf, (RX0, TX0, 16), rfl, rfl⟩
theorem ci_X11_313 : a_CI RX11 313 yX6_init cX6_init 3 2 := ⟨⟨wm_X11_313, wc_X6_init, wn_X6, by decide, by decide +kernel⟩, wi_X6_init, rfl⟩
theorem cv_X11_315 : a_CV RX11 315 6 yX6_fewestOut cX6_fewestOut 1 (some .int) 0 := ⟨⟨wm_X11_315, wc_X6_fewestOut, wn_X6, by decide, by decide +kernel⟩, wi_X6_fewestOut, wl_X6_fewestOut, (RX6, TX6, 3), rfl, rfl⟩
theorem cv_X11_318 : a_CV RX11 318 0 yX0_wholeSet cX0_wholeSet 1 (some .int) 0 := ⟨⟨wm_X11_318, wc_X0_wholeSet, wn_X0, by decide, by decide +kernel⟩, wi_X0_wholeSet, wl_X0_wholeSet, (RX0, TX0, 16), rfl, rfl⟩
theorem cv_X11_321 : a_CV RX11 321 5 yX5_countOrders cX5_countOrders 3 (some .long) 2 := ⟨⟨wm_X11_321, wc_X5_countOrders, wn_X5, by decide, by decide +kernel⟩, wi_X5_countOrders, wl_X5_countOrders, (RX5, TX5, 6), rfl, rfl⟩
theorem cv_X11_325 : a_CV RX11 325 5 yX5_countOrdersWith cX5_countOrdersWith 5 (some .long) 4 := ⟨⟨wm_X11_325, wc_X5_countOrdersWith, wn_X5, by decide, by decide +kernel⟩, wi_X5_countOrdersWith, wl_X5_countOrdersWith, (RX5, TX5, 6), rfl, rfl⟩
theorem cv_X11_329 : a_CV RX11 329 11 yX11_tellFraction cX11_tellFraction 7 none 2 := ⟨⟨wm_X11_329, wc_X11_tellFraction, wn_X11, by decide, by decide +kernel⟩, wi_X11_tellFraction, wl_X11_tellFraction, (RX11, TX11, 14), rfl, rfl⟩
theorem cs_X11_333 : a_CS RX11 333 yX11_commonDivisor cX11_commonDivisor 11 (some .long) 2 := ⟨⟨wm_X11_333, wc_X11_commonDivisor, wn_X11, by decide, by decide +kernel⟩, wt_X11_commonDivisor⟩
theorem cv_X11_340 : a_CV RX11 340 5 yX5_writeOrder cX5_writeOrder 13 (some .int) 2 := ⟨⟨wm_X11_340, wc_X5_writeOrder, wn_X5, by decide, by decide +kernel⟩, wi_X5_writeOrder, wl_X5_writeOrder, (RX5, TX5, 6), rfl, rfl⟩
theorem cv_X11_347 : a_CV RX11 347 11 yX11_areChangesOnce cX11_areChangesOnce 7 (some .boolean) 2 := ⟨⟨wm_X11_347, wc_X11_areChangesOnce, wn_X11, by decide, by decide +kernel⟩, wi_X11_areChangesOnce, wl_X11_areChangesOnce, (RX11, TX11, 14), rfl, rfl⟩
theorem cv_X11_351 : a_CV RX11 351 11 yX11_holdsInRow cX11_holdsInRow 6 (some .boolean) 2 := ⟨⟨wm_X11_351, wc_X11_holdsInRow, wn_X11, by decide, by decide +kernel⟩, wi_X11_holdsInRow, wl_X11_holdsInRow, (RX11, TX11, 14), rfl, rfl⟩
theorem cv_X11_354 : a_CV RX11 354 5 yX5_numberOf cX5_numberOf 10 (some .long) 3 := ⟨⟨wm_X11_354, wc_X5_numberOf, wn_X5, by decide, by decide +kernel⟩, wi_X5_numberOf, wl_X5_numberOf, (RX5, TX5, 6), rfl, rfl⟩
theorem cv_X11_358 : a_CV RX11 358 7 yX7_isInOrder cX7_isInOrder 2 (some .boolean) 1 := ⟨⟨wm_X11_358, wc_X7_isInOrder, wn_X7, by decide, by decide +kernel⟩, wi_X7_isInOrder, wl_X7_isInOrder, (RX7, TX7, 5), rfl, rfl⟩
theorem cv_X11_361 : a_CV RX11 361 7 yX7_firstOfOrder cX7_firstOfOrder 4 (some .int) 1 := ⟨⟨wm_X11_361, wc_X7_firstOfOrder, wn_X7, by decide, by decide +kernel⟩, wi_X7_firstOfOrder, wl_X7_firstOfOrder, (RX7, TX7, 5), rfl, rfl⟩
theorem cv_X11_364 : a_CV RX11 364 7 yX7_maySwap cX7_maySwap 2 (some .boolean) 1 := ⟨⟨wm_X11_364, wc_X7_maySwap, wn_X7, by decide, by decide +kernel⟩, wi_X7_maySwap, wl_X7_maySwap, (RX7, TX7, 5), rfl, rfl⟩
theorem cv_X11_367 : a_CV RX11 367 7 yX7_exchange cX7_exchange 3 none 1 := ⟨⟨wm_X11_367, wc_X7_exchange, wn_X7, by decide, by decide +kernel⟩, wi_X7_exchange, wl_X7_exchange, (RX7, TX7, 5), rfl, rfl⟩
theorem cv_X11_370 : a_CV RX11 370 7 yX7_placeInOrder cX7_placeInOrder 3 (some .int) 1 := ⟨⟨wm_X11_370, wc_X7_placeInOrder, wn_X7, by decide, by decide +kernel⟩, wi_X7_placeInOrder, wl_X7_placeInOrder, (RX7, TX7, 5), rfl, rfl⟩
theorem cv_X11_373 : a_CV RX11 373 7 yX7_countTurned cX7_countTurned 4 (some .int) 0 := ⟨⟨wm_X11_373, wc_X7_countTurned, wn_X7, by decide, by decide +kernel⟩, wi_X7_countTurned, wl_X7_countTurned, (RX7, TX7, 5), rfl, rfl⟩
theorem cv_X11_376 : a_CV RX11 376 0 yX0_isIsland cX0_isIsland 2 (some .boolean) 1 := ⟨⟨wm_X11_376, wc_X0_isIsland, wn_X0, by decide, by decide +kernel⟩, wi_X0_isIsland, wl_X0_isIsland, (RX0, TX0, 16), rfl, rfl⟩
theorem cv_X11_382 : a_CV RX11 382 10 yX10_run cX10_run 7 none 4 := ⟨⟨wm_X11_382, wc_X10_run, wn_X10, by decide, by decide +kernel⟩, wi_X10_run, wl_X10_run, (RX10, TX10, 16), rfl, rfl⟩
theorem cv_X11_403 : a_CV RX11 403 10 yX10_allAlike cX10_allAlike 2 (some .boolean) 0 := ⟨⟨wm_X11_403, wc_X10_allAlike, wn_X10, by decide, by decide +kernel⟩, wi_X10_allAlike, wl_X10_allAlike, (RX10, TX10, 16), rfl, rfl⟩
theorem cv_X11_406 : a_CV RX11 406 11 yX11_writeSeal cX11_writeSeal 7 none 3 := ⟨⟨wm_X11_406, wc_X11_writeSeal, wn_X11, by decide, by decide +kernel⟩, wi_X11_writeSeal, wl_X11_writeSeal, (RX11, TX11, 14), rfl, rfl⟩
theorem cv_X11_410 : a_CV RX11 410 11 yX11_sealOf cX11_sealOf 2 (some .int) 1 := ⟨⟨wm_X11_410, wc_X11_sealOf, wn_X11, by decide, by decide +kernel⟩, wi_X11_sealOf, wl_X11_sealOf, (RX11, TX11, 14), rfl, rfl⟩
theorem cs_X11_413 : a_CS RX11 413 yX11_sealedCount cX11_sealedCount 3 (some .int) 1 := ⟨⟨wm_X11_413, wc_X11_sealedCount, wn_X11, by decide, by decide +kernel⟩, wt_X11_sealedCount⟩
theorem cv_X11_417 : a_CV RX11 417 11 yX11_readSeal cX11_readSeal 7 (some .int) 2 := ⟨⟨wm_X11_417, wc_X11_readSeal, wn_X11, by decide, by decide +kernel⟩, wi_X11_readSeal, wl_X11_readSeal, (RX11, TX11, 14), rfl, rfl⟩
theorem cv_X11_423 : a_CV RX11 423 7 yX7_copyFrom cX7_copyFrom 2 none 1 := ⟨⟨wm_X11_423, wc_X7_copyFrom, wn_X7, by decide, by decide +kernel⟩, wi_X7_copyFrom, wl_X7_copyFrom, (RX7, TX7, 5), rfl, rfl⟩
theorem cs_X11_80 : a_CS RX11 80 yX11_isTray cX11_isTray 1 (some .boolean) 1 := ⟨⟨wm_X11_80, wc_X11_isTray, wn_X11, by decide, by decide +kernel⟩, wt_X11_isTray⟩
theorem cv_X11_84 : a_CV RX11 84 9 yX9_isMissing cX9_isMissing 1 (some .boolean) 0 := ⟨⟨wm_X11_84, wc_X9_isMissing, wn_X9, by decide, by decide +kernel⟩, wi_X9_isMissing, wl_X9_isMissing, (RX9, TX9, 3), rfl, rfl⟩
theorem cv_X11_88 : a_CV RX11 88 9 yX9_spans cX9_spans 3 (some .boolean) 2 := ⟨⟨wm_X11_88, wc_X9_spans, wn_X9, by decide, by decide +kernel⟩, wi_X9_spans, wl_X9_spans, (RX9, TX9, 3), rfl, rfl⟩
theorem cs_X11_92 : a_CS RX11 92 yX9_isSort cX9_isSort 1 (some .boolean) 1 := ⟨⟨wm_X11_92, wc_X9_isSort, wn_X9, by decide, by decide +kernel⟩, wt_X9_isSort⟩
theorem cv_X11_95 : a_CV RX11 95 11 yX11_deny cX11_deny 2 (some .boolean) 1 := ⟨⟨wm_X11_95, wc_X11_deny, wn_X11, by decide, by decide +kernel⟩, wi_X11_deny, wl_X11_deny, (RX11, TX11, 14), rfl, rfl⟩
theorem cv_X11_98 : a_CV RX11 98 9 yX9_layOut cX9_layOut 4 none 2 := ⟨⟨wm_X11_98, wc_X9_layOut, wn_X9, by decide, by decide +kernel⟩, wi_X9_layOut, wl_X9_layOut, (RX9, TX9, 3), rfl, rfl⟩
theorem cs_X12_102 : a_CS RX12 102 yX12_cut cX12_cut 3 (some .long) 2 := ⟨⟨wm_X12_102, wc_X12_cut, wn_X12, by decide, by decide +kernel⟩, wt_X12_cut⟩
theorem cs_X12_110 : a_CS RX12 110 yX12_isIn cX12_isIn 6 (some .boolean) 3 := ⟨⟨wm_X12_110, wc_X12_isIn, wn_X12, by decide, by decide +kernel⟩, wt_X12_isIn⟩
theorem cv_X12_123 : a_CV RX12 123 12 yX12_look2 cX12_look2 2 (some .int) 1 := ⟨⟨wm_X12_123, wc_X12_look2, wn_X12, by decide, by decide +kernel⟩, wi_X12_look2, wl_X12_look2, (RX12, TX12, 47), rfl, rfl⟩
theorem cs_X12_129 : a_CS RX12 129 yX12_isLetter cX12_isLetter 1 (some .boolean) 1 := ⟨⟨wm_X12_129, wc_X12_isLetter, wn_X12, by decide, by decide +kernel⟩, wt_X12_isLetter⟩
theorem cs_X12_142 : a_CS RX12 142 yX12_isDigit cX12_isDigit 1 (some .boolean) 1 := ⟨⟨wm_X12_142, wc_X12_isDigit, wn_X12, by decide, by decide +kernel⟩, wt_X12_isDigit⟩
theorem cs_X12_148 : a_CS RX12 148 yX12_spelled cX12_spelled 8 (some .long) 6 := ⟨⟨wm_X12_148, wc_X12_spelled, wn_X12, by decide, by decide +kernel⟩, wt_X12_spelled⟩
theorem cv_X12_152 : a_CV RX12 152 12 yX12_isWord cX12_isWord 3 (some .boolean) 1 := ⟨⟨wm_X12_152, wc_X12_isWord, wn_X12, by decide, by decide +kernel⟩, wi_X12_isWord, wl_X12_isWord, (RX12, TX12, 47), rfl, rfl⟩
theorem cv_X12_156 : a_CV RX12 156 12 yX12_isIslandWord cX12_isIslandWord 1 (some .boolean) 0 := ⟨⟨wm_X12_156, wc_X12_isIslandWord, wn_X12, by decide, by decide +kernel⟩, wi_X12_isIslandWord, wl_X12_isIslandWord, (RX12, TX12, 47), rfl, rfl⟩
theorem cv_X12_160 : a_CV RX12 160 12 yX12_kindWord cX12_kindWord 1 (some .int) 0 := ⟨⟨wm_X12_160, wc_X12_kindWord, wn_X12, by decide, by decide +kernel⟩, wi_X12_kindWord, wl_X12_kindWord, (RX12, TX12, 47), rfl, rfl⟩
theorem cv_X12_164 : a_CV RX12 164 12 yX12_isKey cX12_isKey 1 (some .boolean) 0 := ⟨⟨wm_X12_164, wc_X12_isKey, wn_X12, by decide, by decide +kernel⟩, wi_X12_isKey, wl_X12_isKey, (RX12, TX12, 47), rfl, rfl⟩
theorem cv_X12_167 : a_CV RX12 167 12 yX12_isSays cX12_isSays 1 (some .boolean) 0 := ⟨⟨wm_X12_167, wc_X12_isSays, wn_X12, by decide, by decide +kernel⟩, wi_X12_isSays, wl_X12_isSays, (RX12, TX12, 47), rfl, rfl⟩
theorem cv_X12_170 : a_CV RX12 170 12 yX12_isOf cX12_isOf 1 (some .boolean) 0 := ⟨⟨wm_X12_170, wc_X12_isOf, wn_X12, by decide, by decide +kernel⟩, wi_X12_isOf, wl_X12_isOf, (RX12, TX12, 47), rfl, rfl⟩
theorem cv_X12_173 : a_CV RX12 173 12 yX12_isNot cX12_isNot 1 (some .boolean) 0 := ⟨⟨wm_X12_173, wc_X12_isNot, wn_X12, by decide, by decide +kernel⟩, wi_X12_isNot, wl_X12_isNot, (RX12, TX12, 47), rfl, rfl⟩
theorem cv_X12_176 : a_CV RX12 176 12 yX12_isAfter cX12_isAfter 1 (some .boolean) 0 := ⟨⟨wm_X12_176, wc_X12_isAfter, wn_X12, by decide, by decide +kernel⟩, wi_X12_isAfter, wl_X12_isAfter, (RX12, TX12, 47), rfl, rfl⟩
theorem cv_X12_179 : a_CV RX12 179 12 yX12_stepWord cX12_stepWord 1 (some .int) 0 := ⟨⟨wm_X12_179, wc_X12_stepWord, wn_X12, by decide, by decide +kernel⟩, wi_X12_stepWord, wl_X12_stepWord, (RX12, TX12, 47), rfl, rfl⟩
theorem cv_X12_182 : a_CV RX12 182 12 yX12_isAt cX12_isAt 1 (some .boolean) 0 := ⟨⟨wm_X12_182, wc_X12_isAt, wn_X12, by decide, by decide +kernel⟩, wi_X12_isAt, wl_X12_isAt, (RX12, TX12, 47), rfl, rfl⟩
theorem cv_X12_185 : a_CV RX12 185 12 yX12_isTo cX12_isTo 1 (some .boolean) 0 := ⟨⟨wm_X12_185, wc_X12_isTo, wn_X12, by decide, by decide +kernel⟩, wi_X12_isTo, wl_X12_isTo, (RX12, TX12, 47), rfl, rfl⟩
theorem cv_X12_188 : a_CV RX12 188 12 yX12_isLate cX12_isLate 1 (some .boolean) 0 := ⟨⟨wm_X12_188, wc_X12_isLate, wn_X12, by decide, by decide +kernel⟩, wi_X12_isLate, wl_X12_isLate, (RX12, TX12, 47), rfl, rfl⟩
theorem cv_X12_191 : a_CV RX12 191 12 yX12_isTwice cX12_isTwice 1 (some .boolean) 0 := ⟨⟨wm_X12_191, wc_X12_isTwice, wn_X12, by decide, by decide +kernel⟩, wi_X12_isTwice, wl_X12_isTwice, (RX12, TX12, 47), rfl, rfl⟩
theorem cv_X12_194 : a_CV RX12 194 12 yX12_isHas cX12_isHas 1 (some .boolean) 0 := ⟨⟨wm_X12_194, wc_X12_isHas, wn_X12, by decide, by decide +kernel⟩, wi_X12_isHas, wl_X12_isHas, (RX12, TX12, 47), rfl, rfl⟩
theorem cv_X12_197 : a_CV RX12 197 12 yX12_isQuietWord cX12_isQuietWord 1 (some .boolean) 0 := ⟨⟨wm_X12_197, wc_X12_isQuietWord, wn_X12, by decide, by decide +kernel⟩, wi_X12_isQuietWord, wl_X12_isQuietWord, (RX12, TX12, 47), rfl, rfl⟩
theorem cv_X12_200 : a_CV RX12 200 12 yX12_isDayWord cX12_isDayWord 1 (some .boolean) 0 := ⟨⟨wm_X12_200, wc_X12_isDayWord, wn_X12, by decide, by decide +kernel⟩, wi_X12_isDayWord, wl_X12_isDayWord, (RX12, TX12, 47), rfl, rfl⟩
theorem cv_X12_203 : a_CV RX12 203 12 yX12_isEnd cX12_isEnd 1 (some .boolean) 0 := ⟨⟨wm_X12_203, wc_X12_isEnd, wn_X12, by decide, by decide +kernel⟩, wi_X12_isEnd, wl_X12_isEnd, (RX12, TX12, 47), rfl, rfl⟩
theorem cv_X12_206 : a_CV RX12 206 12 yX12_isKept cX12_isKept 1 (some .boolean) 0 := ⟨⟨wm_X12_206, wc_X12_isKept, wn_X12, by decide, by decide +kernel⟩, wi_X12_isKept, wl_X12_isKept, (RX12, TX12, 47), rfl, rfl⟩
theorem cv_X12_215 : a_CV RX12 215 12 yX12_fail cX12_fail 3 none 2 := ⟨⟨wm_X12_215, wc_X12_fail, wn_X12, by decide, by decide +kernel⟩, wi_X12_fail, wl_X12_fail, (RX12, TX12, 47), rfl, rfl⟩
theorem cv_X12_219 : a_CV RX12 219 12 yX12_next cX12_next 2 none 0 := ⟨⟨wm_X12_219, wc_X12_next, wn_X12, by decide, by decide +kernel⟩, wi_X12_next, wl_X12_next, (RX12, TX12, 47), rfl, rfl⟩
theorem cv_X12_222 : a_CV RX12 222 12 yX12_wrong cX12_wrong 1 none 0 := ⟨⟨wm_X12_222, wc_X12_wrong, wn_X12, by decide, by decide +kernel⟩, wi_X12_wrong, wl_X12_wrong, (RX12, TX12, 47), rfl, rfl⟩
theorem cv_X12_228 : a_CV RX12 228 12 yX12_lay cX12_lay 3 none 1 := ⟨⟨wm_X12_228, wc_X12_lay, wn_X12, by decide, by decide +kernel⟩, wi_X12_lay, wl_X12_lay, (RX12, TX12, 47), rfl, rfl⟩
theorem cv_X12_232 : a_CV RX12 232 12 yX12_isName cX12_isName 1 (some .boolean) 0 := ⟨⟨wm_X12_232, wc_X12_isName, wn_X12, by decide, by decide +kernel⟩, wi_X12_isName, wl_X12_isName, (RX12, TX12, 47), rfl, rfl⟩
theorem cv_X12_235 : a_CV RX12 235 12 yX12_named cX12_named 5 (some .int) 3 := ⟨⟨wm_X12_235, wc_X12_named, wn_X12, by decide, by decide +kernel⟩, wi_X12_named, wl_X12_named, (RX12, TX12, 47), rfl, rfl⟩
theorem cv_X12_239 : a_CV RX12 239 12 yX12_kind cX12_kind 3 (some .int) 2 := ⟨⟨wm_X12_239, wc_X12_kind, wn_X12, by decide, by decide +kernel⟩, wi_X12_kind, wl_X12_kind, (RX12, TX12, 47), rfl, rfl⟩
theorem cs_X12_242 : a_CS RX12 242 yX12_fight cX12_fight 2 (some .boolean) 2 := ⟨⟨wm_X12_242, wc_X12_fight, wn_X12, by decide, by decide +kernel⟩, wt_X12_fight⟩
theorem cv_X12_246 : a_CV RX12 246 12 yX12_thingOf cX12_thingOf 4 (some .int) 2 := ⟨⟨wm_X12_246, wc_X12_thingOf, wn_X12, by decide, by decide +kernel⟩, wi_X12_thingOf, wl_X12_thingOf, (RX12, TX12, 47), rfl, rfl⟩
theorem cv_X12_249 : a_CV RX12 249 12 yX12_hangsOn cX12_hangsOn 3 (some .int) 2 := ⟨⟨wm_X12_249, wc_X12_hangsOn, wn_X12, by decide, by decide +kernel⟩, wi_X12_hangsOn, wl_X12_hangsOn, (RX12, TX12, 47), rfl, rfl⟩
theorem cv_X12_252 : a_CV RX12 252 12 yX12_must cX12_must 2 none 1 := ⟨⟨wm_X12_252, wc_X12_must, wn_X12, by decide, by decide +kernel⟩, wi_X12_must, wl_X12_must, (RX12, TX12, 47), rfl, rfl⟩
theorem cv_X12_256 : a_CV RX12 256 12 yX12_readTold cX12_readTold 2 (some .int) 0 := ⟨⟨wm_X12_256, wc_X12_readTold, wn_X12, by decide, by decide +kernel⟩, wi_X12_readTold, wl_X12_readTold, (RX12, TX12, 47), rfl, rfl⟩
theorem cv_X12_259 : a_CV RX12 259 12 yX12_readQuarreler cX12_readQuarreler 2 (some .int) 0 := ⟨⟨wm_X12_259, wc_X12_readQuarreler, wn_X12, by decide, by decide +kernel⟩, wi_X12_readQuarreler, wl_X12_readQuarreler, (RX12, TX12, 47), rfl, rfl⟩
theorem cv_X12_262 : a_CV RX12 262 12 yX12_wouldQuarrel cX12_wouldQuarrel 4 (some .boolean) 3 := ⟨⟨wm_X12_262, wc_X12_wouldQuarrel, wn_X12, by decide, by decide +kernel⟩, wi_X12_wouldQuarrel, wl_X12_wouldQuarrel, (RX12, TX12, 47), rfl, rfl⟩
theorem cv_X12_266 : a_CV RX12 266 12 yX12_readSettle cX12_readSettle 4 (some .int) 1 := ⟨⟨wm_X12_266, wc_X12_readSettle, wn_X12, by decide, by decide +kernel⟩, wi_X12_readSettle, wl_X12_readSettle, (RX12, TX12, 47), rfl, rfl⟩
theorem cv_X12_269 : a_CV RX12 269 12 yX12_readOf cX12_readOf 2 (some .int) 0 := ⟨⟨wm_X12_269, wc_X12_readOf, wn_X12, by decide, by decide +kernel⟩, wi_X12_readOf, wl_X12_readOf, (RX12, TX12, 47), rfl, rfl⟩
theorem cv_X12_272 : a_CV RX12 272 12 yX12_count cX12_count 4 (some .int) 2 := ⟨⟨wm_X12_272, wc_X12_count, wn_X12, by decide, by decide +kernel⟩, wi_X12_count, wl_X12_count, (RX12, TX12, 47), rfl, rfl⟩
theorem cv_X12_275 : a_CV RX12 275 12 yX12_readNew cX12_readNew 3 none 2 := ⟨⟨wm_X12_275, wc_X12_readNew, wn_X12, by decide, by decide +kernel⟩, wi_X12_readNew, wl_X12_readNew, (RX12, TX12, 47), rfl, rfl⟩
theorem cv_X12_278 : a_CV RX12 278 12 yX12_readWhat cX12_readWhat 4 (some .int) 2 := ⟨⟨wm_X12_278, wc_X12_readWhat, wn_X12, by decide, by decide +kernel⟩, wi_X12_readWhat, wl_X12_readWhat, (RX12, TX12, 47), rfl, rfl⟩
theorem cv_X12_281 : a_CV RX12 281 12 yX12_readAfter cX12_readAfter 4 (some .int) 0 := ⟨⟨wm_X12_281, wc_X12_readAfter, wn_X12, by decide, by decide +kernel⟩, wi_X12_readAfter, wl_X12_readAfter, (RX12, TX12, 47), rfl, rfl⟩
theorem cv_X12_284 : a_CV RX12 284 12 yX12_opens cX12_opens 3 (some .boolean) 2 := ⟨⟨wm_X12_284, wc_X12_opens, wn_X12, by decide, by decide +kernel⟩, wi_X12_opens, wl_X12_opens, (RX12, TX12, 47), rfl, rfl⟩
theorem cv_X12_287 : a_CV RX12 287 12 yX12_readIsland cX12_readIsland 2 none 0 := ⟨⟨wm_X12_287, wc_X12_readIsland, wn_X12, by decide, by decide +kernel⟩, wi_X12_readIsland, wl_X12_readIsland, (RX12, TX12, 47), rfl, rfl⟩
theorem cv_X12_290 : a_CV RX12 290 12 yX12_readChange cX12_readChange 6 none 0 := ⟨⟨wm_X12_290, wc_X12_readChange, wn_X12, by decide, by decide +kernel⟩, wi_X12_readChange, wl_X12_readChange, (RX12, TX12, 47), rfl, rfl⟩
theorem cv_X12_293 : a_CV RX12 293 12 yX12_isClose cX12_isClose 1 (some .boolean) 0 := ⟨⟨wm_X12_293, wc_X12_isClose, wn_X12, by decide, by decide +kernel⟩, wi_X12_isClose, wl_X12_isClose, (RX12, TX12, 47), rfl, rfl⟩
theorem cv_X12_296 : a_CV RX12 296 12 yX12_isWell cX12_isWell 1 (some .boolean) 0 := ⟨⟨wm_X12_296, wc_X12_isWell, wn_X12, by decide, by decide +kernel⟩, wi_X12_isWell, wl_X12_isWell, (RX12, TX12, 47), rfl, rfl⟩
theorem cv_X12_299 : a_CV RX12 299 12 yX12_refuse cX12_refuse 2 (some .int) 1 := ⟨⟨wm_X12_299, wc_X12_refuse, wn_X12, by decide, by decide +kernel⟩, wi_X12_refuse, wl_X12_refuse, (RX12, TX12, 47), rfl, rfl⟩
theorem cs_X12_302 : a_CS RX12 302 yX12_hasIn cX12_hasIn 2 (some .boolean) 2 := ⟨⟨wm_X12_302, wc_X12_hasIn, wn_X12, by decide, by decide +kernel⟩, wt_X12_hasIn⟩
theorem cv_X12_305 : a_CV RX12 305 12 yX12_levelOf cX12_levelOf 4 (some .int) 1 := ⟨⟨wm_X12_305, wc_X12_levelOf, wn_X12, by decide, by decide +kernel⟩, wi_X12_levelOf, wl_X12_levelOf, (RX12, TX12, 47), rfl, rfl⟩
theorem cs_X12_308 : a_CS RX12 308 yJ9_max_7cf53 cJ9_max_7cf53 2 (some .int) 2 := ⟨⟨wm_X12_308, wc_J9_max_7cf53, wn_J9, by decide, by decide +kernel⟩, wt_J9_max_7cf53⟩
theorem cv_X12_311 : a_CV RX12 311 12 yX12_isChange cX12_isChange 2 (some .boolean) 1 := ⟨⟨wm_X12_311, wc_X12_isChange, wn_X12, by decide, by decide +kernel⟩, wi_X12_isChange, wl_X12_isChange, (RX12, TX12, 47), rfl, rfl⟩
theorem cv_X12_316 : a_CV RX12 316 12 yX12_hangers cX12_hangers 4 (some .int) 1 := ⟨⟨wm_X12_316, wc_X12_hangers, wn_X12, by decide, by decide +kernel⟩, wi_X12_hangers, wl_X12_hangers, (RX12, TX12, 47), rfl, rfl⟩
theorem cv_X12_319 : a_CV RX12 319 12 yX12_isSet cX12_isSet 2 (some .boolean) 1 := ⟨⟨wm_X12_319, wc_X12_isSet, wn_X12, by decide, by decide +kernel⟩, wi_X12_isSet, wl_X12_isSet, (RX12, TX12, 47), rfl, rfl⟩
theorem cv_X12_322 : a_CV RX12 322 12 yX12_lackOf cX12_lackOf 4 (some .int) 1 := ⟨⟨wm_X12_322, wc_X12_lackOf, wn_X12, by decide, by decide +kernel⟩, wi_X12_lackOf, wl_X12_lackOf, (RX12, TX12, 47), rfl, rfl⟩
theorem cs_X12_325 : a_CS RX12 325 yX12_bits cX12_bits 3 (some .int) 1 := ⟨⟨wm_X12_325, wc_X12_bits, wn_X12, by decide, by decide +kernel⟩, wt_X12_bits⟩
theorem cv_X12_328 : a_CV RX12 328 12 yX12_isSettled cX12_isSettled 5 (some .boolean) 3 := ⟨⟨wm_X12_328, wc_X12_isSettled, wn_X12, by decide, by decide +kernel⟩, wi_X12_isSettled, wl_X12_isSettled, (RX12, TX12, 47), rfl, rfl⟩
theorem cv_X12_331 : a_CV RX12 331 12 yX12_quarrel cX12_quarrel 4 (some .boolean) 3 := ⟨⟨wm_X12_331, wc_X12_quarrel, wn_X12, by decide, by decide +kernel⟩, wi_X12_quarrel, wl_X12_quarrel, (RX12, TX12, 47), rfl, rfl⟩
theorem cv_X12_334 : a_CV RX12 334 12 yX12_quarrelers cX12_quarrelers 5 (some .int) 2 := ⟨⟨wm_X12_334, wc_X12_quarrelers, wn_X12, by decide, by decide +kernel⟩, wi_X12_quarrelers, wl_X12_quarrelers, (RX12, TX12, 47), rfl, rfl⟩
theorem cv_X12_337 : a_CV RX12 337 12 yX12_isLeftOut cX12_isLeftOut 4 (some .boolean) 2 := ⟨⟨wm_X12_337, wc_X12_isLeftOut, wn_X12, by decide, by decide +kernel⟩, wi_X12_isLeftOut, wl_X12_isLeftOut, (RX12, TX12, 47), rfl, rfl⟩
theorem cv_X12_340 : a_CV RX12 340 12 yX12_allHang cX12_allHang 4 (some .boolean) 2 := ⟨⟨wm_X12_340, wc_X12_allHang, wn_X12, by decide, by decide +kernel⟩, wi_X12_allHang, wl_X12_allHang, (RX12, TX12, 47), rfl, rfl⟩
theorem cv_X12_343 : a_CV RX12 343 12 yX12_isThere cX12_isThere 4 (some .boolean) 2 := ⟨⟨wm_X12_343, wc_X12_isThere, wn_X12, by decide, by decide +kernel⟩, wi_X12_isThere, wl_X12_isThere, (RX12, TX12, 47), rfl, rfl⟩
theorem cv_X12_346 : a_CV RX12 346 12 yX12_toldBy cX12_toldBy 10 (some .int) 3 := ⟨⟨wm_X12_346, wc_X12_toldBy, wn_X12, by decide, by decide +kernel⟩, wi_X12_toldBy, wl_X12_toldBy, (RX12, TX12, 47), rfl, rfl⟩
theorem cv_X12_349 : a_CV RX12 349 12 yX12_whyNot cX12_whyNot 2 (some .int) 1 := ⟨⟨wm_X12_349, wc_X12_whyNot, wn_X12, by decide, by decide +kernel⟩, wi_X12_whyNot, wl_X12_whyNot, (RX12, TX12, 47), rfl, rfl⟩
theorem cv_X12_352 : a_CV RX12 352 12 yX12_listOf cX12_listOf 7 (some .int) 2 := ⟨⟨wm_X12_352, wc_X12_listOf, wn_X12, by decide, by decide +kernel⟩, wi_X12_listOf, wl_X12_listOf, (RX12, TX12, 47), rfl, rfl⟩
theorem cv_X12_359 : a_CV RX12 359 12 yX12_whyNoThing cX12_whyNoThing 3 (some .int) 2 := ⟨⟨wm_X12_359, wc_X12_whyNoThing, wn_X12, by decide, by decide +kernel⟩, wi_X12_whyNoThing, wl_X12_whyNoThing, (RX12, TX12, 47), rfl, rfl⟩
theorem cv_X12_362 : a_CV RX12 362 12 yX12_placeIn cX12_placeIn 4 (some .int) 2 := ⟨⟨wm_X12_362, wc_X12_placeIn, wn_X12, by decide, by decide +kernel⟩, wi_X12_placeIn, wl_X12_placeIn, (RX12, TX12, 47), rfl, rfl⟩
theorem cv_X12_365 : a_CV RX12 365 12 yX12_whyNotTwo cX12_whyNotTwo 3 (some .int) 2 := ⟨⟨wm_X12_365, wc_X12_whyNotTwo, wn_X12, by decide, by decide +kernel⟩, wi_X12_whyNotTwo, wl_X12_whyNotTwo, (RX12, TX12, 47), rfl, rfl⟩
theorem cv_X12_371 : a_CV RX12 371 12 yX12_quarrelsIn cX12_quarrelsIn 4 (some .int) 1 := ⟨⟨wm_X12_371, wc_X12_quarrelsIn, wn_X12, by decide, by decide +kernel⟩, wi_X12_quarrelsIn, wl_X12_quarrelsIn, (RX12, TX12, 47), rfl, rfl⟩
theorem cv_X12_374 : a_CV RX12 374 12 yX12_isQuiet cX12_isQuiet 2 (some .boolean) 1 := ⟨⟨wm_X12_374, wc_X12_isQuiet, wn_X12, by decide, by decide +kernel⟩, wi_X12_isQuiet, wl_X12_isQuiet, (RX12, TX12, 47), rfl, rfl⟩
theorem cv_X12_377 : a_CV RX12 377 12 yX12_need cX12_need 5 none 3 := ⟨⟨wm_X12_377, wc_X12_need, wn_X12, by decide, by decide +kernel⟩, wi_X12_need, wl_X12_need, (RX12, TX12, 47), rfl, rfl⟩
theorem cv_X12_381 : a_CV RX12 381 12 yX12_countWays cX12_countWays 4 none 1 := ⟨⟨wm_X12_381, wc_X12_countWays, wn_X12, by decide, by decide +kernel⟩, wi_X12_countWays, wl_X12_countWays, (RX12, TX12, 47), rfl, rfl⟩
theorem cv_X12_384 : a_CV RX12 384 12 yX12_fraction cX12_fraction 11 (some .boolean) 2 := ⟨⟨wm_X12_384, wc_X12_fraction, wn_X12, by decide, by decide +kernel⟩, wi_X12_fraction, wl_X12_fraction, (RX12, TX12, 47), rfl, rfl⟩
theorem cv_X12_388 : a_CV RX12 388 12 yX12_isTray cX12_isTray 2 (some .boolean) 1 := ⟨⟨wm_X12_388, wc_X12_isTray, wn_X12, by decide, by decide +kernel⟩, wi_X12_isTray, wl_X12_isTray, (RX12, TX12, 47), rfl, rfl⟩
theorem cv_X12_393 : a_CV RX12 393 12 yX12_numberOf cX12_numberOf 3 (some .long) 2 := ⟨⟨wm_X12_393, wc_X12_numberOf, wn_X12, by decide, by decide +kernel⟩, wi_X12_numberOf, wl_X12_numberOf, (RX12, TX12, 47), rfl, rfl⟩
theorem cv_X12_397 : a_CV RX12 397 12 yX12_orderSet cX12_orderSet 3 (some .int) 0 := ⟨⟨wm_X12_397, wc_X12_orderSet, wn_X12, by decide, by decide +kernel⟩, wi_X12_orderSet, wl_X12_orderSet, (RX12, TX12, 47), rfl, rfl⟩
theorem cv_X12_400 : a_CV RX12 400 12 yX12_swapped cX12_swapped 4 (some .boolean) 1 := ⟨⟨wm_X12_400, wc_X12_swapped, wn_X12, by decide, by decide +kernel⟩, wi_X12_swapped, wl_X12_swapped, (RX12, TX12, 47), rfl, rfl⟩
theorem cv_X12_403 : a_CV RX12 403 12 yX12_isIsland cX12_isIsland 2 (some .boolean) 1 := ⟨⟨wm_X12_403, wc_X12_isIsland, wn_X12, by decide, by decide +kernel⟩, wi_X12_isIsland, wl_X12_isIsland, (RX12, TX12, 47), rfl, rfl⟩
theorem cv_X12_406 : a_CV RX12 406 12 yX12_readLogName cX12_readLogName 3 (some .int) 1 := ⟨⟨wm_X12_406, wc_X12_readLogName, wn_X12, by decide, by decide +kernel⟩, wi_X12_readLogName, wl_X12_readLogName, (RX12, TX12, 47), rfl, rfl⟩
theorem cv_X12_410 : a_CV RX12 410 12 yX12_readShip cX12_readShip 2 none 1 := ⟨⟨wm_X12_410, wc_X12_readShip, wn_X12, by decide, by decide +kernel⟩, wi_X12_readShip, wl_X12_readShip, (RX12, TX12, 47), rfl, rfl⟩
theorem cv_X12_413 : a_CV RX12 413 12 yX12_readTest cX12_readTest 3 none 1 := ⟨⟨wm_X12_413, wc_X12_readTest, wn_X12, by decide, by decide +kernel⟩, wi_X12_readTest, wl_X12_readTest, (RX12, TX12, 47), rfl, rfl⟩
theorem cv_X12_419 : a_CV RX12 419 12 yX12_readRest cX12_readRest 3 none 1 := ⟨⟨wm_X12_419, wc_X12_readRest, wn_X12, by decide, by decide +kernel⟩, wi_X12_readRest, wl_X12_readRest, (RX12, TX12, 47), rfl, rfl⟩
theorem cv_X12_422 : a_CV RX12 422 12 yX12_readStep cX12_readStep 5 none 1 := ⟨⟨wm_X12_422, wc_X12_readStep, wn_X12, by decide, by decide +kernel⟩, wi_X12_readStep, wl_X12_readStep, (RX12, TX12, 47), rfl, rfl⟩
theorem cv_X12_440 : a_CV RX12 440 12 yX12_comes cX12_comes 3 none 2 := ⟨⟨wm_X12_440, wc_X12_comes, wn_X12, by decide, by decide +kernel⟩, wi_X12_comes, wl_X12_comes, (RX12, TX12, 47), rfl, rfl⟩
theorem cv_X12_446 : a_CV RX12 446 12 yX12_load cX12_load 4 none 3 := ⟨⟨wm_X12_446, wc_X12_load, wn_X12, by decide, by decide +kernel⟩, wi_X12_load, wl_X12_load, (RX12, TX12, 47), rfl, rfl⟩
theorem cv_X12_449 : a_CV RX12 449 12 yX12_draw cX12_draw 1 (some .int) 0 := ⟨⟨wm_X12_449, wc_X12_draw, wn_X12, by decide, by decide +kernel⟩, wi_X12_draw, wl_X12_draw, (RX12, TX12, 47), rfl, rfl⟩
theorem cv_X12_455 : a_CV RX12 455 12 yX12_takeAway cX12_takeAway 3 none 1 := ⟨⟨wm_X12_455, wc_X12_takeAway, wn_X12, by decide, by decide +kernel⟩, wi_X12_takeAway, wl_X12_takeAway, (RX12, TX12, 47), rfl, rfl⟩
theorem cv_X12_465 : a_CV RX12 465 12 yX12_doAt cX12_doAt 6 none 3 := ⟨⟨wm_X12_465, wc_X12_doAt, wn_X12, by decide, by decide +kernel⟩, wi_X12_doAt, wl_X12_doAt, (RX12, TX12, 47), rfl, rfl⟩
theorem cv_X12_468 : a_CV RX12 468 12 yX12_doShip cX12_doShip 7 none 1 := ⟨⟨wm_X12_468, wc_X12_doShip, wn_X12, by decide, by decide +kernel⟩, wi_X12_doShip, wl_X12_doShip, (RX12, TX12, 47), rfl, rfl⟩
theorem cv_X12_471 : a_CV RX12 471 12 yX12_doWait cX12_doWait 4 none 1 := ⟨⟨wm_X12_471, wc_X12_doWait, wn_X12, by decide, by decide +kernel⟩, wi_X12_doWait, wl_X12_doWait, (RX12, TX12, 47), rfl, rfl⟩
theorem cv_X12_474 : a_CV RX12 474 12 yX12_doDraw cX12_doDraw 3 none 1 := ⟨⟨wm_X12_474, wc_X12_doDraw, wn_X12, by decide, by decide +kernel⟩, wi_X12_doDraw, wl_X12_doDraw, (RX12, TX12, 47), rfl, rfl⟩
theorem cv_X12_477 : a_CV RX12 477 12 yX12_isSo cX12_isSo 3 (some .boolean) 1 := ⟨⟨wm_X12_477, wc_X12_isSo, wn_X12, by decide, by decide +kernel⟩, wi_X12_isSo, wl_X12_isSo, (RX12, TX12, 47), rfl, rfl⟩
theorem cv_X12_480 : a_CV RX12 480 12 yX12_doAll cX12_doAll 4 none 2 := ⟨⟨wm_X12_480, wc_X12_doAll, wn_X12, by decide, by decide +kernel⟩, wi_X12_doAll, wl_X12_doAll, (RX12, TX12, 47), rfl, rfl⟩
theorem cv_X12_483 : a_CV RX12 483 12 yX12_doOne cX12_doOne 5 none 1 := ⟨⟨wm_X12_483, wc_X12_doOne, wn_X12, by decide, by decide +kernel⟩, wi_X12_doOne, wl_X12_doOne, (RX12, TX12, 47), rfl, rfl⟩
theorem cv_X12_488 : a_CV RX12 488 12 yX12_run cX12_run 2 none 1 := ⟨⟨wm_X12_488, wc_X12_run, wn_X12, by decide, by decide +kernel⟩, wi_X12_run, wl_X12_run, (RX12, TX12, 47), rfl, rfl⟩
theorem cv_X12_507 : a_CV RX12 507 12 yX12_copy cX12_copy 4 none 2 := ⟨⟨wm_X12_507, wc_X12_copy, wn_X12, by decide, by decide +kernel⟩, wi_X12_copy, wl_X12_copy, (RX12, TX12, 47), rfl, rfl⟩
theorem cs_X12_84 : a_CS RX12 84 yJ9_abs_067f4 cJ9_abs_067f4 2 (some .long) 1 := ⟨⟨wm_X12_84, wc_J9_abs_067f4, wn_J9, by decide, by decide +kernel⟩, wt_J9_abs_067f4⟩
theorem cv_X12_90 : a_CV RX12 90 12 yX12_no cX12_no 2 (some .boolean) 1 := ⟨⟨wm_X12_90, wc_X12_no, wn_X12, by decide, by decide +kernel⟩, wi_X12_no, wl_X12_no, (RX12, TX12, 47), rfl, rfl⟩
theorem cv_X12_94 : a_CV RX12 94 12 yX12_trayed cX12_trayed 2 (some .int) 1 := ⟨⟨wm_X12_94, wc_X12_trayed, wn_X12, by decide, by decide +kernel⟩, wi_X12_trayed, wl_X12_trayed, (RX12, TX12, 47), rfl, rfl⟩
theorem cv_X12_98 : a_CV RX12 98 12 yX12_placed cX12_placed 4 (some .int) 2 := ⟨⟨wm_X12_98, wc_X12_placed, wn_X12, by decide, by decide +kernel⟩, wi_X12_placed, wl_X12_placed, (RX12, TX12, 47), rfl, rfl⟩
theorem cv_X1_102 : a_CV RX1 102 1 yX1_readAfter cX1_readAfter 5 (some .boolean) 1 := ⟨⟨wm_X1_102, wc_X1_readAfter, wn_X1, by decide, by decide +kernel⟩, wi_X1_readAfter, wl_X1_readAfter, (RX1, TX1, 2), rfl, rfl⟩
theorem cv_X1_105 : a_CV RX1 105 0 yX0_addChange cX0_addChange 3 none 0 := ⟨⟨wm_X1_105, wc_X0_addChange, wn_X0, by decide, by decide +kernel⟩, wi_X0_addChange, wl_X0_addChange, (RX0, TX0, 16), rfl, rfl⟩
theorem cv_X1_111 : a_CV RX1 111 1 yX1_readNumber cX1_readNumber 3 (some .boolean) 2 := ⟨⟨wm_X1_111, wc_X1_readNumber, wn_X1, by decide, by decide +kernel⟩, wi_X1_readNumber, wl_X1_readNumber, (RX1, TX1, 2), rfl, rfl⟩
theorem cv_X1_114 : a_CV RX1 114 1 yX1_readSaying cX1_readSaying 2 (some .boolean) 1 := ⟨⟨wm_X1_114, wc_X1_readSaying, wn_X1, by decide, by decide +kernel⟩, wi_X1_readSaying, wl_X1_readSaying, (RX1, TX1, 2), rfl, rfl⟩
theorem cv_X1_117 : a_CV RX1 117 1 yX1_readOf cX1_readOf 3 (some .boolean) 1 := ⟨⟨wm_X1_117, wc_X1_readOf, wn_X1, by decide, by decide +kernel⟩, wi_X1_readOf, wl_X1_readOf, (RX1, TX1, 2), rfl, rfl⟩
theorem cv_X1_120 : a_CV RX1 120 1 yX1_readSettled cX1_readSettled 4 (some .boolean) 1 := ⟨⟨wm_X1_120, wc_X1_readSettled, wn_X1, by decide, by decide +kernel⟩, wi_X1_readSettled, wl_X1_readSettled, (RX1, TX1, 2), rfl, rfl⟩
theorem cv_X1_123 : a_CV RX1 123 8 yX8_passNumber cX8_passNumber 4 (some .int) 2 := ⟨⟨wm_X1_123, wc_X8_passNumber, wn_X8, by decide, by decide +kernel⟩, wi_X8_passNumber, wl_X8_passNumber, (RX8, TX8, 11), rfl, rfl⟩
theorem cv_X1_130 : a_CV RX1 130 8 yX8_changeHere cX8_changeHere 3 (some .int) 1 := ⟨⟨wm_X1_130, wc_X8_changeHere, wn_X8, by decide, by decide +kernel⟩, wi_X8_changeHere, wl_X8_changeHere, (RX8, TX8, 11), rfl, rfl⟩
theorem cs_X1_140 : a_CS RX1 140 yX0_isIn cX0_isIn 2 (some .boolean) 2 := ⟨⟨wm_X1_140, wc_X0_isIn, wn_X0, by decide, by decide +kernel⟩, wt_X0_isIn⟩
theorem cv_X1_22 : a_CV RX1 22 8 yX8_begin cX8_begin 3 none 1 := ⟨⟨wm_X1_22, wc_X8_begin, wn_X8, by decide, by decide +kernel⟩, wi_X8_begin, wl_X8_begin, (RX8, TX8, 11), rfl, rfl⟩
theorem cv_X1_28 : a_CV RX1 28 8 yX8_isEnd cX8_isEnd 1 (some .boolean) 0 := ⟨⟨wm_X1_28, wc_X8_isEnd, wn_X8, by decide, by decide +kernel⟩, wi_X8_isEnd, wl_X8_isEnd, (RX8, TX8, 11), rfl, rfl⟩
theorem cv_X1_32 : a_CV RX1 32 8 yX8_kindHere cX8_kindHere 1 (some .int) 0 := ⟨⟨wm_X1_32, wc_X8_kindHere, wn_X8, by decide, by decide +kernel⟩, wi_X8_kindHere, wl_X8_kindHere, (RX8, TX8, 11), rfl, rfl⟩
theorem cv_X1_36 : a_CV RX1 36 1 yX1_readIsland cX1_readIsland 1 (some .boolean) 0 := ⟨⟨wm_X1_36, wc_X1_readIsland, wn_X1, by decide, by decide +kernel⟩, wi_X1_readIsland, wl_X1_readIsland, (RX1, TX1, 2), rfl, rfl⟩
theorem cv_X1_39 : a_CV RX1 39 1 yX1_readChange cX1_readChange 3 (some .boolean) 0 := ⟨⟨wm_X1_39, wc_X1_readChange, wn_X1, by decide, by decide +kernel⟩, wi_X1_readChange, wl_X1_readChange, (RX1, TX1, 2), rfl, rfl⟩
theorem cv_X1_46 : a_CV RX1 46 8 yX8_blame cX8_blame 2 (some .boolean) 1 := ⟨⟨wm_X1_46, wc_X8_blame, wn_X8, by decide, by decide +kernel⟩, wi_X8_blame, wl_X8_blame, (RX8, TX8, 11), rfl, rfl⟩
theorem cv_X1_50 : a_CV RX1 50 8 yX8_advance cX8_advance 1 none 0 := ⟨⟨wm_X1_50, wc_X8_advance, wn_X8, by decide, by decide +kernel⟩, wi_X8_advance, wl_X8_advance, (RX8, TX8, 11), rfl, rfl⟩
theorem cv_X1_53 : a_CV RX1 53 1 yX1_isNewName cX1_isNewName 4 (some .boolean) 0 := ⟨⟨wm_X1_53, wc_X1_isNewName, wn_X1, by decide, by decide +kernel⟩, wi_X1_isNewName, wl_X1_isNewName, (RX1, TX1, 2), rfl, rfl⟩
theorem cv_X1_56 : a_CV RX1 56 8 yX8_nameHere cX8_nameHere 1 (some .long) 0 := ⟨⟨wm_X1_56, wc_X8_nameHere, wn_X8, by decide, by decide +kernel⟩, wi_X8_nameHere, wl_X8_nameHere, (RX8, TX8, 11), rfl, rfl⟩
theorem cv_X1_60 : a_CV RX1 60 0 yX0_addIsland cX0_addIsland 3 none 1 := ⟨⟨wm_X1_60, wc_X0_addIsland, wn_X0, by decide, by decide +kernel⟩, wi_X0_addIsland, wl_X0_addIsland, (RX0, TX0, 16), rfl, rfl⟩
theorem cv_X1_64 : a_CV RX1 64 8 yX8_pass cX8_pass 2 (some .boolean) 1 := ⟨⟨wm_X1_64, wc_X8_pass, wn_X8, by decide, by decide +kernel⟩, wi_X8_pass, wl_X8_pass, (RX8, TX8, 11), rfl, rfl⟩
theorem cv_X1_67 : a_CV RX1 67 8 yX8_isName cX8_isName 1 (some .boolean) 0 := ⟨⟨wm_X1_67, wc_X8_isName, wn_X8, by decide, by decide +kernel⟩, wi_X8_isName, wl_X8_isName, (RX8, TX8, 11), rfl, rfl⟩
theorem cv_X1_70 : a_CV RX1 70 8 yX8_blameToken cX8_blameToken 1 (some .boolean) 0 := ⟨⟨wm_X1_70, wc_X8_blameToken, wn_X8, by decide, by decide +kernel⟩, wi_X8_blameToken, wl_X8_blameToken, (RX8, TX8, 11), rfl, rfl⟩
theorem cv_X1_73 : a_CV RX1 73 0 yX0_findIsland cX0_findIsland 4 (some .int) 1 := ⟨⟨wm_X1_73, wc_X0_findIsland, wn_X0, by decide, by decide +kernel⟩, wi_X0_findIsland, wl_X0_findIsland, (RX0, TX0, 16), rfl, rfl⟩
theorem cv_X1_77 : a_CV RX1 77 0 yX0_findChange cX0_findChange 4 (some .int) 1 := ⟨⟨wm_X1_77, wc_X0_findChange, wn_X0, by decide, by decide +kernel⟩, wi_X0_findChange, wl_X0_findChange, (RX0, TX0, 16), rfl, rfl⟩
theorem cs_X1_80 : a_CS RX1 80 yX1_kindOf cX1_kindOf 1 (some .int) 1 := ⟨⟨wm_X1_80, wc_X1_kindOf, wn_X1, by decide, by decide +kernel⟩, wt_X1_kindOf⟩
theorem cv_X1_98 : a_CV RX1 98 1 yX1_readBody cX1_readBody 3 (some .boolean) 2 := ⟨⟨wm_X1_98, wc_X1_readBody, wn_X1, by decide, by decide +kernel⟩, wi_X1_readBody, wl_X1_readBody, (RX1, TX1, 2), rfl, rfl⟩
theorem cv_X2_25 : a_CV RX2 25 0 yX0_leftOutIn cX0_leftOutIn 4 (some .int) 1 := ⟨⟨wm_X2_25, wc_X0_leftOutIn, wn_X0, by decide, by decide +kernel⟩, wi_X0_leftOutIn, wl_X0_leftOutIn, (RX0, TX0, 16), rfl, rfl⟩
theorem cv_X2_34 : a_CV RX2 34 0 yX0_isPut cX0_isPut 2 (some .boolean) 1 := ⟨⟨wm_X2_34, wc_X0_isPut, wn_X0, by decide, by decide +kernel⟩, wi_X0_isPut, wl_X0_isPut, (RX0, TX0, 16), rfl, rfl⟩
theorem cs_X2_38 : a_CS RX2 38 yX0_isIn cX0_isIn 2 (some .boolean) 2 := ⟨⟨wm_X2_38, wc_X0_isIn, wn_X0, by decide, by decide +kernel⟩, wt_X0_isIn⟩
theorem cv_X2_42 : a_CV RX2 42 0 yX0_isGone cX0_isGone 6 (some .boolean) 3 := ⟨⟨wm_X2_42, wc_X0_isGone, wn_X0, by decide, by decide +kernel⟩, wi_X0_isGone, wl_X0_isGone, (RX0, TX0, 16), rfl, rfl⟩
theorem cv_X2_46 : a_CV RX2 46 0 yX0_toldNumber cX0_toldNumber 10 (some .int) 4 := ⟨⟨wm_X2_46, wc_X0_toldNumber, wn_X0, by decide, by decide +kernel⟩, wi_X0_toldNumber, wl_X0_toldNumber, (RX0, TX0, 16), rfl, rfl⟩
theorem cv_X2_50 : a_CV RX2 50 2 yX2_insert cX2_insert 5 none 3 := ⟨⟨wm_X2_50, wc_X2_insert, wn_X2, by decide, by decide +kernel⟩, wi_X2_insert, wl_X2_insert, (RX2, TX2, 4), rfl, rfl⟩
theorem cs_X2_54 : a_CS RX2 54 yJ9_min_7cf53 cJ9_min_7cf53 2 (some .int) 2 := ⟨⟨wm_X2_54, wc_J9_min_7cf53, wn_J9, by decide, by decide +kernel⟩, wt_J9_min_7cf53⟩
theorem cv_X2_60 : a_CV RX2 60 2 yX2_firstDifference cX2_firstDifference 4 (some .int) 1 := ⟨⟨wm_X2_60, wc_X2_firstDifference, wn_X2, by decide, by decide +kernel⟩, wi_X2_firstDifference, wl_X2_firstDifference, (RX2, TX2, 4), rfl, rfl⟩
theorem cv_X4_102 : a_CV RX4 102 4 yX4_readTest cX4_readTest 3 (some .boolean) 1 := ⟨⟨wm_X4_102, wc_X4_readTest, wn_X4, by decide, by decide +kernel⟩, wi_X4_readTest, wl_X4_readTest, (RX4, TX4, 5), rfl, rfl⟩
theorem cv_X4_112 : a_CV RX4 112 8 yX8_changeHere cX8_changeHere 3 (some .int) 1 := ⟨⟨wm_X4_112, wc_X8_changeHere, wn_X8, by decide, by decide +kernel⟩, wi_X8_changeHere, wl_X8_changeHere, (RX8, TX8, 11), rfl, rfl⟩
theorem cv_X4_116 : a_CV RX4 116 4 yX4_advanceBehind cX4_advanceBehind 2 (some .boolean) 1 := ⟨⟨wm_X4_116, wc_X4_advanceBehind, wn_X4, by decide, by decide +kernel⟩, wi_X4_advanceBehind, wl_X4_advanceBehind, (RX4, TX4, 5), rfl, rfl⟩
theorem cv_X4_119 : a_CV RX4 119 8 yX8_islandHere cX8_islandHere 3 (some .int) 1 := ⟨⟨wm_X4_119, wc_X8_islandHere, wn_X8, by decide, by decide +kernel⟩, wi_X8_islandHere, wl_X8_islandHere, (RX8, TX8, 11), rfl, rfl⟩
theorem cv_X4_128 : a_CV RX4 128 8 yX8_passNumber cX8_passNumber 4 (some .int) 2 := ⟨⟨wm_X4_128, wc_X8_passNumber, wn_X8, by decide, by decide +kernel⟩, wi_X8_passNumber, wl_X8_passNumber, (RX8, TX8, 11), rfl, rfl⟩
theorem cv_X4_34 : a_CV RX4 34 8 yX8_begin cX8_begin 3 none 1 := ⟨⟨wm_X4_34, wc_X8_begin, wn_X8, by decide, by decide +kernel⟩, wi_X8_begin, wl_X8_begin, (RX8, TX8, 11), rfl, rfl⟩
theorem cv_X4_40 : a_CV RX4 40 8 yX8_isEnd cX8_isEnd 1 (some .boolean) 0 := ⟨⟨wm_X4_40, wc_X8_isEnd, wn_X8, by decide, by decide +kernel⟩, wi_X8_isEnd, wl_X8_isEnd, (RX8, TX8, 11), rfl, rfl⟩
theorem cv_X4_47 : a_CV RX4 47 8 yX8_kindHere cX8_kindHere 1 (some .int) 0 := ⟨⟨wm_X4_47, wc_X8_kindHere, wn_X8, by decide, by decide +kernel⟩, wi_X8_kindHere, wl_X8_kindHere, (RX8, TX8, 11), rfl, rfl⟩
theorem cv_X4_51 : a_CV RX4 51 4 yX4_beginEnd cX4_beginEnd 2 (some .boolean) 1 := ⟨⟨wm_X4_51, wc_X4_beginEnd, wn_X4, by decide, by decide +kernel⟩, wi_X4_beginEnd, wl_X4_beginEnd, (RX4, TX4, 5), rfl, rfl⟩
theorem cv_X4_55 : a_CV RX4 55 4 yX4_beginStep cX4_beginStep 3 (some .boolean) 2 := ⟨⟨wm_X4_55, wc_X4_beginStep, wn_X4, by decide, by decide +kernel⟩, wi_X4_beginStep, wl_X4_beginStep, (RX4, TX4, 5), rfl, rfl⟩
theorem cv_X4_59 : a_CV RX4 59 4 yX4_readBody cX4_readBody 3 (some .boolean) 2 := ⟨⟨wm_X4_59, wc_X4_readBody, wn_X4, by decide, by decide +kernel⟩, wi_X4_readBody, wl_X4_readBody, (RX4, TX4, 5), rfl, rfl⟩
theorem cv_X4_62 : a_CV RX4 62 8 yX8_pass cX8_pass 2 (some .boolean) 1 := ⟨⟨wm_X4_62, wc_X8_pass, wn_X8, by decide, by decide +kernel⟩, wi_X8_pass, wl_X8_pass, (RX8, TX8, 11), rfl, rfl⟩
theorem cv_X4_65 : a_CV RX4 65 8 yX8_blameToken cX8_blameToken 1 (some .boolean) 0 := ⟨⟨wm_X4_65, wc_X8_blameToken, wn_X8, by decide, by decide +kernel⟩, wi_X8_blameToken, wl_X8_blameToken, (RX8, TX8, 11), rfl, rfl⟩
theorem cv_X4_74 : a_CV RX4 74 8 yX8_advance cX8_advance 1 none 0 := ⟨⟨wm_X4_74, wc_X8_advance, wn_X8, by decide, by decide +kernel⟩, wi_X8_advance, wl_X8_advance, (RX8, TX8, 11), rfl, rfl⟩
theorem cs_X4_77 : a_CS RX4 77 yX4_isStep cX4_isStep 1 (some .boolean) 1 := ⟨⟨wm_X4_77, wc_X4_isStep, wn_X4, by decide, by decide +kernel⟩, wt_X4_isStep⟩
theorem cv_X4_83 : a_CV RX4 83 8 yX8_blame cX8_blame 2 (some .boolean) 1 := ⟨⟨wm_X4_83, wc_X8_blame, wn_X8, by decide, by decide +kernel⟩, wi_X8_blame, wl_X8_blame, (RX8, TX8, 11), rfl, rfl⟩
theorem cv_X4_86 : a_CV RX4 86 4 yX4_readChange cX4_readChange 2 (some .boolean) 1 := ⟨⟨wm_X4_86, wc_X4_readChange, wn_X4, by decide, by decide +kernel⟩, wi_X4_readChange, wl_X4_readChange, (RX4, TX4, 5), rfl, rfl⟩
theorem cv_X4_89 : a_CV RX4 89 4 yX4_readIsland cX4_readIsland 2 (some .boolean) 1 := ⟨⟨wm_X4_89, wc_X4_readIsland, wn_X4, by decide, by decide +kernel⟩, wi_X4_readIsland, wl_X4_readIsland, (RX4, TX4, 5), rfl, rfl⟩
theorem cv_X4_92 : a_CV RX4 92 4 yX4_readTarget cX4_readTarget 2 (some .boolean) 1 := ⟨⟨wm_X4_92, wc_X4_readTarget, wn_X4, by decide, by decide +kernel⟩, wi_X4_readTarget, wl_X4_readTarget, (RX4, TX4, 5), rfl, rfl⟩
theorem cv_X4_95 : a_CV RX4 95 4 yX4_readDelay cX4_readDelay 2 (some .boolean) 1 := ⟨⟨wm_X4_95, wc_X4_readDelay, wn_X4, by decide, by decide +kernel⟩, wi_X4_readDelay, wl_X4_readDelay, (RX4, TX4, 5), rfl, rfl⟩
theorem cv_X4_98 : a_CV RX4 98 4 yX4_readNumber cX4_readNumber 4 (some .boolean) 3 := ⟨⟨wm_X4_98, wc_X4_readNumber, wn_X4, by decide, by decide +kernel⟩, wi_X4_readNumber, wl_X4_readNumber, (RX4, TX4, 5), rfl, rfl⟩
theorem cv_X5_35 : a_CV RX5 35 5 yX5_countOrdersWith cX5_countOrdersWith 5 (some .long) 4 := ⟨⟨wm_X5_35, wc_X5_countOrdersWith, wn_X5, by decide, by decide +kernel⟩, wi_X5_countOrdersWith, wl_X5_countOrdersWith, (RX5, TX5, 6), rfl, rfl⟩
theorem cv_X5_43 : a_CV RX5 43 5 yX5_waysBehind cX5_waysBehind 8 (some .long) 2 := ⟨⟨wm_X5_43, wc_X5_waysBehind, wn_X5, by decide, by decide +kernel⟩, wi_X5_waysBehind, wl_X5_waysBehind, (RX5, TX5, 6), rfl, rfl⟩
theorem cs_X5_54 : a_CS RX5 54 yX0_isIn cX0_isIn 2 (some .boolean) 2 := ⟨⟨wm_X5_54, wc_X0_isIn, wn_X0, by decide, by decide +kernel⟩, wt_X0_isIn⟩
theorem cv_X5_60 : a_CV RX5 60 5 yX5_readyOnes cX5_readyOnes 4 (some .int) 1 := ⟨⟨wm_X5_60, wc_X5_readyOnes, wn_X5, by decide, by decide +kernel⟩, wi_X5_readyOnes, wl_X5_readyOnes, (RX5, TX5, 6), rfl, rfl⟩
theorem cv_X5_64 : a_CV RX5 64 5 yX5_freeAmong cX5_freeAmong 5 (some .int) 2 := ⟨⟨wm_X5_64, wc_X5_freeAmong, wn_X5, by decide, by decide +kernel⟩, wi_X5_freeAmong, wl_X5_freeAmong, (RX5, TX5, 6), rfl, rfl⟩
theorem cs_X5_68 : a_CS RX5 68 yJ6_bitCount_0f7a4 cJ6_bitCount_0f7a4 1 (some .int) 1 := ⟨⟨wm_X5_68, wc_J6_bitCount_0f7a4, wn_J6, by decide, by decide +kernel⟩, wt_J6_bitCount_0f7a4⟩
theorem cs_X5_73 : a_CS RX5 73 yX5_places cX5_places 5 (some .long) 2 := ⟨⟨wm_X5_73, wc_X5_places, wn_X5, by decide, by decide +kernel⟩, wt_X5_places⟩
theorem cv_X5_76 : a_CV RX5 76 5 yX5_sumOver cX5_sumOver 7 (some .long) 3 := ⟨⟨wm_X5_76, wc_X5_sumOver, wn_X5, by decide, by decide +kernel⟩, wi_X5_sumOver, wl_X5_sumOver, (RX5, TX5, 6), rfl, rfl⟩
theorem cv_X5_80 : a_CV RX5 80 5 yX5_isReady cX5_isReady 4 (some .boolean) 2 := ⟨⟨wm_X5_80, wc_X5_isReady, wn_X5, by decide, by decide +kernel⟩, wi_X5_isReady, wl_X5_isReady, (RX5, TX5, 6), rfl, rfl⟩
theorem cv_X5_83 : a_CV RX5 83 5 yX5_isAwaited cX5_isAwaited 3 (some .boolean) 2 := ⟨⟨wm_X5_83, wc_X5_isAwaited, wn_X5, by decide, by decide +kernel⟩, wi_X5_isAwaited, wl_X5_isAwaited, (RX5, TX5, 6), rfl, rfl⟩
theorem cv_X6_22 : a_CV RX6 22 6 yX6_seek cX6_seek 8 none 2 := ⟨⟨wm_X6_22, wc_X6_seek, wn_X6, by decide, by decide +kernel⟩, wi_X6_seek, wl_X6_seek, (RX6, TX6, 3), rfl, rfl⟩
theorem cs_X6_26 : a_CS RX6 26 yJ6_bitCount_0f7a4 cJ6_bitCount_0f7a4 1 (some .int) 1 := ⟨⟨wm_X6_26, wc_J6_bitCount_0f7a4, wn_J6, by decide, by decide +kernel⟩, wt_J6_bitCount_0f7a4⟩
theorem cv_X6_32 : a_CV RX6 32 0 yX0_mostQuarrelling cX0_mostQuarrelling 6 (some .int) 1 := ⟨⟨wm_X6_32, wc_X0_mostQuarrelling, wn_X0, by decide, by decide +kernel⟩, wi_X0_mostQuarrelling, wl_X0_mostQuarrelling, (RX0, TX0, 16), rfl, rfl⟩
theorem cv_X6_37 : a_CV RX6 37 6 yX6_keepBetter cX6_keepBetter 4 none 1 := ⟨⟨wm_X6_37, wc_X6_keepBetter, wn_X6, by decide, by decide +kernel⟩, wi_X6_keepBetter, wl_X6_keepBetter, (RX6, TX6, 3), rfl, rfl⟩
theorem cv_X6_41 : a_CV RX6 41 0 yX0_without cX0_without 3 (some .int) 2 := ⟨⟨wm_X6_41, wc_X0_without, wn_X0, by decide, by decide +kernel⟩, wi_X0_without, wl_X0_without, (RX0, TX0, 16), rfl, rfl⟩
theorem cv_X6_45 : a_CV RX6 45 0 yX0_quarrelersOf cX0_quarrelersOf 5 (some .int) 2 := ⟨⟨wm_X6_45, wc_X0_quarrelersOf, wn_X0, by decide, by decide +kernel⟩, wi_X0_quarrelersOf, wl_X0_quarrelersOf, (RX0, TX0, 16), rfl, rfl⟩
theorem cs_X6_51 : a_CS RX6 51 yX0_isIn cX0_isIn 2 (some .boolean) 2 := ⟨⟨wm_X6_51, wc_X0_isIn, wn_X0, by decide, by decide +kernel⟩, wt_X0_isIn⟩
theorem cv_X7_39 : a_CV RX7 39 7 yX7_isInOrder cX7_isInOrder 2 (some .boolean) 1 := ⟨⟨wm_X7_39, wc_X7_isInOrder, wn_X7, by decide, by decide +kernel⟩, wi_X7_isInOrder, wl_X7_isInOrder, (RX7, TX7, 5), rfl, rfl⟩
theorem cs_X7_46 : a_CS RX7 46 yX0_isIn cX0_isIn 2 (some .boolean) 2 := ⟨⟨wm_X7_46, wc_X0_isIn, wn_X0, by decide, by decide +kernel⟩, wt_X0_isIn⟩
theorem cv_X8_102 : a_CV RX8 102 8 yX8_blame cX8_blame 2 (some .boolean) 1 := ⟨⟨wm_X8_102, wc_X8_blame, wn_X8, by decide, by decide +kernel⟩, wi_X8_blame, wl_X8_blame, (RX8, TX8, 11), rfl, rfl⟩
theorem cv_X8_105 : a_CV RX8 105 8 yX8_isName cX8_isName 1 (some .boolean) 0 := ⟨⟨wm_X8_105, wc_X8_isName, wn_X8, by decide, by decide +kernel⟩, wi_X8_isName, wl_X8_isName, (RX8, TX8, 11), rfl, rfl⟩
theorem cv_X8_108 : a_CV RX8 108 0 yX0_findChange cX0_findChange 4 (some .int) 1 := ⟨⟨wm_X8_108, wc_X0_findChange, wn_X0, by decide, by decide +kernel⟩, wi_X0_findChange, wl_X0_findChange, (RX0, TX0, 16), rfl, rfl⟩
theorem cv_X8_113 : a_CV RX8 113 0 yX0_findIsland cX0_findIsland 4 (some .int) 1 := ⟨⟨wm_X8_113, wc_X0_findIsland, wn_X0, by decide, by decide +kernel⟩, wi_X0_findIsland, wl_X0_findIsland, (RX0, TX0, 16), rfl, rfl⟩
theorem cs_X8_60 : a_CS RX8 60 yX8_withLetter cX8_withLetter 3 (some .long) 2 := ⟨⟨wm_X8_60, wc_X8_withLetter, wn_X8, by decide, by decide +kernel⟩, wt_X8_withLetter⟩
theorem cs_X8_66 : a_CS RX8 66 yJ9_min_7cf53 cJ9_min_7cf53 2 (some .int) 2 := ⟨⟨wm_X8_66, wc_J9_min_7cf53, wn_J9, by decide, by decide +kernel⟩, wt_J9_min_7cf53⟩
theorem cv_X8_72 : a_CV RX8 72 8 yX8_addToken cX8_addToken 2 (some .int) 1 := ⟨⟨wm_X8_72, wc_X8_addToken, wn_X8, by decide, by decide +kernel⟩, wi_X8_addToken, wl_X8_addToken, (RX8, TX8, 11), rfl, rfl⟩
theorem cs_X8_76 : a_CS RX8 76 yX8_isLetter cX8_isLetter 1 (some .boolean) 1 := ⟨⟨wm_X8_76, wc_X8_isLetter, wn_X8, by decide, by decide +kernel⟩, wt_X8_isLetter⟩
theorem cv_X8_80 : a_CV RX8 80 8 yX8_addWord cX8_addWord 5 (some .int) 1 := ⟨⟨wm_X8_80, wc_X8_addWord, wn_X8, by decide, by decide +kernel⟩, wi_X8_addWord, wl_X8_addWord, (RX8, TX8, 11), rfl, rfl⟩
theorem cs_X8_83 : a_CS RX8 83 yX8_isDigit cX8_isDigit 1 (some .boolean) 1 := ⟨⟨wm_X8_83, wc_X8_isDigit, wn_X8, by decide, by decide +kernel⟩, wt_X8_isDigit⟩
theorem cv_X8_86 : a_CV RX8 86 8 yX8_addNumber cX8_addNumber 5 (some .int) 1 := ⟨⟨wm_X8_86, wc_X8_addNumber, wn_X8, by decide, by decide +kernel⟩, wi_X8_addNumber, wl_X8_addNumber, (RX8, TX8, 11), rfl, rfl⟩
theorem cv_X8_89 : a_CV RX8 89 8 yX8_kindOfWord cX8_kindOfWord 4 (some .int) 1 := ⟨⟨wm_X8_89, wc_X8_kindOfWord, wn_X8, by decide, by decide +kernel⟩, wi_X8_kindOfWord, wl_X8_kindOfWord, (RX8, TX8, 11), rfl, rfl⟩
theorem cv_X8_95 : a_CV RX8 95 8 yX8_blameToken cX8_blameToken 1 (some .boolean) 0 := ⟨⟨wm_X8_95, wc_X8_blameToken, wn_X8, by decide, by decide +kernel⟩, wi_X8_blameToken, wl_X8_blameToken, (RX8, TX8, 11), rfl, rfl⟩
theorem cv_X8_99 : a_CV RX8 99 8 yX8_advance cX8_advance 1 none 0 := ⟨⟨wm_X8_99, wc_X8_advance, wn_X8, by decide, by decide +kernel⟩, wi_X8_advance, wl_X8_advance, (RX8, TX8, 11), rfl, rfl⟩
theorem cv_X9_24 : a_CV RX9 24 9 yX9_cut cX9_cut 3 (some .long) 1 := ⟨⟨wm_X9_24, wc_X9_cut, wn_X9, by decide, by decide +kernel⟩, wi_X9_cut, wl_X9_cut, (RX9, TX9, 3), rfl, rfl⟩
theorem nw_L_10 : a_NW RL 10 12 47 [.int 0, .int 0, .long 0, .long 0, .null, .null, .null, .null, .int 0, .int 0, .int 0, .int 0, .int 0, .int 0, .int 0, .int 0, .int 0, .int 0, .int 0, .long 0, .null, .null, .int 0, .null, .null, .int 0, .int 0, .null, .null, .null, .null, .null, .null, .null, .null, .int 0, .int 0, .int 0, .int 0, .int 0, .int 0, .int 0, .int 0, .int 0, .int 0, .null, .int 0] := ⟨RX12, TX12, tyX12, rfl, inG12, tyX12_ok, wq_L_10, wz_X12, wn_X12, by decide +kernel, fun _ => rfl⟩
theorem nw_L_7 : a_NW RL 7 11 14 [.null, .null, .null, .null, .null, .null, .null, .null, .null, .int 0, .int 0, .int 0, .long 0, .long 0] := ⟨RX11, TX11, tyX11, rfl, inG11, tyX11_ok, wq_L_7, wz_X11, wn_X11, by decide +kernel, fun _ => rfl⟩
theorem nw_X10_34 : a_NW RX10 34 0 16 [.int 0, .int 0, .null, .null, .null, .null, .null, .null, .null, .null, .null, .null, .null, .null, .null, .int 0] := ⟨RX0, TX0, tyX0, rfl, inG0, tyX0_ok, wq_X10_34, wz_X0, wn_X0, by decide +kernel, fun _ => rfl⟩
theorem nw_X10_41 : a_NW RX10 41 3 8 [.int 0, .int 0, .null, .null, .null, .null, .null, .null] := ⟨RX3, TX3, tyX3, rfl, inG3, tyX3_ok, wq_X10_41, wz_X3, wn_X3, by decide +kernel, fun _ => rfl⟩
theorem nw_X11_148 : a_NW RX11 148 1 2 [.null, .null] := ⟨RX1, TX1, tyX1, rfl, inG1, tyX1_ok, wq_X11_148, wz_X1, wn_X1, by decide +kernel, fun _ => rfl⟩
theorem nw_X11_15 : a_NW RX11 15 8 11 [.null, .null, .int 0, .int 0, .int 0, .int 0, .null, .null, .null, .int 0, .int 0] := ⟨RX8, TX8, tyX8, rfl, inG8, tyX8_ok, wq_X11_15, wz_X8, wn_X8, by decide +kernel, fun _ => rfl⟩
theorem nw_X11_172 : a_NW RX11 172 4 5 [.null, .null, .null, .null, .int 0] := ⟨RX4, TX4, tyX4, rfl, inG4, tyX4_ok, wq_X11_172, wz_X4, wn_X4, by decide +kernel, fun _ => rfl⟩
theorem nw_X11_22 : a_NW RX11 22 7 5 [.null, .null, .null, .null, .int 0] := ⟨RX7, TX7, tyX7, rfl, inG7, tyX7_ok, wq_X11_22, wz_X7, wn_X7, by decide +kernel, fun _ => rfl⟩
theorem nw_X11_311 : a_NW RX11 311 6 3 [.null, .int 0, .int 0] := ⟨RX6, TX6, tyX6, rfl, inG6, tyX6_ok, wq_X11_311, wz_X6, wn_X6, by decide +kernel, fun _ => rfl⟩
theorem nw_X11_33 : a_NW RX11 33 2 4 [.int 0, .null, .null, .null] := ⟨RX2, TX2, tyX2, rfl, inG2, tyX2_ok, wq_X11_33, wz_X2, wn_X2, by decide +kernel, fun _ => rfl⟩
theorem nw_X11_43 : a_NW RX11 43 5 6 [.null, .int 0, .int 0, .int 0, .int 0, .null] := ⟨RX5, TX5, tyX5, rfl, inG5, tyX5_ok, wq_X11_43, wz_X5, wn_X5, by decide +kernel, fun _ => rfl⟩
theorem nw_X11_50 : a_NW RX11 50 10 16 [.null, .int 0, .int 0, .int 0, .int 0, .int 0, .int 0, .null, .null, .int 0, .int 0, .null, .null, .null, .null, .null] := ⟨RX10, TX10, tyX10, rfl, inG10, tyX10_ok, wq_X11_50, wz_X10, wn_X10, by decide +kernel, fun _ => rfl⟩
theorem nw_X11_9 : a_NW RX11 9 9 3 [.null, .int 0, .int 0] := ⟨RX9, TX9, tyX9, rfl, inG9, tyX9_ok, wq_X11_9, wz_X9, wn_X9, by decide +kernel, fun _ => rfl⟩
theorem nw_X1_9 : a_NW RX1 9 0 16 [.int 0, .int 0, .null, .null, .null, .null, .null, .null, .null, .null, .null, .null, .null, .null, .null, .int 0] := ⟨RX0, TX0, tyX0, rfl, inG0, tyX0_ok, wq_X1_9, wz_X0, wn_X0, by decide +kernel, fun _ => rfl⟩
theorem nw_X4_9 : a_NW RX4 9 3 8 [.int 0, .int 0, .null, .null, .null, .null, .null, .null] := ⟨RX3, TX3, tyX3, rfl, inG3, tyX3_ok, wq_X4_9, wz_X3, wn_X3, by decide +kernel, fun _ => rfl⟩
theorem nw_X5_11 : a_NW RX5 11 0 16 [.int 0, .int 0, .null, .null, .null, .null, .null, .null, .null, .null, .null, .null, .null, .null, .null, .int 0] := ⟨RX0, TX0, tyX0, rfl, inG0, tyX0_ok, wq_X5_11, wz_X0, wn_X0, by decide +kernel, fun _ => rfl⟩
theorem nw_X7_9 : a_NW RX7 9 0 16 [.int 0, .int 0, .null, .null, .null, .null, .null, .null, .null, .null, .null, .null, .null, .null, .null, .int 0] := ⟨RX0, TX0, tyX0, rfl, inG0, tyX0_ok, wq_X7_9, wz_X0, wn_X0, by decide +kernel, fun _ => rfl⟩
theorem cn_X11_24 : a_CN RX11 24 yX7_init cX7_init 1 0 := ⟨⟨by simp [gN], wc_X7_init, wn_X7, by decide, by decide +kernel⟩, wi_X7_init, rfl⟩
theorem cn_X7_11 : a_CN RX7 11 yX0_init cX0_init 1 0 := ⟨⟨by simp [gN], wc_X0_init, wn_X0, by decide, by decide +kernel⟩, wi_X0_init, rfl⟩
theorem cn_X11_35 : a_CN RX11 35 yX2_init cX2_init 1 0 := ⟨⟨by simp [gN], wc_X2_init, wn_X2, by decide, by decide +kernel⟩, wi_X2_init, rfl⟩
theorem cn_X11_45 : a_CN RX11 45 yX5_init cX5_init 1 0 := ⟨⟨by simp [gN], wc_X5_init, wn_X5, by decide, by decide +kernel⟩, wi_X5_init, rfl⟩
theorem cn_X5_13 : a_CN RX5 13 yX0_init cX0_init 1 0 := ⟨⟨by simp [gN], wc_X0_init, wn_X0, by decide, by decide +kernel⟩, wi_X0_init, rfl⟩
theorem cn_X11_52 : a_CN RX11 52 yX10_init cX10_init 1 0 := ⟨⟨by simp [gN], wc_X10_init, wn_X10, by decide, by decide +kernel⟩, wi_X10_init, rfl⟩
theorem cn_X10_36 : a_CN RX10 36 yX0_init cX0_init 1 0 := ⟨⟨by simp [gN], wc_X0_init, wn_X0, by decide, by decide +kernel⟩, wi_X0_init, rfl⟩
theorem cn_X10_43 : a_CN RX10 43 yX3_init cX3_init 1 0 := ⟨⟨by simp [gN], wc_X3_init, wn_X3, by decide, by decide +kernel⟩, wi_X3_init, rfl⟩
theorem cn_X11_79 : a_CN RX11 79 yX9_init cX9_init 1 0 := ⟨⟨by simp [gN], wc_X9_init, wn_X9, by decide, by decide +kernel⟩, wi_X9_init, rfl⟩
theorem cn_X1_11 : a_CN RX1 11 yX0_init cX0_init 1 0 := ⟨⟨by simp [gN], wc_X0_init, wn_X0, by decide, by decide +kernel⟩, wi_X0_init, rfl⟩
theorem cn_X4_11 : a_CN RX4 11 yX3_init cX3_init 1 0 := ⟨⟨by simp [gN], wc_X3_init, wn_X3, by decide, by decide +kernel⟩, wi_X3_init, rfl⟩
