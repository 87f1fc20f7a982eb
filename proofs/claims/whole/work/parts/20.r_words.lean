theorem kc_X7_areApart : Cond.code yX7_areApart cX7_areApart 4 (some .boolean) ∈ mbig := m_in 1119 (by decide +kernel) rfl
theorem kc_X7_areNear : Cond.code yX7_areNear cX7_areNear 6 (some .boolean) ∈ mbig := m_in 1083 (by decide +kernel) rfl
theorem kc_X7_bars : Cond.code yX7_bars cX7_bars 4 (some .boolean) ∈ mbig := m_in 1111 (by decide +kernel) rfl
theorem kc_X7_bringsBy : Cond.code yX7_bringsBy cX7_bringsBy 4 (some .int) ∈ mbig := m_in 1137 (by decide +kernel) rfl
theorem kc_X7_bytesIn : Cond.code yX7_bytesIn cX7_bytesIn 3 (some .int) ∈ mbig := m_in 972 (by decide +kernel) rfl
theorem kc_X7_counts : Cond.code yX7_counts cX7_counts 3 none ∈ mbig := m_in 1178 (by decide +kernel) rfl
theorem kc_X7_every : Cond.code yX7_every cX7_every 1 (some .int) ∈ mbig := m_in 1166 (by decide +kernel) rfl
theorem kc_X7_fails : Cond.code yX7_fails cX7_fails 2 (some .boolean) ∈ mbig := m_in 1003 (by decide +kernel) rfl
theorem kc_X7_firstOf : Cond.code yX7_firstOf cX7_firstOf 1 (some .int) ∈ mbig := m_in 991 (by decide +kernel) rfl
theorem kc_X7_has : Cond.code yX7_has cX7_has 2 (some .boolean) ∈ mbig := m_in 1074 (by decide +kernel) rfl
theorem kc_X7_here : Cond.code yX7_here cX7_here 1 (some .int) ∈ mbig := m_in 999 (by decide +kernel) rfl
theorem kc_X7_isAhead : Cond.code yX7_isAhead cX7_isAhead 4 (some .boolean) ∈ mbig := m_in 1133 (by decide +kernel) rfl
theorem kc_X7_isAsked : Cond.code yX7_isAsked cX7_isAsked 2 (some .boolean) ∈ mbig := m_in 1170 (by decide +kernel) rfl
theorem kc_X7_isCover : Cond.code yX7_isCover cX7_isCover 2 (some .boolean) ∈ mbig := m_in 1038 (by decide +kernel) rfl
theorem kc_X7_isDigit : Cond.code yX7_isDigit cX7_isDigit 1 (some .boolean) ∈ mbig := m_in 1021 (by decide +kernel) rfl
theorem kc_X7_isIn : Cond.code yX7_isIn cX7_isIn 3 (some .boolean) ∈ mbig := m_in 1024 (by decide +kernel) rfl
theorem kc_X7_isLoss : Cond.code yX7_isLoss cX7_isLoss 2 (some .boolean) ∈ mbig := m_in 1054 (by decide +kernel) rfl
theorem kc_X7_isRowApart : Cond.code yX7_isRowApart cX7_isRowApart 3 (some .boolean) ∈ mbig := m_in 1182 (by decide +kernel) rfl
theorem kc_X7_isSet : Cond.code yX7_isSet cX7_isSet 2 (some .boolean) ∈ mbig := m_in 1063 (by decide +kernel) rfl
theorem kc_X7_isTold : Cond.code yX7_isTold cX7_isTold 3 (some .boolean) ∈ mbig := m_in 1157 (by decide +kernel) rfl
theorem kc_X7_isTurn : Cond.code yX7_isTurn cX7_isTurn 4 (some .boolean) ∈ mbig := m_in 1218 (by decide +kernel) rfl
theorem kc_X7_judged : Cond.code yX7_judged cX7_judged 5 (some .int) ∈ mbig := m_in 1107 (by decide +kernel) rfl
theorem kc_X7_layAll : Cond.code yX7_layAll cX7_layAll 3 (some .boolean) ∈ mbig := m_in 1153 (by decide +kernel) rfl
theorem kc_X7_layPairs : Cond.code yX7_layPairs cX7_layPairs 4 none ∈ mbig := m_in 1162 (by decide +kernel) rfl
theorem kc_X7_layRow : Cond.code yX7_layRow cX7_layRow 7 none ∈ mbig := m_in 1129 (by decide +kernel) rfl
theorem kc_X7_leastHour : Cond.code yX7_leastHour cX7_leastHour 4 (some .int) ∈ mbig := m_in 1078 (by decide +kernel) rfl
theorem kc_X7_leastOf : Cond.code yX7_leastOf cX7_leastOf 1 (some .int) ∈ mbig := m_in 1010 (by decide +kernel) rfl
theorem kc_X7_look : Cond.code yX7_look cX7_look 1 (some .int) ∈ mbig := m_in 995 (by decide +kernel) rfl
theorem kc_X7_mayBeOne : Cond.code yX7_mayBeOne cX7_mayBeOne 6 (some .boolean) ∈ mbig := m_in 1067 (by decide +kernel) rfl
theorem kc_X7_mayNow : Cond.code yX7_mayNow cX7_mayNow 3 (some .boolean) ∈ mbig := m_in 1186 (by decide +kernel) rfl
theorem kc_X7_mostHour : Cond.code yX7_mostHour cX7_mostHour 4 (some .int) ∈ mbig := m_in 1071 (by decide +kernel) rfl
theorem kc_X7_mostOf : Cond.code yX7_mostOf cX7_mostOf 1 (some .int) ∈ mbig := m_in 1013 (by decide +kernel) rfl
theorem kc_X7_netBy : Cond.code yX7_netBy cX7_netBy 4 (some .int) ∈ mbig := m_in 1141 (by decide +kernel) rfl
theorem kc_X7_number : Cond.code yX7_number cX7_number 3 (some .boolean) ∈ mbig := m_in 1017 (by decide +kernel) rfl
theorem kc_X7_paidOf : Cond.code yX7_paidOf cX7_paidOf 3 (some .int) ∈ mbig := m_in 1095 (by decide +kernel) rfl
theorem kc_X7_part : Cond.code yX7_part cX7_part 4 none ∈ mbig := m_in 1190 (by decide +kernel) rfl
theorem kc_X7_partByHours : Cond.code yX7_partByHours cX7_partByHours 5 none ∈ mbig := m_in 1174 (by decide +kernel) rfl
theorem kc_X7_put : Cond.code yX7_put cX7_put 3 none ∈ mbig := m_in 976 (by decide +kernel) rfl
theorem kc_X7_readCover : Cond.code yX7_readCover cX7_readCover 2 (some .boolean) ∈ mbig := m_in 988 (by decide +kernel) rfl
theorem kc_X7_readWord : Cond.code yX7_readWord cX7_readWord 2 (some .boolean) ∈ mbig := m_in 1007 (by decide +kernel) rfl
theorem kc_X7_sumOf : Cond.code yX7_sumOf cX7_sumOf 4 (some .int) ∈ mbig := m_in 1091 (by decide +kernel) rfl
theorem kc_X7_toldWith : Cond.code yX7_toldWith cX7_toldWith 4 (some .int) ∈ mbig := m_in 1115 (by decide +kernel) rfl
theorem kc_X7_wordOf : Cond.code yX7_wordOf cX7_wordOf 3 (some .int) ∈ mbig := m_in 1042 (by decide +kernel) rfl
theorem kc_X7_worthOf : Cond.code yX7_worthOf cX7_worthOf 4 (some .int) ∈ mbig := m_in 1234 (by decide +kernel) rfl
theorem kc_J6_bitCount_0f7a4 : Cond.code yJ6_bitCount_0f7a4 cJ6_bitCount_0f7a4 1 (some .int) ∈ mbig := m_in 637 (by decide +kernel) rfl
theorem kc_J6_numberOfTrailingZeros_0f7a4 : Cond.code yJ6_numberOfTrailingZeros_0f7a4 cJ6_numberOfTrailingZeros_0f7a4 2 (some .int) ∈ mbig := m_in 551 (by decide +kernel) rfl
theorem kc_J9_max_7cf53 : Cond.code Lib.Math.max.name Lib.Math.max.code 2 (some .int) ∈ mbig := m_in 367 (by decide +kernel) rfl
theorem kc_J9_min_7cf53 : Cond.code Lib.Math.min.name Lib.Math.min.code 2 (some .int) ∈ mbig := m_in 370 (by decide +kernel) rfl
theorem kc_J0_coder_7d493 : Cond.code yJ0_coder_7d493 cJ0_coder_7d493 1 (some .byte) ∈ mbig := m_in 358 (by decide +kernel) rfl
theorem kc_J0_indexOf_0f7a4 : Cond.code yJ0_indexOf_0f7a4 cJ0_indexOf_0f7a4 2 (some .int) ∈ mbig := m_in 340 (by decide +kernel) rfl
theorem kc_J0_indexOf_7cf53 : Cond.code yJ0_indexOf_7cf53 cJ0_indexOf_7cf53 3 (some .int) ∈ mbig := m_in 344 (by decide +kernel) rfl
theorem kc_J0_isLatin1_aae02 : Cond.code yJ0_isLatin1_aae02 cJ0_isLatin1_aae02 1 (some .boolean) ∈ mbig := m_in 348 (by decide +kernel) rfl
theorem kc_J0_length_8abf5 : Cond.code yJ0_length_8abf5 cJ0_length_8abf5 1 (some .int) ∈ mbig := m_in 354 (by decide +kernel) rfl
theorem kc_J1_canEncode_9a6ad : Cond.code yJ1_canEncode_9a6ad cJ1_canEncode_9a6ad 1 (some .boolean) ∈ mbig := m_in 364 (by decide +kernel) rfl
theorem kc_J1_indexOf_4cfef : Cond.code yJ1_indexOf_4cfef cJ1_indexOf_4cfef 4 (some .int) ∈ mbig := m_in 361 (by decide +kernel) rfl
theorem kc_J1_indexOfChar_4cfef : Cond.code yJ1_indexOfChar_4cfef cJ1_indexOfChar_4cfef 6 (some .int) ∈ mbig := m_in 373 (by decide +kernel) rfl
theorem kv_RX7_216 : Cond.constant RX7 216 (-100000000) ∈ mbig := m_in 1125 (by decide +kernel) rfl
theorem kv_RJ6_264 : Cond.constant RJ6 264 65536 ∈ mbig := m_in 552 (by decide +kernel) rfl
theorem kv_RJ6_265 : Cond.constant RJ6 265 1431655765 ∈ mbig := m_in 638 (by decide +kernel) rfl
theorem kv_RJ6_266 : Cond.constant RJ6 266 858993459 ∈ mbig := m_in 639 (by decide +kernel) rfl
theorem kv_RJ6_267 : Cond.constant RJ6 267 252645135 ∈ mbig := m_in 640 (by decide +kernel) rfl
theorem kf_RX7_104 : Cond.fieldLink RX7 104 "StormPartingModel" "number" "I" ∈ mbig := m_in 840 (by decide +kernel) rfl
theorem kf_RX7_120 : Cond.fieldLink RX7 120 "StormPartingModel" "covers" "I" ∈ mbig := m_in 842 (by decide +kernel) rfl
theorem kf_RX7_13 : Cond.fieldLink RX7 13 "StormPartingModel" "words" "[I" ∈ mbig := m_in 841 (by decide +kernel) rfl
theorem kf_RX7_146 : Cond.fieldLink RX7 146 "StormPartingModel" "losses" "I" ∈ mbig := m_in 850 (by decide +kernel) rfl
theorem kf_RX7_17 : Cond.fieldLink RX7 17 "StormPartingModel" "sum" "[I" ∈ mbig := m_in 843 (by decide +kernel) rfl
theorem kf_RX7_184 : Cond.fieldLink RX7 184 "StormPartingModel" "partMany" "I" ∈ mbig := m_in 857 (by decide +kernel) rfl
theorem kf_RX7_195 : Cond.fieldLink RX7 195 "StormPartingModel" "paidMany" "I" ∈ mbig := m_in 858 (by decide +kernel) rfl
theorem kf_RX7_198 : Cond.fieldLink RX7 198 "StormPartingModel" "paidSum" "I" ∈ mbig := m_in 859 (by decide +kernel) rfl
theorem kf_RX7_20 : Cond.fieldLink RX7 20 "StormPartingModel" "hour" "[I" ∈ mbig := m_in 844 (by decide +kernel) rfl
theorem kf_RX7_226 : Cond.fieldLink RX7 226 "StormPartingModel" "together" "Z" ∈ mbig := m_in 869 (by decide +kernel) rfl
theorem kf_RX7_23 : Cond.fieldLink RX7 23 "StormPartingModel" "lastHour" "[I" ∈ mbig := m_in 845 (by decide +kernel) rfl
theorem kf_RX7_230 : Cond.fieldLink RX7 230 "StormPartingModel" "asked" "I" ∈ mbig := m_in 860 (by decide +kernel) rfl
theorem kf_RX7_233 : Cond.fieldLink RX7 233 "StormPartingModel" "asksCause" "Z" ∈ mbig := m_in 872 (by decide +kernel) rfl
theorem kf_RX7_245 : Cond.fieldLink RX7 245 "StormPartingModel" "any" "Z" ∈ mbig := m_in 868 (by decide +kernel) rfl
theorem kf_RX7_248 : Cond.fieldLink RX7 248 "StormPartingModel" "most" "I" ∈ mbig := m_in 862 (by decide +kernel) rfl
theorem kf_RX7_251 : Cond.fieldLink RX7 251 "StormPartingModel" "fewestMost" "I" ∈ mbig := m_in 864 (by decide +kernel) rfl
theorem kf_RX7_254 : Cond.fieldLink RX7 254 "StormPartingModel" "least" "I" ∈ mbig := m_in 863 (by decide +kernel) rfl
theorem kf_RX7_257 : Cond.fieldLink RX7 257 "StormPartingModel" "fewestLeast" "I" ∈ mbig := m_in 865 (by decide +kernel) rfl
theorem kf_RX7_26 : Cond.fieldLink RX7 26 "StormPartingModel" "placeX" "[I" ∈ mbig := m_in 846 (by decide +kernel) rfl
theorem kf_RX7_260 : Cond.fieldLink RX7 260 "StormPartingModel" "netMost" "I" ∈ mbig := m_in 866 (by decide +kernel) rfl
theorem kf_RX7_263 : Cond.fieldLink RX7 263 "StormPartingModel" "netBrings" "I" ∈ mbig := m_in 867 (by decide +kernel) rfl
theorem kf_RX7_269 : Cond.fieldLink RX7 269 "StormPartingModel" "setNow" "I" ∈ mbig := m_in 861 (by decide +kernel) rfl
theorem kf_RX7_29 : Cond.fieldLink RX7 29 "StormPartingModel" "placeY" "[I" ∈ mbig := m_in 847 (by decide +kernel) rfl
theorem kf_RX7_293 : Cond.fieldLink RX7 293 "StormPartingModel" "storms" "I" ∈ mbig := m_in 875 (by decide +kernel) rfl
theorem kf_RX7_296 : Cond.fieldLink RX7 296 "StormPartingModel" "struck" "I" ∈ mbig := m_in 876 (by decide +kernel) rfl
theorem kf_RX7_32 : Cond.fieldLink RX7 32 "StormPartingModel" "cause" "[I" ∈ mbig := m_in 848 (by decide +kernel) rfl
theorem kf_RX7_35 : Cond.fieldLink RX7 35 "StormPartingModel" "told" "[I" ∈ mbig := m_in 849 (by decide +kernel) rfl
theorem kf_RX7_38 : Cond.fieldLink RX7 38 "StormPartingModel" "parts" "[I" ∈ mbig := m_in 851 (by decide +kernel) rfl
theorem kf_RX7_41 : Cond.fieldLink RX7 41 "StormPartingModel" "row" "[I" ∈ mbig := m_in 852 (by decide +kernel) rfl
theorem kf_RX7_44 : Cond.fieldLink RX7 44 "StormPartingModel" "rowSum" "[I" ∈ mbig := m_in 853 (by decide +kernel) rfl
theorem kf_RX7_47 : Cond.fieldLink RX7 47 "StormPartingModel" "rowLow" "[I" ∈ mbig := m_in 854 (by decide +kernel) rfl
theorem kf_RX7_50 : Cond.fieldLink RX7 50 "StormPartingModel" "rowHigh" "[I" ∈ mbig := m_in 855 (by decide +kernel) rfl
theorem kf_RX7_53 : Cond.fieldLink RX7 53 "StormPartingModel" "rowFirst" "[I" ∈ mbig := m_in 856 (by decide +kernel) rfl
theorem kf_RX7_56 : Cond.fieldLink RX7 56 "StormPartingModel" "goesWith" "[I" ∈ mbig := m_in 870 (by decide +kernel) rfl
theorem kf_RX7_59 : Cond.fieldLink RX7 59 "StormPartingModel" "partCause" "[I" ∈ mbig := m_in 871 (by decide +kernel) rfl
theorem kf_RX7_62 : Cond.fieldLink RX7 62 "StormPartingModel" "stormSet" "[I" ∈ mbig := m_in 873 (by decide +kernel) rfl
theorem kf_RX7_65 : Cond.fieldLink RX7 65 "StormPartingModel" "stormWeight" "[I" ∈ mbig := m_in 874 (by decide +kernel) rfl
theorem kf_RX7_68 : Cond.fieldLink RX7 68 "StormPartingModel" "thrown" "I" ∈ mbig := m_in 835 (by decide +kernel) rfl
theorem kf_RX7_72 : Cond.fieldLink RX7 72 "StormPartingModel" "length" "I" ∈ mbig := m_in 837 (by decide +kernel) rfl
theorem kf_RX7_83 : Cond.fieldLink RX7 83 "StormPartingModel" "at" "I" ∈ mbig := m_in 838 (by decide +kernel) rfl
theorem kf_RX7_9 : Cond.fieldLink RX7 9 "StormPartingModel" "tape" "[B" ∈ mbig := m_in 836 (by decide +kernel) rfl
theorem kf_RX7_90 : Cond.fieldLink RX7 90 "StormPartingModel" "fault" "I" ∈ mbig := m_in 839 (by decide +kernel) rfl
theorem kf_RJ0_15 : Cond.fieldLink RJ0 15 "java/lang/String" "coder" "B" ∈ mbig := m_in 1252 (by decide +kernel) rfl
theorem kf_RJ0_38 : Cond.fieldLink RJ0 38 "java/lang/String" "COMPACT_STRINGS" "Z" ∈ mbig := m_in 349 (by decide +kernel) rfl
theorem kf_RJ0_9 : Cond.fieldLink RJ0 9 "java/lang/String" "value" "[B" ∈ mbig := m_in 1253 (by decide +kernel) rfl
theorem kz_RX7 : Cond.initialized RX7 ∈ mbig := m_in 65 (by decide +kernel) rfl
theorem kz_RJ6 : Cond.initialized RJ6 ∈ mbig := m_in 77 (by decide +kernel) rfl
theorem kz_RJ9 : Cond.initialized "java/lang/Math" ∈ mbig := m_in 69 (by decide +kernel) rfl
theorem kz_RJ0 : Cond.initialized RJ0 ∈ mbig := m_in 67 (by decide +kernel) rfl
theorem kz_RJ1 : Cond.initialized RJ1 ∈ mbig := m_in 68 (by decide +kernel) rfl
theorem ki_X7_areApart : Cond.instanceMethod yX7_areApart ∈ mbig := m_in 1118 (by decide +kernel) rfl
theorem ki_X7_areNear : Cond.instanceMethod yX7_areNear ∈ mbig := m_in 1082 (by decide +kernel) rfl
theorem ki_X7_bars : Cond.instanceMethod yX7_bars ∈ mbig := m_in 1110 (by decide +kernel) rfl
theorem ki_X7_bringsBy : Cond.instanceMethod yX7_bringsBy ∈ mbig := m_in 1136 (by decide +kernel) rfl
theorem ki_X7_counts : Cond.instanceMethod yX7_counts ∈ mbig := m_in 1177 (by decide +kernel) rfl
theorem ki_X7_every : Cond.instanceMethod yX7_every ∈ mbig := m_in 1165 (by decide +kernel) rfl
theorem ki_X7_fails : Cond.instanceMethod yX7_fails ∈ mbig := m_in 1002 (by decide +kernel) rfl
theorem ki_X7_here : Cond.instanceMethod yX7_here ∈ mbig := m_in 998 (by decide +kernel) rfl
theorem ki_X7_isAhead : Cond.instanceMethod yX7_isAhead ∈ mbig := m_in 1132 (by decide +kernel) rfl
theorem ki_X7_isAsked : Cond.instanceMethod yX7_isAsked ∈ mbig := m_in 1169 (by decide +kernel) rfl
theorem ki_X7_isCover : Cond.instanceMethod yX7_isCover ∈ mbig := m_in 1037 (by decide +kernel) rfl
theorem ki_X7_isDigit : Cond.instanceMethod yX7_isDigit ∈ mbig := m_in 1020 (by decide +kernel) rfl
theorem ki_X7_isLoss : Cond.instanceMethod yX7_isLoss ∈ mbig := m_in 1053 (by decide +kernel) rfl
theorem ki_X7_isRowApart : Cond.instanceMethod yX7_isRowApart ∈ mbig := m_in 1181 (by decide +kernel) rfl
theorem ki_X7_isSet : Cond.instanceMethod yX7_isSet ∈ mbig := m_in 1062 (by decide +kernel) rfl
theorem ki_X7_isTold : Cond.instanceMethod yX7_isTold ∈ mbig := m_in 1156 (by decide +kernel) rfl
theorem ki_X7_isTurn : Cond.instanceMethod yX7_isTurn ∈ mbig := m_in 1217 (by decide +kernel) rfl
theorem ki_X7_judged : Cond.instanceMethod yX7_judged ∈ mbig := m_in 1106 (by decide +kernel) rfl
theorem ki_X7_layAll : Cond.instanceMethod yX7_layAll ∈ mbig := m_in 1152 (by decide +kernel) rfl
theorem ki_X7_layPairs : Cond.instanceMethod yX7_layPairs ∈ mbig := m_in 1161 (by decide +kernel) rfl
theorem ki_X7_layRow : Cond.instanceMethod yX7_layRow ∈ mbig := m_in 1128 (by decide +kernel) rfl
theorem ki_X7_leastHour : Cond.instanceMethod yX7_leastHour ∈ mbig := m_in 1077 (by decide +kernel) rfl
theorem ki_X7_look : Cond.instanceMethod yX7_look ∈ mbig := m_in 994 (by decide +kernel) rfl
theorem ki_X7_mayBeOne : Cond.instanceMethod yX7_mayBeOne ∈ mbig := m_in 1066 (by decide +kernel) rfl
theorem ki_X7_mayNow : Cond.instanceMethod yX7_mayNow ∈ mbig := m_in 1185 (by decide +kernel) rfl
theorem ki_X7_mostHour : Cond.instanceMethod yX7_mostHour ∈ mbig := m_in 1070 (by decide +kernel) rfl
theorem ki_X7_netBy : Cond.instanceMethod yX7_netBy ∈ mbig := m_in 1140 (by decide +kernel) rfl
theorem ki_X7_number : Cond.instanceMethod yX7_number ∈ mbig := m_in 1016 (by decide +kernel) rfl
theorem ki_X7_paidOf : Cond.instanceMethod yX7_paidOf ∈ mbig := m_in 1094 (by decide +kernel) rfl
theorem ki_X7_part : Cond.instanceMethod yX7_part ∈ mbig := m_in 1189 (by decide +kernel) rfl
theorem ki_X7_partByHours : Cond.instanceMethod yX7_partByHours ∈ mbig := m_in 1173 (by decide +kernel) rfl
theorem ki_X7_put : Cond.instanceMethod yX7_put ∈ mbig := m_in 975 (by decide +kernel) rfl
theorem ki_X7_readCover : Cond.instanceMethod yX7_readCover ∈ mbig := m_in 987 (by decide +kernel) rfl
theorem ki_X7_readWord : Cond.instanceMethod yX7_readWord ∈ mbig := m_in 1006 (by decide +kernel) rfl
theorem ki_X7_sumOf : Cond.instanceMethod yX7_sumOf ∈ mbig := m_in 1090 (by decide +kernel) rfl
theorem ki_X7_toldWith : Cond.instanceMethod yX7_toldWith ∈ mbig := m_in 1114 (by decide +kernel) rfl
theorem ki_X7_wordOf : Cond.instanceMethod yX7_wordOf ∈ mbig := m_in 1041 (by decide +kernel) rfl
theorem ki_X7_worthOf : Cond.instanceMethod yX7_worthOf ∈ mbig := m_in 1233 (by decide +kernel) rfl
theorem ki_J0_coder_7d493 : Cond.instanceMethod yJ0_coder_7d493 ∈ mbig := m_in 356 (by decide +kernel) rfl
theorem ki_J0_indexOf_0f7a4 : Cond.instanceMethod yJ0_indexOf_0f7a4 ∈ mbig := m_in 338 (by decide +kernel) rfl
theorem ki_J0_indexOf_7cf53 : Cond.instanceMethod yJ0_indexOf_7cf53 ∈ mbig := m_in 342 (by decide +kernel) rfl
theorem ki_J0_isLatin1_aae02 : Cond.instanceMethod yJ0_isLatin1_aae02 ∈ mbig := m_in 346 (by decide +kernel) rfl
theorem ki_J0_length_8abf5 : Cond.instanceMethod yJ0_length_8abf5 ∈ mbig := m_in 352 (by decide +kernel) rfl
theorem km_RX7_100 : Cond.methodLink RX7 100 yX7_isDigit ∈ mbig := m_in 1018 (by decide +kernel) rfl
theorem km_RX7_107 : Cond.methodLink RX7 107 yX7_isIn ∈ mbig := m_in 1022 (by decide +kernel) rfl
theorem km_RX7_111 : Cond.methodLink RX7 111 yX7_leastOf ∈ mbig := m_in 1008 (by decide +kernel) rfl
theorem km_RX7_114 : Cond.methodLink RX7 114 yX7_mostOf ∈ mbig := m_in 1011 (by decide +kernel) rfl
theorem km_RX7_117 : Cond.methodLink RX7 117 yX7_number ∈ mbig := m_in 1014 (by decide +kernel) rfl
theorem km_RX7_123 : Cond.methodLink RX7 123 yX7_firstOf ∈ mbig := m_in 989 (by decide +kernel) rfl
theorem km_RX7_126 : Cond.methodLink RX7 126 yX7_readWord ∈ mbig := m_in 1004 (by decide +kernel) rfl
theorem km_RX7_131 : Cond.methodLink RX7 131 yJ0_indexOf_0f7a4 ∈ mbig := m_in 1026 (by decide +kernel) rfl
theorem km_RX7_136 : Cond.methodLink RX7 136 yX7_readCover ∈ mbig := m_in 985 (by decide +kernel) rfl
theorem km_RX7_139 : Cond.methodLink RX7 139 yX7_isCover ∈ mbig := m_in 1035 (by decide +kernel) rfl
theorem km_RX7_142 : Cond.methodLink RX7 142 yX7_wordOf ∈ mbig := m_in 1039 (by decide +kernel) rfl
theorem km_RX7_149 : Cond.methodLink RX7 149 yX7_isLoss ∈ mbig := m_in 1051 (by decide +kernel) rfl
theorem km_RX7_152 : Cond.methodLink RX7 152 Lib.Math.max.name ∈ mbig := m_in 1055 (by decide +kernel) rfl
theorem km_RX7_157 : Cond.methodLink RX7 157 yX7_has ∈ mbig := m_in 1072 (by decide +kernel) rfl
theorem km_RX7_160 : Cond.methodLink RX7 160 Lib.Math.min.name ∈ mbig := m_in 1079 (by decide +kernel) rfl
theorem km_RX7_163 : Cond.methodLink RX7 163 yX7_mostHour ∈ mbig := m_in 1068 (by decide +kernel) rfl
theorem km_RX7_166 : Cond.methodLink RX7 166 yX7_leastHour ∈ mbig := m_in 1075 (by decide +kernel) rfl
theorem km_RX7_169 : Cond.methodLink RX7 169 yX7_areNear ∈ mbig := m_in 1080 (by decide +kernel) rfl
theorem km_RX7_172 : Cond.methodLink RX7 172 yX7_isSet ∈ mbig := m_in 1060 (by decide +kernel) rfl
theorem km_RX7_175 : Cond.methodLink RX7 175 yX7_mayBeOne ∈ mbig := m_in 1064 (by decide +kernel) rfl
theorem km_RX7_178 : Cond.methodLink RX7 178 yX7_sumOf ∈ mbig := m_in 1088 (by decide +kernel) rfl
theorem km_RX7_181 : Cond.methodLink RX7 181 yX7_paidOf ∈ mbig := m_in 1092 (by decide +kernel) rfl
theorem km_RX7_187 : Cond.methodLink RX7 187 yJ6_numberOfTrailingZeros_0f7a4 ∈ mbig := m_in 1120 (by decide +kernel) rfl
theorem km_RX7_192 : Cond.methodLink RX7 192 yX7_isAhead ∈ mbig := m_in 1130 (by decide +kernel) rfl
theorem km_RX7_201 : Cond.methodLink RX7 201 yX7_bringsBy ∈ mbig := m_in 1134 (by decide +kernel) rfl
theorem km_RX7_204 : Cond.methodLink RX7 204 yX7_toldWith ∈ mbig := m_in 1112 (by decide +kernel) rfl
theorem km_RX7_207 : Cond.methodLink RX7 207 yX7_areApart ∈ mbig := m_in 1116 (by decide +kernel) rfl
theorem km_RX7_210 : Cond.methodLink RX7 210 yX7_bars ∈ mbig := m_in 1108 (by decide +kernel) rfl
theorem km_RX7_213 : Cond.methodLink RX7 213 yX7_judged ∈ mbig := m_in 1104 (by decide +kernel) rfl
theorem km_RX7_217 : Cond.methodLink RX7 217 yX7_layRow ∈ mbig := m_in 1126 (by decide +kernel) rfl
theorem km_RX7_220 : Cond.methodLink RX7 220 yX7_netBy ∈ mbig := m_in 1138 (by decide +kernel) rfl
theorem km_RX7_223 : Cond.methodLink RX7 223 yJ6_bitCount_0f7a4 ∈ mbig := m_in 1158 (by decide +kernel) rfl
theorem km_RX7_236 : Cond.methodLink RX7 236 yX7_every ∈ mbig := m_in 1163 (by decide +kernel) rfl
theorem km_RX7_239 : Cond.methodLink RX7 239 yX7_isAsked ∈ mbig := m_in 1167 (by decide +kernel) rfl
theorem km_RX7_242 : Cond.methodLink RX7 242 yX7_isRowApart ∈ mbig := m_in 1179 (by decide +kernel) rfl
theorem km_RX7_266 : Cond.methodLink RX7 266 yX7_counts ∈ mbig := m_in 1175 (by decide +kernel) rfl
theorem km_RX7_272 : Cond.methodLink RX7 272 yX7_part ∈ mbig := m_in 1187 (by decide +kernel) rfl
theorem km_RX7_275 : Cond.methodLink RX7 275 yX7_mayNow ∈ mbig := m_in 1183 (by decide +kernel) rfl
theorem km_RX7_278 : Cond.methodLink RX7 278 yX7_partByHours ∈ mbig := m_in 1171 (by decide +kernel) rfl
theorem km_RX7_281 : Cond.methodLink RX7 281 yX7_isTold ∈ mbig := m_in 1154 (by decide +kernel) rfl
theorem km_RX7_284 : Cond.methodLink RX7 284 yX7_layPairs ∈ mbig := m_in 1159 (by decide +kernel) rfl
theorem km_RX7_287 : Cond.methodLink RX7 287 yX7_layAll ∈ mbig := m_in 1150 (by decide +kernel) rfl
theorem km_RX7_290 : Cond.methodLink RX7 290 yX7_isTurn ∈ mbig := m_in 1215 (by decide +kernel) rfl
theorem km_RX7_299 : Cond.methodLink RX7 299 yX7_worthOf ∈ mbig := m_in 1231 (by decide +kernel) rfl
theorem km_RX7_75 : Cond.methodLink RX7 75 yX7_bytesIn ∈ mbig := m_in 970 (by decide +kernel) rfl
theorem km_RX7_79 : Cond.methodLink RX7 79 yX7_put ∈ mbig := m_in 973 (by decide +kernel) rfl
theorem km_RX7_86 : Cond.methodLink RX7 86 yX7_here ∈ mbig := m_in 996 (by decide +kernel) rfl
theorem km_RX7_93 : Cond.methodLink RX7 93 yX7_fails ∈ mbig := m_in 1000 (by decide +kernel) rfl
theorem km_RX7_97 : Cond.methodLink RX7 97 yX7_look ∈ mbig := m_in 992 (by decide +kernel) rfl
theorem km_RJ0_335 : Cond.methodLink RJ0 335 yJ0_coder_7d493 ∈ mbig := m_in 355 (by decide +kernel) rfl
theorem km_RJ0_492 : Cond.methodLink RJ0 492 yJ0_isLatin1_aae02 ∈ mbig := m_in 345 (by decide +kernel) rfl
theorem km_RJ0_505 : Cond.methodLink RJ0 505 yJ0_length_8abf5 ∈ mbig := m_in 351 (by decide +kernel) rfl
theorem km_RJ0_633 : Cond.methodLink RJ0 633 yJ0_indexOf_7cf53 ∈ mbig := m_in 341 (by decide +kernel) rfl
theorem km_RJ0_637 : Cond.methodLink RJ0 637 yJ1_indexOf_4cfef ∈ mbig := m_in 359 (by decide +kernel) rfl
theorem km_RJ1_38 : Cond.methodLink RJ1 38 Lib.Math.min.name ∈ mbig := m_in 368 (by decide +kernel) rfl
theorem km_RJ1_88 : Cond.methodLink RJ1 88 yJ1_canEncode_9a6ad ∈ mbig := m_in 362 (by decide +kernel) rfl
theorem km_RJ1_92 : Cond.methodLink RJ1 92 Lib.Math.max.name ∈ mbig := m_in 365 (by decide +kernel) rfl
theorem km_RJ1_95 : Cond.methodLink RJ1 95 yJ1_indexOfChar_4cfef ∈ mbig := m_in 371 (by decide +kernel) rfl
theorem ks_RX7_X7_areApart : Cond.selects RX7 yX7_areApart yX7_areApart ∈ mbig := m_in 40 (by decide +kernel) rfl
theorem ks_RX7_X7_areNear : Cond.selects RX7 yX7_areNear yX7_areNear ∈ mbig := m_in 34 (by decide +kernel) rfl
theorem ks_RX7_X7_bars : Cond.selects RX7 yX7_bars yX7_bars ∈ mbig := m_in 38 (by decide +kernel) rfl
theorem ks_RX7_X7_bringsBy : Cond.selects RX7 yX7_bringsBy yX7_bringsBy ∈ mbig := m_in 43 (by decide +kernel) rfl
theorem ks_RX7_X7_counts : Cond.selects RX7 yX7_counts yX7_counts ∈ mbig := m_in 51 (by decide +kernel) rfl
theorem ks_RX7_X7_every : Cond.selects RX7 yX7_every yX7_every ∈ mbig := m_in 48 (by decide +kernel) rfl
theorem ks_RX7_X7_fails : Cond.selects RX7 yX7_fails yX7_fails ∈ mbig := m_in 23 (by decide +kernel) rfl
theorem ks_RX7_X7_here : Cond.selects RX7 yX7_here yX7_here ∈ mbig := m_in 22 (by decide +kernel) rfl
theorem ks_RX7_X7_isAhead : Cond.selects RX7 yX7_isAhead yX7_isAhead ∈ mbig := m_in 42 (by decide +kernel) rfl
theorem ks_RX7_X7_isAsked : Cond.selects RX7 yX7_isAsked yX7_isAsked ∈ mbig := m_in 49 (by decide +kernel) rfl
theorem ks_RX7_X7_isCover : Cond.selects RX7 yX7_isCover yX7_isCover ∈ mbig := m_in 27 (by decide +kernel) rfl
theorem ks_RX7_X7_isDigit : Cond.selects RX7 yX7_isDigit yX7_isDigit ∈ mbig := m_in 26 (by decide +kernel) rfl
theorem ks_RX7_X7_isLoss : Cond.selects RX7 yX7_isLoss yX7_isLoss ∈ mbig := m_in 29 (by decide +kernel) rfl
theorem ks_RX7_X7_isRowApart : Cond.selects RX7 yX7_isRowApart yX7_isRowApart ∈ mbig := m_in 52 (by decide +kernel) rfl
theorem ks_RX7_X7_isSet : Cond.selects RX7 yX7_isSet yX7_isSet ∈ mbig := m_in 30 (by decide +kernel) rfl
theorem ks_RX7_X7_isTold : Cond.selects RX7 yX7_isTold yX7_isTold ∈ mbig := m_in 46 (by decide +kernel) rfl
theorem ks_RX7_X7_isTurn : Cond.selects RX7 yX7_isTurn yX7_isTurn ∈ mbig := m_in 55 (by decide +kernel) rfl
theorem ks_RX7_X7_judged : Cond.selects RX7 yX7_judged yX7_judged ∈ mbig := m_in 37 (by decide +kernel) rfl
theorem ks_RX7_X7_layAll : Cond.selects RX7 yX7_layAll yX7_layAll ∈ mbig := m_in 45 (by decide +kernel) rfl
theorem ks_RX7_X7_layPairs : Cond.selects RX7 yX7_layPairs yX7_layPairs ∈ mbig := m_in 47 (by decide +kernel) rfl
theorem ks_RX7_X7_layRow : Cond.selects RX7 yX7_layRow yX7_layRow ∈ mbig := m_in 41 (by decide +kernel) rfl
theorem ks_RX7_X7_leastHour : Cond.selects RX7 yX7_leastHour yX7_leastHour ∈ mbig := m_in 33 (by decide +kernel) rfl
theorem ks_RX7_X7_look : Cond.selects RX7 yX7_look yX7_look ∈ mbig := m_in 21 (by decide +kernel) rfl
theorem ks_RX7_X7_mayBeOne : Cond.selects RX7 yX7_mayBeOne yX7_mayBeOne ∈ mbig := m_in 31 (by decide +kernel) rfl
theorem ks_RX7_X7_mayNow : Cond.selects RX7 yX7_mayNow yX7_mayNow ∈ mbig := m_in 53 (by decide +kernel) rfl
theorem ks_RX7_X7_mostHour : Cond.selects RX7 yX7_mostHour yX7_mostHour ∈ mbig := m_in 32 (by decide +kernel) rfl
theorem ks_RX7_X7_netBy : Cond.selects RX7 yX7_netBy yX7_netBy ∈ mbig := m_in 44 (by decide +kernel) rfl
theorem ks_RX7_X7_number : Cond.selects RX7 yX7_number yX7_number ∈ mbig := m_in 25 (by decide +kernel) rfl
theorem ks_RX7_X7_paidOf : Cond.selects RX7 yX7_paidOf yX7_paidOf ∈ mbig := m_in 36 (by decide +kernel) rfl
theorem ks_RX7_X7_part : Cond.selects RX7 yX7_part yX7_part ∈ mbig := m_in 54 (by decide +kernel) rfl
theorem ks_RX7_X7_partByHours : Cond.selects RX7 yX7_partByHours yX7_partByHours ∈ mbig := m_in 50 (by decide +kernel) rfl
theorem ks_RX7_X7_put : Cond.selects RX7 yX7_put yX7_put ∈ mbig := m_in 19 (by decide +kernel) rfl
theorem ks_RX7_X7_readCover : Cond.selects RX7 yX7_readCover yX7_readCover ∈ mbig := m_in 20 (by decide +kernel) rfl
theorem ks_RX7_X7_readWord : Cond.selects RX7 yX7_readWord yX7_readWord ∈ mbig := m_in 24 (by decide +kernel) rfl
theorem ks_RX7_X7_sumOf : Cond.selects RX7 yX7_sumOf yX7_sumOf ∈ mbig := m_in 35 (by decide +kernel) rfl
theorem ks_RX7_X7_toldWith : Cond.selects RX7 yX7_toldWith yX7_toldWith ∈ mbig := m_in 39 (by decide +kernel) rfl
theorem ks_RX7_X7_wordOf : Cond.selects RX7 yX7_wordOf yX7_wordOf ∈ mbig := m_in 28 (by decide +kernel) rfl
theorem ks_RX7_X7_worthOf : Cond.selects RX7 yX7_worthOf yX7_worthOf ∈ mbig := m_in 56 (by decide +kernel) rfl
theorem ks_RJ0_J0_coder_7d493 : Cond.selects RJ0 yJ0_coder_7d493 yJ0_coder_7d493 ∈ mbig := m_in 357 (by decide +kernel) rfl
theorem ks_RJ0_J0_indexOf_0f7a4 : Cond.selects RJ0 yJ0_indexOf_0f7a4 yJ0_indexOf_0f7a4 ∈ mbig := m_in 339 (by decide +kernel) rfl
theorem ks_RJ0_J0_indexOf_7cf53 : Cond.selects RJ0 yJ0_indexOf_7cf53 yJ0_indexOf_7cf53 ∈ mbig := m_in 343 (by decide +kernel) rfl
theorem ks_RJ0_J0_isLatin1_aae02 : Cond.selects RJ0 yJ0_isLatin1_aae02 yJ0_isLatin1_aae02 ∈ mbig := m_in 347 (by decide +kernel) rfl
theorem ks_RJ0_J0_length_8abf5 : Cond.selects RJ0 yJ0_length_8abf5 yJ0_length_8abf5 ∈ mbig := m_in 353 (by decide +kernel) rfl
theorem kt_X7_bytesIn : Cond.static yX7_bytesIn ∈ mbig := m_in 971 (by decide +kernel) rfl
theorem kt_X7_firstOf : Cond.static yX7_firstOf ∈ mbig := m_in 990 (by decide +kernel) rfl
theorem kt_X7_has : Cond.static yX7_has ∈ mbig := m_in 1073 (by decide +kernel) rfl
theorem kt_X7_isIn : Cond.static yX7_isIn ∈ mbig := m_in 1023 (by decide +kernel) rfl
theorem kt_X7_leastOf : Cond.static yX7_leastOf ∈ mbig := m_in 1009 (by decide +kernel) rfl
theorem kt_X7_mostOf : Cond.static yX7_mostOf ∈ mbig := m_in 1012 (by decide +kernel) rfl
theorem kt_J6_bitCount_0f7a4 : Cond.static yJ6_bitCount_0f7a4 ∈ mbig := m_in 636 (by decide +kernel) rfl
theorem kt_J6_numberOfTrailingZeros_0f7a4 : Cond.static yJ6_numberOfTrailingZeros_0f7a4 ∈ mbig := m_in 550 (by decide +kernel) rfl
theorem kt_J9_max_7cf53 : Cond.static Lib.Math.max.name ∈ mbig := m_in 366 (by decide +kernel) rfl
theorem kt_J9_min_7cf53 : Cond.static Lib.Math.min.name ∈ mbig := m_in 369 (by decide +kernel) rfl
theorem kt_J1_canEncode_9a6ad : Cond.static yJ1_canEncode_9a6ad ∈ mbig := m_in 363 (by decide +kernel) rfl
theorem kt_J1_indexOf_4cfef : Cond.static yJ1_indexOf_4cfef ∈ mbig := m_in 360 (by decide +kernel) rfl
theorem kt_J1_indexOfChar_4cfef : Cond.static yJ1_indexOfChar_4cfef ∈ mbig := m_in 372 (by decide +kernel) rfl
theorem kk_RX7_100 : m_cal RX7 100 yX7_isDigit cX7_isDigit 1 (some .boolean) := ⟨km_RX7_100, kc_X7_isDigit, kz_RX7, by decide, by decide, by decide⟩
theorem kk_RX7_107 : m_cal RX7 107 yX7_isIn cX7_isIn 3 (some .boolean) := ⟨km_RX7_107, kc_X7_isIn, kz_RX7, by decide, by decide, by decide⟩
theorem kk_RX7_111 : m_cal RX7 111 yX7_leastOf cX7_leastOf 1 (some .int) := ⟨km_RX7_111, kc_X7_leastOf, kz_RX7, by decide, by decide, by decide⟩
theorem kk_RX7_114 : m_cal RX7 114 yX7_mostOf cX7_mostOf 1 (some .int) := ⟨km_RX7_114, kc_X7_mostOf, kz_RX7, by decide, by decide, by decide⟩
theorem kk_RX7_117 : m_cal RX7 117 yX7_number cX7_number 3 (some .boolean) := ⟨km_RX7_117, kc_X7_number, kz_RX7, by decide, by decide, by decide⟩
theorem kk_RX7_123 : m_cal RX7 123 yX7_firstOf cX7_firstOf 1 (some .int) := ⟨km_RX7_123, kc_X7_firstOf, kz_RX7, by decide, by decide, by decide⟩
theorem kk_RX7_126 : m_cal RX7 126 yX7_readWord cX7_readWord 2 (some .boolean) := ⟨km_RX7_126, kc_X7_readWord, kz_RX7, by decide, by decide, by decide⟩
theorem kk_RX7_131 : m_cal RX7 131 yJ0_indexOf_0f7a4 cJ0_indexOf_0f7a4 2 (some .int) := ⟨km_RX7_131, kc_J0_indexOf_0f7a4, kz_RJ0, by decide, by decide, by decide⟩
theorem kk_RX7_136 : m_cal RX7 136 yX7_readCover cX7_readCover 2 (some .boolean) := ⟨km_RX7_136, kc_X7_readCover, kz_RX7, by decide, by decide, by decide⟩
theorem kk_RX7_139 : m_cal RX7 139 yX7_isCover cX7_isCover 2 (some .boolean) := ⟨km_RX7_139, kc_X7_isCover, kz_RX7, by decide, by decide, by decide⟩
theorem kk_RX7_142 : m_cal RX7 142 yX7_wordOf cX7_wordOf 3 (some .int) := ⟨km_RX7_142, kc_X7_wordOf, kz_RX7, by decide, by decide, by decide⟩
theorem kk_RX7_149 : m_cal RX7 149 yX7_isLoss cX7_isLoss 2 (some .boolean) := ⟨km_RX7_149, kc_X7_isLoss, kz_RX7, by decide, by decide, by decide⟩
theorem kk_RX7_157 : m_cal RX7 157 yX7_has cX7_has 2 (some .boolean) := ⟨km_RX7_157, kc_X7_has, kz_RX7, by decide, by decide, by decide⟩
theorem kk_RX7_163 : m_cal RX7 163 yX7_mostHour cX7_mostHour 4 (some .int) := ⟨km_RX7_163, kc_X7_mostHour, kz_RX7, by decide, by decide, by decide⟩
theorem kk_RX7_166 : m_cal RX7 166 yX7_leastHour cX7_leastHour 4 (some .int) := ⟨km_RX7_166, kc_X7_leastHour, kz_RX7, by decide, by decide, by decide⟩
theorem kk_RX7_169 : m_cal RX7 169 yX7_areNear cX7_areNear 6 (some .boolean) := ⟨km_RX7_169, kc_X7_areNear, kz_RX7, by decide, by decide, by decide⟩
theorem kk_RX7_172 : m_cal RX7 172 yX7_isSet cX7_isSet 2 (some .boolean) := ⟨km_RX7_172, kc_X7_isSet, kz_RX7, by decide, by decide, by decide⟩
theorem kk_RX7_175 : m_cal RX7 175 yX7_mayBeOne cX7_mayBeOne 6 (some .boolean) := ⟨km_RX7_175, kc_X7_mayBeOne, kz_RX7, by decide, by decide, by decide⟩
theorem kk_RX7_178 : m_cal RX7 178 yX7_sumOf cX7_sumOf 4 (some .int) := ⟨km_RX7_178, kc_X7_sumOf, kz_RX7, by decide, by decide, by decide⟩
theorem kk_RX7_181 : m_cal RX7 181 yX7_paidOf cX7_paidOf 3 (some .int) := ⟨km_RX7_181, kc_X7_paidOf, kz_RX7, by decide, by decide, by decide⟩
theorem kk_RX7_187 : m_cal RX7 187 yJ6_numberOfTrailingZeros_0f7a4 cJ6_numberOfTrailingZeros_0f7a4 2 (some .int) := ⟨km_RX7_187, kc_J6_numberOfTrailingZeros_0f7a4, kz_RJ6, by decide, by decide, by decide⟩
theorem kk_RX7_192 : m_cal RX7 192 yX7_isAhead cX7_isAhead 4 (some .boolean) := ⟨km_RX7_192, kc_X7_isAhead, kz_RX7, by decide, by decide, by decide⟩
theorem kk_RX7_201 : m_cal RX7 201 yX7_bringsBy cX7_bringsBy 4 (some .int) := ⟨km_RX7_201, kc_X7_bringsBy, kz_RX7, by decide, by decide, by decide⟩
theorem kk_RX7_204 : m_cal RX7 204 yX7_toldWith cX7_toldWith 4 (some .int) := ⟨km_RX7_204, kc_X7_toldWith, kz_RX7, by decide, by decide, by decide⟩
theorem kk_RX7_207 : m_cal RX7 207 yX7_areApart cX7_areApart 4 (some .boolean) := ⟨km_RX7_207, kc_X7_areApart, kz_RX7, by decide, by decide, by decide⟩
theorem kk_RX7_210 : m_cal RX7 210 yX7_bars cX7_bars 4 (some .boolean) := ⟨km_RX7_210, kc_X7_bars, kz_RX7, by decide, by decide, by decide⟩
theorem kk_RX7_213 : m_cal RX7 213 yX7_judged cX7_judged 5 (some .int) := ⟨km_RX7_213, kc_X7_judged, kz_RX7, by decide, by decide, by decide⟩
theorem kk_RX7_217 : m_cal RX7 217 yX7_layRow cX7_layRow 7 none := ⟨km_RX7_217, kc_X7_layRow, kz_RX7, by decide, by decide, by decide⟩
theorem kk_RX7_220 : m_cal RX7 220 yX7_netBy cX7_netBy 4 (some .int) := ⟨km_RX7_220, kc_X7_netBy, kz_RX7, by decide, by decide, by decide⟩
theorem kk_RX7_223 : m_cal RX7 223 yJ6_bitCount_0f7a4 cJ6_bitCount_0f7a4 1 (some .int) := ⟨km_RX7_223, kc_J6_bitCount_0f7a4, kz_RJ6, by decide, by decide, by decide⟩
theorem kk_RX7_236 : m_cal RX7 236 yX7_every cX7_every 1 (some .int) := ⟨km_RX7_236, kc_X7_every, kz_RX7, by decide, by decide, by decide⟩
theorem kk_RX7_239 : m_cal RX7 239 yX7_isAsked cX7_isAsked 2 (some .boolean) := ⟨km_RX7_239, kc_X7_isAsked, kz_RX7, by decide, by decide, by decide⟩
theorem kk_RX7_242 : m_cal RX7 242 yX7_isRowApart cX7_isRowApart 3 (some .boolean) := ⟨km_RX7_242, kc_X7_isRowApart, kz_RX7, by decide, by decide, by decide⟩
theorem kk_RX7_266 : m_cal RX7 266 yX7_counts cX7_counts 3 none := ⟨km_RX7_266, kc_X7_counts, kz_RX7, by decide, by decide, by decide⟩
theorem kk_RX7_272 : m_cal RX7 272 yX7_part cX7_part 4 none := ⟨km_RX7_272, kc_X7_part, kz_RX7, by decide, by decide, by decide⟩
theorem kk_RX7_275 : m_cal RX7 275 yX7_mayNow cX7_mayNow 3 (some .boolean) := ⟨km_RX7_275, kc_X7_mayNow, kz_RX7, by decide, by decide, by decide⟩
theorem kk_RX7_278 : m_cal RX7 278 yX7_partByHours cX7_partByHours 5 none := ⟨km_RX7_278, kc_X7_partByHours, kz_RX7, by decide, by decide, by decide⟩
theorem kk_RX7_281 : m_cal RX7 281 yX7_isTold cX7_isTold 3 (some .boolean) := ⟨km_RX7_281, kc_X7_isTold, kz_RX7, by decide, by decide, by decide⟩
theorem kk_RX7_284 : m_cal RX7 284 yX7_layPairs cX7_layPairs 4 none := ⟨km_RX7_284, kc_X7_layPairs, kz_RX7, by decide, by decide, by decide⟩
theorem kk_RX7_287 : m_cal RX7 287 yX7_layAll cX7_layAll 3 (some .boolean) := ⟨km_RX7_287, kc_X7_layAll, kz_RX7, by decide, by decide, by decide⟩
theorem kk_RX7_290 : m_cal RX7 290 yX7_isTurn cX7_isTurn 4 (some .boolean) := ⟨km_RX7_290, kc_X7_isTurn, kz_RX7, by decide, by decide, by decide⟩
theorem kk_RX7_299 : m_cal RX7 299 yX7_worthOf cX7_worthOf 4 (some .int) := ⟨km_RX7_299, kc_X7_worthOf, kz_RX7, by decide, by decide, by decide⟩
theorem kk_RX7_75 : m_cal RX7 75 yX7_bytesIn cX7_bytesIn 3 (some .int) := ⟨km_RX7_75, kc_X7_bytesIn, kz_RX7, by decide, by decide, by decide⟩
theorem kk_RX7_79 : m_cal RX7 79 yX7_put cX7_put 3 none := ⟨km_RX7_79, kc_X7_put, kz_RX7, by decide, by decide, by decide⟩
theorem kk_RX7_86 : m_cal RX7 86 yX7_here cX7_here 1 (some .int) := ⟨km_RX7_86, kc_X7_here, kz_RX7, by decide, by decide, by decide⟩
theorem kk_RX7_93 : m_cal RX7 93 yX7_fails cX7_fails 2 (some .boolean) := ⟨km_RX7_93, kc_X7_fails, kz_RX7, by decide, by decide, by decide⟩
theorem kk_RX7_97 : m_cal RX7 97 yX7_look cX7_look 1 (some .int) := ⟨km_RX7_97, kc_X7_look, kz_RX7, by decide, by decide, by decide⟩
theorem kk_RJ0_335 : m_cal RJ0 335 yJ0_coder_7d493 cJ0_coder_7d493 1 (some .byte) := ⟨km_RJ0_335, kc_J0_coder_7d493, kz_RJ0, by decide, by decide, by decide⟩
theorem kk_RJ0_492 : m_cal RJ0 492 yJ0_isLatin1_aae02 cJ0_isLatin1_aae02 1 (some .boolean) := ⟨km_RJ0_492, kc_J0_isLatin1_aae02, kz_RJ0, by decide, by decide, by decide⟩
theorem kk_RJ0_505 : m_cal RJ0 505 yJ0_length_8abf5 cJ0_length_8abf5 1 (some .int) := ⟨km_RJ0_505, kc_J0_length_8abf5, kz_RJ0, by decide, by decide, by decide⟩
theorem kk_RJ0_633 : m_cal RJ0 633 yJ0_indexOf_7cf53 cJ0_indexOf_7cf53 3 (some .int) := ⟨km_RJ0_633, kc_J0_indexOf_7cf53, kz_RJ0, by decide, by decide, by decide⟩
theorem kk_RJ0_637 : m_cal RJ0 637 yJ1_indexOf_4cfef cJ1_indexOf_4cfef 4 (some .int) := ⟨km_RJ0_637, kc_J1_indexOf_4cfef, kz_RJ1, by decide, by decide, by decide⟩
theorem kk_RJ1_88 : m_cal RJ1 88 yJ1_canEncode_9a6ad cJ1_canEncode_9a6ad 1 (some .boolean) := ⟨km_RJ1_88, kc_J1_canEncode_9a6ad, kz_RJ1, by decide, by decide, by decide⟩
theorem kk_RJ1_95 : m_cal RJ1 95 yJ1_indexOfChar_4cfef cJ1_indexOfChar_4cfef 6 (some .int) := ⟨km_RJ1_95, kc_J1_indexOfChar_4cfef, kz_RJ1, by decide, by decide, by decide⟩
theorem np_X7_areApart : (parseMethodDescriptor yX7_areApart.desc).map (fun d => d.parameters.length) = some 3 := by decide +kernel
theorem np_X7_areNear : (parseMethodDescriptor yX7_areNear.desc).map (fun d => d.parameters.length) = some 3 := by decide +kernel
theorem np_X7_bars : (parseMethodDescriptor yX7_bars.desc).map (fun d => d.parameters.length) = some 3 := by decide +kernel
theorem np_X7_bringsBy : (parseMethodDescriptor yX7_bringsBy.desc).map (fun d => d.parameters.length) = some 1 := by decide +kernel
theorem np_X7_bytesIn : (parseMethodDescriptor yX7_bytesIn.desc).map (fun d => d.parameters.length) = some 1 := by decide +kernel
theorem np_X7_counts : (parseMethodDescriptor yX7_counts.desc).map (fun d => d.parameters.length) = some 0 := by decide +kernel
theorem np_X7_every : (parseMethodDescriptor yX7_every.desc).map (fun d => d.parameters.length) = some 0 := by decide +kernel
theorem np_X7_fails : (parseMethodDescriptor yX7_fails.desc).map (fun d => d.parameters.length) = some 1 := by decide +kernel
theorem np_X7_firstOf : (parseMethodDescriptor yX7_firstOf.desc).map (fun d => d.parameters.length) = some 1 := by decide +kernel
theorem np_X7_has : (parseMethodDescriptor yX7_has.desc).map (fun d => d.parameters.length) = some 2 := by decide +kernel
theorem np_X7_here : (parseMethodDescriptor yX7_here.desc).map (fun d => d.parameters.length) = some 0 := by decide +kernel
theorem np_X7_isAhead : (parseMethodDescriptor yX7_isAhead.desc).map (fun d => d.parameters.length) = some 3 := by decide +kernel
theorem np_X7_isAsked : (parseMethodDescriptor yX7_isAsked.desc).map (fun d => d.parameters.length) = some 1 := by decide +kernel
theorem np_X7_isCover : (parseMethodDescriptor yX7_isCover.desc).map (fun d => d.parameters.length) = some 1 := by decide +kernel
theorem np_X7_isDigit : (parseMethodDescriptor yX7_isDigit.desc).map (fun d => d.parameters.length) = some 0 := by decide +kernel
theorem np_X7_isIn : (parseMethodDescriptor yX7_isIn.desc).map (fun d => d.parameters.length) = some 3 := by decide +kernel
theorem np_X7_isLoss : (parseMethodDescriptor yX7_isLoss.desc).map (fun d => d.parameters.length) = some 1 := by decide +kernel
theorem np_X7_isRowApart : (parseMethodDescriptor yX7_isRowApart.desc).map (fun d => d.parameters.length) = some 1 := by decide +kernel
theorem np_X7_isSet : (parseMethodDescriptor yX7_isSet.desc).map (fun d => d.parameters.length) = some 1 := by decide +kernel
theorem np_X7_isTold : (parseMethodDescriptor yX7_isTold.desc).map (fun d => d.parameters.length) = some 2 := by decide +kernel
theorem np_X7_isTurn : (parseMethodDescriptor yX7_isTurn.desc).map (fun d => d.parameters.length) = some 1 := by decide +kernel
theorem np_X7_judged : (parseMethodDescriptor yX7_judged.desc).map (fun d => d.parameters.length) = some 1 := by decide +kernel
theorem np_X7_layAll : (parseMethodDescriptor yX7_layAll.desc).map (fun d => d.parameters.length) = some 2 := by decide +kernel
theorem np_X7_layPairs : (parseMethodDescriptor yX7_layPairs.desc).map (fun d => d.parameters.length) = some 0 := by decide +kernel
theorem np_X7_layRow : (parseMethodDescriptor yX7_layRow.desc).map (fun d => d.parameters.length) = some 0 := by decide +kernel
theorem np_X7_leastHour : (parseMethodDescriptor yX7_leastHour.desc).map (fun d => d.parameters.length) = some 1 := by decide +kernel
theorem np_X7_leastOf : (parseMethodDescriptor yX7_leastOf.desc).map (fun d => d.parameters.length) = some 1 := by decide +kernel
theorem np_X7_look : (parseMethodDescriptor yX7_look.desc).map (fun d => d.parameters.length) = some 0 := by decide +kernel
theorem np_X7_mayBeOne : (parseMethodDescriptor yX7_mayBeOne.desc).map (fun d => d.parameters.length) = some 2 := by decide +kernel
theorem np_X7_mayNow : (parseMethodDescriptor yX7_mayNow.desc).map (fun d => d.parameters.length) = some 1 := by decide +kernel
theorem np_X7_mostHour : (parseMethodDescriptor yX7_mostHour.desc).map (fun d => d.parameters.length) = some 1 := by decide +kernel
theorem np_X7_mostOf : (parseMethodDescriptor yX7_mostOf.desc).map (fun d => d.parameters.length) = some 1 := by decide +kernel
theorem np_X7_netBy : (parseMethodDescriptor yX7_netBy.desc).map (fun d => d.parameters.length) = some 1 := by decide +kernel
theorem np_X7_number : (parseMethodDescriptor yX7_number.desc).map (fun d => d.parameters.length) = some 2 := by decide +kernel
theorem np_X7_paidOf : (parseMethodDescriptor yX7_paidOf.desc).map (fun d => d.parameters.length) = some 2 := by decide +kernel
theorem np_X7_part : (parseMethodDescriptor yX7_part.desc).map (fun d => d.parameters.length) = some 1 := by decide +kernel
theorem np_X7_partByHours : (parseMethodDescriptor yX7_partByHours.desc).map (fun d => d.parameters.length) = some 1 := by decide +kernel
theorem np_X7_put : (parseMethodDescriptor yX7_put.desc).map (fun d => d.parameters.length) = some 1 := by decide +kernel
theorem np_X7_readCover : (parseMethodDescriptor yX7_readCover.desc).map (fun d => d.parameters.length) = some 0 := by decide +kernel
theorem np_X7_readWord : (parseMethodDescriptor yX7_readWord.desc).map (fun d => d.parameters.length) = some 1 := by decide +kernel
theorem np_X7_sumOf : (parseMethodDescriptor yX7_sumOf.desc).map (fun d => d.parameters.length) = some 1 := by decide +kernel
theorem np_X7_toldWith : (parseMethodDescriptor yX7_toldWith.desc).map (fun d => d.parameters.length) = some 1 := by decide +kernel
theorem np_X7_wordOf : (parseMethodDescriptor yX7_wordOf.desc).map (fun d => d.parameters.length) = some 2 := by decide +kernel
theorem np_X7_worthOf : (parseMethodDescriptor yX7_worthOf.desc).map (fun d => d.parameters.length) = some 1 := by decide +kernel
theorem np_J6_bitCount_0f7a4 : (parseMethodDescriptor yJ6_bitCount_0f7a4.desc).map (fun d => d.parameters.length) = some 1 := by decide +kernel
theorem np_J6_numberOfTrailingZeros_0f7a4 : (parseMethodDescriptor yJ6_numberOfTrailingZeros_0f7a4.desc).map (fun d => d.parameters.length) = some 1 := by decide +kernel
theorem np_J0_coder_7d493 : (parseMethodDescriptor yJ0_coder_7d493.desc).map (fun d => d.parameters.length) = some 0 := by decide +kernel
theorem np_J0_indexOf_0f7a4 : (parseMethodDescriptor yJ0_indexOf_0f7a4.desc).map (fun d => d.parameters.length) = some 1 := by decide +kernel
theorem np_J0_indexOf_7cf53 : (parseMethodDescriptor yJ0_indexOf_7cf53.desc).map (fun d => d.parameters.length) = some 2 := by decide +kernel
theorem np_J0_isLatin1_aae02 : (parseMethodDescriptor yJ0_isLatin1_aae02.desc).map (fun d => d.parameters.length) = some 0 := by decide +kernel
theorem np_J0_length_8abf5 : (parseMethodDescriptor yJ0_length_8abf5.desc).map (fun d => d.parameters.length) = some 0 := by decide +kernel
theorem np_J1_canEncode_9a6ad : (parseMethodDescriptor yJ1_canEncode_9a6ad.desc).map (fun d => d.parameters.length) = some 1 := by decide +kernel
theorem np_J1_indexOf_4cfef : (parseMethodDescriptor yJ1_indexOf_4cfef.desc).map (fun d => d.parameters.length) = some 4 := by decide +kernel
theorem np_J1_indexOfChar_4cfef : (parseMethodDescriptor yJ1_indexOfChar_4cfef.desc).map (fun d => d.parameters.length) = some 4 := by decide +kernel
theorem iX7 : ∀ v ∈ u_ws RX7 TX7 42, v ∈ mbig := by decide +kernel
