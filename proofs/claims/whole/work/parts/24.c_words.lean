theorem kc_X0_asksCauses : Cond.code yX0_asksCauses cX0_asksCauses 1 (some .boolean) ∈ mbig := m_in 489 (by decide +kernel) rfl
theorem kc_X0_bringFor : Cond.code yX0_bringFor cX0_bringFor 2 (some .int) ∈ mbig := m_in 573 (by decide +kernel) rfl
theorem kc_X0_copyFrom : Cond.code yX0_copyFrom cX0_copyFrom 2 none ∈ mbig := m_in 450 (by decide +kernel) rfl
theorem kc_X0_forget : Cond.code yX0_forget cX0_forget 1 none ∈ mbig := m_in 323 (by decide +kernel) rfl
theorem kc_X0_narrowBy : Cond.code yX0_narrowBy cX0_narrowBy 7 none ∈ mbig := m_in 618 (by decide +kernel) rfl
theorem kc_X0_netOf : Cond.code yX0_netOf cX0_netOf 5 (some .int) ∈ mbig := m_in 581 (by decide +kernel) rfl
theorem kc_X0_overlaps : Cond.code yX0_overlaps cX0_overlaps 1 (some .boolean) ∈ mbig := m_in 530 (by decide +kernel) rfl
theorem kc_X0_payFor : Cond.code yX0_payFor cX0_payFor 3 (some .int) ∈ mbig := m_in 505 (by decide +kernel) rfl
theorem kc_X0_share : Cond.code yX0_share cX0_share 1 (some .int) ∈ mbig := m_in 577 (by decide +kernel) rfl
theorem kc_X0_tell : Cond.code yX0_tell cX0_tell 3 (some .boolean) ∈ mbig := m_in 434 (by decide +kernel) rfl
theorem kc_X0_whatOf : Cond.code yX0_whatOf cX0_whatOf 1 (some .int) ∈ mbig := m_in 335 (by decide +kernel) rfl
theorem kc_X1_all : Cond.code yX1_all cX1_all 1 (some .int) ∈ mbig := m_in 471 (by decide +kernel) rfl
theorem kc_X1_areNear : Cond.code yX1_areNear cX1_areNear 7 (some .boolean) ∈ mbig := m_in 482 (by decide +kernel) rfl
theorem kc_X1_areOne : Cond.code yX1_areOne cX1_areOne 6 (some .boolean) ∈ mbig := m_in 475 (by decide +kernel) rfl
theorem kc_X1_greatestHourOf : Cond.code yX1_greatestHourOf cX1_greatestHourOf 4 (some .int) ∈ mbig := m_in 542 (by decide +kernel) rfl
theorem kc_X1_has : Cond.code yX1_has cX1_has 2 (some .boolean) ∈ mbig := m_in 513 (by decide +kernel) rfl
theorem kc_X1_hasAll : Cond.code yX1_hasAll cX1_hasAll 2 (some .boolean) ∈ mbig := m_in 467 (by decide +kernel) rfl
theorem kc_X1_isIn : Cond.code yX1_isIn cX1_isIn 2 (some .boolean) ∈ mbig := m_in 478 (by decide +kernel) rfl
theorem kc_X1_leastHourOf : Cond.code yX1_leastHourOf cX1_leastHourOf 4 (some .int) ∈ mbig := m_in 547 (by decide +kernel) rfl
theorem kc_X1_putInRow : Cond.code yX1_putInRow cX1_putInRow 6 (some .int) ∈ mbig := m_in 566 (by decide +kernel) rfl
theorem kc_X1_someAreApartBy : Cond.code yX1_someAreApartBy cX1_someAreApartBy 4 (some .boolean) ∈ mbig := m_in 737 (by decide +kernel) rfl
theorem kc_X1_standsAnewAt : Cond.code yX1_standsAnewAt cX1_standsAnewAt 11 (some .boolean) ∈ mbig := m_in 697 (by decide +kernel) rfl
theorem kc_X1_sumBefore : Cond.code yX1_sumBefore cX1_sumBefore 5 (some .int) ∈ mbig := m_in 501 (by decide +kernel) rfl
theorem kc_X1_sumOf : Cond.code yX1_sumOf cX1_sumOf 2 (some .int) ∈ mbig := m_in 497 (by decide +kernel) rfl
theorem kc_X2_bringFor : Cond.code yX2_bringFor cX2_bringFor 7 (some .int) ∈ mbig := m_in 685 (by decide +kernel) rfl
theorem kc_X2_clear : Cond.code yX2_clear cX2_clear 1 none ∈ mbig := m_in 605 (by decide +kernel) rfl
theorem kc_X2_isEmpty : Cond.code yX2_isEmpty cX2_isEmpty 1 (some .boolean) ∈ mbig := m_in 613 (by decide +kernel) rfl
theorem kc_X2_join : Cond.code yX2_join cX2_join 2 none ∈ mbig := m_in 624 (by decide +kernel) rfl
theorem kc_X2_price : Cond.code yX2_price cX2_price 5 none ∈ mbig := m_in 671 (by decide +kernel) rfl
theorem kc_X3_areOne : Cond.code yX3_areOne cX3_areOne 4 (some .boolean) ∈ mbig := m_in 654 (by decide +kernel) rfl
theorem kc_X3_findFor : Cond.code yX3_findFor cX3_findFor 3 (some .boolean) ∈ mbig := m_in 597 (by decide +kernel) rfl
theorem kc_X3_findForJoined : Cond.code yX3_findForJoined cX3_findForJoined 3 (some .boolean) ∈ mbig := m_in 629 (by decide +kernel) rfl
theorem kc_X3_isToldFor : Cond.code yX3_isToldFor cX3_isToldFor 2 (some .boolean) ∈ mbig := m_in 633 (by decide +kernel) rfl
theorem kc_X3_join : Cond.code yX3_join cX3_join 2 none ∈ mbig := m_in 609 (by decide +kernel) rfl
theorem kc_X3_list : Cond.code yX3_list cX3_list 2 none ∈ mbig := m_in 659 (by decide +kernel) rfl
theorem kc_X3_listRunsFrom : Cond.code yX3_listRunsFrom cX3_listRunsFrom 5 none ∈ mbig := m_in 663 (by decide +kernel) rfl
theorem kc_X3_listSetsFrom : Cond.code yX3_listSetsFrom cX3_listSetsFrom 5 none ∈ mbig := m_in 650 (by decide +kernel) rfl
theorem kc_X3_note : Cond.code yX3_note cX3_note 3 none ∈ mbig := m_in 680 (by decide +kernel) rfl
theorem kc_X3_part : Cond.code yX3_part cX3_part 8 none ∈ mbig := m_in 676 (by decide +kernel) rfl
theorem kc_X3_priceHappenings : Cond.code yX3_priceHappenings cX3_priceHappenings 4 none ∈ mbig := m_in 667 (by decide +kernel) rfl
theorem kc_X3_seeWhoIsNear : Cond.code yX3_seeWhoIsNear cX3_seeWhoIsNear 3 none ∈ mbig := m_in 645 (by decide +kernel) rfl
theorem kc_X3_startJoining : Cond.code yX3_startJoining cX3_startJoining 1 none ∈ mbig := m_in 601 (by decide +kernel) rfl
theorem kc_X4_append : Cond.code yX4_append cX4_append 4 none ∈ mbig := m_in 307 (by decide +kernel) rfl
theorem kc_X4_bytesIn : Cond.code yX4_bytesIn cX4_bytesIn 3 (some .int) ∈ mbig := m_in 303 (by decide +kernel) rfl
theorem kc_X4_isDigit : Cond.code yX4_isDigit cX4_isDigit 2 (some .boolean) ∈ mbig := m_in 426 (by decide +kernel) rfl
theorem kc_X4_pastBlanks : Cond.code yX4_pastBlanks cX4_pastBlanks 3 (some .int) ∈ mbig := m_in 332 (by decide +kernel) rfl
theorem kc_X4_readInto : Cond.code yX4_readInto cX4_readInto 7 (some .int) ∈ mbig := m_in 319 (by decide +kernel) rfl
theorem kc_X4_valueOf : Cond.code yX4_valueOf cX4_valueOf 5 (some .int) ∈ mbig := m_in 430 (by decide +kernel) rfl
theorem kc_X5_areTooNear : Cond.code yX5_areTooNear cX5_areTooNear 6 (some .boolean) ∈ mbig := m_in 538 (by decide +kernel) rfl
theorem kc_X5_bar : Cond.code yX5_bar cX5_bar 4 (some .boolean) ∈ mbig := m_in 525 (by decide +kernel) rfl
theorem kc_X5_firstBar : Cond.code yX5_firstBar cX5_firstBar 4 (some .int) ∈ mbig := m_in 521 (by decide +kernel) rfl
theorem kc_X5_happeningOf : Cond.code yX5_happeningOf cX5_happeningOf 4 (some .int) ∈ mbig := m_in 534 (by decide +kernel) rfl
theorem kc_X5_reckon : Cond.code yX5_reckon cX5_reckon 7 none ∈ mbig := m_in 561 (by decide +kernel) rfl
theorem kc_X6_coverAt : Cond.code yX6_coverAt cX6_coverAt 2 (some (.object "StormParting$Cover")) ∈ mbig := m_in 463 (by decide +kernel) rfl
theorem kc_X6_greatestByOneParting : Cond.code yX6_greatestByOneParting cX6_greatestByOneParting 4 (some .int) ∈ mbig := m_in 722 (by decide +kernel) rfl
theorem kc_X6_greatestByOwnPartings : Cond.code yX6_greatestByOwnPartings cX6_greatestByOwnPartings 6 (some .int) ∈ mbig := m_in 729 (by decide +kernel) rfl
theorem kc_X6_greatestFor : Cond.code yX6_greatestFor cX6_greatestFor 3 (some .int) ∈ mbig := m_in 702 (by decide +kernel) rfl
theorem kc_X6_isWithin : Cond.code yX6_isWithin cX6_isWithin 3 (some .boolean) ∈ mbig := m_in 437 (by decide +kernel) rfl
theorem kc_X6_lossOfGreatestWeight : Cond.code yX6_lossOfGreatestWeight cX6_lossOfGreatestWeight 7 (some .int) ∈ mbig := m_in 710 (by decide +kernel) rfl
theorem kc_J9_abs_0f7a4 : Cond.code Lib.Math.abs.name Lib.Math.abs.code 1 (some .int) ∈ mbig := m_in 485 (by decide +kernel) rfl
theorem kv_RX6_141 : Cond.constant RX6 141 (-100000000) ∈ mbig := m_in 557 (by decide +kernel) rfl
theorem kf_RX0_23 : Cond.fieldLink RX0 23 "StormParting$Cover" "AT_FIRST" "[I" ∈ mbig := m_in 324 (by decide +kernel) rfl
theorem kf_RX0_36 : Cond.fieldLink RX0 36 "StormParting$Cover" "LEAST" "[I" ∈ mbig := m_in 438 (by decide +kernel) rfl
theorem kf_RX0_39 : Cond.fieldLink RX0 39 "StormParting$Cover" "GREATEST" "[I" ∈ mbig := m_in 440 (by decide +kernel) rfl
theorem kf_RX0_9 : Cond.fieldLink RX0 9 "StormParting$Cover" "words" "[I" ∈ mbig := m_in 108 (by decide +kernel) rfl
theorem kf_RX1_15 : Cond.fieldLink RX1 15 "StormParting$Losses" "hours" "[I" ∈ mbig := m_in 126 (by decide +kernel) rfl
theorem kf_RX1_21 : Cond.fieldLink RX1 21 "StormParting$Losses" "xs" "[I" ∈ mbig := m_in 131 (by decide +kernel) rfl
theorem kf_RX1_24 : Cond.fieldLink RX1 24 "StormParting$Losses" "ys" "[I" ∈ mbig := m_in 133 (by decide +kernel) rfl
theorem kf_RX1_27 : Cond.fieldLink RX1 27 "StormParting$Losses" "causes" "[I" ∈ mbig := m_in 135 (by decide +kernel) rfl
theorem kf_RX1_30 : Cond.fieldLink RX1 30 "StormParting$Losses" "size" "I" ∈ mbig := m_in 138 (by decide +kernel) rfl
theorem kf_RX1_54 : Cond.fieldLink RX1 54 "StormParting$Cover" "words" "[I" ∈ mbig := m_in 113 (by decide +kernel) rfl
theorem kf_RX1_9 : Cond.fieldLink RX1 9 "StormParting$Losses" "sums" "[I" ∈ mbig := m_in 123 (by decide +kernel) rfl
theorem kf_RX2_11 : Cond.fieldLink RX2 11 "StormParting$Payers" "pays" "[I" ∈ mbig := m_in 200 (by decide +kernel) rfl
theorem kf_RX2_17 : Cond.fieldLink RX2 17 "StormParting$Payers" "often" "[I" ∈ mbig := m_in 201 (by decide +kernel) rfl
theorem kf_RX2_20 : Cond.fieldLink RX2 20 "StormParting$Payers" "shares" "[I" ∈ mbig := m_in 202 (by decide +kernel) rfl
theorem kf_RX2_23 : Cond.fieldLink RX2 23 "StormParting$Payers" "timesPaid" "[I" ∈ mbig := m_in 203 (by decide +kernel) rfl
theorem kf_RX2_28 : Cond.fieldLink RX2 28 "StormParting$Payers" "members" "[LStormParting$Cover;" ∈ mbig := m_in 204 (by decide +kernel) rfl
theorem kf_RX2_32 : Cond.fieldLink RX2 32 "StormParting$Payers" "size" "I" ∈ mbig := m_in 205 (by decide +kernel) rfl
theorem kf_RX2_36 : Cond.fieldLink RX2 36 "StormParting$Cover" "words" "[I" ∈ mbig := m_in 109 (by decide +kernel) rfl
theorem kf_RX3_100 : Cond.fieldLink RX3 100 "StormParting$Search" "happeningCount" "I" ∈ mbig := m_in 236 (by decide +kernel) rfl
theorem kf_RX3_121 : Cond.fieldLink RX3 121 "StormParting$Losses" "causes" "[I" ∈ mbig := m_in 137 (by decide +kernel) rfl
theorem kf_RX3_133 : Cond.fieldLink RX3 133 "StormParting$Losses" "hours" "[I" ∈ mbig := m_in 128 (by decide +kernel) rfl
theorem kf_RX3_136 : Cond.fieldLink RX3 136 "StormParting$Cover" "words" "[I" ∈ mbig := m_in 112 (by decide +kernel) rfl
theorem kf_RX3_139 : Cond.fieldLink RX3 139 "StormParting$Losses" "sums" "[I" ∈ mbig := m_in 125 (by decide +kernel) rfl
theorem kf_RX3_156 : Cond.fieldLink RX3 156 "StormParting$Search" "greatest" "I" ∈ mbig := m_in 219 (by decide +kernel) rfl
theorem kf_RX3_159 : Cond.fieldLink RX3 159 "StormParting$Search" "fewestForGreatest" "I" ∈ mbig := m_in 223 (by decide +kernel) rfl
theorem kf_RX3_162 : Cond.fieldLink RX3 162 "StormParting$Search" "least" "I" ∈ mbig := m_in 221 (by decide +kernel) rfl
theorem kf_RX3_165 : Cond.fieldLink RX3 165 "StormParting$Search" "fewestForLeast" "I" ∈ mbig := m_in 225 (by decide +kernel) rfl
theorem kf_RX3_18 : Cond.fieldLink RX3 18 "StormParting$Search" "joint" "LStormParting$Cover;" ∈ mbig := m_in 229 (by decide +kernel) rfl
theorem kf_RX3_25 : Cond.fieldLink RX3 25 "StormParting$Search" "payers" "LStormParting$Payers;" ∈ mbig := m_in 230 (by decide +kernel) rfl
theorem kf_RX3_29 : Cond.fieldLink RX3 29 "StormParting$Search" "row" "[I" ∈ mbig := m_in 231 (by decide +kernel) rfl
theorem kf_RX3_33 : Cond.fieldLink RX3 33 "StormParting$Search" "near" "[I" ∈ mbig := m_in 232 (by decide +kernel) rfl
theorem kf_RX3_36 : Cond.fieldLink RX3 36 "StormParting$Search" "happenings" "[I" ∈ mbig := m_in 233 (by decide +kernel) rfl
theorem kf_RX3_39 : Cond.fieldLink RX3 39 "StormParting$Search" "firstHappening" "[I" ∈ mbig := m_in 234 (by decide +kernel) rfl
theorem kf_RX3_76 : Cond.fieldLink RX3 76 "StormParting$Search" "found" "Z" ∈ mbig := m_in 227 (by decide +kernel) rfl
theorem kf_RX3_9 : Cond.fieldLink RX3 9 "StormParting$Search" "losses" "LStormParting$Losses;" ∈ mbig := m_in 228 (by decide +kernel) rfl
theorem kf_RX3_93 : Cond.fieldLink RX3 93 "StormParting$Search" "length" "I" ∈ mbig := m_in 235 (by decide +kernel) rfl
theorem kf_RX4_11 : Cond.fieldLink RX4 11 "StormParting$Tape" "bytes" "[I" ∈ mbig := m_in 92 (by decide +kernel) rfl
theorem kf_RX4_15 : Cond.fieldLink RX4 15 "StormParting$Tape" "length" "I" ∈ mbig := m_in 93 (by decide +kernel) rfl
theorem kf_RX5_15 : Cond.fieldLink RX5 15 "StormParting$ToldParting" "numbers" "[I" ∈ mbig := m_in 162 (by decide +kernel) rfl
theorem kf_RX5_19 : Cond.fieldLink RX5 19 "StormParting$ToldParting" "row" "[I" ∈ mbig := m_in 171 (by decide +kernel) rfl
theorem kf_RX5_22 : Cond.fieldLink RX5 22 "StormParting$Losses" "size" "I" ∈ mbig := m_in 139 (by decide +kernel) rfl
theorem kf_RX5_51 : Cond.fieldLink RX5 51 "StormParting$Cover" "words" "[I" ∈ mbig := m_in 110 (by decide +kernel) rfl
theorem kf_RX5_72 : Cond.fieldLink RX5 72 "StormParting$ToldParting" "happenings" "I" ∈ mbig := m_in 164 (by decide +kernel) rfl
theorem kf_RX5_75 : Cond.fieldLink RX5 75 "StormParting$ToldParting" "happeningsPaid" "I" ∈ mbig := m_in 166 (by decide +kernel) rfl
theorem kf_RX5_78 : Cond.fieldLink RX5 78 "StormParting$ToldParting" "paidInAll" "I" ∈ mbig := m_in 168 (by decide +kernel) rfl
theorem kf_RX5_9 : Cond.fieldLink RX5 9 "StormParting$ToldParting" "losses" "LStormParting$Losses;" ∈ mbig := m_in 170 (by decide +kernel) rfl
theorem kf_RX6_10 : Cond.fieldLink RX6 10 "StormParting" "tape" "LStormParting$Tape;" ∈ mbig := m_in 266 (by decide +kernel) rfl
theorem kf_RX6_100 : Cond.fieldLink RX6 100 "StormParting$Losses" "sums" "[I" ∈ mbig := m_in 124 (by decide +kernel) rfl
theorem kf_RX6_103 : Cond.fieldLink RX6 103 "StormParting$Losses" "hours" "[I" ∈ mbig := m_in 127 (by decide +kernel) rfl
theorem kf_RX6_106 : Cond.fieldLink RX6 106 "StormParting$Losses" "lastHours" "[I" ∈ mbig := m_in 130 (by decide +kernel) rfl
theorem kf_RX6_109 : Cond.fieldLink RX6 109 "StormParting$Losses" "xs" "[I" ∈ mbig := m_in 132 (by decide +kernel) rfl
theorem kf_RX6_112 : Cond.fieldLink RX6 112 "StormParting$Losses" "ys" "[I" ∈ mbig := m_in 134 (by decide +kernel) rfl
theorem kf_RX6_115 : Cond.fieldLink RX6 115 "StormParting$Losses" "causes" "[I" ∈ mbig := m_in 136 (by decide +kernel) rfl
theorem kf_RX6_135 : Cond.fieldLink RX6 135 "StormParting$ToldParting" "numbers" "[I" ∈ mbig := m_in 163 (by decide +kernel) rfl
theorem kf_RX6_145 : Cond.fieldLink RX6 145 "StormParting$ToldParting" "happenings" "I" ∈ mbig := m_in 165 (by decide +kernel) rfl
theorem kf_RX6_148 : Cond.fieldLink RX6 148 "StormParting$ToldParting" "happeningsPaid" "I" ∈ mbig := m_in 167 (by decide +kernel) rfl
theorem kf_RX6_151 : Cond.fieldLink RX6 151 "StormParting$ToldParting" "paidInAll" "I" ∈ mbig := m_in 169 (by decide +kernel) rfl
theorem kf_RX6_173 : Cond.fieldLink RX6 173 "StormParting$Search" "greatest" "I" ∈ mbig := m_in 220 (by decide +kernel) rfl
theorem kf_RX6_176 : Cond.fieldLink RX6 176 "StormParting$Search" "least" "I" ∈ mbig := m_in 222 (by decide +kernel) rfl
theorem kf_RX6_179 : Cond.fieldLink RX6 179 "StormParting$Search" "fewestForGreatest" "I" ∈ mbig := m_in 224 (by decide +kernel) rfl
theorem kf_RX6_18 : Cond.fieldLink RX6 18 "StormParting" "covers" "[LStormParting$Cover;" ∈ mbig := m_in 267 (by decide +kernel) rfl
theorem kf_RX6_182 : Cond.fieldLink RX6 182 "StormParting$Search" "fewestForLeast" "I" ∈ mbig := m_in 226 (by decide +kernel) rfl
theorem kf_RX6_23 : Cond.fieldLink RX6 23 "StormParting" "trial" "LStormParting$Cover;" ∈ mbig := m_in 268 (by decide +kernel) rfl
theorem kf_RX6_30 : Cond.fieldLink RX6 30 "StormParting" "losses" "LStormParting$Losses;" ∈ mbig := m_in 269 (by decide +kernel) rfl
theorem kf_RX6_39 : Cond.fieldLink RX6 39 "StormParting" "toldParting" "LStormParting$ToldParting;" ∈ mbig := m_in 270 (by decide +kernel) rfl
theorem kf_RX6_46 : Cond.fieldLink RX6 46 "StormParting" "search" "LStormParting$Search;" ∈ mbig := m_in 271 (by decide +kernel) rfl
theorem kf_RX6_50 : Cond.fieldLink RX6 50 "StormParting" "stormLosses" "[I" ∈ mbig := m_in 272 (by decide +kernel) rfl
theorem kf_RX6_54 : Cond.fieldLink RX6 54 "StormParting" "stormWeights" "[I" ∈ mbig := m_in 273 (by decide +kernel) rfl
theorem kf_RX6_57 : Cond.fieldLink RX6 57 "StormParting" "coverCount" "I" ∈ mbig := m_in 274 (by decide +kernel) rfl
theorem kf_RX6_61 : Cond.fieldLink RX6 61 "StormParting" "stormCount" "I" ∈ mbig := m_in 275 (by decide +kernel) rfl
theorem kf_RX6_68 : Cond.fieldLink RX6 68 "StormParting$Tape" "length" "I" ∈ mbig := m_in 94 (by decide +kernel) rfl
theorem kf_RX6_94 : Cond.fieldLink RX6 94 "StormParting$Cover" "words" "[I" ∈ mbig := m_in 111 (by decide +kernel) rfl
theorem kf_RX6_97 : Cond.fieldLink RX6 97 "StormParting$Losses" "size" "I" ∈ mbig := m_in 140 (by decide +kernel) rfl
theorem kz_RX0 : Cond.initialized RX0 ∈ mbig := m_in 60 (by decide +kernel) rfl
theorem kz_RX1 : Cond.initialized RX1 ∈ mbig := m_in 61 (by decide +kernel) rfl
theorem kz_RX2 : Cond.initialized RX2 ∈ mbig := m_in 64 (by decide +kernel) rfl
theorem kz_RX3 : Cond.initialized RX3 ∈ mbig := m_in 63 (by decide +kernel) rfl
theorem kz_RX4 : Cond.initialized RX4 ∈ mbig := m_in 59 (by decide +kernel) rfl
theorem kz_RX5 : Cond.initialized RX5 ∈ mbig := m_in 62 (by decide +kernel) rfl
theorem kz_RX6 : Cond.initialized RX6 ∈ mbig := m_in 58 (by decide +kernel) rfl
theorem ki_X0_asksCauses : Cond.instanceMethod yX0_asksCauses ∈ mbig := m_in 487 (by decide +kernel) rfl
theorem ki_X0_bringFor : Cond.instanceMethod yX0_bringFor ∈ mbig := m_in 571 (by decide +kernel) rfl
theorem ki_X0_copyFrom : Cond.instanceMethod yX0_copyFrom ∈ mbig := m_in 448 (by decide +kernel) rfl
theorem ki_X0_forget : Cond.instanceMethod yX0_forget ∈ mbig := m_in 321 (by decide +kernel) rfl
theorem ki_X0_narrowBy : Cond.instanceMethod yX0_narrowBy ∈ mbig := m_in 616 (by decide +kernel) rfl
theorem ki_X0_netOf : Cond.instanceMethod yX0_netOf ∈ mbig := m_in 579 (by decide +kernel) rfl
theorem ki_X0_overlaps : Cond.instanceMethod yX0_overlaps ∈ mbig := m_in 528 (by decide +kernel) rfl
theorem ki_X0_payFor : Cond.instanceMethod yX0_payFor ∈ mbig := m_in 503 (by decide +kernel) rfl
theorem ki_X0_share : Cond.instanceMethod yX0_share ∈ mbig := m_in 575 (by decide +kernel) rfl
theorem ki_X0_tell : Cond.instanceMethod yX0_tell ∈ mbig := m_in 432 (by decide +kernel) rfl
theorem ki_X1_all : Cond.instanceMethod yX1_all ∈ mbig := m_in 469 (by decide +kernel) rfl
theorem ki_X1_areNear : Cond.instanceMethod yX1_areNear ∈ mbig := m_in 480 (by decide +kernel) rfl
theorem ki_X1_areOne : Cond.instanceMethod yX1_areOne ∈ mbig := m_in 473 (by decide +kernel) rfl
theorem ki_X1_greatestHourOf : Cond.instanceMethod yX1_greatestHourOf ∈ mbig := m_in 540 (by decide +kernel) rfl
theorem ki_X1_has : Cond.instanceMethod yX1_has ∈ mbig := m_in 511 (by decide +kernel) rfl
theorem ki_X1_hasAll : Cond.instanceMethod yX1_hasAll ∈ mbig := m_in 465 (by decide +kernel) rfl
theorem ki_X1_leastHourOf : Cond.instanceMethod yX1_leastHourOf ∈ mbig := m_in 545 (by decide +kernel) rfl
theorem ki_X1_putInRow : Cond.instanceMethod yX1_putInRow ∈ mbig := m_in 564 (by decide +kernel) rfl
theorem ki_X1_someAreApartBy : Cond.instanceMethod yX1_someAreApartBy ∈ mbig := m_in 735 (by decide +kernel) rfl
theorem ki_X1_standsAnewAt : Cond.instanceMethod yX1_standsAnewAt ∈ mbig := m_in 695 (by decide +kernel) rfl
theorem ki_X1_sumBefore : Cond.instanceMethod yX1_sumBefore ∈ mbig := m_in 499 (by decide +kernel) rfl
theorem ki_X1_sumOf : Cond.instanceMethod yX1_sumOf ∈ mbig := m_in 495 (by decide +kernel) rfl
theorem ki_X2_bringFor : Cond.instanceMethod yX2_bringFor ∈ mbig := m_in 683 (by decide +kernel) rfl
theorem ki_X2_clear : Cond.instanceMethod yX2_clear ∈ mbig := m_in 603 (by decide +kernel) rfl
theorem ki_X2_isEmpty : Cond.instanceMethod yX2_isEmpty ∈ mbig := m_in 611 (by decide +kernel) rfl
theorem ki_X2_join : Cond.instanceMethod yX2_join ∈ mbig := m_in 622 (by decide +kernel) rfl
theorem ki_X2_price : Cond.instanceMethod yX2_price ∈ mbig := m_in 669 (by decide +kernel) rfl
theorem ki_X3_areOne : Cond.instanceMethod yX3_areOne ∈ mbig := m_in 653 (by decide +kernel) rfl
theorem ki_X3_findFor : Cond.instanceMethod yX3_findFor ∈ mbig := m_in 595 (by decide +kernel) rfl
theorem ki_X3_findForJoined : Cond.instanceMethod yX3_findForJoined ∈ mbig := m_in 627 (by decide +kernel) rfl
theorem ki_X3_join : Cond.instanceMethod yX3_join ∈ mbig := m_in 607 (by decide +kernel) rfl
theorem ki_X3_list : Cond.instanceMethod yX3_list ∈ mbig := m_in 658 (by decide +kernel) rfl
theorem ki_X3_listRunsFrom : Cond.instanceMethod yX3_listRunsFrom ∈ mbig := m_in 662 (by decide +kernel) rfl
theorem ki_X3_listSetsFrom : Cond.instanceMethod yX3_listSetsFrom ∈ mbig := m_in 649 (by decide +kernel) rfl
theorem ki_X3_note : Cond.instanceMethod yX3_note ∈ mbig := m_in 679 (by decide +kernel) rfl
theorem ki_X3_part : Cond.instanceMethod yX3_part ∈ mbig := m_in 675 (by decide +kernel) rfl
theorem ki_X3_priceHappenings : Cond.instanceMethod yX3_priceHappenings ∈ mbig := m_in 666 (by decide +kernel) rfl
theorem ki_X3_seeWhoIsNear : Cond.instanceMethod yX3_seeWhoIsNear ∈ mbig := m_in 644 (by decide +kernel) rfl
theorem ki_X3_startJoining : Cond.instanceMethod yX3_startJoining ∈ mbig := m_in 599 (by decide +kernel) rfl
theorem ki_X4_append : Cond.instanceMethod yX4_append ∈ mbig := m_in 305 (by decide +kernel) rfl
theorem ki_X4_isDigit : Cond.instanceMethod yX4_isDigit ∈ mbig := m_in 425 (by decide +kernel) rfl
theorem ki_X4_pastBlanks : Cond.instanceMethod yX4_pastBlanks ∈ mbig := m_in 331 (by decide +kernel) rfl
theorem ki_X4_readInto : Cond.instanceMethod yX4_readInto ∈ mbig := m_in 317 (by decide +kernel) rfl
theorem ki_X4_valueOf : Cond.instanceMethod yX4_valueOf ∈ mbig := m_in 429 (by decide +kernel) rfl
theorem ki_X5_areTooNear : Cond.instanceMethod yX5_areTooNear ∈ mbig := m_in 537 (by decide +kernel) rfl
theorem ki_X5_bar : Cond.instanceMethod yX5_bar ∈ mbig := m_in 524 (by decide +kernel) rfl
theorem ki_X5_firstBar : Cond.instanceMethod yX5_firstBar ∈ mbig := m_in 519 (by decide +kernel) rfl
theorem ki_X5_happeningOf : Cond.instanceMethod yX5_happeningOf ∈ mbig := m_in 532 (by decide +kernel) rfl
theorem ki_X5_reckon : Cond.instanceMethod yX5_reckon ∈ mbig := m_in 559 (by decide +kernel) rfl
theorem ki_X6_coverAt : Cond.instanceMethod yX6_coverAt ∈ mbig := m_in 462 (by decide +kernel) rfl
theorem ki_X6_greatestByOneParting : Cond.instanceMethod yX6_greatestByOneParting ∈ mbig := m_in 721 (by decide +kernel) rfl
theorem ki_X6_greatestByOwnPartings : Cond.instanceMethod yX6_greatestByOwnPartings ∈ mbig := m_in 728 (by decide +kernel) rfl
theorem ki_X6_greatestFor : Cond.instanceMethod yX6_greatestFor ∈ mbig := m_in 701 (by decide +kernel) rfl
theorem ki_X6_lossOfGreatestWeight : Cond.instanceMethod yX6_lossOfGreatestWeight ∈ mbig := m_in 709 (by decide +kernel) rfl
theorem km_RX0_17 : Cond.methodLink RX0 17 yJ0_indexOf_0f7a4 ∈ mbig := m_in 337 (by decide +kernel) rfl
theorem km_RX0_26 : Cond.methodLink RX0 26 arraycopyName ∈ mbig := m_in 326 (by decide +kernel) rfl
theorem km_RX0_42 : Cond.methodLink RX0 42 yX0_share ∈ mbig := m_in 574 (by decide +kernel) rfl
theorem km_RX0_46 : Cond.methodLink RX0 46 Lib.Math.min.name ∈ mbig := m_in 582 (by decide +kernel) rfl
theorem km_RX0_52 : Cond.methodLink RX0 52 yX0_overlaps ∈ mbig := m_in 619 (by decide +kernel) rfl
theorem km_RX0_56 : Cond.methodLink RX0 56 Lib.Math.max.name ∈ mbig := m_in 620 (by decide +kernel) rfl
theorem km_RX1_34 : Cond.methodLink RX1 34 yX1_all ∈ mbig := m_in 468 (by decide +kernel) rfl
theorem km_RX1_38 : Cond.methodLink RX1 38 yX1_sumBefore ∈ mbig := m_in 498 (by decide +kernel) rfl
theorem km_RX1_42 : Cond.methodLink RX1 42 yX1_isIn ∈ mbig := m_in 476 (by decide +kernel) rfl
theorem km_RX1_46 : Cond.methodLink RX1 46 Lib.Math.min.name ∈ mbig := m_in 548 (by decide +kernel) rfl
theorem km_RX1_51 : Cond.methodLink RX1 51 Lib.Math.max.name ∈ mbig := m_in 543 (by decide +kernel) rfl
theorem km_RX1_59 : Cond.methodLink RX1 59 Lib.Math.abs.name ∈ mbig := m_in 483 (by decide +kernel) rfl
theorem km_RX1_63 : Cond.methodLink RX1 63 yX1_areNear ∈ mbig := m_in 479 (by decide +kernel) rfl
theorem km_RX1_67 : Cond.methodLink RX1 67 yX0_asksCauses ∈ mbig := m_in 486 (by decide +kernel) rfl
theorem km_RX2_39 : Cond.methodLink RX2 39 yX0_share ∈ mbig := m_in 625 (by decide +kernel) rfl
theorem km_RX2_43 : Cond.methodLink RX2 43 yX0_payFor ∈ mbig := m_in 672 (by decide +kernel) rfl
theorem km_RX3_103 : Cond.methodLink RX3 103 yX3_listSetsFrom ∈ mbig := m_in 647 (by decide +kernel) rfl
theorem km_RX3_107 : Cond.methodLink RX3 107 yX3_listRunsFrom ∈ mbig := m_in 660 (by decide +kernel) rfl
theorem km_RX3_110 : Cond.methodLink RX3 110 yX3_priceHappenings ∈ mbig := m_in 664 (by decide +kernel) rfl
theorem km_RX3_113 : Cond.methodLink RX3 113 yX3_part ∈ mbig := m_in 673 (by decide +kernel) rfl
theorem km_RX3_117 : Cond.methodLink RX3 117 yX1_areNear ∈ mbig := m_in 646 (by decide +kernel) rfl
theorem km_RX3_124 : Cond.methodLink RX3 124 yX0_asksCauses ∈ mbig := m_in 655 (by decide +kernel) rfl
theorem km_RX3_127 : Cond.methodLink RX3 127 yX3_areOne ∈ mbig := m_in 651 (by decide +kernel) rfl
theorem km_RX3_130 : Cond.methodLink RX3 130 yX3_list ∈ mbig := m_in 656 (by decide +kernel) rfl
theorem km_RX3_142 : Cond.methodLink RX3 142 yX2_price ∈ mbig := m_in 668 (by decide +kernel) rfl
theorem km_RX3_146 : Cond.methodLink RX3 146 yX3_note ∈ mbig := m_in 677 (by decide +kernel) rfl
theorem km_RX3_149 : Cond.methodLink RX3 149 yJ6_numberOfTrailingZeros_0f7a4 ∈ mbig := m_in 681 (by decide +kernel) rfl
theorem km_RX3_152 : Cond.methodLink RX3 152 yX2_bringFor ∈ mbig := m_in 682 (by decide +kernel) rfl
theorem km_RX3_42 : Cond.methodLink RX3 42 yX0_overlaps ∈ mbig := m_in 634 (by decide +kernel) rfl
theorem km_RX3_46 : Cond.methodLink RX3 46 yJ6_bitCount_0f7a4 ∈ mbig := m_in 635 (by decide +kernel) rfl
theorem km_RX3_52 : Cond.methodLink RX3 52 yX3_startJoining ∈ mbig := m_in 598 (by decide +kernel) rfl
theorem km_RX3_55 : Cond.methodLink RX3 55 yX3_join ∈ mbig := m_in 606 (by decide +kernel) rfl
theorem km_RX3_59 : Cond.methodLink RX3 59 yX3_findForJoined ∈ mbig := m_in 626 (by decide +kernel) rfl
theorem km_RX3_63 : Cond.methodLink RX3 63 yX2_clear ∈ mbig := m_in 602 (by decide +kernel) rfl
theorem km_RX3_66 : Cond.methodLink RX3 66 yX2_isEmpty ∈ mbig := m_in 610 (by decide +kernel) rfl
theorem km_RX3_69 : Cond.methodLink RX3 69 yX0_copyFrom ∈ mbig := m_in 614 (by decide +kernel) rfl
theorem km_RX3_72 : Cond.methodLink RX3 72 yX0_narrowBy ∈ mbig := m_in 615 (by decide +kernel) rfl
theorem km_RX3_75 : Cond.methodLink RX3 75 yX2_join ∈ mbig := m_in 621 (by decide +kernel) rfl
theorem km_RX3_80 : Cond.methodLink RX3 80 yX1_hasAll ∈ mbig := m_in 630 (by decide +kernel) rfl
theorem km_RX3_85 : Cond.methodLink RX3 85 yX3_isToldFor ∈ mbig := m_in 631 (by decide +kernel) rfl
theorem km_RX3_89 : Cond.methodLink RX3 89 yX1_putInRow ∈ mbig := m_in 641 (by decide +kernel) rfl
theorem km_RX3_97 : Cond.methodLink RX3 97 yX3_seeWhoIsNear ∈ mbig := m_in 642 (by decide +kernel) rfl
theorem km_RX4_19 : Cond.methodLink RX4 19 yX0_forget ∈ mbig := m_in 320 (by decide +kernel) rfl
theorem km_RX4_24 : Cond.methodLink RX4 24 yX4_pastBlanks ∈ mbig := m_in 329 (by decide +kernel) rfl
theorem km_RX4_28 : Cond.methodLink RX4 28 yX0_whatOf ∈ mbig := m_in 333 (by decide +kernel) rfl
theorem km_RX4_31 : Cond.methodLink RX4 31 yX4_isDigit ∈ mbig := m_in 423 (by decide +kernel) rfl
theorem km_RX4_35 : Cond.methodLink RX4 35 yX4_valueOf ∈ mbig := m_in 427 (by decide +kernel) rfl
theorem km_RX4_39 : Cond.methodLink RX4 39 yX0_tell ∈ mbig := m_in 431 (by decide +kernel) rfl
theorem km_RX5_28 : Cond.methodLink RX5 28 yX5_bar ∈ mbig := m_in 522 (by decide +kernel) rfl
theorem km_RX5_32 : Cond.methodLink RX5 32 yX5_happeningOf ∈ mbig := m_in 531 (by decide +kernel) rfl
theorem km_RX5_36 : Cond.methodLink RX5 36 yX1_areOne ∈ mbig := m_in 526 (by decide +kernel) rfl
theorem km_RX5_40 : Cond.methodLink RX5 40 yJ6_numberOfTrailingZeros_0f7a4 ∈ mbig := m_in 549 (by decide +kernel) rfl
theorem km_RX5_45 : Cond.methodLink RX5 45 yX0_overlaps ∈ mbig := m_in 527 (by decide +kernel) rfl
theorem km_RX5_54 : Cond.methodLink RX5 54 yX5_areTooNear ∈ mbig := m_in 535 (by decide +kernel) rfl
theorem km_RX5_58 : Cond.methodLink RX5 58 yX1_greatestHourOf ∈ mbig := m_in 539 (by decide +kernel) rfl
theorem km_RX5_61 : Cond.methodLink RX5 61 yX1_leastHourOf ∈ mbig := m_in 544 (by decide +kernel) rfl
theorem km_RX5_64 : Cond.methodLink RX5 64 yX1_all ∈ mbig := m_in 562 (by decide +kernel) rfl
theorem km_RX5_68 : Cond.methodLink RX5 68 yX1_putInRow ∈ mbig := m_in 563 (by decide +kernel) rfl
theorem km_RX5_81 : Cond.methodLink RX5 81 yX1_isIn ∈ mbig := m_in 567 (by decide +kernel) rfl
theorem km_RX5_85 : Cond.methodLink RX5 85 yX1_sumOf ∈ mbig := m_in 568 (by decide +kernel) rfl
theorem km_RX5_88 : Cond.methodLink RX5 88 yX0_payFor ∈ mbig := m_in 569 (by decide +kernel) rfl
theorem km_RX6_118 : Cond.methodLink RX6 118 yX1_hasAll ∈ mbig := m_in 464 (by decide +kernel) rfl
theorem km_RX6_122 : Cond.methodLink RX6 122 yX1_areOne ∈ mbig := m_in 472 (by decide +kernel) rfl
theorem km_RX6_126 : Cond.methodLink RX6 126 yX1_sumOf ∈ mbig := m_in 494 (by decide +kernel) rfl
theorem km_RX6_129 : Cond.methodLink RX6 129 yX0_payFor ∈ mbig := m_in 502 (by decide +kernel) rfl
theorem km_RX6_132 : Cond.methodLink RX6 132 yX1_has ∈ mbig := m_in 510 (by decide +kernel) rfl
theorem km_RX6_138 : Cond.methodLink RX6 138 yX5_firstBar ∈ mbig := m_in 518 (by decide +kernel) rfl
theorem km_RX6_142 : Cond.methodLink RX6 142 yX5_reckon ∈ mbig := m_in 558 (by decide +kernel) rfl
theorem km_RX6_154 : Cond.methodLink RX6 154 yX0_bringFor ∈ mbig := m_in 570 (by decide +kernel) rfl
theorem km_RX6_157 : Cond.methodLink RX6 157 yX0_netOf ∈ mbig := m_in 578 (by decide +kernel) rfl
theorem km_RX6_160 : Cond.methodLink RX6 160 yX5_happeningOf ∈ mbig := m_in 587 (by decide +kernel) rfl
theorem km_RX6_163 : Cond.methodLink RX6 163 yX1_leastHourOf ∈ mbig := m_in 588 (by decide +kernel) rfl
theorem km_RX6_166 : Cond.methodLink RX6 166 yX1_sumBefore ∈ mbig := m_in 589 (by decide +kernel) rfl
theorem km_RX6_170 : Cond.methodLink RX6 170 yX3_findFor ∈ mbig := m_in 594 (by decide +kernel) rfl
theorem km_RX6_185 : Cond.methodLink RX6 185 yX1_standsAnewAt ∈ mbig := m_in 694 (by decide +kernel) rfl
theorem km_RX6_189 : Cond.methodLink RX6 189 yX1_all ∈ mbig := m_in 698 (by decide +kernel) rfl
theorem km_RX6_193 : Cond.methodLink RX6 193 yX6_greatestFor ∈ mbig := m_in 699 (by decide +kernel) rfl
theorem km_RX6_197 : Cond.methodLink RX6 197 yX6_lossOfGreatestWeight ∈ mbig := m_in 707 (by decide +kernel) rfl
theorem km_RX6_201 : Cond.methodLink RX6 201 yX6_greatestByOneParting ∈ mbig := m_in 719 (by decide +kernel) rfl
theorem km_RX6_204 : Cond.methodLink RX6 204 yX6_greatestByOwnPartings ∈ mbig := m_in 726 (by decide +kernel) rfl
theorem km_RX6_207 : Cond.methodLink RX6 207 yX1_someAreApartBy ∈ mbig := m_in 734 (by decide +kernel) rfl
theorem km_RX6_210 : Cond.methodLink RX6 210 yX3_isToldFor ∈ mbig := m_in 746 (by decide +kernel) rfl
theorem km_RX6_213 : Cond.methodLink RX6 213 Lib.Math.max.name ∈ mbig := m_in 755 (by decide +kernel) rfl
theorem km_RX6_218 : Cond.methodLink RX6 218 yX3_startJoining ∈ mbig := m_in 723 (by decide +kernel) rfl
theorem km_RX6_221 : Cond.methodLink RX6 221 yX3_join ∈ mbig := m_in 724 (by decide +kernel) rfl
theorem km_RX6_224 : Cond.methodLink RX6 224 yX3_findForJoined ∈ mbig := m_in 725 (by decide +kernel) rfl
theorem km_RX6_64 : Cond.methodLink RX6 64 yX4_bytesIn ∈ mbig := m_in 301 (by decide +kernel) rfl
theorem km_RX6_71 : Cond.methodLink RX6 71 yX4_append ∈ mbig := m_in 304 (by decide +kernel) rfl
theorem km_RX6_75 : Cond.methodLink RX6 75 yX4_readInto ∈ mbig := m_in 316 (by decide +kernel) rfl
theorem km_RX6_79 : Cond.methodLink RX6 79 yX0_copyFrom ∈ mbig := m_in 447 (by decide +kernel) rfl
theorem km_RX6_83 : Cond.methodLink RX6 83 yX6_coverAt ∈ mbig := m_in 460 (by decide +kernel) rfl
theorem km_RX6_87 : Cond.methodLink RX6 87 yX6_isWithin ∈ mbig := m_in 455 (by decide +kernel) rfl
theorem ks_RX0_X0_asksCauses : Cond.selects RX0 yX0_asksCauses yX0_asksCauses ∈ mbig := m_in 488 (by decide +kernel) rfl
theorem ks_RX0_X0_bringFor : Cond.selects RX0 yX0_bringFor yX0_bringFor ∈ mbig := m_in 572 (by decide +kernel) rfl
theorem ks_RX0_X0_copyFrom : Cond.selects RX0 yX0_copyFrom yX0_copyFrom ∈ mbig := m_in 449 (by decide +kernel) rfl
theorem ks_RX0_X0_forget : Cond.selects RX0 yX0_forget yX0_forget ∈ mbig := m_in 322 (by decide +kernel) rfl
theorem ks_RX0_X0_narrowBy : Cond.selects RX0 yX0_narrowBy yX0_narrowBy ∈ mbig := m_in 617 (by decide +kernel) rfl
theorem ks_RX0_X0_netOf : Cond.selects RX0 yX0_netOf yX0_netOf ∈ mbig := m_in 580 (by decide +kernel) rfl
theorem ks_RX0_X0_overlaps : Cond.selects RX0 yX0_overlaps yX0_overlaps ∈ mbig := m_in 529 (by decide +kernel) rfl
theorem ks_RX0_X0_payFor : Cond.selects RX0 yX0_payFor yX0_payFor ∈ mbig := m_in 504 (by decide +kernel) rfl
theorem ks_RX0_X0_share : Cond.selects RX0 yX0_share yX0_share ∈ mbig := m_in 576 (by decide +kernel) rfl
theorem ks_RX0_X0_tell : Cond.selects RX0 yX0_tell yX0_tell ∈ mbig := m_in 433 (by decide +kernel) rfl
theorem ks_RX1_X1_all : Cond.selects RX1 yX1_all yX1_all ∈ mbig := m_in 470 (by decide +kernel) rfl
theorem ks_RX1_X1_areNear : Cond.selects RX1 yX1_areNear yX1_areNear ∈ mbig := m_in 481 (by decide +kernel) rfl
theorem ks_RX1_X1_areOne : Cond.selects RX1 yX1_areOne yX1_areOne ∈ mbig := m_in 474 (by decide +kernel) rfl
theorem ks_RX1_X1_greatestHourOf : Cond.selects RX1 yX1_greatestHourOf yX1_greatestHourOf ∈ mbig := m_in 541 (by decide +kernel) rfl
theorem ks_RX1_X1_has : Cond.selects RX1 yX1_has yX1_has ∈ mbig := m_in 512 (by decide +kernel) rfl
theorem ks_RX1_X1_hasAll : Cond.selects RX1 yX1_hasAll yX1_hasAll ∈ mbig := m_in 466 (by decide +kernel) rfl
theorem ks_RX1_X1_leastHourOf : Cond.selects RX1 yX1_leastHourOf yX1_leastHourOf ∈ mbig := m_in 546 (by decide +kernel) rfl
theorem ks_RX1_X1_putInRow : Cond.selects RX1 yX1_putInRow yX1_putInRow ∈ mbig := m_in 565 (by decide +kernel) rfl
theorem ks_RX1_X1_someAreApartBy : Cond.selects RX1 yX1_someAreApartBy yX1_someAreApartBy ∈ mbig := m_in 736 (by decide +kernel) rfl
theorem ks_RX1_X1_standsAnewAt : Cond.selects RX1 yX1_standsAnewAt yX1_standsAnewAt ∈ mbig := m_in 696 (by decide +kernel) rfl
theorem ks_RX1_X1_sumBefore : Cond.selects RX1 yX1_sumBefore yX1_sumBefore ∈ mbig := m_in 500 (by decide +kernel) rfl
theorem ks_RX1_X1_sumOf : Cond.selects RX1 yX1_sumOf yX1_sumOf ∈ mbig := m_in 496 (by decide +kernel) rfl
theorem ks_RX2_X2_bringFor : Cond.selects RX2 yX2_bringFor yX2_bringFor ∈ mbig := m_in 684 (by decide +kernel) rfl
theorem ks_RX2_X2_clear : Cond.selects RX2 yX2_clear yX2_clear ∈ mbig := m_in 604 (by decide +kernel) rfl
theorem ks_RX2_X2_isEmpty : Cond.selects RX2 yX2_isEmpty yX2_isEmpty ∈ mbig := m_in 612 (by decide +kernel) rfl
theorem ks_RX2_X2_join : Cond.selects RX2 yX2_join yX2_join ∈ mbig := m_in 623 (by decide +kernel) rfl
theorem ks_RX2_X2_price : Cond.selects RX2 yX2_price yX2_price ∈ mbig := m_in 670 (by decide +kernel) rfl
theorem ks_RX3_X3_areOne : Cond.selects RX3 yX3_areOne yX3_areOne ∈ mbig := m_in 8 (by decide +kernel) rfl
theorem ks_RX3_X3_findFor : Cond.selects RX3 yX3_findFor yX3_findFor ∈ mbig := m_in 596 (by decide +kernel) rfl
theorem ks_RX3_X3_findForJoined : Cond.selects RX3 yX3_findForJoined yX3_findForJoined ∈ mbig := m_in 628 (by decide +kernel) rfl
theorem ks_RX3_X3_join : Cond.selects RX3 yX3_join yX3_join ∈ mbig := m_in 608 (by decide +kernel) rfl
theorem ks_RX3_X3_list : Cond.selects RX3 yX3_list yX3_list ∈ mbig := m_in 9 (by decide +kernel) rfl
theorem ks_RX3_X3_listRunsFrom : Cond.selects RX3 yX3_listRunsFrom yX3_listRunsFrom ∈ mbig := m_in 10 (by decide +kernel) rfl
theorem ks_RX3_X3_listSetsFrom : Cond.selects RX3 yX3_listSetsFrom yX3_listSetsFrom ∈ mbig := m_in 7 (by decide +kernel) rfl
theorem ks_RX3_X3_note : Cond.selects RX3 yX3_note yX3_note ∈ mbig := m_in 13 (by decide +kernel) rfl
theorem ks_RX3_X3_part : Cond.selects RX3 yX3_part yX3_part ∈ mbig := m_in 12 (by decide +kernel) rfl
theorem ks_RX3_X3_priceHappenings : Cond.selects RX3 yX3_priceHappenings yX3_priceHappenings ∈ mbig := m_in 11 (by decide +kernel) rfl
theorem ks_RX3_X3_seeWhoIsNear : Cond.selects RX3 yX3_seeWhoIsNear yX3_seeWhoIsNear ∈ mbig := m_in 6 (by decide +kernel) rfl
theorem ks_RX3_X3_startJoining : Cond.selects RX3 yX3_startJoining yX3_startJoining ∈ mbig := m_in 600 (by decide +kernel) rfl
theorem ks_RX4_X4_append : Cond.selects RX4 yX4_append yX4_append ∈ mbig := m_in 306 (by decide +kernel) rfl
theorem ks_RX4_X4_isDigit : Cond.selects RX4 yX4_isDigit yX4_isDigit ∈ mbig := m_in 1 (by decide +kernel) rfl
theorem ks_RX4_X4_pastBlanks : Cond.selects RX4 yX4_pastBlanks yX4_pastBlanks ∈ mbig := m_in 0 (by decide +kernel) rfl
theorem ks_RX4_X4_readInto : Cond.selects RX4 yX4_readInto yX4_readInto ∈ mbig := m_in 318 (by decide +kernel) rfl
theorem ks_RX4_X4_valueOf : Cond.selects RX4 yX4_valueOf yX4_valueOf ∈ mbig := m_in 2 (by decide +kernel) rfl
theorem ks_RX5_X5_areTooNear : Cond.selects RX5 yX5_areTooNear yX5_areTooNear ∈ mbig := m_in 5 (by decide +kernel) rfl
theorem ks_RX5_X5_bar : Cond.selects RX5 yX5_bar yX5_bar ∈ mbig := m_in 4 (by decide +kernel) rfl
theorem ks_RX5_X5_firstBar : Cond.selects RX5 yX5_firstBar yX5_firstBar ∈ mbig := m_in 520 (by decide +kernel) rfl
theorem ks_RX5_X5_happeningOf : Cond.selects RX5 yX5_happeningOf yX5_happeningOf ∈ mbig := m_in 533 (by decide +kernel) rfl
theorem ks_RX5_X5_reckon : Cond.selects RX5 yX5_reckon yX5_reckon ∈ mbig := m_in 560 (by decide +kernel) rfl
theorem ks_RX6_X6_coverAt : Cond.selects RX6 yX6_coverAt yX6_coverAt ∈ mbig := m_in 3 (by decide +kernel) rfl
theorem ks_RX6_X6_greatestByOneParting : Cond.selects RX6 yX6_greatestByOneParting yX6_greatestByOneParting ∈ mbig := m_in 16 (by decide +kernel) rfl
theorem ks_RX6_X6_greatestByOwnPartings : Cond.selects RX6 yX6_greatestByOwnPartings yX6_greatestByOwnPartings ∈ mbig := m_in 17 (by decide +kernel) rfl
theorem ks_RX6_X6_greatestFor : Cond.selects RX6 yX6_greatestFor yX6_greatestFor ∈ mbig := m_in 14 (by decide +kernel) rfl
theorem ks_RX6_X6_lossOfGreatestWeight : Cond.selects RX6 yX6_lossOfGreatestWeight yX6_lossOfGreatestWeight ∈ mbig := m_in 15 (by decide +kernel) rfl
theorem kt_X0_whatOf : Cond.static yX0_whatOf ∈ mbig := m_in 334 (by decide +kernel) rfl
theorem kt_X1_isIn : Cond.static yX1_isIn ∈ mbig := m_in 477 (by decide +kernel) rfl
theorem kt_X3_isToldFor : Cond.static yX3_isToldFor ∈ mbig := m_in 632 (by decide +kernel) rfl
theorem kt_X4_bytesIn : Cond.static yX4_bytesIn ∈ mbig := m_in 302 (by decide +kernel) rfl
theorem kt_X6_isWithin : Cond.static yX6_isWithin ∈ mbig := m_in 436 (by decide +kernel) rfl
theorem kt_J9_abs_0f7a4 : Cond.static Lib.Math.abs.name ∈ mbig := m_in 484 (by decide +kernel) rfl
theorem kk_RX0_17 : m_cal RX0 17 yJ0_indexOf_0f7a4 cJ0_indexOf_0f7a4 2 (some .int) := ⟨km_RX0_17, kc_J0_indexOf_0f7a4, kz_RJ0, by decide, by decide, by decide⟩
theorem kk_RX0_42 : m_cal RX0 42 yX0_share cX0_share 1 (some .int) := ⟨km_RX0_42, kc_X0_share, kz_RX0, by decide, by decide, by decide⟩
theorem kk_RX0_52 : m_cal RX0 52 yX0_overlaps cX0_overlaps 1 (some .boolean) := ⟨km_RX0_52, kc_X0_overlaps, kz_RX0, by decide, by decide, by decide⟩
theorem kk_RX1_34 : m_cal RX1 34 yX1_all cX1_all 1 (some .int) := ⟨km_RX1_34, kc_X1_all, kz_RX1, by decide, by decide, by decide⟩
theorem kk_RX1_38 : m_cal RX1 38 yX1_sumBefore cX1_sumBefore 5 (some .int) := ⟨km_RX1_38, kc_X1_sumBefore, kz_RX1, by decide, by decide, by decide⟩
theorem kk_RX1_42 : m_cal RX1 42 yX1_isIn cX1_isIn 2 (some .boolean) := ⟨km_RX1_42, kc_X1_isIn, kz_RX1, by decide, by decide, by decide⟩
theorem kk_RX1_63 : m_cal RX1 63 yX1_areNear cX1_areNear 7 (some .boolean) := ⟨km_RX1_63, kc_X1_areNear, kz_RX1, by decide, by decide, by decide⟩
theorem kk_RX1_67 : m_cal RX1 67 yX0_asksCauses cX0_asksCauses 1 (some .boolean) := ⟨km_RX1_67, kc_X0_asksCauses, kz_RX0, by decide, by decide, by decide⟩
theorem kk_RX2_39 : m_cal RX2 39 yX0_share cX0_share 1 (some .int) := ⟨km_RX2_39, kc_X0_share, kz_RX0, by decide, by decide, by decide⟩
theorem kk_RX2_43 : m_cal RX2 43 yX0_payFor cX0_payFor 3 (some .int) := ⟨km_RX2_43, kc_X0_payFor, kz_RX0, by decide, by decide, by decide⟩
theorem kk_RX3_103 : m_cal RX3 103 yX3_listSetsFrom cX3_listSetsFrom 5 none := ⟨km_RX3_103, kc_X3_listSetsFrom, kz_RX3, by decide, by decide, by decide⟩
theorem kk_RX3_107 : m_cal RX3 107 yX3_listRunsFrom cX3_listRunsFrom 5 none := ⟨km_RX3_107, kc_X3_listRunsFrom, kz_RX3, by decide, by decide, by decide⟩
theorem kk_RX3_110 : m_cal RX3 110 yX3_priceHappenings cX3_priceHappenings 4 none := ⟨km_RX3_110, kc_X3_priceHappenings, kz_RX3, by decide, by decide, by decide⟩
theorem kk_RX3_113 : m_cal RX3 113 yX3_part cX3_part 8 none := ⟨km_RX3_113, kc_X3_part, kz_RX3, by decide, by decide, by decide⟩
theorem kk_RX3_117 : m_cal RX3 117 yX1_areNear cX1_areNear 7 (some .boolean) := ⟨km_RX3_117, kc_X1_areNear, kz_RX1, by decide, by decide, by decide⟩
theorem kk_RX3_124 : m_cal RX3 124 yX0_asksCauses cX0_asksCauses 1 (some .boolean) := ⟨km_RX3_124, kc_X0_asksCauses, kz_RX0, by decide, by decide, by decide⟩
theorem kk_RX3_127 : m_cal RX3 127 yX3_areOne cX3_areOne 4 (some .boolean) := ⟨km_RX3_127, kc_X3_areOne, kz_RX3, by decide, by decide, by decide⟩
theorem kk_RX3_130 : m_cal RX3 130 yX3_list cX3_list 2 none := ⟨km_RX3_130, kc_X3_list, kz_RX3, by decide, by decide, by decide⟩
theorem kk_RX3_142 : m_cal RX3 142 yX2_price cX2_price 5 none := ⟨km_RX3_142, kc_X2_price, kz_RX2, by decide, by decide, by decide⟩
theorem kk_RX3_146 : m_cal RX3 146 yX3_note cX3_note 3 none := ⟨km_RX3_146, kc_X3_note, kz_RX3, by decide, by decide, by decide⟩
theorem kk_RX3_149 : m_cal RX3 149 yJ6_numberOfTrailingZeros_0f7a4 cJ6_numberOfTrailingZeros_0f7a4 2 (some .int) := ⟨km_RX3_149, kc_J6_numberOfTrailingZeros_0f7a4, kz_RJ6, by decide, by decide, by decide⟩
theorem kk_RX3_152 : m_cal RX3 152 yX2_bringFor cX2_bringFor 7 (some .int) := ⟨km_RX3_152, kc_X2_bringFor, kz_RX2, by decide, by decide, by decide⟩
theorem kk_RX3_42 : m_cal RX3 42 yX0_overlaps cX0_overlaps 1 (some .boolean) := ⟨km_RX3_42, kc_X0_overlaps, kz_RX0, by decide, by decide, by decide⟩
theorem kk_RX3_46 : m_cal RX3 46 yJ6_bitCount_0f7a4 cJ6_bitCount_0f7a4 1 (some .int) := ⟨km_RX3_46, kc_J6_bitCount_0f7a4, kz_RJ6, by decide, by decide, by decide⟩
theorem kk_RX3_52 : m_cal RX3 52 yX3_startJoining cX3_startJoining 1 none := ⟨km_RX3_52, kc_X3_startJoining, kz_RX3, by decide, by decide, by decide⟩
theorem kk_RX3_55 : m_cal RX3 55 yX3_join cX3_join 2 none := ⟨km_RX3_55, kc_X3_join, kz_RX3, by decide, by decide, by decide⟩
theorem kk_RX3_59 : m_cal RX3 59 yX3_findForJoined cX3_findForJoined 3 (some .boolean) := ⟨km_RX3_59, kc_X3_findForJoined, kz_RX3, by decide, by decide, by decide⟩
theorem kk_RX3_63 : m_cal RX3 63 yX2_clear cX2_clear 1 none := ⟨km_RX3_63, kc_X2_clear, kz_RX2, by decide, by decide, by decide⟩
theorem kk_RX3_66 : m_cal RX3 66 yX2_isEmpty cX2_isEmpty 1 (some .boolean) := ⟨km_RX3_66, kc_X2_isEmpty, kz_RX2, by decide, by decide, by decide⟩
theorem kk_RX3_69 : m_cal RX3 69 yX0_copyFrom cX0_copyFrom 2 none := ⟨km_RX3_69, kc_X0_copyFrom, kz_RX0, by decide, by decide, by decide⟩
theorem kk_RX3_72 : m_cal RX3 72 yX0_narrowBy cX0_narrowBy 7 none := ⟨km_RX3_72, kc_X0_narrowBy, kz_RX0, by decide, by decide, by decide⟩
theorem kk_RX3_75 : m_cal RX3 75 yX2_join cX2_join 2 none := ⟨km_RX3_75, kc_X2_join, kz_RX2, by decide, by decide, by decide⟩
theorem kk_RX3_80 : m_cal RX3 80 yX1_hasAll cX1_hasAll 2 (some .boolean) := ⟨km_RX3_80, kc_X1_hasAll, kz_RX1, by decide, by decide, by decide⟩
theorem kk_RX3_85 : m_cal RX3 85 yX3_isToldFor cX3_isToldFor 2 (some .boolean) := ⟨km_RX3_85, kc_X3_isToldFor, kz_RX3, by decide, by decide, by decide⟩
theorem kk_RX3_89 : m_cal RX3 89 yX1_putInRow cX1_putInRow 6 (some .int) := ⟨km_RX3_89, kc_X1_putInRow, kz_RX1, by decide, by decide, by decide⟩
theorem kk_RX3_97 : m_cal RX3 97 yX3_seeWhoIsNear cX3_seeWhoIsNear 3 none := ⟨km_RX3_97, kc_X3_seeWhoIsNear, kz_RX3, by decide, by decide, by decide⟩
theorem kk_RX4_19 : m_cal RX4 19 yX0_forget cX0_forget 1 none := ⟨km_RX4_19, kc_X0_forget, kz_RX0, by decide, by decide, by decide⟩
theorem kk_RX4_24 : m_cal RX4 24 yX4_pastBlanks cX4_pastBlanks 3 (some .int) := ⟨km_RX4_24, kc_X4_pastBlanks, kz_RX4, by decide, by decide, by decide⟩
theorem kk_RX4_28 : m_cal RX4 28 yX0_whatOf cX0_whatOf 1 (some .int) := ⟨km_RX4_28, kc_X0_whatOf, kz_RX0, by decide, by decide, by decide⟩
theorem kk_RX4_31 : m_cal RX4 31 yX4_isDigit cX4_isDigit 2 (some .boolean) := ⟨km_RX4_31, kc_X4_isDigit, kz_RX4, by decide, by decide, by decide⟩
theorem kk_RX4_35 : m_cal RX4 35 yX4_valueOf cX4_valueOf 5 (some .int) := ⟨km_RX4_35, kc_X4_valueOf, kz_RX4, by decide, by decide, by decide⟩
theorem kk_RX4_39 : m_cal RX4 39 yX0_tell cX0_tell 3 (some .boolean) := ⟨km_RX4_39, kc_X0_tell, kz_RX0, by decide, by decide, by decide⟩
theorem kk_RX5_28 : m_cal RX5 28 yX5_bar cX5_bar 4 (some .boolean) := ⟨km_RX5_28, kc_X5_bar, kz_RX5, by decide, by decide, by decide⟩
theorem kk_RX5_32 : m_cal RX5 32 yX5_happeningOf cX5_happeningOf 4 (some .int) := ⟨km_RX5_32, kc_X5_happeningOf, kz_RX5, by decide, by decide, by decide⟩
theorem kk_RX5_36 : m_cal RX5 36 yX1_areOne cX1_areOne 6 (some .boolean) := ⟨km_RX5_36, kc_X1_areOne, kz_RX1, by decide, by decide, by decide⟩
theorem kk_RX5_40 : m_cal RX5 40 yJ6_numberOfTrailingZeros_0f7a4 cJ6_numberOfTrailingZeros_0f7a4 2 (some .int) := ⟨km_RX5_40, kc_J6_numberOfTrailingZeros_0f7a4, kz_RJ6, by decide, by decide, by decide⟩
theorem kk_RX5_45 : m_cal RX5 45 yX0_overlaps cX0_overlaps 1 (some .boolean) := ⟨km_RX5_45, kc_X0_overlaps, kz_RX0, by decide, by decide, by decide⟩
theorem kk_RX5_54 : m_cal RX5 54 yX5_areTooNear cX5_areTooNear 6 (some .boolean) := ⟨km_RX5_54, kc_X5_areTooNear, kz_RX5, by decide, by decide, by decide⟩
theorem kk_RX5_58 : m_cal RX5 58 yX1_greatestHourOf cX1_greatestHourOf 4 (some .int) := ⟨km_RX5_58, kc_X1_greatestHourOf, kz_RX1, by decide, by decide, by decide⟩
theorem kk_RX5_61 : m_cal RX5 61 yX1_leastHourOf cX1_leastHourOf 4 (some .int) := ⟨km_RX5_61, kc_X1_leastHourOf, kz_RX1, by decide, by decide, by decide⟩
theorem kk_RX5_64 : m_cal RX5 64 yX1_all cX1_all 1 (some .int) := ⟨km_RX5_64, kc_X1_all, kz_RX1, by decide, by decide, by decide⟩
theorem kk_RX5_68 : m_cal RX5 68 yX1_putInRow cX1_putInRow 6 (some .int) := ⟨km_RX5_68, kc_X1_putInRow, kz_RX1, by decide, by decide, by decide⟩
theorem kk_RX5_81 : m_cal RX5 81 yX1_isIn cX1_isIn 2 (some .boolean) := ⟨km_RX5_81, kc_X1_isIn, kz_RX1, by decide, by decide, by decide⟩
theorem kk_RX5_85 : m_cal RX5 85 yX1_sumOf cX1_sumOf 2 (some .int) := ⟨km_RX5_85, kc_X1_sumOf, kz_RX1, by decide, by decide, by decide⟩
theorem kk_RX5_88 : m_cal RX5 88 yX0_payFor cX0_payFor 3 (some .int) := ⟨km_RX5_88, kc_X0_payFor, kz_RX0, by decide, by decide, by decide⟩
theorem kk_RX6_118 : m_cal RX6 118 yX1_hasAll cX1_hasAll 2 (some .boolean) := ⟨km_RX6_118, kc_X1_hasAll, kz_RX1, by decide, by decide, by decide⟩
theorem kk_RX6_122 : m_cal RX6 122 yX1_areOne cX1_areOne 6 (some .boolean) := ⟨km_RX6_122, kc_X1_areOne, kz_RX1, by decide, by decide, by decide⟩
theorem kk_RX6_126 : m_cal RX6 126 yX1_sumOf cX1_sumOf 2 (some .int) := ⟨km_RX6_126, kc_X1_sumOf, kz_RX1, by decide, by decide, by decide⟩
theorem kk_RX6_129 : m_cal RX6 129 yX0_payFor cX0_payFor 3 (some .int) := ⟨km_RX6_129, kc_X0_payFor, kz_RX0, by decide, by decide, by decide⟩
theorem kk_RX6_132 : m_cal RX6 132 yX1_has cX1_has 2 (some .boolean) := ⟨km_RX6_132, kc_X1_has, kz_RX1, by decide, by decide, by decide⟩
theorem kk_RX6_138 : m_cal RX6 138 yX5_firstBar cX5_firstBar 4 (some .int) := ⟨km_RX6_138, kc_X5_firstBar, kz_RX5, by decide, by decide, by decide⟩
theorem kk_RX6_142 : m_cal RX6 142 yX5_reckon cX5_reckon 7 none := ⟨km_RX6_142, kc_X5_reckon, kz_RX5, by decide, by decide, by decide⟩
theorem kk_RX6_154 : m_cal RX6 154 yX0_bringFor cX0_bringFor 2 (some .int) := ⟨km_RX6_154, kc_X0_bringFor, kz_RX0, by decide, by decide, by decide⟩
theorem kk_RX6_157 : m_cal RX6 157 yX0_netOf cX0_netOf 5 (some .int) := ⟨km_RX6_157, kc_X0_netOf, kz_RX0, by decide, by decide, by decide⟩
theorem kk_RX6_160 : m_cal RX6 160 yX5_happeningOf cX5_happeningOf 4 (some .int) := ⟨km_RX6_160, kc_X5_happeningOf, kz_RX5, by decide, by decide, by decide⟩
theorem kk_RX6_163 : m_cal RX6 163 yX1_leastHourOf cX1_leastHourOf 4 (some .int) := ⟨km_RX6_163, kc_X1_leastHourOf, kz_RX1, by decide, by decide, by decide⟩
theorem kk_RX6_166 : m_cal RX6 166 yX1_sumBefore cX1_sumBefore 5 (some .int) := ⟨km_RX6_166, kc_X1_sumBefore, kz_RX1, by decide, by decide, by decide⟩
theorem kk_RX6_170 : m_cal RX6 170 yX3_findFor cX3_findFor 3 (some .boolean) := ⟨km_RX6_170, kc_X3_findFor, kz_RX3, by decide, by decide, by decide⟩
theorem kk_RX6_185 : m_cal RX6 185 yX1_standsAnewAt cX1_standsAnewAt 11 (some .boolean) := ⟨km_RX6_185, kc_X1_standsAnewAt, kz_RX1, by decide, by decide, by decide⟩
theorem kk_RX6_189 : m_cal RX6 189 yX1_all cX1_all 1 (some .int) := ⟨km_RX6_189, kc_X1_all, kz_RX1, by decide, by decide, by decide⟩
theorem kk_RX6_193 : m_cal RX6 193 yX6_greatestFor cX6_greatestFor 3 (some .int) := ⟨km_RX6_193, kc_X6_greatestFor, kz_RX6, by decide, by decide, by decide⟩
theorem kk_RX6_197 : m_cal RX6 197 yX6_lossOfGreatestWeight cX6_lossOfGreatestWeight 7 (some .int) := ⟨km_RX6_197, kc_X6_lossOfGreatestWeight, kz_RX6, by decide, by decide, by decide⟩
theorem kk_RX6_201 : m_cal RX6 201 yX6_greatestByOneParting cX6_greatestByOneParting 4 (some .int) := ⟨km_RX6_201, kc_X6_greatestByOneParting, kz_RX6, by decide, by decide, by decide⟩
theorem kk_RX6_204 : m_cal RX6 204 yX6_greatestByOwnPartings cX6_greatestByOwnPartings 6 (some .int) := ⟨km_RX6_204, kc_X6_greatestByOwnPartings, kz_RX6, by decide, by decide, by decide⟩
theorem kk_RX6_207 : m_cal RX6 207 yX1_someAreApartBy cX1_someAreApartBy 4 (some .boolean) := ⟨km_RX6_207, kc_X1_someAreApartBy, kz_RX1, by decide, by decide, by decide⟩
theorem kk_RX6_210 : m_cal RX6 210 yX3_isToldFor cX3_isToldFor 2 (some .boolean) := ⟨km_RX6_210, kc_X3_isToldFor, kz_RX3, by decide, by decide, by decide⟩
theorem kk_RX6_218 : m_cal RX6 218 yX3_startJoining cX3_startJoining 1 none := ⟨km_RX6_218, kc_X3_startJoining, kz_RX3, by decide, by decide, by decide⟩
theorem kk_RX6_221 : m_cal RX6 221 yX3_join cX3_join 2 none := ⟨km_RX6_221, kc_X3_join, kz_RX3, by decide, by decide, by decide⟩
theorem kk_RX6_224 : m_cal RX6 224 yX3_findForJoined cX3_findForJoined 3 (some .boolean) := ⟨km_RX6_224, kc_X3_findForJoined, kz_RX3, by decide, by decide, by decide⟩
theorem kk_RX6_64 : m_cal RX6 64 yX4_bytesIn cX4_bytesIn 3 (some .int) := ⟨km_RX6_64, kc_X4_bytesIn, kz_RX4, by decide, by decide, by decide⟩
theorem kk_RX6_71 : m_cal RX6 71 yX4_append cX4_append 4 none := ⟨km_RX6_71, kc_X4_append, kz_RX4, by decide, by decide, by decide⟩
theorem kk_RX6_75 : m_cal RX6 75 yX4_readInto cX4_readInto 7 (some .int) := ⟨km_RX6_75, kc_X4_readInto, kz_RX4, by decide, by decide, by decide⟩
theorem kk_RX6_79 : m_cal RX6 79 yX0_copyFrom cX0_copyFrom 2 none := ⟨km_RX6_79, kc_X0_copyFrom, kz_RX0, by decide, by decide, by decide⟩
theorem kk_RX6_83 : m_cal RX6 83 yX6_coverAt cX6_coverAt 2 (some (.object "StormParting$Cover")) := ⟨km_RX6_83, kc_X6_coverAt, kz_RX6, by decide, by decide, by decide⟩
theorem kk_RX6_87 : m_cal RX6 87 yX6_isWithin cX6_isWithin 3 (some .boolean) := ⟨km_RX6_87, kc_X6_isWithin, kz_RX6, by decide, by decide, by decide⟩
theorem np_X6_coverAt : (parseMethodDescriptor yX6_coverAt.desc).map (fun d => d.parameters.length) = some 1 := by decide +kernel
theorem np_X6_greatestByOneParting : (parseMethodDescriptor yX6_greatestByOneParting.desc).map (fun d => d.parameters.length) = some 1 := by decide +kernel
theorem np_X6_greatestByOwnPartings : (parseMethodDescriptor yX6_greatestByOwnPartings.desc).map (fun d => d.parameters.length) = some 1 := by decide +kernel
theorem np_X6_greatestFor : (parseMethodDescriptor yX6_greatestFor.desc).map (fun d => d.parameters.length) = some 2 := by decide +kernel
theorem np_X6_isWithin : (parseMethodDescriptor yX6_isWithin.desc).map (fun d => d.parameters.length) = some 3 := by decide +kernel
theorem np_X6_lossOfGreatestWeight : (parseMethodDescriptor yX6_lossOfGreatestWeight.desc).map (fun d => d.parameters.length) = some 2 := by decide +kernel
theorem np_X0_asksCauses : (parseMethodDescriptor yX0_asksCauses.desc).map (fun d => d.parameters.length) = some 0 := by decide +kernel
theorem np_X0_bringFor : (parseMethodDescriptor yX0_bringFor.desc).map (fun d => d.parameters.length) = some 1 := by decide +kernel
theorem np_X0_copyFrom : (parseMethodDescriptor yX0_copyFrom.desc).map (fun d => d.parameters.length) = some 1 := by decide +kernel
theorem np_X0_forget : (parseMethodDescriptor yX0_forget.desc).map (fun d => d.parameters.length) = some 0 := by decide +kernel
theorem np_X0_narrowBy : (parseMethodDescriptor yX0_narrowBy.desc).map (fun d => d.parameters.length) = some 1 := by decide +kernel
theorem np_X0_netOf : (parseMethodDescriptor yX0_netOf.desc).map (fun d => d.parameters.length) = some 1 := by decide +kernel
theorem np_X0_overlaps : (parseMethodDescriptor yX0_overlaps.desc).map (fun d => d.parameters.length) = some 0 := by decide +kernel
theorem np_X0_payFor : (parseMethodDescriptor yX0_payFor.desc).map (fun d => d.parameters.length) = some 1 := by decide +kernel
theorem np_X0_share : (parseMethodDescriptor yX0_share.desc).map (fun d => d.parameters.length) = some 0 := by decide +kernel
theorem np_X0_tell : (parseMethodDescriptor yX0_tell.desc).map (fun d => d.parameters.length) = some 2 := by decide +kernel
theorem np_X0_whatOf : (parseMethodDescriptor yX0_whatOf.desc).map (fun d => d.parameters.length) = some 1 := by decide +kernel
theorem np_X1_all : (parseMethodDescriptor yX1_all.desc).map (fun d => d.parameters.length) = some 0 := by decide +kernel
theorem np_X1_areNear : (parseMethodDescriptor yX1_areNear.desc).map (fun d => d.parameters.length) = some 3 := by decide +kernel
theorem np_X1_areOne : (parseMethodDescriptor yX1_areOne.desc).map (fun d => d.parameters.length) = some 2 := by decide +kernel
theorem np_X1_greatestHourOf : (parseMethodDescriptor yX1_greatestHourOf.desc).map (fun d => d.parameters.length) = some 1 := by decide +kernel
theorem np_X1_has : (parseMethodDescriptor yX1_has.desc).map (fun d => d.parameters.length) = some 1 := by decide +kernel
theorem np_X1_hasAll : (parseMethodDescriptor yX1_hasAll.desc).map (fun d => d.parameters.length) = some 1 := by decide +kernel
theorem np_X1_isIn : (parseMethodDescriptor yX1_isIn.desc).map (fun d => d.parameters.length) = some 2 := by decide +kernel
theorem np_X1_leastHourOf : (parseMethodDescriptor yX1_leastHourOf.desc).map (fun d => d.parameters.length) = some 1 := by decide +kernel
theorem np_X1_putInRow : (parseMethodDescriptor yX1_putInRow.desc).map (fun d => d.parameters.length) = some 2 := by decide +kernel
theorem np_X1_someAreApartBy : (parseMethodDescriptor yX1_someAreApartBy.desc).map (fun d => d.parameters.length) = some 1 := by decide +kernel
theorem np_X1_standsAnewAt : (parseMethodDescriptor yX1_standsAnewAt.desc).map (fun d => d.parameters.length) = some 3 := by decide +kernel
theorem np_X1_sumBefore : (parseMethodDescriptor yX1_sumBefore.desc).map (fun d => d.parameters.length) = some 2 := by decide +kernel
theorem np_X1_sumOf : (parseMethodDescriptor yX1_sumOf.desc).map (fun d => d.parameters.length) = some 1 := by decide +kernel
theorem np_X2_bringFor : (parseMethodDescriptor yX2_bringFor.desc).map (fun d => d.parameters.length) = some 2 := by decide +kernel
theorem np_X2_clear : (parseMethodDescriptor yX2_clear.desc).map (fun d => d.parameters.length) = some 0 := by decide +kernel
theorem np_X2_isEmpty : (parseMethodDescriptor yX2_isEmpty.desc).map (fun d => d.parameters.length) = some 0 := by decide +kernel
theorem np_X2_join : (parseMethodDescriptor yX2_join.desc).map (fun d => d.parameters.length) = some 1 := by decide +kernel
theorem np_X2_price : (parseMethodDescriptor yX2_price.desc).map (fun d => d.parameters.length) = some 2 := by decide +kernel
theorem np_X3_areOne : (parseMethodDescriptor yX3_areOne.desc).map (fun d => d.parameters.length) = some 1 := by decide +kernel
theorem np_X3_findFor : (parseMethodDescriptor yX3_findFor.desc).map (fun d => d.parameters.length) = some 2 := by decide +kernel
theorem np_X3_findForJoined : (parseMethodDescriptor yX3_findForJoined.desc).map (fun d => d.parameters.length) = some 1 := by decide +kernel
theorem np_X3_isToldFor : (parseMethodDescriptor yX3_isToldFor.desc).map (fun d => d.parameters.length) = some 2 := by decide +kernel
theorem np_X3_join : (parseMethodDescriptor yX3_join.desc).map (fun d => d.parameters.length) = some 1 := by decide +kernel
theorem np_X3_list : (parseMethodDescriptor yX3_list.desc).map (fun d => d.parameters.length) = some 1 := by decide +kernel
theorem np_X3_listRunsFrom : (parseMethodDescriptor yX3_listRunsFrom.desc).map (fun d => d.parameters.length) = some 1 := by decide +kernel
theorem np_X3_listSetsFrom : (parseMethodDescriptor yX3_listSetsFrom.desc).map (fun d => d.parameters.length) = some 1 := by decide +kernel
theorem np_X3_note : (parseMethodDescriptor yX3_note.desc).map (fun d => d.parameters.length) = some 2 := by decide +kernel
theorem np_X3_part : (parseMethodDescriptor yX3_part.desc).map (fun d => d.parameters.length) = some 3 := by decide +kernel
theorem np_X3_priceHappenings : (parseMethodDescriptor yX3_priceHappenings.desc).map (fun d => d.parameters.length) = some 0 := by decide +kernel
theorem np_X3_seeWhoIsNear : (parseMethodDescriptor yX3_seeWhoIsNear.desc).map (fun d => d.parameters.length) = some 0 := by decide +kernel
theorem np_X3_startJoining : (parseMethodDescriptor yX3_startJoining.desc).map (fun d => d.parameters.length) = some 0 := by decide +kernel
theorem np_X4_append : (parseMethodDescriptor yX4_append.desc).map (fun d => d.parameters.length) = some 1 := by decide +kernel
theorem np_X4_bytesIn : (parseMethodDescriptor yX4_bytesIn.desc).map (fun d => d.parameters.length) = some 1 := by decide +kernel
theorem np_X4_isDigit : (parseMethodDescriptor yX4_isDigit.desc).map (fun d => d.parameters.length) = some 1 := by decide +kernel
theorem np_X4_pastBlanks : (parseMethodDescriptor yX4_pastBlanks.desc).map (fun d => d.parameters.length) = some 1 := by decide +kernel
theorem np_X4_readInto : (parseMethodDescriptor yX4_readInto.desc).map (fun d => d.parameters.length) = some 1 := by decide +kernel
theorem np_X4_valueOf : (parseMethodDescriptor yX4_valueOf.desc).map (fun d => d.parameters.length) = some 2 := by decide +kernel
theorem np_X5_areTooNear : (parseMethodDescriptor yX5_areTooNear.desc).map (fun d => d.parameters.length) = some 3 := by decide +kernel
theorem np_X5_bar : (parseMethodDescriptor yX5_bar.desc).map (fun d => d.parameters.length) = some 3 := by decide +kernel
theorem np_X5_firstBar : (parseMethodDescriptor yX5_firstBar.desc).map (fun d => d.parameters.length) = some 1 := by decide +kernel
theorem np_X5_happeningOf : (parseMethodDescriptor yX5_happeningOf.desc).map (fun d => d.parameters.length) = some 1 := by decide +kernel
theorem np_X5_reckon : (parseMethodDescriptor yX5_reckon.desc).map (fun d => d.parameters.length) = some 1 := by decide +kernel
theorem iX0 : ∀ v ∈ u_ws RX0 TX0 1, v ∈ mbig := by decide +kernel
theorem iX1 : ∀ v ∈ u_ws RX1 TX1 7, v ∈ mbig := by decide +kernel
theorem iX2 : ∀ v ∈ u_ws RX2 TX2 6, v ∈ mbig := by decide +kernel
theorem iX3 : ∀ v ∈ u_ws RX3 TX3 14, v ∈ mbig := by decide +kernel
theorem iX4 : ∀ v ∈ u_ws RX4 TX4 2, v ∈ mbig := by decide +kernel
theorem iX5 : ∀ v ∈ u_ws RX5 TX5 6, v ∈ mbig := by decide +kernel
theorem iX6 : ∀ v ∈ u_ws RX6 TX6 10, v ∈ mbig := by decide +kernel
