/-! the words of the law's calls (written by program) -/
theorem lm_19 : Cond.methodLink RL 19 yX6_feed ∈ mbig := m_in 297 (by decide +kernel) rfl
theorem lo_X6_feed : Cond.code yX6_feed cX6_feed 7 (some .int) ∈ mbig := m_in 300 (by decide +kernel) rfl
theorem li_X6_feed : Cond.instanceMethod yX6_feed ∈ mbig := m_in 298 (by decide +kernel) rfl
theorem ls_X6_feed : Cond.selects RX6 yX6_feed yX6_feed ∈ mbig := m_in 299 (by decide +kernel) rfl
theorem ln_X6_feed : (parseMethodDescriptor yX6_feed.desc).map (fun d => d.parameters.length) = some 5 := by decide +kernel
theorem lk_19 : m_cal RL 19 yX6_feed cX6_feed 7 (some .int) := ⟨lm_19, lo_X6_feed, kz_RX6, by decide, by decide, by decide⟩
theorem lm_23 : Cond.methodLink RL 23 yX7_feed ∈ mbig := m_in 966 (by decide +kernel) rfl
theorem lo_X7_feed : Cond.code yX7_feed cX7_feed 6 (some .int) ∈ mbig := m_in 969 (by decide +kernel) rfl
theorem li_X7_feed : Cond.instanceMethod yX7_feed ∈ mbig := m_in 967 (by decide +kernel) rfl
theorem ls_X7_feed : Cond.selects RX7 yX7_feed yX7_feed ∈ mbig := m_in 968 (by decide +kernel) rfl
theorem ln_X7_feed : (parseMethodDescriptor yX7_feed.desc).map (fun d => d.parameters.length) = some 5 := by decide +kernel
theorem lk_23 : m_cal RL 23 yX7_feed cX7_feed 6 (some .int) := ⟨lm_23, lo_X7_feed, kz_RX7, by decide, by decide, by decide⟩
theorem lm_24 : Cond.methodLink RL 24 yX6_end ∈ mbig := m_in 308 (by decide +kernel) rfl
theorem lo_X6_end : Cond.code yX6_end cX6_end 2 (some .boolean) ∈ mbig := m_in 311 (by decide +kernel) rfl
theorem li_X6_end : Cond.instanceMethod yX6_end ∈ mbig := m_in 309 (by decide +kernel) rfl
theorem ls_X6_end : Cond.selects RX6 yX6_end yX6_end ∈ mbig := m_in 310 (by decide +kernel) rfl
theorem ln_X6_end : (parseMethodDescriptor yX6_end.desc).map (fun d => d.parameters.length) = some 1 := by decide +kernel
theorem lk_24 : m_cal RL 24 yX6_end cX6_end 2 (some .boolean) := ⟨lm_24, lo_X6_end, kz_RX6, by decide, by decide, by decide⟩
theorem lm_28 : Cond.methodLink RL 28 yX7_end ∈ mbig := m_in 977 (by decide +kernel) rfl
theorem lo_X7_end : Cond.code yX7_end cX7_end 2 (some .boolean) ∈ mbig := m_in 980 (by decide +kernel) rfl
theorem li_X7_end : Cond.instanceMethod yX7_end ∈ mbig := m_in 978 (by decide +kernel) rfl
theorem ls_X7_end : Cond.selects RX7 yX7_end yX7_end ∈ mbig := m_in 979 (by decide +kernel) rfl
theorem ln_X7_end : (parseMethodDescriptor yX7_end.desc).map (fun d => d.parameters.length) = some 1 := by decide +kernel
theorem lk_28 : m_cal RL 28 yX7_end cX7_end 2 (some .boolean) := ⟨lm_28, lo_X7_end, kz_RX7, by decide, by decide, by decide⟩
theorem lm_29 : Cond.methodLink RL 29 yX6_fault ∈ mbig := m_in 312 (by decide +kernel) rfl
theorem lo_X6_fault : Cond.code yX6_fault cX6_fault 1 (some .int) ∈ mbig := m_in 315 (by decide +kernel) rfl
theorem li_X6_fault : Cond.instanceMethod yX6_fault ∈ mbig := m_in 313 (by decide +kernel) rfl
theorem ls_X6_fault : Cond.selects RX6 yX6_fault yX6_fault ∈ mbig := m_in 314 (by decide +kernel) rfl
theorem ln_X6_fault : (parseMethodDescriptor yX6_fault.desc).map (fun d => d.parameters.length) = some 0 := by decide +kernel
theorem lk_29 : m_cal RL 29 yX6_fault cX6_fault 1 (some .int) := ⟨lm_29, lo_X6_fault, kz_RX6, by decide, by decide, by decide⟩
theorem lm_33 : Cond.methodLink RL 33 yX7_fault ∈ mbig := m_in 981 (by decide +kernel) rfl
theorem lo_X7_fault : Cond.code yX7_fault cX7_fault 2 (some .int) ∈ mbig := m_in 984 (by decide +kernel) rfl
theorem li_X7_fault : Cond.instanceMethod yX7_fault ∈ mbig := m_in 982 (by decide +kernel) rfl
theorem ls_X7_fault : Cond.selects RX7 yX7_fault yX7_fault ∈ mbig := m_in 983 (by decide +kernel) rfl
theorem ln_X7_fault : (parseMethodDescriptor yX7_fault.desc).map (fun d => d.parameters.length) = some 0 := by decide +kernel
theorem lk_33 : m_cal RL 33 yX7_fault cX7_fault 2 (some .int) := ⟨lm_33, lo_X7_fault, kz_RX7, by decide, by decide, by decide⟩
theorem lm_34 : Cond.methodLink RL 34 yX6_cover ∈ mbig := m_in 443 (by decide +kernel) rfl
theorem lo_X6_cover : Cond.code yX6_cover cX6_cover 2 (some .int) ∈ mbig := m_in 446 (by decide +kernel) rfl
theorem li_X6_cover : Cond.instanceMethod yX6_cover ∈ mbig := m_in 444 (by decide +kernel) rfl
theorem ls_X6_cover : Cond.selects RX6 yX6_cover yX6_cover ∈ mbig := m_in 445 (by decide +kernel) rfl
theorem ln_X6_cover : (parseMethodDescriptor yX6_cover.desc).map (fun d => d.parameters.length) = some 0 := by decide +kernel
theorem lk_34 : m_cal RL 34 yX6_cover cX6_cover 2 (some .int) := ⟨lm_34, lo_X6_cover, kz_RX6, by decide, by decide, by decide⟩
theorem lm_37 : Cond.methodLink RL 37 yX7_cover ∈ mbig := m_in 1027 (by decide +kernel) rfl
theorem lo_X7_cover : Cond.code yX7_cover cX7_cover 1 (some .int) ∈ mbig := m_in 1030 (by decide +kernel) rfl
theorem li_X7_cover : Cond.instanceMethod yX7_cover ∈ mbig := m_in 1028 (by decide +kernel) rfl
theorem ls_X7_cover : Cond.selects RX7 yX7_cover yX7_cover ∈ mbig := m_in 1029 (by decide +kernel) rfl
theorem ln_X7_cover : (parseMethodDescriptor yX7_cover.desc).map (fun d => d.parameters.length) = some 0 := by decide +kernel
theorem lk_37 : m_cal RL 37 yX7_cover cX7_cover 1 (some .int) := ⟨lm_37, lo_X7_cover, kz_RX7, by decide, by decide, by decide⟩
theorem lm_47 : Cond.methodLink RL 47 yX6_loss ∈ mbig := m_in 451 (by decide +kernel) rfl
theorem lo_X6_loss : Cond.code yX6_loss cX6_loss 11 (some .int) ∈ mbig := m_in 454 (by decide +kernel) rfl
theorem li_X6_loss : Cond.instanceMethod yX6_loss ∈ mbig := m_in 452 (by decide +kernel) rfl
theorem ls_X6_loss : Cond.selects RX6 yX6_loss yX6_loss ∈ mbig := m_in 453 (by decide +kernel) rfl
theorem ln_X6_loss : (parseMethodDescriptor yX6_loss.desc).map (fun d => d.parameters.length) = some 6 := by decide +kernel
theorem lk_47 : m_cal RL 47 yX6_loss cX6_loss 11 (some .int) := ⟨lm_47, lo_X6_loss, kz_RX6, by decide, by decide, by decide⟩
theorem lm_51 : Cond.methodLink RL 51 yX7_loss ∈ mbig := m_in 1043 (by decide +kernel) rfl
theorem lo_X7_loss : Cond.code yX7_loss cX7_loss 7 (some .int) ∈ mbig := m_in 1046 (by decide +kernel) rfl
theorem li_X7_loss : Cond.instanceMethod yX7_loss ∈ mbig := m_in 1044 (by decide +kernel) rfl
theorem ls_X7_loss : Cond.selects RX7 yX7_loss yX7_loss ∈ mbig := m_in 1045 (by decide +kernel) rfl
theorem ln_X7_loss : (parseMethodDescriptor yX7_loss.desc).map (fun d => d.parameters.length) = some 6 := by decide +kernel
theorem lk_51 : m_cal RL 51 yX7_loss cX7_loss 7 (some .int) := ⟨lm_51, lo_X7_loss, kz_RX7, by decide, by decide, by decide⟩
theorem lm_52 : Cond.methodLink RL 52 yX6_may ∈ mbig := m_in 456 (by decide +kernel) rfl
theorem lo_X6_may : Cond.code yX6_may cX6_may 4 (some .int) ∈ mbig := m_in 459 (by decide +kernel) rfl
theorem li_X6_may : Cond.instanceMethod yX6_may ∈ mbig := m_in 457 (by decide +kernel) rfl
theorem ls_X6_may : Cond.selects RX6 yX6_may yX6_may ∈ mbig := m_in 458 (by decide +kernel) rfl
theorem ln_X6_may : (parseMethodDescriptor yX6_may.desc).map (fun d => d.parameters.length) = some 2 := by decide +kernel
theorem lk_52 : m_cal RL 52 yX6_may cX6_may 4 (some .int) := ⟨lm_52, lo_X6_may, kz_RX6, by decide, by decide, by decide⟩
theorem lm_55 : Cond.methodLink RL 55 yX7_may ∈ mbig := m_in 1056 (by decide +kernel) rfl
theorem lo_X7_may : Cond.code yX7_may cX7_may 3 (some .int) ∈ mbig := m_in 1059 (by decide +kernel) rfl
theorem li_X7_may : Cond.instanceMethod yX7_may ∈ mbig := m_in 1057 (by decide +kernel) rfl
theorem ls_X7_may : Cond.selects RX7 yX7_may yX7_may ∈ mbig := m_in 1058 (by decide +kernel) rfl
theorem ln_X7_may : (parseMethodDescriptor yX7_may.desc).map (fun d => d.parameters.length) = some 2 := by decide +kernel
theorem lk_55 : m_cal RL 55 yX7_may cX7_may 3 (some .int) := ⟨lm_55, lo_X7_may, kz_RX7, by decide, by decide, by decide⟩
theorem lm_56 : Cond.methodLink RL 56 yX6_paid ∈ mbig := m_in 490 (by decide +kernel) rfl
theorem lo_X6_paid : Cond.code yX6_paid cX6_paid 4 (some .int) ∈ mbig := m_in 493 (by decide +kernel) rfl
theorem li_X6_paid : Cond.instanceMethod yX6_paid ∈ mbig := m_in 491 (by decide +kernel) rfl
theorem ls_X6_paid : Cond.selects RX6 yX6_paid yX6_paid ∈ mbig := m_in 492 (by decide +kernel) rfl
theorem ln_X6_paid : (parseMethodDescriptor yX6_paid.desc).map (fun d => d.parameters.length) = some 2 := by decide +kernel
theorem lk_56 : m_cal RL 56 yX6_paid cX6_paid 4 (some .int) := ⟨lm_56, lo_X6_paid, kz_RX6, by decide, by decide, by decide⟩
theorem lm_59 : Cond.methodLink RL 59 yX7_paid ∈ mbig := m_in 1084 (by decide +kernel) rfl
theorem lo_X7_paid : Cond.code yX7_paid cX7_paid 3 (some .int) ∈ mbig := m_in 1087 (by decide +kernel) rfl
theorem li_X7_paid : Cond.instanceMethod yX7_paid ∈ mbig := m_in 1085 (by decide +kernel) rfl
theorem ls_X7_paid : Cond.selects RX7 yX7_paid yX7_paid ∈ mbig := m_in 1086 (by decide +kernel) rfl
theorem ln_X7_paid : (parseMethodDescriptor yX7_paid.desc).map (fun d => d.parameters.length) = some 2 := by decide +kernel
theorem lk_59 : m_cal RL 59 yX7_paid cX7_paid 3 (some .int) := ⟨lm_59, lo_X7_paid, kz_RX7, by decide, by decide, by decide⟩
theorem lm_60 : Cond.methodLink RL 60 yX6_put ∈ mbig := m_in 506 (by decide +kernel) rfl
theorem lo_X6_put : Cond.code yX6_put cX6_put 3 (some .boolean) ∈ mbig := m_in 509 (by decide +kernel) rfl
theorem li_X6_put : Cond.instanceMethod yX6_put ∈ mbig := m_in 507 (by decide +kernel) rfl
theorem ls_X6_put : Cond.selects RX6 yX6_put yX6_put ∈ mbig := m_in 508 (by decide +kernel) rfl
theorem ln_X6_put : (parseMethodDescriptor yX6_put.desc).map (fun d => d.parameters.length) = some 2 := by decide +kernel
theorem lk_60 : m_cal RL 60 yX6_put cX6_put 3 (some .boolean) := ⟨lm_60, lo_X6_put, kz_RX6, by decide, by decide, by decide⟩
theorem lm_64 : Cond.methodLink RL 64 yX7_put_ ∈ mbig := m_in 1096 (by decide +kernel) rfl
theorem lo_X7_put_ : Cond.code yX7_put_ cX7_put_ 3 (some .boolean) ∈ mbig := m_in 1099 (by decide +kernel) rfl
theorem li_X7_put_ : Cond.instanceMethod yX7_put_ ∈ mbig := m_in 1097 (by decide +kernel) rfl
theorem ls_X7_put_ : Cond.selects RX7 yX7_put_ yX7_put_ ∈ mbig := m_in 1098 (by decide +kernel) rfl
theorem ln_X7_put_ : (parseMethodDescriptor yX7_put_.desc).map (fun d => d.parameters.length) = some 2 := by decide +kernel
theorem lk_64 : m_cal RL 64 yX7_put_ cX7_put_ 3 (some .boolean) := ⟨lm_64, lo_X7_put_, kz_RX7, by decide, by decide, by decide⟩
theorem lm_65 : Cond.methodLink RL 65 yX6_judge ∈ mbig := m_in 514 (by decide +kernel) rfl
theorem lo_X6_judge : Cond.code yX6_judge cX6_judge 3 (some .int) ∈ mbig := m_in 517 (by decide +kernel) rfl
theorem li_X6_judge : Cond.instanceMethod yX6_judge ∈ mbig := m_in 515 (by decide +kernel) rfl
theorem ls_X6_judge : Cond.selects RX6 yX6_judge yX6_judge ∈ mbig := m_in 516 (by decide +kernel) rfl
theorem ln_X6_judge : (parseMethodDescriptor yX6_judge.desc).map (fun d => d.parameters.length) = some 1 := by decide +kernel
theorem lk_65 : m_cal RL 65 yX6_judge cX6_judge 3 (some .int) := ⟨lm_65, lo_X6_judge, kz_RX6, by decide, by decide, by decide⟩
theorem lm_69 : Cond.methodLink RL 69 yX7_judge ∈ mbig := m_in 1100 (by decide +kernel) rfl
theorem lo_X7_judge : Cond.code yX7_judge cX7_judge 2 (some .int) ∈ mbig := m_in 1103 (by decide +kernel) rfl
theorem li_X7_judge : Cond.instanceMethod yX7_judge ∈ mbig := m_in 1101 (by decide +kernel) rfl
theorem ls_X7_judge : Cond.selects RX7 yX7_judge yX7_judge ∈ mbig := m_in 1102 (by decide +kernel) rfl
theorem ln_X7_judge : (parseMethodDescriptor yX7_judge.desc).map (fun d => d.parameters.length) = some 1 := by decide +kernel
theorem lk_69 : m_cal RL 69 yX7_judge cX7_judge 2 (some .int) := ⟨lm_69, lo_X7_judge, kz_RX7, by decide, by decide, by decide⟩
theorem lm_70 : Cond.methodLink RL 70 yX6_brings ∈ mbig := m_in 553 (by decide +kernel) rfl
theorem lo_X6_brings : Cond.code yX6_brings cX6_brings 5 (some .int) ∈ mbig := m_in 556 (by decide +kernel) rfl
theorem li_X6_brings : Cond.instanceMethod yX6_brings ∈ mbig := m_in 554 (by decide +kernel) rfl
theorem ls_X6_brings : Cond.selects RX6 yX6_brings yX6_brings ∈ mbig := m_in 555 (by decide +kernel) rfl
theorem ln_X6_brings : (parseMethodDescriptor yX6_brings.desc).map (fun d => d.parameters.length) = some 2 := by decide +kernel
theorem lk_70 : m_cal RL 70 yX6_brings cX6_brings 5 (some .int) := ⟨lm_70, lo_X6_brings, kz_RX6, by decide, by decide, by decide⟩
theorem lm_73 : Cond.methodLink RL 73 yX7_brings ∈ mbig := m_in 1121 (by decide +kernel) rfl
theorem lo_X7_brings : Cond.code yX7_brings cX7_brings 5 (some .int) ∈ mbig := m_in 1124 (by decide +kernel) rfl
theorem li_X7_brings : Cond.instanceMethod yX7_brings ∈ mbig := m_in 1122 (by decide +kernel) rfl
theorem ls_X7_brings : Cond.selects RX7 yX7_brings yX7_brings ∈ mbig := m_in 1123 (by decide +kernel) rfl
theorem ln_X7_brings : (parseMethodDescriptor yX7_brings.desc).map (fun d => d.parameters.length) = some 2 := by decide +kernel
theorem lk_73 : m_cal RL 73 yX7_brings cX7_brings 5 (some .int) := ⟨lm_73, lo_X7_brings, kz_RX7, by decide, by decide, by decide⟩
theorem lm_74 : Cond.methodLink RL 74 yX6_year ∈ mbig := m_in 583 (by decide +kernel) rfl
theorem lo_X6_year : Cond.code yX6_year cX6_year 6 (some .int) ∈ mbig := m_in 586 (by decide +kernel) rfl
theorem li_X6_year : Cond.instanceMethod yX6_year ∈ mbig := m_in 584 (by decide +kernel) rfl
theorem ls_X6_year : Cond.selects RX6 yX6_year yX6_year ∈ mbig := m_in 585 (by decide +kernel) rfl
theorem ln_X6_year : (parseMethodDescriptor yX6_year.desc).map (fun d => d.parameters.length) = some 3 := by decide +kernel
theorem lk_74 : m_cal RL 74 yX6_year cX6_year 6 (some .int) := ⟨lm_74, lo_X6_year, kz_RX6, by decide, by decide, by decide⟩
theorem lm_78 : Cond.methodLink RL 78 yX7_year ∈ mbig := m_in 1142 (by decide +kernel) rfl
theorem lo_X7_year : Cond.code yX7_year cX7_year 7 (some .int) ∈ mbig := m_in 1145 (by decide +kernel) rfl
theorem li_X7_year : Cond.instanceMethod yX7_year ∈ mbig := m_in 1143 (by decide +kernel) rfl
theorem ls_X7_year : Cond.selects RX7 yX7_year yX7_year ∈ mbig := m_in 1144 (by decide +kernel) rfl
theorem ln_X7_year : (parseMethodDescriptor yX7_year.desc).map (fun d => d.parameters.length) = some 3 := by decide +kernel
theorem lk_78 : m_cal RL 78 yX7_year cX7_year 7 (some .int) := ⟨lm_78, lo_X7_year, kz_RX7, by decide, by decide, by decide⟩
theorem lm_79 : Cond.methodLink RL 79 yX6_most ∈ mbig := m_in 590 (by decide +kernel) rfl
theorem lo_X6_most : Cond.code yX6_most cX6_most 5 (some .int) ∈ mbig := m_in 593 (by decide +kernel) rfl
theorem li_X6_most : Cond.instanceMethod yX6_most ∈ mbig := m_in 591 (by decide +kernel) rfl
theorem ls_X6_most : Cond.selects RX6 yX6_most yX6_most ∈ mbig := m_in 592 (by decide +kernel) rfl
theorem ln_X6_most : (parseMethodDescriptor yX6_most.desc).map (fun d => d.parameters.length) = some 3 := by decide +kernel
theorem lk_79 : m_cal RL 79 yX6_most cX6_most 5 (some .int) := ⟨lm_79, lo_X6_most, kz_RX6, by decide, by decide, by decide⟩
theorem lm_83 : Cond.methodLink RL 83 yX7_most ∈ mbig := m_in 1146 (by decide +kernel) rfl
theorem lo_X7_most : Cond.code yX7_most cX7_most 4 (some .int) ∈ mbig := m_in 1149 (by decide +kernel) rfl
theorem li_X7_most : Cond.instanceMethod yX7_most ∈ mbig := m_in 1147 (by decide +kernel) rfl
theorem ls_X7_most : Cond.selects RX7 yX7_most yX7_most ∈ mbig := m_in 1148 (by decide +kernel) rfl
theorem ln_X7_most : (parseMethodDescriptor yX7_most.desc).map (fun d => d.parameters.length) = some 3 := by decide +kernel
theorem lk_83 : m_cal RL 83 yX7_most cX7_most 4 (some .int) := ⟨lm_83, lo_X7_most, kz_RX7, by decide, by decide, by decide⟩
theorem lm_84 : Cond.methodLink RL 84 yX6_net ∈ mbig := m_in 686 (by decide +kernel) rfl
theorem lo_X6_net : Cond.code yX6_net cX6_net 7 (some .int) ∈ mbig := m_in 689 (by decide +kernel) rfl
theorem li_X6_net : Cond.instanceMethod yX6_net ∈ mbig := m_in 687 (by decide +kernel) rfl
theorem ls_X6_net : Cond.selects RX6 yX6_net yX6_net ∈ mbig := m_in 688 (by decide +kernel) rfl
theorem ln_X6_net : (parseMethodDescriptor yX6_net.desc).map (fun d => d.parameters.length) = some 3 := by decide +kernel
theorem lk_84 : m_cal RL 84 yX6_net cX6_net 7 (some .int) := ⟨lm_84, lo_X6_net, kz_RX6, by decide, by decide, by decide⟩
theorem lm_87 : Cond.methodLink RL 87 yX7_net ∈ mbig := m_in 1191 (by decide +kernel) rfl
theorem lo_X7_net : Cond.code yX7_net cX7_net 4 (some .int) ∈ mbig := m_in 1194 (by decide +kernel) rfl
theorem li_X7_net : Cond.instanceMethod yX7_net ∈ mbig := m_in 1192 (by decide +kernel) rfl
theorem ls_X7_net : Cond.selects RX7 yX7_net yX7_net ∈ mbig := m_in 1193 (by decide +kernel) rfl
theorem ln_X7_net : (parseMethodDescriptor yX7_net.desc).map (fun d => d.parameters.length) = some 3 := by decide +kernel
theorem lk_87 : m_cal RL 87 yX7_net cX7_net 4 (some .int) := ⟨lm_87, lo_X7_net, kz_RX7, by decide, by decide, by decide⟩
theorem lm_88 : Cond.methodLink RL 88 yX6_ends ∈ mbig := m_in 690 (by decide +kernel) rfl
theorem lo_X6_ends : Cond.code yX6_ends cX6_ends 11 (some .int) ∈ mbig := m_in 693 (by decide +kernel) rfl
theorem li_X6_ends : Cond.instanceMethod yX6_ends ∈ mbig := m_in 691 (by decide +kernel) rfl
theorem ls_X6_ends : Cond.selects RX6 yX6_ends yX6_ends ∈ mbig := m_in 692 (by decide +kernel) rfl
theorem ln_X6_ends : (parseMethodDescriptor yX6_ends.desc).map (fun d => d.parameters.length) = some 3 := by decide +kernel
theorem lk_88 : m_cal RL 88 yX6_ends cX6_ends 11 (some .int) := ⟨lm_88, lo_X6_ends, kz_RX6, by decide, by decide, by decide⟩
theorem lm_91 : Cond.methodLink RL 91 yX7_ends ∈ mbig := m_in 1195 (by decide +kernel) rfl
theorem lo_X7_ends : Cond.code yX7_ends cX7_ends 8 (some .int) ∈ mbig := m_in 1198 (by decide +kernel) rfl
theorem li_X7_ends : Cond.instanceMethod yX7_ends ∈ mbig := m_in 1196 (by decide +kernel) rfl
theorem ls_X7_ends : Cond.selects RX7 yX7_ends yX7_ends ∈ mbig := m_in 1197 (by decide +kernel) rfl
theorem ln_X7_ends : (parseMethodDescriptor yX7_ends.desc).map (fun d => d.parameters.length) = some 3 := by decide +kernel
theorem lk_91 : m_cal RL 91 yX7_ends cX7_ends 8 (some .int) := ⟨lm_91, lo_X7_ends, kz_RX7, by decide, by decide, by decide⟩
theorem lm_92 : Cond.methodLink RL 92 yX6_hangs ∈ mbig := m_in 703 (by decide +kernel) rfl
theorem lo_X6_hangs : Cond.code yX6_hangs cX6_hangs 3 (some .int) ∈ mbig := m_in 706 (by decide +kernel) rfl
theorem li_X6_hangs : Cond.instanceMethod yX6_hangs ∈ mbig := m_in 704 (by decide +kernel) rfl
theorem ls_X6_hangs : Cond.selects RX6 yX6_hangs yX6_hangs ∈ mbig := m_in 705 (by decide +kernel) rfl
theorem ln_X6_hangs : (parseMethodDescriptor yX6_hangs.desc).map (fun d => d.parameters.length) = some 1 := by decide +kernel
theorem lk_92 : m_cal RL 92 yX6_hangs cX6_hangs 3 (some .int) := ⟨lm_92, lo_X6_hangs, kz_RX6, by decide, by decide, by decide⟩
theorem lm_95 : Cond.methodLink RL 95 yX7_hangs ∈ mbig := m_in 1199 (by decide +kernel) rfl
theorem lo_X7_hangs : Cond.code yX7_hangs cX7_hangs 5 (some .int) ∈ mbig := m_in 1202 (by decide +kernel) rfl
theorem li_X7_hangs : Cond.instanceMethod yX7_hangs ∈ mbig := m_in 1200 (by decide +kernel) rfl
theorem ls_X7_hangs : Cond.selects RX7 yX7_hangs yX7_hangs ∈ mbig := m_in 1201 (by decide +kernel) rfl
theorem ln_X7_hangs : (parseMethodDescriptor yX7_hangs.desc).map (fun d => d.parameters.length) = some 1 := by decide +kernel
theorem lk_95 : m_cal RL 95 yX7_hangs cX7_hangs 5 (some .int) := ⟨lm_95, lo_X7_hangs, kz_RX7, by decide, by decide, by decide⟩
theorem lm_96 : Cond.methodLink RL 96 yX6_told ∈ mbig := m_in 711 (by decide +kernel) rfl
theorem lo_X6_told : Cond.code yX6_told cX6_told 7 (some .int) ∈ mbig := m_in 714 (by decide +kernel) rfl
theorem li_X6_told : Cond.instanceMethod yX6_told ∈ mbig := m_in 712 (by decide +kernel) rfl
theorem ls_X6_told : Cond.selects RX6 yX6_told yX6_told ∈ mbig := m_in 713 (by decide +kernel) rfl
theorem ln_X6_told : (parseMethodDescriptor yX6_told.desc).map (fun d => d.parameters.length) = some 3 := by decide +kernel
theorem lk_96 : m_cal RL 96 yX6_told cX6_told 7 (some .int) := ⟨lm_96, lo_X6_told, kz_RX6, by decide, by decide, by decide⟩
theorem lm_99 : Cond.methodLink RL 99 yX7_told ∈ mbig := m_in 1203 (by decide +kernel) rfl
theorem lo_X7_told : Cond.code yX7_told cX7_told 6 (some .int) ∈ mbig := m_in 1206 (by decide +kernel) rfl
theorem li_X7_told : Cond.instanceMethod yX7_told ∈ mbig := m_in 1204 (by decide +kernel) rfl
theorem ls_X7_told : Cond.selects RX7 yX7_told yX7_told ∈ mbig := m_in 1205 (by decide +kernel) rfl
theorem ln_X7_told : (parseMethodDescriptor yX7_told.desc).map (fun d => d.parameters.length) = some 3 := by decide +kernel
theorem lk_99 : m_cal RL 99 yX7_told cX7_told 6 (some .int) := ⟨lm_99, lo_X7_told, kz_RX7, by decide, by decide, by decide⟩
theorem lm_100 : Cond.methodLink RL 100 yX6_layers ∈ mbig := m_in 715 (by decide +kernel) rfl
theorem lo_X6_layers : Cond.code yX6_layers cX6_layers 4 (some .int) ∈ mbig := m_in 718 (by decide +kernel) rfl
theorem li_X6_layers : Cond.instanceMethod yX6_layers ∈ mbig := m_in 716 (by decide +kernel) rfl
theorem ls_X6_layers : Cond.selects RX6 yX6_layers yX6_layers ∈ mbig := m_in 717 (by decide +kernel) rfl
theorem ln_X6_layers : (parseMethodDescriptor yX6_layers.desc).map (fun d => d.parameters.length) = some 2 := by decide +kernel
theorem lk_100 : m_cal RL 100 yX6_layers cX6_layers 4 (some .int) := ⟨lm_100, lo_X6_layers, kz_RX6, by decide, by decide, by decide⟩
theorem lm_104 : Cond.methodLink RL 104 yX7_layers ∈ mbig := m_in 1207 (by decide +kernel) rfl
theorem lo_X7_layers : Cond.code yX7_layers cX7_layers 5 (some .int) ∈ mbig := m_in 1210 (by decide +kernel) rfl
theorem li_X7_layers : Cond.instanceMethod yX7_layers ∈ mbig := m_in 1208 (by decide +kernel) rfl
theorem ls_X7_layers : Cond.selects RX7 yX7_layers yX7_layers ∈ mbig := m_in 1209 (by decide +kernel) rfl
theorem ln_X7_layers : (parseMethodDescriptor yX7_layers.desc).map (fun d => d.parameters.length) = some 2 := by decide +kernel
theorem lk_104 : m_cal RL 104 yX7_layers cX7_layers 5 (some .int) := ⟨lm_104, lo_X7_layers, kz_RX7, by decide, by decide, by decide⟩
theorem lm_105 : Cond.methodLink RL 105 yX6_nearest ∈ mbig := m_in 730 (by decide +kernel) rfl
theorem lo_X6_nearest : Cond.code yX6_nearest cX6_nearest 8 (some .int) ∈ mbig := m_in 733 (by decide +kernel) rfl
theorem li_X6_nearest : Cond.instanceMethod yX6_nearest ∈ mbig := m_in 731 (by decide +kernel) rfl
theorem ls_X6_nearest : Cond.selects RX6 yX6_nearest yX6_nearest ∈ mbig := m_in 732 (by decide +kernel) rfl
theorem ln_X6_nearest : (parseMethodDescriptor yX6_nearest.desc).map (fun d => d.parameters.length) = some 2 := by decide +kernel
theorem lk_105 : m_cal RL 105 yX6_nearest cX6_nearest 8 (some .int) := ⟨lm_105, lo_X6_nearest, kz_RX6, by decide, by decide, by decide⟩
theorem lm_108 : Cond.methodLink RL 108 yX7_nearest ∈ mbig := m_in 1211 (by decide +kernel) rfl
theorem lo_X7_nearest : Cond.code yX7_nearest cX7_nearest 7 (some .int) ∈ mbig := m_in 1214 (by decide +kernel) rfl
theorem li_X7_nearest : Cond.instanceMethod yX7_nearest ∈ mbig := m_in 1212 (by decide +kernel) rfl
theorem ls_X7_nearest : Cond.selects RX7 yX7_nearest yX7_nearest ∈ mbig := m_in 1213 (by decide +kernel) rfl
theorem ln_X7_nearest : (parseMethodDescriptor yX7_nearest.desc).map (fun d => d.parameters.length) = some 2 := by decide +kernel
theorem lk_108 : m_cal RL 108 yX7_nearest cX7_nearest 7 (some .int) := ⟨lm_108, lo_X7_nearest, kz_RX7, by decide, by decide, by decide⟩
theorem lm_109 : Cond.methodLink RL 109 yX6_storm ∈ mbig := m_in 738 (by decide +kernel) rfl
theorem lo_X6_storm : Cond.code yX6_storm cX6_storm 3 (some .int) ∈ mbig := m_in 741 (by decide +kernel) rfl
theorem li_X6_storm : Cond.instanceMethod yX6_storm ∈ mbig := m_in 739 (by decide +kernel) rfl
theorem ls_X6_storm : Cond.selects RX6 yX6_storm yX6_storm ∈ mbig := m_in 740 (by decide +kernel) rfl
theorem ln_X6_storm : (parseMethodDescriptor yX6_storm.desc).map (fun d => d.parameters.length) = some 2 := by decide +kernel
theorem lk_109 : m_cal RL 109 yX6_storm cX6_storm 3 (some .int) := ⟨lm_109, lo_X6_storm, kz_RX6, by decide, by decide, by decide⟩
theorem lm_112 : Cond.methodLink RL 112 yX7_storm ∈ mbig := m_in 1219 (by decide +kernel) rfl
theorem lo_X7_storm : Cond.code yX7_storm cX7_storm 3 (some .int) ∈ mbig := m_in 1222 (by decide +kernel) rfl
theorem li_X7_storm : Cond.instanceMethod yX7_storm ∈ mbig := m_in 1220 (by decide +kernel) rfl
theorem ls_X7_storm : Cond.selects RX7 yX7_storm yX7_storm ∈ mbig := m_in 1221 (by decide +kernel) rfl
theorem ln_X7_storm : (parseMethodDescriptor yX7_storm.desc).map (fun d => d.parameters.length) = some 2 := by decide +kernel
theorem lk_112 : m_cal RL 112 yX7_storm cX7_storm 3 (some .int) := ⟨lm_112, lo_X7_storm, kz_RX7, by decide, by decide, by decide⟩
theorem lm_113 : Cond.methodLink RL 113 yX6_mean ∈ mbig := m_in 742 (by decide +kernel) rfl
theorem lo_X6_mean : Cond.code yX6_mean cX6_mean 8 (some .int) ∈ mbig := m_in 745 (by decide +kernel) rfl
theorem li_X6_mean : Cond.instanceMethod yX6_mean ∈ mbig := m_in 743 (by decide +kernel) rfl
theorem ls_X6_mean : Cond.selects RX6 yX6_mean yX6_mean ∈ mbig := m_in 744 (by decide +kernel) rfl
theorem ln_X6_mean : (parseMethodDescriptor yX6_mean.desc).map (fun d => d.parameters.length) = some 2 := by decide +kernel
theorem lk_113 : m_cal RL 113 yX6_mean cX6_mean 8 (some .int) := ⟨lm_113, lo_X6_mean, kz_RX6, by decide, by decide, by decide⟩
theorem lm_116 : Cond.methodLink RL 116 yX7_mean ∈ mbig := m_in 1223 (by decide +kernel) rfl
theorem lo_X7_mean : Cond.code yX7_mean cX7_mean 6 (some .int) ∈ mbig := m_in 1226 (by decide +kernel) rfl
theorem li_X7_mean : Cond.instanceMethod yX7_mean ∈ mbig := m_in 1224 (by decide +kernel) rfl
theorem ls_X7_mean : Cond.selects RX7 yX7_mean yX7_mean ∈ mbig := m_in 1225 (by decide +kernel) rfl
theorem ln_X7_mean : (parseMethodDescriptor yX7_mean.desc).map (fun d => d.parameters.length) = some 2 := by decide +kernel
theorem lk_116 : m_cal RL 116 yX7_mean cX7_mean 6 (some .int) := ⟨lm_116, lo_X7_mean, kz_RX7, by decide, by decide, by decide⟩
theorem lm_117 : Cond.methodLink RL 117 yX6_game ∈ mbig := m_in 747 (by decide +kernel) rfl
theorem lo_X6_game : Cond.code yX6_game cX6_game 11 (some .int) ∈ mbig := m_in 750 (by decide +kernel) rfl
theorem li_X6_game : Cond.instanceMethod yX6_game ∈ mbig := m_in 748 (by decide +kernel) rfl
theorem ls_X6_game : Cond.selects RX6 yX6_game yX6_game ∈ mbig := m_in 749 (by decide +kernel) rfl
theorem ln_X6_game : (parseMethodDescriptor yX6_game.desc).map (fun d => d.parameters.length) = some 3 := by decide +kernel
theorem lk_117 : m_cal RL 117 yX6_game cX6_game 11 (some .int) := ⟨lm_117, lo_X6_game, kz_RX6, by decide, by decide, by decide⟩
theorem lm_120 : Cond.methodLink RL 120 yX7_game ∈ mbig := m_in 1227 (by decide +kernel) rfl
theorem lo_X7_game : Cond.code yX7_game cX7_game 8 (some .int) ∈ mbig := m_in 1230 (by decide +kernel) rfl
theorem li_X7_game : Cond.instanceMethod yX7_game ∈ mbig := m_in 1228 (by decide +kernel) rfl
theorem ls_X7_game : Cond.selects RX7 yX7_game yX7_game ∈ mbig := m_in 1229 (by decide +kernel) rfl
theorem ln_X7_game : (parseMethodDescriptor yX7_game.desc).map (fun d => d.parameters.length) = some 3 := by decide +kernel
theorem lk_120 : m_cal RL 120 yX7_game cX7_game 8 (some .int) := ⟨lm_120, lo_X7_game, kz_RX7, by decide, by decide, by decide⟩
theorem lm_121 : Cond.methodLink RL 121 yX6_mend ∈ mbig := m_in 751 (by decide +kernel) rfl
theorem lo_X6_mend : Cond.code yX6_mend cX6_mend 4 (some .boolean) ∈ mbig := m_in 754 (by decide +kernel) rfl
theorem li_X6_mend : Cond.instanceMethod yX6_mend ∈ mbig := m_in 752 (by decide +kernel) rfl
theorem ls_X6_mend : Cond.selects RX6 yX6_mend yX6_mend ∈ mbig := m_in 753 (by decide +kernel) rfl
theorem ln_X6_mend : (parseMethodDescriptor yX6_mend.desc).map (fun d => d.parameters.length) = some 3 := by decide +kernel
theorem lk_121 : m_cal RL 121 yX6_mend cX6_mend 4 (some .boolean) := ⟨lm_121, lo_X6_mend, kz_RX6, by decide, by decide, by decide⟩
theorem lm_125 : Cond.methodLink RL 125 yX7_mend ∈ mbig := m_in 1047 (by decide +kernel) rfl
theorem lo_X7_mend : Cond.code yX7_mend cX7_mend 4 (some .boolean) ∈ mbig := m_in 1050 (by decide +kernel) rfl
theorem li_X7_mend : Cond.instanceMethod yX7_mend ∈ mbig := m_in 1048 (by decide +kernel) rfl
theorem ls_X7_mend : Cond.selects RX7 yX7_mend yX7_mend ∈ mbig := m_in 1049 (by decide +kernel) rfl
theorem ln_X7_mend : (parseMethodDescriptor yX7_mend.desc).map (fun d => d.parameters.length) = some 3 := by decide +kernel
theorem lk_125 : m_cal RL 125 yX7_mend cX7_mend 4 (some .boolean) := ⟨lm_125, lo_X7_mend, kz_RX7, by decide, by decide, by decide⟩
theorem lm_126 : Cond.methodLink RL 126 yX6_count ∈ mbig := m_in 756 (by decide +kernel) rfl
theorem lo_X6_count : Cond.code yX6_count cX6_count 2 (some .int) ∈ mbig := m_in 759 (by decide +kernel) rfl
theorem li_X6_count : Cond.instanceMethod yX6_count ∈ mbig := m_in 757 (by decide +kernel) rfl
theorem ls_X6_count : Cond.selects RX6 yX6_count yX6_count ∈ mbig := m_in 758 (by decide +kernel) rfl
theorem ln_X6_count : (parseMethodDescriptor yX6_count.desc).map (fun d => d.parameters.length) = some 1 := by decide +kernel
theorem lk_126 : m_cal RL 126 yX6_count cX6_count 2 (some .int) := ⟨lm_126, lo_X6_count, kz_RX6, by decide, by decide, by decide⟩
theorem lm_129 : Cond.methodLink RL 129 yX7_count ∈ mbig := m_in 1235 (by decide +kernel) rfl
theorem lo_X7_count : Cond.code yX7_count cX7_count 2 (some .int) ∈ mbig := m_in 1238 (by decide +kernel) rfl
theorem li_X7_count : Cond.instanceMethod yX7_count ∈ mbig := m_in 1236 (by decide +kernel) rfl
theorem ls_X7_count : Cond.selects RX7 yX7_count yX7_count ∈ mbig := m_in 1237 (by decide +kernel) rfl
theorem ln_X7_count : (parseMethodDescriptor yX7_count.desc).map (fun d => d.parameters.length) = some 1 := by decide +kernel
theorem lk_129 : m_cal RL 129 yX7_count cX7_count 2 (some .int) := ⟨lm_129, lo_X7_count, kz_RX7, by decide, by decide, by decide⟩
theorem lm_43 : Cond.methodLink RL 43 yX7_word ∈ mbig := m_in 1031 (by decide +kernel) rfl
theorem lo_X7_word : Cond.code yX7_word cX7_word 3 (some .int) ∈ mbig := m_in 1034 (by decide +kernel) rfl
theorem li_X7_word : Cond.instanceMethod yX7_word ∈ mbig := m_in 1032 (by decide +kernel) rfl
theorem ls_X7_word : Cond.selects RX7 yX7_word yX7_word ∈ mbig := m_in 1033 (by decide +kernel) rfl
theorem ln_X7_word : (parseMethodDescriptor yX7_word.desc).map (fun d => d.parameters.length) = some 2 := by decide +kernel
theorem lk_43 : m_cal RL 43 yX7_word cX7_word 3 (some .int) := ⟨lm_43, lo_X7_word, kz_RX7, by decide, by decide, by decide⟩
theorem lm_44 : Cond.methodLink RL 44 yX7_thrown ∈ mbig := m_in 962 (by decide +kernel) rfl
theorem lo_X7_thrown : Cond.code yX7_thrown cX7_thrown 1 (some .int) ∈ mbig := m_in 965 (by decide +kernel) rfl
theorem li_X7_thrown : Cond.instanceMethod yX7_thrown ∈ mbig := m_in 963 (by decide +kernel) rfl
theorem ls_X7_thrown : Cond.selects RX7 yX7_thrown yX7_thrown ∈ mbig := m_in 964 (by decide +kernel) rfl
theorem ln_X7_thrown : (parseMethodDescriptor yX7_thrown.desc).map (fun d => d.parameters.length) = some 0 := by decide +kernel
theorem lk_44 : m_cal RL 44 yX7_thrown cX7_thrown 1 (some .int) := ⟨lm_44, lo_X7_thrown, kz_RX7, by decide, by decide, by decide⟩
theorem l_in {i j L : Nat} (h : i + j < L) (hL : L ≤ 3584) : vp_in (nI i + nI j) L := by
  rw [nI_add]
  exact vp_in_nI h (by omega)
