theorem kh_RX0_3 : Cond.methodLink RX0 3 Lib.objectInit ∈ mbig := m_in 107 (by decide +kernel) rfl
theorem kj_obj : Cond.instanceMethod Lib.objectInit ∈ mbig := m_in 84 (by decide +kernel) rfl
theorem kd_obj : Cond.code Lib.objectInit ⟨#[0xb1]⟩ 1 none ∈ mbig := m_in 85 (by decide +kernel) rfl
theorem ka_int : Cond.arrayClass .int ∈ mbig := m_in 100 (by decide +kernel) rfl
theorem kg_RX0_9 : Cond.fieldLink RX0 9 "StormParting$Cover" "words" "[I" ∈ mbig := m_in 108 (by decide +kernel) rfl
theorem kh_RX4_3 : Cond.methodLink RX4 3 Lib.objectInit ∈ mbig := m_in 91 (by decide +kernel) rfl
theorem kg_RX4_11 : Cond.fieldLink RX4 11 "StormParting$Tape" "bytes" "[I" ∈ mbig := m_in 92 (by decide +kernel) rfl
theorem kg_RX4_15 : Cond.fieldLink RX4 15 "StormParting$Tape" "length" "I" ∈ mbig := m_in 93 (by decide +kernel) rfl
theorem kh_RX1_3 : Cond.methodLink RX1 3 Lib.objectInit ∈ mbig := m_in 122 (by decide +kernel) rfl
theorem kg_RX1_9 : Cond.fieldLink RX1 9 "StormParting$Losses" "sums" "[I" ∈ mbig := m_in 123 (by decide +kernel) rfl
theorem kg_RX1_15 : Cond.fieldLink RX1 15 "StormParting$Losses" "hours" "[I" ∈ mbig := m_in 126 (by decide +kernel) rfl
theorem kg_RX1_18 : Cond.fieldLink RX1 18 "StormParting$Losses" "lastHours" "[I" ∈ mbig := m_in 129 (by decide +kernel) rfl
theorem kg_RX1_21 : Cond.fieldLink RX1 21 "StormParting$Losses" "xs" "[I" ∈ mbig := m_in 131 (by decide +kernel) rfl
theorem kg_RX1_24 : Cond.fieldLink RX1 24 "StormParting$Losses" "ys" "[I" ∈ mbig := m_in 133 (by decide +kernel) rfl
theorem kg_RX1_27 : Cond.fieldLink RX1 27 "StormParting$Losses" "causes" "[I" ∈ mbig := m_in 135 (by decide +kernel) rfl
theorem kg_RX1_30 : Cond.fieldLink RX1 30 "StormParting$Losses" "size" "I" ∈ mbig := m_in 138 (by decide +kernel) rfl
theorem kh_RX2_3 : Cond.methodLink RX2 3 Lib.objectInit ∈ mbig := m_in 198 (by decide +kernel) rfl
theorem kg_RX2_11 : Cond.fieldLink RX2 11 "StormParting$Payers" "pays" "[I" ∈ mbig := m_in 200 (by decide +kernel) rfl
theorem kg_RX2_17 : Cond.fieldLink RX2 17 "StormParting$Payers" "often" "[I" ∈ mbig := m_in 201 (by decide +kernel) rfl
theorem kg_RX2_20 : Cond.fieldLink RX2 20 "StormParting$Payers" "shares" "[I" ∈ mbig := m_in 202 (by decide +kernel) rfl
theorem kg_RX2_23 : Cond.fieldLink RX2 23 "StormParting$Payers" "timesPaid" "[I" ∈ mbig := m_in 203 (by decide +kernel) rfl
theorem kl_RX2_26 : Cond.classLink RX2 26 RX0 ∈ mbig := m_in 199 (by decide +kernel) rfl
theorem kg_RX2_28 : Cond.fieldLink RX2 28 "StormParting$Payers" "members" "[LStormParting$Cover;" ∈ mbig := m_in 204 (by decide +kernel) rfl
theorem kg_RX2_32 : Cond.fieldLink RX2 32 "StormParting$Payers" "size" "I" ∈ mbig := m_in 205 (by decide +kernel) rfl
theorem kh_RX5_3 : Cond.methodLink RX5 3 Lib.objectInit ∈ mbig := m_in 161 (by decide +kernel) rfl
theorem kg_RX5_9 : Cond.fieldLink RX5 9 "StormParting$ToldParting" "losses" "LStormParting$Losses;" ∈ mbig := m_in 170 (by decide +kernel) rfl
theorem kg_RX5_15 : Cond.fieldLink RX5 15 "StormParting$ToldParting" "numbers" "[I" ∈ mbig := m_in 162 (by decide +kernel) rfl
theorem kg_RX5_19 : Cond.fieldLink RX5 19 "StormParting$ToldParting" "row" "[I" ∈ mbig := m_in 171 (by decide +kernel) rfl
theorem kh_RX3_3 : Cond.methodLink RX3 3 Lib.objectInit ∈ mbig := m_in 190 (by decide +kernel) rfl
theorem kg_RX3_9 : Cond.fieldLink RX3 9 "StormParting$Search" "losses" "LStormParting$Losses;" ∈ mbig := m_in 228 (by decide +kernel) rfl
theorem kl_RX3_15 : Cond.classLink RX3 15 RX0 ∈ mbig := m_in 191 (by decide +kernel) rfl
theorem kq_RX0 : Cond.instantiable RX0 1 ∈ mbig := m_in 103 (by decide +kernel) rfl
theorem kw_RX0 : Cond.initialized RX0 ∈ mbig := m_in 60 (by decide +kernel) rfl
theorem kh_RX3_17 : Cond.methodLink RX3 17 yX0_init ∈ mbig := m_in 192 (by decide +kernel) rfl
theorem kd_X0_init : Cond.code yX0_init cX0_init 1 none ∈ mbig := m_in 106 (by decide +kernel) rfl
theorem kj_X0_init : Cond.instanceMethod yX0_init ∈ mbig := m_in 105 (by decide +kernel) rfl
theorem kg_RX3_18 : Cond.fieldLink RX3 18 "StormParting$Search" "joint" "LStormParting$Cover;" ∈ mbig := m_in 229 (by decide +kernel) rfl
theorem kl_RX3_22 : Cond.classLink RX3 22 RX2 ∈ mbig := m_in 193 (by decide +kernel) rfl
theorem kq_RX2 : Cond.instantiable RX2 6 ∈ mbig := m_in 194 (by decide +kernel) rfl
theorem kw_RX2 : Cond.initialized RX2 ∈ mbig := m_in 64 (by decide +kernel) rfl
theorem kh_RX3_24 : Cond.methodLink RX3 24 yX2_init ∈ mbig := m_in 195 (by decide +kernel) rfl
theorem kd_X2_init : Cond.code yX2_init cX2_init 1 none ∈ mbig := m_in 197 (by decide +kernel) rfl
theorem kj_X2_init : Cond.instanceMethod yX2_init ∈ mbig := m_in 196 (by decide +kernel) rfl
theorem kg_RX3_25 : Cond.fieldLink RX3 25 "StormParting$Search" "payers" "LStormParting$Payers;" ∈ mbig := m_in 230 (by decide +kernel) rfl
theorem kg_RX3_29 : Cond.fieldLink RX3 29 "StormParting$Search" "row" "[I" ∈ mbig := m_in 231 (by decide +kernel) rfl
theorem kg_RX3_33 : Cond.fieldLink RX3 33 "StormParting$Search" "near" "[I" ∈ mbig := m_in 232 (by decide +kernel) rfl
theorem kg_RX3_36 : Cond.fieldLink RX3 36 "StormParting$Search" "happenings" "[I" ∈ mbig := m_in 233 (by decide +kernel) rfl
theorem kg_RX3_39 : Cond.fieldLink RX3 39 "StormParting$Search" "firstHappening" "[I" ∈ mbig := m_in 234 (by decide +kernel) rfl
theorem kh_RX6_1 : Cond.methodLink RX6 1 Lib.objectInit ∈ mbig := m_in 83 (by decide +kernel) rfl
theorem kl_RX6_7 : Cond.classLink RX6 7 RX4 ∈ mbig := m_in 86 (by decide +kernel) rfl
theorem kq_RX4 : Cond.instantiable RX4 2 ∈ mbig := m_in 87 (by decide +kernel) rfl
theorem kw_RX4 : Cond.initialized RX4 ∈ mbig := m_in 59 (by decide +kernel) rfl
theorem kh_RX6_9 : Cond.methodLink RX6 9 yX4_init ∈ mbig := m_in 88 (by decide +kernel) rfl
theorem kd_X4_init : Cond.code yX4_init cX4_init 1 none ∈ mbig := m_in 90 (by decide +kernel) rfl
theorem kj_X4_init : Cond.instanceMethod yX4_init ∈ mbig := m_in 89 (by decide +kernel) rfl
theorem kg_RX6_10 : Cond.fieldLink RX6 10 "StormParting" "tape" "LStormParting$Tape;" ∈ mbig := m_in 266 (by decide +kernel) rfl
theorem kl_RX6_16 : Cond.classLink RX6 16 RX0 ∈ mbig := m_in 101 (by decide +kernel) rfl
theorem kg_RX6_18 : Cond.fieldLink RX6 18 "StormParting" "covers" "[LStormParting$Cover;" ∈ mbig := m_in 267 (by decide +kernel) rfl
theorem kh_RX6_22 : Cond.methodLink RX6 22 yX0_init ∈ mbig := m_in 104 (by decide +kernel) rfl
theorem kg_RX6_23 : Cond.fieldLink RX6 23 "StormParting" "trial" "LStormParting$Cover;" ∈ mbig := m_in 268 (by decide +kernel) rfl
theorem kl_RX6_27 : Cond.classLink RX6 27 RX1 ∈ mbig := m_in 117 (by decide +kernel) rfl
theorem kq_RX1 : Cond.instantiable RX1 7 ∈ mbig := m_in 118 (by decide +kernel) rfl
theorem kw_RX1 : Cond.initialized RX1 ∈ mbig := m_in 61 (by decide +kernel) rfl
theorem kh_RX6_29 : Cond.methodLink RX6 29 yX1_init ∈ mbig := m_in 119 (by decide +kernel) rfl
theorem kd_X1_init : Cond.code yX1_init cX1_init 1 none ∈ mbig := m_in 121 (by decide +kernel) rfl
theorem kj_X1_init : Cond.instanceMethod yX1_init ∈ mbig := m_in 120 (by decide +kernel) rfl
theorem kg_RX6_30 : Cond.fieldLink RX6 30 "StormParting" "losses" "LStormParting$Losses;" ∈ mbig := m_in 269 (by decide +kernel) rfl
theorem kl_RX6_34 : Cond.classLink RX6 34 RX5 ∈ mbig := m_in 156 (by decide +kernel) rfl
theorem kq_RX5 : Cond.instantiable RX5 6 ∈ mbig := m_in 157 (by decide +kernel) rfl
theorem kw_RX5 : Cond.initialized RX5 ∈ mbig := m_in 62 (by decide +kernel) rfl
theorem kh_RX6_36 : Cond.methodLink RX6 36 yX5_init ∈ mbig := m_in 158 (by decide +kernel) rfl
theorem kd_X5_init : Cond.code yX5_init cX5_init 2 none ∈ mbig := m_in 160 (by decide +kernel) rfl
theorem kj_X5_init : Cond.instanceMethod yX5_init ∈ mbig := m_in 159 (by decide +kernel) rfl
theorem kg_RX6_39 : Cond.fieldLink RX6 39 "StormParting" "toldParting" "LStormParting$ToldParting;" ∈ mbig := m_in 270 (by decide +kernel) rfl
theorem kl_RX6_43 : Cond.classLink RX6 43 RX3 ∈ mbig := m_in 185 (by decide +kernel) rfl
theorem kq_RX3 : Cond.instantiable RX3 14 ∈ mbig := m_in 186 (by decide +kernel) rfl
theorem kw_RX3 : Cond.initialized RX3 ∈ mbig := m_in 63 (by decide +kernel) rfl
theorem kh_RX6_45 : Cond.methodLink RX6 45 yX3_init ∈ mbig := m_in 187 (by decide +kernel) rfl
theorem kd_X3_init : Cond.code yX3_init cX3_init 2 none ∈ mbig := m_in 189 (by decide +kernel) rfl
theorem kj_X3_init : Cond.instanceMethod yX3_init ∈ mbig := m_in 188 (by decide +kernel) rfl
theorem kg_RX6_46 : Cond.fieldLink RX6 46 "StormParting" "search" "LStormParting$Search;" ∈ mbig := m_in 271 (by decide +kernel) rfl
theorem kg_RX6_50 : Cond.fieldLink RX6 50 "StormParting" "stormLosses" "[I" ∈ mbig := m_in 272 (by decide +kernel) rfl
theorem kg_RX6_54 : Cond.fieldLink RX6 54 "StormParting" "stormWeights" "[I" ∈ mbig := m_in 273 (by decide +kernel) rfl
theorem kg_RX6_57 : Cond.fieldLink RX6 57 "StormParting" "coverCount" "I" ∈ mbig := m_in 274 (by decide +kernel) rfl
theorem kg_RX6_61 : Cond.fieldLink RX6 61 "StormParting" "stormCount" "I" ∈ mbig := m_in 275 (by decide +kernel) rfl
theorem kh_RX7_1 : Cond.methodLink RX7 1 Lib.objectInit ∈ mbig := m_in 834 (by decide +kernel) rfl
theorem ka_byte : Cond.arrayClass .byte ∈ mbig := m_in 442 (by decide +kernel) rfl
theorem kg_RX7_9 : Cond.fieldLink RX7 9 "StormPartingModel" "tape" "[B" ∈ mbig := m_in 836 (by decide +kernel) rfl
theorem kg_RX7_13 : Cond.fieldLink RX7 13 "StormPartingModel" "words" "[I" ∈ mbig := m_in 841 (by decide +kernel) rfl
theorem kg_RX7_17 : Cond.fieldLink RX7 17 "StormPartingModel" "sum" "[I" ∈ mbig := m_in 843 (by decide +kernel) rfl
theorem kg_RX7_20 : Cond.fieldLink RX7 20 "StormPartingModel" "hour" "[I" ∈ mbig := m_in 844 (by decide +kernel) rfl
theorem kg_RX7_23 : Cond.fieldLink RX7 23 "StormPartingModel" "lastHour" "[I" ∈ mbig := m_in 845 (by decide +kernel) rfl
theorem kg_RX7_26 : Cond.fieldLink RX7 26 "StormPartingModel" "placeX" "[I" ∈ mbig := m_in 846 (by decide +kernel) rfl
theorem kg_RX7_29 : Cond.fieldLink RX7 29 "StormPartingModel" "placeY" "[I" ∈ mbig := m_in 847 (by decide +kernel) rfl
theorem kg_RX7_32 : Cond.fieldLink RX7 32 "StormPartingModel" "cause" "[I" ∈ mbig := m_in 848 (by decide +kernel) rfl
theorem kg_RX7_35 : Cond.fieldLink RX7 35 "StormPartingModel" "told" "[I" ∈ mbig := m_in 849 (by decide +kernel) rfl
theorem kg_RX7_38 : Cond.fieldLink RX7 38 "StormPartingModel" "parts" "[I" ∈ mbig := m_in 851 (by decide +kernel) rfl
theorem kg_RX7_41 : Cond.fieldLink RX7 41 "StormPartingModel" "row" "[I" ∈ mbig := m_in 852 (by decide +kernel) rfl
theorem kg_RX7_44 : Cond.fieldLink RX7 44 "StormPartingModel" "rowSum" "[I" ∈ mbig := m_in 853 (by decide +kernel) rfl
theorem kg_RX7_47 : Cond.fieldLink RX7 47 "StormPartingModel" "rowLow" "[I" ∈ mbig := m_in 854 (by decide +kernel) rfl
theorem kg_RX7_50 : Cond.fieldLink RX7 50 "StormPartingModel" "rowHigh" "[I" ∈ mbig := m_in 855 (by decide +kernel) rfl
theorem kg_RX7_53 : Cond.fieldLink RX7 53 "StormPartingModel" "rowFirst" "[I" ∈ mbig := m_in 856 (by decide +kernel) rfl
theorem kg_RX7_56 : Cond.fieldLink RX7 56 "StormPartingModel" "goesWith" "[I" ∈ mbig := m_in 870 (by decide +kernel) rfl
theorem kg_RX7_59 : Cond.fieldLink RX7 59 "StormPartingModel" "partCause" "[I" ∈ mbig := m_in 871 (by decide +kernel) rfl
theorem kg_RX7_62 : Cond.fieldLink RX7 62 "StormPartingModel" "stormSet" "[I" ∈ mbig := m_in 873 (by decide +kernel) rfl
theorem kg_RX7_65 : Cond.fieldLink RX7 65 "StormPartingModel" "stormWeight" "[I" ∈ mbig := m_in 874 (by decide +kernel) rfl
theorem kp_RX6_9 : m_cal RX6 9 yX4_init cX4_init 1 none := ⟨kh_RX6_9, kd_X4_init, kw_RX4, by decide, by decide, by decide⟩
theorem kp_RX6_22 : m_cal RX6 22 yX0_init cX0_init 1 none := ⟨kh_RX6_22, kd_X0_init, kw_RX0, by decide, by decide, by decide⟩
theorem kp_RX6_29 : m_cal RX6 29 yX1_init cX1_init 1 none := ⟨kh_RX6_29, kd_X1_init, kw_RX1, by decide, by decide, by decide⟩
theorem kp_RX6_36 : m_cal RX6 36 yX5_init cX5_init 2 none := ⟨kh_RX6_36, kd_X5_init, kw_RX5, by decide, by decide, by decide⟩
theorem kp_RX6_45 : m_cal RX6 45 yX3_init cX3_init 2 none := ⟨kh_RX6_45, kd_X3_init, kw_RX3, by decide, by decide, by decide⟩
theorem kp_RX3_17 : m_cal RX3 17 yX0_init cX0_init 1 none := ⟨kh_RX3_17, kd_X0_init, kw_RX0, by decide, by decide, by decide⟩
theorem kp_RX3_24 : m_cal RX3 24 yX2_init cX2_init 1 none := ⟨kh_RX3_24, kd_X2_init, kw_RX2, by decide, by decide, by decide⟩
theorem np_X0_init : (parseMethodDescriptor yX0_init.desc).map (fun d => d.parameters.length) = some 0 := by decide +kernel
theorem np_X4_init : (parseMethodDescriptor yX4_init.desc).map (fun d => d.parameters.length) = some 0 := by decide +kernel
theorem np_X1_init : (parseMethodDescriptor yX1_init.desc).map (fun d => d.parameters.length) = some 0 := by decide +kernel
theorem np_X2_init : (parseMethodDescriptor yX2_init.desc).map (fun d => d.parameters.length) = some 0 := by decide +kernel
theorem np_X5_init : (parseMethodDescriptor yX5_init.desc).map (fun d => d.parameters.length) = some 1 := by decide +kernel
theorem np_X3_init : (parseMethodDescriptor yX3_init.desc).map (fun d => d.parameters.length) = some 1 := by decide +kernel
theorem np_X6_init : (parseMethodDescriptor yX6_init.desc).map (fun d => d.parameters.length) = some 0 := by decide +kernel
theorem np_X7_init : (parseMethodDescriptor yX7_init.desc).map (fun d => d.parameters.length) = some 0 := by decide +kernel
set_option maxHeartbeats 4000000 in
set_option maxRecDepth 100000 in
theorem en_X0_init (l : Launch) (w : mW) (h0 : Nat) : En l w yX0_init cX0_init 1 1 1 10 [.ref h0] [(h0, .inr (0, [.null]))] (fun ws1 => ∃ (q1 : Nat), ws1 = [(h0, .inr (0, [.ref q1])), (q1, .inl (w.2.2.1 0, 10, .inl (fun _ => 0)))]) := by
  refine En.of (by decide) rfl (m_c1_r m_c1_nil) (Nat.le_of_ble_eq_true rfl) (fun p e s m args below meth c A hA0 hg => ?_)
  show Nj (p, l, e, 1, s, m, args, below, meth, c) w A _ _ 1 1 10 0 0 [(h0, .inr (0, [.null]))] 0 [(0, .ref h0)] []
  refine n_aload 0 hg dX0_init_0 rfl ?_
  refine n_objInit hg kh_RX0_3 kj_obj kd_obj (by decide) dX0_init_1 ?_
  refine n_aload 0 hg dX0_init_4 rfl ?_
  refine n_bipush 10 hg dX0_init_5 (by decide) ?_
  refine n_newa (atype := .int) (ty := .int) (t := 0) 10 hg ka_int rfl rfl (fun _ _ h => h) (fun _ => rfl) (by decide) (by decide) (by decide) (by decide) (by decide) dX0_init_7 (fun q1 => ?_)
  refine n_ws (ws' := [(h0, .inr (0, [.null])), (q1, .inl (w.2.2.1 0, 10, .inl (fun _ => 0)))]) rfl ?_
  refine n_putF 0 0 hg iX0 tyX0_ok nmX0 rfl rfl (by decide) kg_RX0_9 rfl rfl rfl rfl (Nat.le_of_ble_eq_true rfl) dX0_init_9 ?_
  refine n_ws (ws' := [(h0, .inr (0, [.ref q1])), (q1, .inl (w.2.2.1 0, 10, .inl (fun _ => 0)))]) rfl ?_
  exact n_ret hA0 (ws1 := [(h0, .inr (0, [.ref q1])), (q1, .inl (w.2.2.1 0, 10, .inl (fun _ => 0)))]) [0, 1] (by decide) rfl ⟨q1, rfl⟩ (by decide) (by decide) hg dX0_init_12

set_option maxHeartbeats 4000000 in
set_option maxRecDepth 100000 in
theorem en_X4_init (l : Launch) (w : mW) (h0 : Nat) : En l w yX4_init cX4_init 1 1 1 120 [.ref h0] [(h0, .inr (4, [.null, .int 0]))] (fun ws1 => ∃ (q1 : Nat), ws1 = [(h0, .inr (4, [.ref q1, .int 0])), (q1, .inl (w.2.2.1 0, 120, .inl (fun _ => 0)))]) := by
  refine En.of (by decide) rfl (m_c1_r m_c1_nil) (Nat.le_of_ble_eq_true rfl) (fun p e s m args below meth c A hA0 hg => ?_)
  show Nj (p, l, e, 1, s, m, args, below, meth, c) w A _ _ 1 1 120 0 0 [(h0, .inr (4, [.null, .int 0]))] 0 [(0, .ref h0)] []
  refine n_aload 0 hg dX4_init_0 rfl ?_
  refine n_objInit hg kh_RX4_3 kj_obj kd_obj (by decide) dX4_init_1 ?_
  refine n_aload 0 hg dX4_init_4 rfl ?_
  refine n_bipush 120 hg dX4_init_5 (by decide) ?_
  refine n_newa (atype := .int) (ty := .int) (t := 0) 120 hg ka_int rfl rfl (fun _ _ h => h) (fun _ => rfl) (by decide) (by decide) (by decide) (by decide) (by decide) dX4_init_7 (fun q1 => ?_)
  refine n_ws (ws' := [(h0, .inr (4, [.null, .int 0])), (q1, .inl (w.2.2.1 0, 120, .inl (fun _ => 0)))]) rfl ?_
  refine n_putF 0 0 hg iX4 tyX4_ok nmX4 rfl rfl (by decide) kg_RX4_11 rfl rfl rfl rfl (Nat.le_of_ble_eq_true rfl) dX4_init_9 ?_
  refine n_ws (ws' := [(h0, .inr (4, [.ref q1, .int 0])), (q1, .inl (w.2.2.1 0, 120, .inl (fun _ => 0)))]) rfl ?_
  refine n_aload 0 hg dX4_init_12 rfl ?_
  refine n_iconst 0 hg dX4_init_13 (by decide) ?_
  refine n_put 0 1 hg iX4 tyX4_ok nmX4 rfl rfl (by decide) kg_RX4_15 rfl rfl (Nat.le_of_ble_eq_true rfl) dX4_init_14 ?_
  refine n_ws (ws' := [(h0, .inr (4, [.ref q1, .int 0])), (q1, .inl (w.2.2.1 0, 120, .inl (fun _ => 0)))]) rfl ?_
  exact n_ret hA0 (ws1 := [(h0, .inr (4, [.ref q1, .int 0])), (q1, .inl (w.2.2.1 0, 120, .inl (fun _ => 0)))]) [0, 1] (by decide) rfl ⟨q1, rfl⟩ (by decide) (by decide) hg dX4_init_17

set_option maxHeartbeats 4000000 in
set_option maxRecDepth 100000 in
theorem en_X1_init (l : Launch) (w : mW) (h0 : Nat) : En l w yX1_init cX1_init 1 1 6 72 [.ref h0] [(h0, .inr (1, [.null, .null, .null, .null, .null, .null, .int 0]))] (fun ws1 => ∃ (q1 q2 q3 q4 q5 q6 : Nat), ws1 = [(h0, .inr (1, [.ref q1, .ref q2, .ref q3, .ref q4, .ref q5, .ref q6, .int 0])), (q1, .inl (w.2.2.1 0, 12, .inl (fun _ => 0))), (q2, .inl (w.2.2.1 0, 12, .inl (fun _ => 0))), (q3, .inl (w.2.2.1 0, 12, .inl (fun _ => 0))), (q4, .inl (w.2.2.1 0, 12, .inl (fun _ => 0))), (q5, .inl (w.2.2.1 0, 12, .inl (fun _ => 0))), (q6, .inl (w.2.2.1 0, 12, .inl (fun _ => 0)))]) := by
  refine En.of (by decide) rfl (m_c1_r m_c1_nil) (Nat.le_of_ble_eq_true rfl) (fun p e s m args below meth c A hA0 hg => ?_)
  show Nj (p, l, e, 1, s, m, args, below, meth, c) w A _ _ 1 6 72 0 0 [(h0, .inr (1, [.null, .null, .null, .null, .null, .null, .int 0]))] 0 [(0, .ref h0)] []
  refine n_aload 0 hg dX1_init_0 rfl ?_
  refine n_objInit hg kh_RX1_3 kj_obj kd_obj (by decide) dX1_init_1 ?_
  refine n_aload 0 hg dX1_init_4 rfl ?_
  refine n_bipush 12 hg dX1_init_5 (by decide) ?_
  refine n_newa (atype := .int) (ty := .int) (t := 0) 12 hg ka_int rfl rfl (fun _ _ h => h) (fun _ => rfl) (by decide) (by decide) (by decide) (by decide) (by decide) dX1_init_7 (fun q1 => ?_)
  refine n_ws (ws' := [(h0, .inr (1, [.null, .null, .null, .null, .null, .null, .int 0])), (q1, .inl (w.2.2.1 0, 12, .inl (fun _ => 0)))]) rfl ?_
  refine n_putF 0 0 hg iX1 tyX1_ok nmX1 rfl rfl (by decide) kg_RX1_9 rfl rfl rfl rfl (Nat.le_of_ble_eq_true rfl) dX1_init_9 ?_
  refine n_ws (ws' := [(h0, .inr (1, [.ref q1, .null, .null, .null, .null, .null, .int 0])), (q1, .inl (w.2.2.1 0, 12, .inl (fun _ => 0)))]) rfl ?_
  refine n_aload 0 hg dX1_init_12 rfl ?_
  refine n_bipush 12 hg dX1_init_13 (by decide) ?_
  refine n_newa (atype := .int) (ty := .int) (t := 0) 12 hg ka_int rfl rfl (fun _ _ h => h) (fun _ => rfl) (by decide) (by decide) (by decide) (by decide) (by decide) dX1_init_15 (fun q2 => ?_)
  refine n_ws (ws' := [(h0, .inr (1, [.ref q1, .null, .null, .null, .null, .null, .int 0])), (q1, .inl (w.2.2.1 0, 12, .inl (fun _ => 0))), (q2, .inl (w.2.2.1 0, 12, .inl (fun _ => 0)))]) rfl ?_
  refine n_putF 0 1 hg iX1 tyX1_ok nmX1 rfl rfl (by decide) kg_RX1_15 rfl rfl rfl rfl (Nat.le_of_ble_eq_true rfl) dX1_init_17 ?_
  refine n_ws (ws' := [(h0, .inr (1, [.ref q1, .ref q2, .null, .null, .null, .null, .int 0])), (q1, .inl (w.2.2.1 0, 12, .inl (fun _ => 0))), (q2, .inl (w.2.2.1 0, 12, .inl (fun _ => 0)))]) rfl ?_
  refine n_aload 0 hg dX1_init_20 rfl ?_
  refine n_bipush 12 hg dX1_init_21 (by decide) ?_
  refine n_newa (atype := .int) (ty := .int) (t := 0) 12 hg ka_int rfl rfl (fun _ _ h => h) (fun _ => rfl) (by decide) (by decide) (by decide) (by decide) (by decide) dX1_init_23 (fun q3 => ?_)
  refine n_ws (ws' := [(h0, .inr (1, [.ref q1, .ref q2, .null, .null, .null, .null, .int 0])), (q1, .inl (w.2.2.1 0, 12, .inl (fun _ => 0))), (q2, .inl (w.2.2.1 0, 12, .inl (fun _ => 0))), (q3, .inl (w.2.2.1 0, 12, .inl (fun _ => 0)))]) rfl ?_
  refine n_putF 0 2 hg iX1 tyX1_ok nmX1 rfl rfl (by decide) kg_RX1_18 rfl rfl rfl rfl (Nat.le_of_ble_eq_true rfl) dX1_init_25 ?_
  refine n_ws (ws' := [(h0, .inr (1, [.ref q1, .ref q2, .ref q3, .null, .null, .null, .int 0])), (q1, .inl (w.2.2.1 0, 12, .inl (fun _ => 0))), (q2, .inl (w.2.2.1 0, 12, .inl (fun _ => 0))), (q3, .inl (w.2.2.1 0, 12, .inl (fun _ => 0)))]) rfl ?_
  refine n_aload 0 hg dX1_init_28 rfl ?_
  refine n_bipush 12 hg dX1_init_29 (by decide) ?_
  refine n_newa (atype := .int) (ty := .int) (t := 0) 12 hg ka_int rfl rfl (fun _ _ h => h) (fun _ => rfl) (by decide) (by decide) (by decide) (by decide) (by decide) dX1_init_31 (fun q4 => ?_)
  refine n_ws (ws' := [(h0, .inr (1, [.ref q1, .ref q2, .ref q3, .null, .null, .null, .int 0])), (q1, .inl (w.2.2.1 0, 12, .inl (fun _ => 0))), (q2, .inl (w.2.2.1 0, 12, .inl (fun _ => 0))), (q3, .inl (w.2.2.1 0, 12, .inl (fun _ => 0))), (q4, .inl (w.2.2.1 0, 12, .inl (fun _ => 0)))]) rfl ?_
  refine n_putF 0 3 hg iX1 tyX1_ok nmX1 rfl rfl (by decide) kg_RX1_21 rfl rfl rfl rfl (Nat.le_of_ble_eq_true rfl) dX1_init_33 ?_
  refine n_ws (ws' := [(h0, .inr (1, [.ref q1, .ref q2, .ref q3, .ref q4, .null, .null, .int 0])), (q1, .inl (w.2.2.1 0, 12, .inl (fun _ => 0))), (q2, .inl (w.2.2.1 0, 12, .inl (fun _ => 0))), (q3, .inl (w.2.2.1 0, 12, .inl (fun _ => 0))), (q4, .inl (w.2.2.1 0, 12, .inl (fun _ => 0)))]) rfl ?_
  refine n_aload 0 hg dX1_init_36 rfl ?_
  refine n_bipush 12 hg dX1_init_37 (by decide) ?_
  refine n_newa (atype := .int) (ty := .int) (t := 0) 12 hg ka_int rfl rfl (fun _ _ h => h) (fun _ => rfl) (by decide) (by decide) (by decide) (by decide) (by decide) dX1_init_39 (fun q5 => ?_)
  refine n_ws (ws' := [(h0, .inr (1, [.ref q1, .ref q2, .ref q3, .ref q4, .null, .null, .int 0])), (q1, .inl (w.2.2.1 0, 12, .inl (fun _ => 0))), (q2, .inl (w.2.2.1 0, 12, .inl (fun _ => 0))), (q3, .inl (w.2.2.1 0, 12, .inl (fun _ => 0))), (q4, .inl (w.2.2.1 0, 12, .inl (fun _ => 0))), (q5, .inl (w.2.2.1 0, 12, .inl (fun _ => 0)))]) rfl ?_
  refine n_putF 0 4 hg iX1 tyX1_ok nmX1 rfl rfl (by decide) kg_RX1_24 rfl rfl rfl rfl (Nat.le_of_ble_eq_true rfl) dX1_init_41 ?_
  refine n_ws (ws' := [(h0, .inr (1, [.ref q1, .ref q2, .ref q3, .ref q4, .ref q5, .null, .int 0])), (q1, .inl (w.2.2.1 0, 12, .inl (fun _ => 0))), (q2, .inl (w.2.2.1 0, 12, .inl (fun _ => 0))), (q3, .inl (w.2.2.1 0, 12, .inl (fun _ => 0))), (q4, .inl (w.2.2.1 0, 12, .inl (fun _ => 0))), (q5, .inl (w.2.2.1 0, 12, .inl (fun _ => 0)))]) rfl ?_
  refine n_aload 0 hg dX1_init_44 rfl ?_
  refine n_bipush 12 hg dX1_init_45 (by decide) ?_
  refine n_newa (atype := .int) (ty := .int) (t := 0) 12 hg ka_int rfl rfl (fun _ _ h => h) (fun _ => rfl) (by decide) (by decide) (by decide) (by decide) (by decide) dX1_init_47 (fun q6 => ?_)
  refine n_ws (ws' := [(h0, .inr (1, [.ref q1, .ref q2, .ref q3, .ref q4, .ref q5, .null, .int 0])), (q1, .inl (w.2.2.1 0, 12, .inl (fun _ => 0))), (q2, .inl (w.2.2.1 0, 12, .inl (fun _ => 0))), (q3, .inl (w.2.2.1 0, 12, .inl (fun _ => 0))), (q4, .inl (w.2.2.1 0, 12, .inl (fun _ => 0))), (q5, .inl (w.2.2.1 0, 12, .inl (fun _ => 0))), (q6, .inl (w.2.2.1 0, 12, .inl (fun _ => 0)))]) rfl ?_
  refine n_putF 0 5 hg iX1 tyX1_ok nmX1 rfl rfl (by decide) kg_RX1_27 rfl rfl rfl rfl (Nat.le_of_ble_eq_true rfl) dX1_init_49 ?_
  refine n_ws (ws' := [(h0, .inr (1, [.ref q1, .ref q2, .ref q3, .ref q4, .ref q5, .ref q6, .int 0])), (q1, .inl (w.2.2.1 0, 12, .inl (fun _ => 0))), (q2, .inl (w.2.2.1 0, 12, .inl (fun _ => 0))), (q3, .inl (w.2.2.1 0, 12, .inl (fun _ => 0))), (q4, .inl (w.2.2.1 0, 12, .inl (fun _ => 0))), (q5, .inl (w.2.2.1 0, 12, .inl (fun _ => 0))), (q6, .inl (w.2.2.1 0, 12, .inl (fun _ => 0)))]) rfl ?_
  refine n_aload 0 hg dX1_init_52 rfl ?_
  refine n_iconst 0 hg dX1_init_53 (by decide) ?_
  refine n_put 0 6 hg iX1 tyX1_ok nmX1 rfl rfl (by decide) kg_RX1_30 rfl rfl (Nat.le_of_ble_eq_true rfl) dX1_init_54 ?_
  refine n_ws (ws' := [(h0, .inr (1, [.ref q1, .ref q2, .ref q3, .ref q4, .ref q5, .ref q6, .int 0])), (q1, .inl (w.2.2.1 0, 12, .inl (fun _ => 0))), (q2, .inl (w.2.2.1 0, 12, .inl (fun _ => 0))), (q3, .inl (w.2.2.1 0, 12, .inl (fun _ => 0))), (q4, .inl (w.2.2.1 0, 12, .inl (fun _ => 0))), (q5, .inl (w.2.2.1 0, 12, .inl (fun _ => 0))), (q6, .inl (w.2.2.1 0, 12, .inl (fun _ => 0)))]) rfl ?_
  exact n_ret hA0 (ws1 := [(h0, .inr (1, [.ref q1, .ref q2, .ref q3, .ref q4, .ref q5, .ref q6, .int 0])), (q1, .inl (w.2.2.1 0, 12, .inl (fun _ => 0))), (q2, .inl (w.2.2.1 0, 12, .inl (fun _ => 0))), (q3, .inl (w.2.2.1 0, 12, .inl (fun _ => 0))), (q4, .inl (w.2.2.1 0, 12, .inl (fun _ => 0))), (q5, .inl (w.2.2.1 0, 12, .inl (fun _ => 0))), (q6, .inl (w.2.2.1 0, 12, .inl (fun _ => 0)))]) [0, 1, 2, 3, 4, 5, 6] (by decide) rfl ⟨q1, q2, q3, q4, q5, q6, rfl⟩ (by decide) (by decide) hg dX1_init_57

set_option maxHeartbeats 4000000 in
set_option maxRecDepth 100000 in
theorem en_X2_init (l : Launch) (w : mW) (h0 : Nat) : En l w yX2_init cX2_init 1 1 5 1632 [.ref h0] [(h0, .inr (2, [.null, .null, .null, .null, .null, .int 0]))] (fun ws1 => ∃ (q1 q2 q3 q4 q5 : Nat), ws1 = [(h0, .inr (2, [.ref q1, .ref q2, .ref q3, .ref q4, .ref q5, .int 0])), (q1, .inl (w.2.2.1 0, 1536, .inl (fun _ => 0))), (q2, .inl (w.2.2.1 0, 6, .inl (fun _ => 0))), (q3, .inl (w.2.2.1 0, 6, .inl (fun _ => 0))), (q4, .inl (w.2.2.1 0, 78, .inl (fun _ => 0))), (q5, .inl (w.2.2.1 2, 6, .inr (.inr (.inr (.inr (fun _ => none))))))]) := by
  refine En.of (by decide) rfl (m_c1_r m_c1_nil) (Nat.le_of_ble_eq_true rfl) (fun p e s m args below meth c A hA0 hg => ?_)
  show Nj (p, l, e, 1, s, m, args, below, meth, c) w A _ _ 1 5 1632 0 0 [(h0, .inr (2, [.null, .null, .null, .null, .null, .int 0]))] 0 [(0, .ref h0)] []
  refine n_aload 0 hg dX2_init_0 rfl ?_
  refine n_objInit hg kh_RX2_3 kj_obj kd_obj (by decide) dX2_init_1 ?_
  refine n_aload 0 hg dX2_init_4 rfl ?_
  refine n_sipush 1536 hg dX2_init_5 (by decide) ?_
  refine n_newa (atype := .int) (ty := .int) (t := 0) 1536 hg ka_int rfl rfl (fun _ _ h => h) (fun _ => rfl) (by decide) (by decide) (by decide) (by decide) (by decide) dX2_init_8 (fun q1 => ?_)
  refine n_ws (ws' := [(h0, .inr (2, [.null, .null, .null, .null, .null, .int 0])), (q1, .inl (w.2.2.1 0, 1536, .inl (fun _ => 0)))]) rfl ?_
  refine n_putF 0 0 hg iX2 tyX2_ok nmX2 rfl rfl (by decide) kg_RX2_11 rfl rfl rfl rfl (Nat.le_of_ble_eq_true rfl) dX2_init_10 ?_
  refine n_ws (ws' := [(h0, .inr (2, [.ref q1, .null, .null, .null, .null, .int 0])), (q1, .inl (w.2.2.1 0, 1536, .inl (fun _ => 0)))]) rfl ?_
  refine n_aload 0 hg dX2_init_13 rfl ?_
  refine n_bipush 6 hg dX2_init_14 (by decide) ?_
  refine n_newa (atype := .int) (ty := .int) (t := 0) 6 hg ka_int rfl rfl (fun _ _ h => h) (fun _ => rfl) (by decide) (by decide) (by decide) (by decide) (by decide) dX2_init_16 (fun q2 => ?_)
  refine n_ws (ws' := [(h0, .inr (2, [.ref q1, .null, .null, .null, .null, .int 0])), (q1, .inl (w.2.2.1 0, 1536, .inl (fun _ => 0))), (q2, .inl (w.2.2.1 0, 6, .inl (fun _ => 0)))]) rfl ?_
  refine n_putF 0 1 hg iX2 tyX2_ok nmX2 rfl rfl (by decide) kg_RX2_17 rfl rfl rfl rfl (Nat.le_of_ble_eq_true rfl) dX2_init_18 ?_
  refine n_ws (ws' := [(h0, .inr (2, [.ref q1, .ref q2, .null, .null, .null, .int 0])), (q1, .inl (w.2.2.1 0, 1536, .inl (fun _ => 0))), (q2, .inl (w.2.2.1 0, 6, .inl (fun _ => 0)))]) rfl ?_
  refine n_aload 0 hg dX2_init_21 rfl ?_
  refine n_bipush 6 hg dX2_init_22 (by decide) ?_
  refine n_newa (atype := .int) (ty := .int) (t := 0) 6 hg ka_int rfl rfl (fun _ _ h => h) (fun _ => rfl) (by decide) (by decide) (by decide) (by decide) (by decide) dX2_init_24 (fun q3 => ?_)
  refine n_ws (ws' := [(h0, .inr (2, [.ref q1, .ref q2, .null, .null, .null, .int 0])), (q1, .inl (w.2.2.1 0, 1536, .inl (fun _ => 0))), (q2, .inl (w.2.2.1 0, 6, .inl (fun _ => 0))), (q3, .inl (w.2.2.1 0, 6, .inl (fun _ => 0)))]) rfl ?_
  refine n_putF 0 2 hg iX2 tyX2_ok nmX2 rfl rfl (by decide) kg_RX2_20 rfl rfl rfl rfl (Nat.le_of_ble_eq_true rfl) dX2_init_26 ?_
  refine n_ws (ws' := [(h0, .inr (2, [.ref q1, .ref q2, .ref q3, .null, .null, .int 0])), (q1, .inl (w.2.2.1 0, 1536, .inl (fun _ => 0))), (q2, .inl (w.2.2.1 0, 6, .inl (fun _ => 0))), (q3, .inl (w.2.2.1 0, 6, .inl (fun _ => 0)))]) rfl ?_
  refine n_aload 0 hg dX2_init_29 rfl ?_
  refine n_bipush 78 hg dX2_init_30 (by decide) ?_
  refine n_newa (atype := .int) (ty := .int) (t := 0) 78 hg ka_int rfl rfl (fun _ _ h => h) (fun _ => rfl) (by decide) (by decide) (by decide) (by decide) (by decide) dX2_init_32 (fun q4 => ?_)
  refine n_ws (ws' := [(h0, .inr (2, [.ref q1, .ref q2, .ref q3, .null, .null, .int 0])), (q1, .inl (w.2.2.1 0, 1536, .inl (fun _ => 0))), (q2, .inl (w.2.2.1 0, 6, .inl (fun _ => 0))), (q3, .inl (w.2.2.1 0, 6, .inl (fun _ => 0))), (q4, .inl (w.2.2.1 0, 78, .inl (fun _ => 0)))]) rfl ?_
  refine n_putF 0 3 hg iX2 tyX2_ok nmX2 rfl rfl (by decide) kg_RX2_23 rfl rfl rfl rfl (Nat.le_of_ble_eq_true rfl) dX2_init_34 ?_
  refine n_ws (ws' := [(h0, .inr (2, [.ref q1, .ref q2, .ref q3, .ref q4, .null, .int 0])), (q1, .inl (w.2.2.1 0, 1536, .inl (fun _ => 0))), (q2, .inl (w.2.2.1 0, 6, .inl (fun _ => 0))), (q3, .inl (w.2.2.1 0, 6, .inl (fun _ => 0))), (q4, .inl (w.2.2.1 0, 78, .inl (fun _ => 0)))]) rfl ?_
  refine n_aload 0 hg dX2_init_37 rfl ?_
  refine n_bipush 6 hg dX2_init_38 (by decide) ?_
  refine n_newq 6 hg kl_RX2_26 (by decide) (by decide) (by decide) (by decide) (by decide) dX2_init_40 (fun q5 => ?_)
  refine n_ws (ws' := [(h0, .inr (2, [.ref q1, .ref q2, .ref q3, .ref q4, .null, .int 0])), (q1, .inl (w.2.2.1 0, 1536, .inl (fun _ => 0))), (q2, .inl (w.2.2.1 0, 6, .inl (fun _ => 0))), (q3, .inl (w.2.2.1 0, 6, .inl (fun _ => 0))), (q4, .inl (w.2.2.1 0, 78, .inl (fun _ => 0))), (q5, .inl (w.2.2.1 2, 6, .inr (.inr (.inr (.inr (fun _ => none))))))]) rfl ?_
  refine n_putF 0 4 hg iX2 tyX2_ok nmX2 rfl rfl (by decide) kg_RX2_28 rfl rfl rfl rfl (Nat.le_of_ble_eq_true rfl) dX2_init_43 ?_
  refine n_ws (ws' := [(h0, .inr (2, [.ref q1, .ref q2, .ref q3, .ref q4, .ref q5, .int 0])), (q1, .inl (w.2.2.1 0, 1536, .inl (fun _ => 0))), (q2, .inl (w.2.2.1 0, 6, .inl (fun _ => 0))), (q3, .inl (w.2.2.1 0, 6, .inl (fun _ => 0))), (q4, .inl (w.2.2.1 0, 78, .inl (fun _ => 0))), (q5, .inl (w.2.2.1 2, 6, .inr (.inr (.inr (.inr (fun _ => none))))))]) rfl ?_
  refine n_aload 0 hg dX2_init_46 rfl ?_
  refine n_iconst 0 hg dX2_init_47 (by decide) ?_
  refine n_put 0 5 hg iX2 tyX2_ok nmX2 rfl rfl (by decide) kg_RX2_32 rfl rfl (Nat.le_of_ble_eq_true rfl) dX2_init_48 ?_
  refine n_ws (ws' := [(h0, .inr (2, [.ref q1, .ref q2, .ref q3, .ref q4, .ref q5, .int 0])), (q1, .inl (w.2.2.1 0, 1536, .inl (fun _ => 0))), (q2, .inl (w.2.2.1 0, 6, .inl (fun _ => 0))), (q3, .inl (w.2.2.1 0, 6, .inl (fun _ => 0))), (q4, .inl (w.2.2.1 0, 78, .inl (fun _ => 0))), (q5, .inl (w.2.2.1 2, 6, .inr (.inr (.inr (.inr (fun _ => none))))))]) rfl ?_
  exact n_ret hA0 (ws1 := [(h0, .inr (2, [.ref q1, .ref q2, .ref q3, .ref q4, .ref q5, .int 0])), (q1, .inl (w.2.2.1 0, 1536, .inl (fun _ => 0))), (q2, .inl (w.2.2.1 0, 6, .inl (fun _ => 0))), (q3, .inl (w.2.2.1 0, 6, .inl (fun _ => 0))), (q4, .inl (w.2.2.1 0, 78, .inl (fun _ => 0))), (q5, .inl (w.2.2.1 2, 6, .inr (.inr (.inr (.inr (fun _ => none))))))]) [0, 1, 2, 3, 4, 5] (by decide) rfl ⟨q1, q2, q3, q4, q5, rfl⟩ (by decide) (by decide) hg dX2_init_51

set_option maxHeartbeats 4000000 in
set_option maxRecDepth 100000 in
theorem en_X5_init (l : Launch) (w : mW) (h0 h1 : Nat) : En l w yX5_init cX5_init 2 1 2 24 [.ref h0, .ref h1] [(h0, .inr (5, [.null, .int 0, .int 0, .int 0, .null, .null]))] (fun ws1 => ∃ (q1 q2 : Nat), ws1 = [(h0, .inr (5, [.ref q1, .int 0, .int 0, .int 0, .ref h1, .ref q2])), (q1, .inl (w.2.2.1 0, 12, .inl (fun _ => 0))), (q2, .inl (w.2.2.1 0, 12, .inl (fun _ => 0)))]) := by
  refine En.of (by decide) rfl (m_c1_r (m_c1_r m_c1_nil)) (Nat.le_of_ble_eq_true rfl) (fun p e s m args below meth c A hA0 hg => ?_)
  show Nj (p, l, e, 1, s, m, args, below, meth, c) w A _ _ 2 2 24 0 0 [(h0, .inr (5, [.null, .int 0, .int 0, .int 0, .null, .null]))] 0 [(0, .ref h0), (1, .ref h1)] []
  refine n_aload 0 hg dX5_init_0 rfl ?_
  refine n_objInit hg kh_RX5_3 kj_obj kd_obj (by decide) dX5_init_1 ?_
  refine n_aload 0 hg dX5_init_4 rfl ?_
  refine n_aload 1 hg dX5_init_5 rfl ?_
  refine n_putF 0 4 hg iX5 tyX5_ok nmX5 rfl rfl (by decide) kg_RX5_9 rfl rfl rfl rfl (Nat.le_of_ble_eq_true rfl) dX5_init_6 ?_
  refine n_ws (ws' := [(h0, .inr (5, [.null, .int 0, .int 0, .int 0, .ref h1, .null]))]) rfl ?_
  refine n_aload 0 hg dX5_init_9 rfl ?_
  refine n_bipush 12 hg dX5_init_10 (by decide) ?_
  refine n_newa (atype := .int) (ty := .int) (t := 0) 12 hg ka_int rfl rfl (fun _ _ h => h) (fun _ => rfl) (by decide) (by decide) (by decide) (by decide) (by decide) dX5_init_12 (fun q1 => ?_)
  refine n_ws (ws' := [(h0, .inr (5, [.null, .int 0, .int 0, .int 0, .ref h1, .null])), (q1, .inl (w.2.2.1 0, 12, .inl (fun _ => 0)))]) rfl ?_
  refine n_putF 0 0 hg iX5 tyX5_ok nmX5 rfl rfl (by decide) kg_RX5_15 rfl rfl rfl rfl (Nat.le_of_ble_eq_true rfl) dX5_init_14 ?_
  refine n_ws (ws' := [(h0, .inr (5, [.ref q1, .int 0, .int 0, .int 0, .ref h1, .null])), (q1, .inl (w.2.2.1 0, 12, .inl (fun _ => 0)))]) rfl ?_
  refine n_aload 0 hg dX5_init_17 rfl ?_
  refine n_bipush 12 hg dX5_init_18 (by decide) ?_
  refine n_newa (atype := .int) (ty := .int) (t := 0) 12 hg ka_int rfl rfl (fun _ _ h => h) (fun _ => rfl) (by decide) (by decide) (by decide) (by decide) (by decide) dX5_init_20 (fun q2 => ?_)
  refine n_ws (ws' := [(h0, .inr (5, [.ref q1, .int 0, .int 0, .int 0, .ref h1, .null])), (q1, .inl (w.2.2.1 0, 12, .inl (fun _ => 0))), (q2, .inl (w.2.2.1 0, 12, .inl (fun _ => 0)))]) rfl ?_
  refine n_putF 0 5 hg iX5 tyX5_ok nmX5 rfl rfl (by decide) kg_RX5_19 rfl rfl rfl rfl (Nat.le_of_ble_eq_true rfl) dX5_init_22 ?_
  refine n_ws (ws' := [(h0, .inr (5, [.ref q1, .int 0, .int 0, .int 0, .ref h1, .ref q2])), (q1, .inl (w.2.2.1 0, 12, .inl (fun _ => 0))), (q2, .inl (w.2.2.1 0, 12, .inl (fun _ => 0)))]) rfl ?_
  exact n_ret hA0 (ws1 := [(h0, .inr (5, [.ref q1, .int 0, .int 0, .int 0, .ref h1, .ref q2])), (q1, .inl (w.2.2.1 0, 12, .inl (fun _ => 0))), (q2, .inl (w.2.2.1 0, 12, .inl (fun _ => 0)))]) [0, 1, 2] (by decide) rfl ⟨q1, q2, rfl⟩ (by decide) (by decide) hg dX5_init_25

set_option maxHeartbeats 4000000 in
set_option maxRecDepth 100000 in
theorem en_X3_init (l : Launch) (w : mW) (h0 h1 : Nat) : En l w yX3_init cX3_init 2 2 12 1942 [.ref h0, .ref h1] [(h0, .inr (3, [.int 0, .int 0, .int 0, .int 0, .int 0, .null, .null, .null, .null, .null, .null, .null, .int 0, .int 0]))] (fun ws1 => ∃ (q1 q2 q3 q4 q5 q6 q7 q8 q9 q10 q11 q12 : Nat), ws1 = [(h0, .inr (3, [.int 0, .int 0, .int 0, .int 0, .int 0, .ref h1, .ref q1, .ref q3, .ref q9, .ref q10, .ref q11, .ref q12, .int 0, .int 0])), (q1, .inr (0, [.ref q2])), (q2, .inl (w.2.2.1 0, 10, .inl (fun _ => 0))), (q3, .inr (2, [.ref q4, .ref q5, .ref q6, .ref q7, .ref q8, .int 0])), (q4, .inl (w.2.2.1 0, 1536, .inl (fun _ => 0))), (q5, .inl (w.2.2.1 0, 6, .inl (fun _ => 0))), (q6, .inl (w.2.2.1 0, 6, .inl (fun _ => 0))), (q7, .inl (w.2.2.1 0, 78, .inl (fun _ => 0))), (q8, .inl (w.2.2.1 2, 6, .inr (.inr (.inr (.inr (fun _ => none)))))), (q9, .inl (w.2.2.1 0, 12, .inl (fun _ => 0))), (q10, .inl (w.2.2.1 0, 12, .inl (fun _ => 0))), (q11, .inl (w.2.2.1 0, 256, .inl (fun _ => 0))), (q12, .inl (w.2.2.1 0, 13, .inl (fun _ => 0)))]) := by
  refine En.of (by decide) rfl (m_c1_r (m_c1_r m_c1_nil)) (Nat.le_of_ble_eq_true rfl) (fun p e s m args below meth c A hA0 hg => ?_)
  show Nj (p, l, e, 2, s, m, args, below, meth, c) w A _ _ 2 12 1942 0 0 [(h0, .inr (3, [.int 0, .int 0, .int 0, .int 0, .int 0, .null, .null, .null, .null, .null, .null, .null, .int 0, .int 0]))] 0 [(0, .ref h0), (1, .ref h1)] []
  refine n_aload 0 hg dX3_init_0 rfl ?_
  refine n_objInit hg kh_RX3_3 kj_obj kd_obj (by decide) dX3_init_1 ?_
  refine n_aload 0 hg dX3_init_4 rfl ?_
  refine n_aload 1 hg dX3_init_5 rfl ?_
  refine n_putF 0 5 hg iX3 tyX3_ok nmX3 rfl rfl (by decide) kg_RX3_9 rfl rfl rfl rfl (Nat.le_of_ble_eq_true rfl) dX3_init_6 ?_
  refine n_ws (ws' := [(h0, .inr (3, [.int 0, .int 0, .int 0, .int 0, .int 0, .ref h1, .null, .null, .null, .null, .null, .null, .int 0, .int 0]))]) rfl ?_
  refine n_aload 0 hg dX3_init_9 rfl ?_
  refine n_new (ci := 0) [.null] hg iX0 tyX0_ok kl_RX3_15 kq_RX0 kw_RX0 rfl (by decide) (by decide) (by decide) dX3_init_10 (fun q1 => ?_)
  refine n_ws (ws' := [(h0, .inr (3, [.int 0, .int 0, .int 0, .int 0, .int 0, .ref h1, .null, .null, .null, .null, .null, .null, .int 0, .int 0])), (q1, .inr (0, [.null]))]) rfl ?_
  refine n_dup hg dX3_init_13 ?_
  refine n_call (wc := [(q1, .inr (0, [.null]))]) (wr := [(h0, .inr (3, [.int 0, .int 0, .int 0, .int 0, .int 0, .ref h1, .null, .null, .null, .null, .null, .null, .int 0, .int 0]))]) [1] [0] hg (en_X0_init l w q1) kp_RX3_17 kj_X0_init rfl np_X0_init (by decide) rfl rfl (by decide) (by decide) (by decide) rfl (m_c1_r (m_c1_r m_c1_nil)) (Nat.le_of_ble_eq_true rfl) (by decide) (by decide) dX3_init_14 (fun ws1 hf => ?_)
  obtain ⟨q2, rfl⟩ := hf
  refine n_ws (ws' := [(h0, .inr (3, [.int 0, .int 0, .int 0, .int 0, .int 0, .ref h1, .null, .null, .null, .null, .null, .null, .int 0, .int 0])), (q1, .inr (0, [.ref q2])), (q2, .inl (w.2.2.1 0, 10, .inl (fun _ => 0)))]) rfl ?_
  refine n_putF 0 6 hg iX3 tyX3_ok nmX3 rfl rfl (by decide) kg_RX3_18 rfl rfl rfl rfl (Nat.le_of_ble_eq_true rfl) dX3_init_17 ?_
  refine n_ws (ws' := [(h0, .inr (3, [.int 0, .int 0, .int 0, .int 0, .int 0, .ref h1, .ref q1, .null, .null, .null, .null, .null, .int 0, .int 0])), (q1, .inr (0, [.ref q2])), (q2, .inl (w.2.2.1 0, 10, .inl (fun _ => 0)))]) rfl ?_
  refine n_aload 0 hg dX3_init_20 rfl ?_
  refine n_new (ci := 2) [.null, .null, .null, .null, .null, .int 0] hg iX2 tyX2_ok kl_RX3_22 kq_RX2 kw_RX2 rfl (by decide) (by decide) (by decide) dX3_init_21 (fun q3 => ?_)
  refine n_ws (ws' := [(h0, .inr (3, [.int 0, .int 0, .int 0, .int 0, .int 0, .ref h1, .ref q1, .null, .null, .null, .null, .null, .int 0, .int 0])), (q1, .inr (0, [.ref q2])), (q2, .inl (w.2.2.1 0, 10, .inl (fun _ => 0))), (q3, .inr (2, [.null, .null, .null, .null, .null, .int 0]))]) rfl ?_
  refine n_dup hg dX3_init_24 ?_
  refine n_call (wc := [(q3, .inr (2, [.null, .null, .null, .null, .null, .int 0]))]) (wr := [(h0, .inr (3, [.int 0, .int 0, .int 0, .int 0, .int 0, .ref h1, .ref q1, .null, .null, .null, .null, .null, .int 0, .int 0])), (q1, .inr (0, [.ref q2])), (q2, .inl (w.2.2.1 0, 10, .inl (fun _ => 0)))]) [3] [0, 1, 2] hg (en_X2_init l w q3) kp_RX3_24 kj_X2_init rfl np_X2_init (by decide) rfl rfl (by decide) (by decide) (by decide) rfl (m_c1_r (m_c1_r m_c1_nil)) (Nat.le_of_ble_eq_true rfl) (by decide) (by decide) dX3_init_25 (fun ws1 hf => ?_)
  obtain ⟨q4, q5, q6, q7, q8, rfl⟩ := hf
  refine n_ws (ws' := [(h0, .inr (3, [.int 0, .int 0, .int 0, .int 0, .int 0, .ref h1, .ref q1, .null, .null, .null, .null, .null, .int 0, .int 0])), (q1, .inr (0, [.ref q2])), (q2, .inl (w.2.2.1 0, 10, .inl (fun _ => 0))), (q3, .inr (2, [.ref q4, .ref q5, .ref q6, .ref q7, .ref q8, .int 0])), (q4, .inl (w.2.2.1 0, 1536, .inl (fun _ => 0))), (q5, .inl (w.2.2.1 0, 6, .inl (fun _ => 0))), (q6, .inl (w.2.2.1 0, 6, .inl (fun _ => 0))), (q7, .inl (w.2.2.1 0, 78, .inl (fun _ => 0))), (q8, .inl (w.2.2.1 2, 6, .inr (.inr (.inr (.inr (fun _ => none))))))]) rfl ?_
  refine n_putF 0 7 hg iX3 tyX3_ok nmX3 rfl rfl (by decide) kg_RX3_25 rfl rfl rfl rfl (Nat.le_of_ble_eq_true rfl) dX3_init_28 ?_
  refine n_ws (ws' := [(h0, .inr (3, [.int 0, .int 0, .int 0, .int 0, .int 0, .ref h1, .ref q1, .ref q3, .null, .null, .null, .null, .int 0, .int 0])), (q1, .inr (0, [.ref q2])), (q2, .inl (w.2.2.1 0, 10, .inl (fun _ => 0))), (q3, .inr (2, [.ref q4, .ref q5, .ref q6, .ref q7, .ref q8, .int 0])), (q4, .inl (w.2.2.1 0, 1536, .inl (fun _ => 0))), (q5, .inl (w.2.2.1 0, 6, .inl (fun _ => 0))), (q6, .inl (w.2.2.1 0, 6, .inl (fun _ => 0))), (q7, .inl (w.2.2.1 0, 78, .inl (fun _ => 0))), (q8, .inl (w.2.2.1 2, 6, .inr (.inr (.inr (.inr (fun _ => none))))))]) rfl ?_
  refine n_aload 0 hg dX3_init_31 rfl ?_
  refine n_bipush 12 hg dX3_init_32 (by decide) ?_
  refine n_newa (atype := .int) (ty := .int) (t := 0) 12 hg ka_int rfl rfl (fun _ _ h => h) (fun _ => rfl) (by decide) (by decide) (by decide) (by decide) (by decide) dX3_init_34 (fun q9 => ?_)
  refine n_ws (ws' := [(h0, .inr (3, [.int 0, .int 0, .int 0, .int 0, .int 0, .ref h1, .ref q1, .ref q3, .null, .null, .null, .null, .int 0, .int 0])), (q1, .inr (0, [.ref q2])), (q2, .inl (w.2.2.1 0, 10, .inl (fun _ => 0))), (q3, .inr (2, [.ref q4, .ref q5, .ref q6, .ref q7, .ref q8, .int 0])), (q4, .inl (w.2.2.1 0, 1536, .inl (fun _ => 0))), (q5, .inl (w.2.2.1 0, 6, .inl (fun _ => 0))), (q6, .inl (w.2.2.1 0, 6, .inl (fun _ => 0))), (q7, .inl (w.2.2.1 0, 78, .inl (fun _ => 0))), (q8, .inl (w.2.2.1 2, 6, .inr (.inr (.inr (.inr (fun _ => none)))))), (q9, .inl (w.2.2.1 0, 12, .inl (fun _ => 0)))]) rfl ?_
  refine n_putF 0 8 hg iX3 tyX3_ok nmX3 rfl rfl (by decide) kg_RX3_29 rfl rfl rfl rfl (Nat.le_of_ble_eq_true rfl) dX3_init_36 ?_
  refine n_ws (ws' := [(h0, .inr (3, [.int 0, .int 0, .int 0, .int 0, .int 0, .ref h1, .ref q1, .ref q3, .ref q9, .null, .null, .null, .int 0, .int 0])), (q1, .inr (0, [.ref q2])), (q2, .inl (w.2.2.1 0, 10, .inl (fun _ => 0))), (q3, .inr (2, [.ref q4, .ref q5, .ref q6, .ref q7, .ref q8, .int 0])), (q4, .inl (w.2.2.1 0, 1536, .inl (fun _ => 0))), (q5, .inl (w.2.2.1 0, 6, .inl (fun _ => 0))), (q6, .inl (w.2.2.1 0, 6, .inl (fun _ => 0))), (q7, .inl (w.2.2.1 0, 78, .inl (fun _ => 0))), (q8, .inl (w.2.2.1 2, 6, .inr (.inr (.inr (.inr (fun _ => none)))))), (q9, .inl (w.2.2.1 0, 12, .inl (fun _ => 0)))]) rfl ?_
  refine n_aload 0 hg dX3_init_39 rfl ?_
  refine n_bipush 12 hg dX3_init_40 (by decide) ?_
  refine n_newa (atype := .int) (ty := .int) (t := 0) 12 hg ka_int rfl rfl (fun _ _ h => h) (fun _ => rfl) (by decide) (by decide) (by decide) (by decide) (by decide) dX3_init_42 (fun q10 => ?_)
  refine n_ws (ws' := [(h0, .inr (3, [.int 0, .int 0, .int 0, .int 0, .int 0, .ref h1, .ref q1, .ref q3, .ref q9, .null, .null, .null, .int 0, .int 0])), (q1, .inr (0, [.ref q2])), (q2, .inl (w.2.2.1 0, 10, .inl (fun _ => 0))), (q3, .inr (2, [.ref q4, .ref q5, .ref q6, .ref q7, .ref q8, .int 0])), (q4, .inl (w.2.2.1 0, 1536, .inl (fun _ => 0))), (q5, .inl (w.2.2.1 0, 6, .inl (fun _ => 0))), (q6, .inl (w.2.2.1 0, 6, .inl (fun _ => 0))), (q7, .inl (w.2.2.1 0, 78, .inl (fun _ => 0))), (q8, .inl (w.2.2.1 2, 6, .inr (.inr (.inr (.inr (fun _ => none)))))), (q9, .inl (w.2.2.1 0, 12, .inl (fun _ => 0))), (q10, .inl (w.2.2.1 0, 12, .inl (fun _ => 0)))]) rfl ?_
  refine n_putF 0 9 hg iX3 tyX3_ok nmX3 rfl rfl (by decide) kg_RX3_33 rfl rfl rfl rfl (Nat.le_of_ble_eq_true rfl) dX3_init_44 ?_
  refine n_ws (ws' := [(h0, .inr (3, [.int 0, .int 0, .int 0, .int 0, .int 0, .ref h1, .ref q1, .ref q3, .ref q9, .ref q10, .null, .null, .int 0, .int 0])), (q1, .inr (0, [.ref q2])), (q2, .inl (w.2.2.1 0, 10, .inl (fun _ => 0))), (q3, .inr (2, [.ref q4, .ref q5, .ref q6, .ref q7, .ref q8, .int 0])), (q4, .inl (w.2.2.1 0, 1536, .inl (fun _ => 0))), (q5, .inl (w.2.2.1 0, 6, .inl (fun _ => 0))), (q6, .inl (w.2.2.1 0, 6, .inl (fun _ => 0))), (q7, .inl (w.2.2.1 0, 78, .inl (fun _ => 0))), (q8, .inl (w.2.2.1 2, 6, .inr (.inr (.inr (.inr (fun _ => none)))))), (q9, .inl (w.2.2.1 0, 12, .inl (fun _ => 0))), (q10, .inl (w.2.2.1 0, 12, .inl (fun _ => 0)))]) rfl ?_
  refine n_aload 0 hg dX3_init_47 rfl ?_
  refine n_sipush 256 hg dX3_init_48 (by decide) ?_
  refine n_newa (atype := .int) (ty := .int) (t := 0) 256 hg ka_int rfl rfl (fun _ _ h => h) (fun _ => rfl) (by decide) (by decide) (by decide) (by decide) (by decide) dX3_init_51 (fun q11 => ?_)
  refine n_ws (ws' := [(h0, .inr (3, [.int 0, .int 0, .int 0, .int 0, .int 0, .ref h1, .ref q1, .ref q3, .ref q9, .ref q10, .null, .null, .int 0, .int 0])), (q1, .inr (0, [.ref q2])), (q2, .inl (w.2.2.1 0, 10, .inl (fun _ => 0))), (q3, .inr (2, [.ref q4, .ref q5, .ref q6, .ref q7, .ref q8, .int 0])), (q4, .inl (w.2.2.1 0, 1536, .inl (fun _ => 0))), (q5, .inl (w.2.2.1 0, 6, .inl (fun _ => 0))), (q6, .inl (w.2.2.1 0, 6, .inl (fun _ => 0))), (q7, .inl (w.2.2.1 0, 78, .inl (fun _ => 0))), (q8, .inl (w.2.2.1 2, 6, .inr (.inr (.inr (.inr (fun _ => none)))))), (q9, .inl (w.2.2.1 0, 12, .inl (fun _ => 0))), (q10, .inl (w.2.2.1 0, 12, .inl (fun _ => 0))), (q11, .inl (w.2.2.1 0, 256, .inl (fun _ => 0)))]) rfl ?_
  refine n_putF 0 10 hg iX3 tyX3_ok nmX3 rfl rfl (by decide) kg_RX3_36 rfl rfl rfl rfl (Nat.le_of_ble_eq_true rfl) dX3_init_53 ?_
  refine n_ws (ws' := [(h0, .inr (3, [.int 0, .int 0, .int 0, .int 0, .int 0, .ref h1, .ref q1, .ref q3, .ref q9, .ref q10, .ref q11, .null, .int 0, .int 0])), (q1, .inr (0, [.ref q2])), (q2, .inl (w.2.2.1 0, 10, .inl (fun _ => 0))), (q3, .inr (2, [.ref q4, .ref q5, .ref q6, .ref q7, .ref q8, .int 0])), (q4, .inl (w.2.2.1 0, 1536, .inl (fun _ => 0))), (q5, .inl (w.2.2.1 0, 6, .inl (fun _ => 0))), (q6, .inl (w.2.2.1 0, 6, .inl (fun _ => 0))), (q7, .inl (w.2.2.1 0, 78, .inl (fun _ => 0))), (q8, .inl (w.2.2.1 2, 6, .inr (.inr (.inr (.inr (fun _ => none)))))), (q9, .inl (w.2.2.1 0, 12, .inl (fun _ => 0))), (q10, .inl (w.2.2.1 0, 12, .inl (fun _ => 0))), (q11, .inl (w.2.2.1 0, 256, .inl (fun _ => 0)))]) rfl ?_
  refine n_aload 0 hg dX3_init_56 rfl ?_
  refine n_bipush 13 hg dX3_init_57 (by decide) ?_
  refine n_newa (atype := .int) (ty := .int) (t := 0) 13 hg ka_int rfl rfl (fun _ _ h => h) (fun _ => rfl) (by decide) (by decide) (by decide) (by decide) (by decide) dX3_init_59 (fun q12 => ?_)
  refine n_ws (ws' := [(h0, .inr (3, [.int 0, .int 0, .int 0, .int 0, .int 0, .ref h1, .ref q1, .ref q3, .ref q9, .ref q10, .ref q11, .null, .int 0, .int 0])), (q1, .inr (0, [.ref q2])), (q2, .inl (w.2.2.1 0, 10, .inl (fun _ => 0))), (q3, .inr (2, [.ref q4, .ref q5, .ref q6, .ref q7, .ref q8, .int 0])), (q4, .inl (w.2.2.1 0, 1536, .inl (fun _ => 0))), (q5, .inl (w.2.2.1 0, 6, .inl (fun _ => 0))), (q6, .inl (w.2.2.1 0, 6, .inl (fun _ => 0))), (q7, .inl (w.2.2.1 0, 78, .inl (fun _ => 0))), (q8, .inl (w.2.2.1 2, 6, .inr (.inr (.inr (.inr (fun _ => none)))))), (q9, .inl (w.2.2.1 0, 12, .inl (fun _ => 0))), (q10, .inl (w.2.2.1 0, 12, .inl (fun _ => 0))), (q11, .inl (w.2.2.1 0, 256, .inl (fun _ => 0))), (q12, .inl (w.2.2.1 0, 13, .inl (fun _ => 0)))]) rfl ?_
  refine n_putF 0 11 hg iX3 tyX3_ok nmX3 rfl rfl (by decide) kg_RX3_39 rfl rfl rfl rfl (Nat.le_of_ble_eq_true rfl) dX3_init_61 ?_
  refine n_ws (ws' := [(h0, .inr (3, [.int 0, .int 0, .int 0, .int 0, .int 0, .ref h1, .ref q1, .ref q3, .ref q9, .ref q10, .ref q11, .ref q12, .int 0, .int 0])), (q1, .inr (0, [.ref q2])), (q2, .inl (w.2.2.1 0, 10, .inl (fun _ => 0))), (q3, .inr (2, [.ref q4, .ref q5, .ref q6, .ref q7, .ref q8, .int 0])), (q4, .inl (w.2.2.1 0, 1536, .inl (fun _ => 0))), (q5, .inl (w.2.2.1 0, 6, .inl (fun _ => 0))), (q6, .inl (w.2.2.1 0, 6, .inl (fun _ => 0))), (q7, .inl (w.2.2.1 0, 78, .inl (fun _ => 0))), (q8, .inl (w.2.2.1 2, 6, .inr (.inr (.inr (.inr (fun _ => none)))))), (q9, .inl (w.2.2.1 0, 12, .inl (fun _ => 0))), (q10, .inl (w.2.2.1 0, 12, .inl (fun _ => 0))), (q11, .inl (w.2.2.1 0, 256, .inl (fun _ => 0))), (q12, .inl (w.2.2.1 0, 13, .inl (fun _ => 0)))]) rfl ?_
  exact n_ret hA0 (ws1 := [(h0, .inr (3, [.int 0, .int 0, .int 0, .int 0, .int 0, .ref h1, .ref q1, .ref q3, .ref q9, .ref q10, .ref q11, .ref q12, .int 0, .int 0])), (q1, .inr (0, [.ref q2])), (q2, .inl (w.2.2.1 0, 10, .inl (fun _ => 0))), (q3, .inr (2, [.ref q4, .ref q5, .ref q6, .ref q7, .ref q8, .int 0])), (q4, .inl (w.2.2.1 0, 1536, .inl (fun _ => 0))), (q5, .inl (w.2.2.1 0, 6, .inl (fun _ => 0))), (q6, .inl (w.2.2.1 0, 6, .inl (fun _ => 0))), (q7, .inl (w.2.2.1 0, 78, .inl (fun _ => 0))), (q8, .inl (w.2.2.1 2, 6, .inr (.inr (.inr (.inr (fun _ => none)))))), (q9, .inl (w.2.2.1 0, 12, .inl (fun _ => 0))), (q10, .inl (w.2.2.1 0, 12, .inl (fun _ => 0))), (q11, .inl (w.2.2.1 0, 256, .inl (fun _ => 0))), (q12, .inl (w.2.2.1 0, 13, .inl (fun _ => 0)))]) [0, 1, 2, 3, 4, 5, 6, 7, 8, 9, 10, 11, 12] (by decide) rfl ⟨q1, q2, q3, q4, q5, q6, q7, q8, q9, q10, q11, q12, rfl⟩ (by decide) (by decide) hg dX3_init_64
