section CM5
variable {p : Program} {l : Launch} {e : Env} {d : Nat} {s : State} {m : MethodId} {args : Array Value} {below : List Frame} {meth : Method} {c : Code} {w : mW}
set_option maxHeartbeats 4000000 in
set_option maxRecDepth 100000 in
theorem e_X6_game (N : Nat) (l : Launch) (w : mW) (v1 v2 v3 : Int32) (σ : Mem) : Ev l w shC yX6_game cX6_game 11 (some .int) 1 36 [.ref (w.2.1 16), .int v1, .int v2, .int v3] σ (f_X6_game N v1 v2 v3 σ) := by
  refine Ev.of (by decide) (m_c1_r (m_c1_i (m_c1_i (m_c1_i m_c1_nil)))) (Nat.le_of_ble_eq_true rfl) (fun p e s m args below meth c hg => ?_)
  have hdp := Nat.le_refl 36
  unfold f_X6_game
  show Vj (p, l, e, 36, s, m, args, below, meth, c) w shC 11 1 σ 0 [(0, .ref (w.2.1 16)), (1, .int v1), (2, .int v2), (3, .int v3)] [] _
  refine r_aload_n hg 0 dX6_game_0 rfl ?_
  refine r_iload_n hg 1 dX6_game_1 rfl ?_
  refine q_callv2 hg (e_X6_coverAt N l w v1 σ) kk_RX6_83 ki_X6_coverAt ks_RX6_X6_coverAt rfl rfl np_X6_coverAt (Nat.le_trans (by decide) hdp) rfl m_c1_nil (Nat.le_of_ble_eq_true rfl) dX6_game_2 (fun r1 σ2 => ?_)
  refine r_astoreq (lv' := [(4, m_rf w.2.1 r1), (0, .ref (w.2.1 16)), (1, .int v1), (2, .int v2), (3, .int v3)]) hg dX6_game_5 (by decide) rfl ?_
  refine r_aload_n hg 1 dX6_game_7 rfl ?_
  refine r_iload_n hg 3 dX6_game_8 rfl ?_
  refine q_callv2 hg (e_X6_coverAt N l w v2 σ2) kk_RX6_83 ki_X6_coverAt ks_RX6_X6_coverAt rfl rfl np_X6_coverAt (Nat.le_trans (by decide) hdp) rfl m_c1_nil (Nat.le_of_ble_eq_true rfl) dX6_game_9 (fun r3 σ4 => ?_)
  refine r_astoreq (lv' := [(5, m_rf w.2.1 r3), (4, m_rf w.2.1 r1), (0, .ref (w.2.1 16)), (1, .int v1), (2, .int v2), (3, .int v3)]) hg dX6_game_12 (by decide) rfl ?_
  refine r_aloadq hg 1 dX6_game_14 rfl ?_
  refine r_ifnull hg 33 dX6_game_16 (by decide) ?_ ?_
  · refine r_ldc hg kv_RX6_141 dX6_game_33 ?_
    exact r_iret hg dX6_game_35 rfl rfl
  · refine r_aloadq hg 0 dX6_game_19 rfl ?_
    refine r_ifnull hg 33 dX6_game_21 (by decide) ?_ ?_
    · refine r_ldc hg kv_RX6_141 dX6_game_33 ?_
      exact r_iret hg dX6_game_35 rfl rfl
    · refine r_iload_n hg 5 dX6_game_24 rfl ?_
      refine r_iconst hg 0 dX6_game_25 (by decide) ?_
      refine r_iconst hg 2 dX6_game_26 (by decide) ?_
      refine q_calls1 hg (e_X6_isWithin N l w v3 0 2 σ4) kk_RX6_87 kt_X6_isWithin np_X6_isWithin (Nat.le_trans (by decide) hdp) rfl m_c1_nil (Nat.le_of_ble_eq_true rfl) dX6_game_27 (fun r5 σ6 => ?_)
      refine r_if_ne hg 36 dX6_game_30 (by decide) ?_ ?_
      · refine r_aload_n hg 2 dX6_game_36 rfl ?_
        refine r_aloadq hg 1 dX6_game_37 rfl ?_
        refine r_iconst hg 1 dX6_game_39 (by decide) ?_
        refine q_callv1 hg (e_X6_lossOfGreatestWeight N l w r1 1 σ6) kk_RX6_197 ki_X6_lossOfGreatestWeight ks_RX6_X6_lossOfGreatestWeight rfl rfl np_X6_lossOfGreatestWeight (Nat.le_trans (by decide) hdp) rfl m_c1_nil (Nat.le_of_ble_eq_true rfl) dX6_game_40 (fun r7 σ8 => ?_)
        refine r_istore (lv' := [(6, .int r7), (5, m_rf w.2.1 r3), (4, m_rf w.2.1 r1), (0, .ref (w.2.1 16)), (1, .int v1), (2, .int v2), (3, .int v3)]) hg dX6_game_43 (by decide) rfl ?_
        refine r_aload_n hg 3 dX6_game_45 rfl ?_
        refine r_aloadq hg 1 dX6_game_46 rfl ?_
        refine r_iconst hg 1 dX6_game_48 (by decide) ?_
        refine q_callv1 hg (e_X6_lossOfGreatestWeight N l w r3 1 σ8) kk_RX6_197 ki_X6_lossOfGreatestWeight ks_RX6_X6_lossOfGreatestWeight rfl rfl np_X6_lossOfGreatestWeight (Nat.le_trans (by decide) hdp) rfl m_c1_nil (Nat.le_of_ble_eq_true rfl) dX6_game_49 (fun r9 σ10 => ?_)
        refine r_istore (lv' := [(7, .int r9), (6, .int r7), (5, m_rf w.2.1 r3), (4, m_rf w.2.1 r1), (0, .ref (w.2.1 16)), (1, .int v1), (2, .int v2), (3, .int v3)]) hg dX6_game_52 (by decide) rfl ?_
        refine r_iload hg 1 dX6_game_54 rfl ?_
        refine r_iconst hg (-1) dX6_game_56 (by decide) ?_
        refine r_icmp_eq hg 66 dX6_game_57 (by decide) ?_ ?_
        · refine r_ldc hg kv_RX6_141 dX6_game_66 ?_
          exact r_iret hg dX6_game_68 rfl rfl
        · refine r_iload hg 0 dX6_game_60 rfl ?_
          refine r_iconst hg (-1) dX6_game_62 (by decide) ?_
          refine r_icmp_ne hg 69 dX6_game_63 (by decide) ?_ ?_
          · refine r_aload_n hg 4 dX6_game_69 rfl ?_
            refine r_aloadq hg 3 dX6_game_70 rfl ?_
            refine r_aload_n hg 4 dX6_game_72 rfl ?_
            refine q_getr (j := 3) hg rfl rfl rfl (by decide) iX6 kf_RX6_30 rfl dX6_game_73 ?_
            refine q_callv1 hg (e_X1_all N l w σ10) kk_RX6_189 ki_X1_all ks_RX1_X1_all rfl rfl np_X1_all (Nat.le_trans (by decide) hdp) rfl (m_c1_q (m_c1_r m_c1_nil)) (Nat.le_of_ble_eq_true rfl) dX6_game_76 (fun r11 σ12 => ?_)
            refine r_iconst hg 1 dX6_game_79 (by decide) ?_
            refine r_iload hg 1 dX6_game_80 rfl ?_
            refine r_ishl hg dX6_game_82 ?_
            refine r_ixor hg dX6_game_83 ?_
            refine q_callv1 hg (e_X6_greatestFor N l w r1 (r11 ^^^ (1 <<< (r7 &&& 31))) σ12) kk_RX6_193 ki_X6_greatestFor ks_RX6_X6_greatestFor rfl rfl np_X6_greatestFor (Nat.le_trans (by decide) hdp) rfl m_c1_nil (Nat.le_of_ble_eq_true rfl) dX6_game_84 (fun r13 σ14 => ?_)
            refine r_istore (lv' := [(8, .int r13), (7, .int r9), (6, .int r7), (5, m_rf w.2.1 r3), (4, m_rf w.2.1 r1), (0, .ref (w.2.1 16)), (1, .int v1), (2, .int v2), (3, .int v3)]) hg dX6_game_87 (by decide) rfl ?_
            refine r_aload_n hg 5 dX6_game_89 rfl ?_
            refine r_aloadq hg 3 dX6_game_90 rfl ?_
            refine r_aload_n hg 5 dX6_game_92 rfl ?_
            refine q_getr (j := 3) hg rfl rfl rfl (by decide) iX6 kf_RX6_30 rfl dX6_game_93 ?_
            refine q_callv1 hg (e_X1_all N l w σ14) kk_RX6_189 ki_X1_all ks_RX1_X1_all rfl rfl np_X1_all (Nat.le_trans (by decide) hdp) rfl (m_c1_q (m_c1_r m_c1_nil)) (Nat.le_of_ble_eq_true rfl) dX6_game_96 (fun r15 σ16 => ?_)
            refine r_iconst hg 1 dX6_game_99 (by decide) ?_
            refine r_iload hg 1 dX6_game_100 rfl ?_
            refine r_ishl hg dX6_game_102 ?_
            refine r_ixor hg dX6_game_103 ?_
            refine q_callv1 hg (e_X6_greatestFor N l w r3 (r15 ^^^ (1 <<< (r9 &&& 31))) σ16) kk_RX6_193 ki_X6_greatestFor ks_RX6_X6_greatestFor rfl rfl np_X6_greatestFor (Nat.le_trans (by decide) hdp) rfl m_c1_nil (Nat.le_of_ble_eq_true rfl) dX6_game_104 (fun r17 σ18 => ?_)
            refine r_istore (lv' := [(9, .int r17), (8, .int r13), (7, .int r9), (6, .int r7), (5, m_rf w.2.1 r3), (4, m_rf w.2.1 r1), (0, .ref (w.2.1 16)), (1, .int v1), (2, .int v2), (3, .int v3)]) hg dX6_game_107 (by decide) rfl ?_
            refine r_iload hg 0 dX6_game_109 rfl ?_
            refine r_iload hg 1 dX6_game_111 rfl ?_
            refine r_icmp_le hg 120 dX6_game_113 (by decide) ?_ ?_
            · refine r_iconst hg 0 dX6_game_120 (by decide) ?_
              refine r_istore (lv' := [(10, .int 0), (9, .int r17), (8, .int r13), (7, .int r9), (6, .int r7), (5, m_rf w.2.1 r3), (4, m_rf w.2.1 r1), (0, .ref (w.2.1 16)), (1, .int v1), (2, .int v2), (3, .int v3)]) hg dX6_game_121 (by decide) rfl ?_
              refine r_iload_n hg 10 dX6_game_123 rfl ?_
              refine r_if_ne hg 138 dX6_game_124 (by decide) ?_ ?_
              · refine r_iload_n hg 10 dX6_game_138 rfl ?_
                refine r_iconst hg 1 dX6_game_139 (by decide) ?_
                refine r_icmp_ne hg 156 dX6_game_140 (by decide) ?_ ?_
                · refine r_iload hg 0 dX6_game_156 rfl ?_
                  refine q_name (fun u19 => ?_)
                  refine r_if_eq hg 166 dX6_game_158 (by decide) ?_ ?_
                  · refine r_iload hg 4 dX6_game_166 rfl ?_
                    exact r_iret hg dX6_game_168 rfl rfl
                  · refine r_iload hg 3 dX6_game_161 rfl ?_
                    refine r_goto hg 168 dX6_game_163 (by decide) ?_
                    exact r_iret hg dX6_game_168 rfl rfl
                · refine r_iload hg 0 dX6_game_143 rfl ?_
                  refine q_name (fun u20 => ?_)
                  refine r_if_eq hg 153 dX6_game_145 (by decide) ?_ ?_
                  · refine r_iload hg 2 dX6_game_153 rfl ?_
                    exact r_iret hg dX6_game_155 rfl rfl
                  · refine r_iload hg 1 dX6_game_148 rfl ?_
                    refine r_goto hg 155 dX6_game_150 (by decide) ?_
                    exact r_iret hg dX6_game_155 rfl rfl
              · refine r_iload hg 0 dX6_game_127 rfl ?_
                refine q_name (fun u21 => ?_)
                refine r_if_eq hg 136 dX6_game_129 (by decide) ?_ ?_
                · refine r_iconst hg 0 dX6_game_136 (by decide) ?_
                  exact r_iret hg dX6_game_137 rfl rfl
                · refine r_iconst hg 1 dX6_game_132 (by decide) ?_
                  refine r_goto hg 137 dX6_game_133 (by decide) ?_
                  exact r_iret hg dX6_game_137 rfl rfl
            · refine r_iconst hg 1 dX6_game_116 (by decide) ?_
              refine r_goto hg 121 dX6_game_117 (by decide) ?_
              refine r_istore (lv' := [(10, .int 1), (9, .int r17), (8, .int r13), (7, .int r9), (6, .int r7), (5, m_rf w.2.1 r3), (4, m_rf w.2.1 r1), (0, .ref (w.2.1 16)), (1, .int v1), (2, .int v2), (3, .int v3)]) hg dX6_game_121 (by decide) rfl ?_
              refine r_iload_n hg 10 dX6_game_123 rfl ?_
              refine r_if_ne hg 138 dX6_game_124 (by decide) ?_ ?_
              · refine r_iload_n hg 10 dX6_game_138 rfl ?_
                refine r_iconst hg 1 dX6_game_139 (by decide) ?_
                refine r_icmp_ne hg 156 dX6_game_140 (by decide) ?_ ?_
                · refine r_iload hg 0 dX6_game_156 rfl ?_
                  refine q_name (fun u22 => ?_)
                  refine r_if_eq hg 166 dX6_game_158 (by decide) ?_ ?_
                  · refine r_iload hg 4 dX6_game_166 rfl ?_
                    exact r_iret hg dX6_game_168 rfl rfl
                  · refine r_iload hg 3 dX6_game_161 rfl ?_
                    refine r_goto hg 168 dX6_game_163 (by decide) ?_
                    exact r_iret hg dX6_game_168 rfl rfl
                · refine r_iload hg 0 dX6_game_143 rfl ?_
                  refine q_name (fun u23 => ?_)
                  refine r_if_eq hg 153 dX6_game_145 (by decide) ?_ ?_
                  · refine r_iload hg 2 dX6_game_153 rfl ?_
                    exact r_iret hg dX6_game_155 rfl rfl
                  · refine r_iload hg 1 dX6_game_148 rfl ?_
                    refine r_goto hg 155 dX6_game_150 (by decide) ?_
                    exact r_iret hg dX6_game_155 rfl rfl
              · refine r_iload hg 0 dX6_game_127 rfl ?_
                refine q_name (fun u24 => ?_)
                refine r_if_eq hg 136 dX6_game_129 (by decide) ?_ ?_
                · refine r_iconst hg 0 dX6_game_136 (by decide) ?_
                  exact r_iret hg dX6_game_137 rfl rfl
                · refine r_iconst hg 1 dX6_game_132 (by decide) ?_
                  refine r_goto hg 137 dX6_game_133 (by decide) ?_
                  exact r_iret hg dX6_game_137 rfl rfl
          · refine r_ldc hg kv_RX6_141 dX6_game_66 ?_
            exact r_iret hg dX6_game_68 rfl rfl
      · refine r_ldc hg kv_RX6_141 dX6_game_33 ?_
        exact r_iret hg dX6_game_35 rfl rfl
set_option maxHeartbeats 4000000 in
set_option maxRecDepth 100000 in
theorem e_X6_mend (N : Nat) (l : Launch) (w : mW) (v1 v2 v3 : Int32) (σ : Mem) : Ev l w shC yX6_mend cX6_mend 4 (some .boolean) 1 1 [.ref (w.2.1 16), .int v1, .int v2, .int v3] σ (f_X6_mend N v1 v2 v3 σ) := by
  refine Ev.of (by decide) (m_c1_r (m_c1_i (m_c1_i (m_c1_i m_c1_nil)))) (Nat.le_of_ble_eq_true rfl) (fun p e s m args below meth c hg => ?_)
  have hdp := Nat.le_refl 1
  unfold f_X6_mend
  show Vj (p, l, e, 1, s, m, args, below, meth, c) w shC 4 1 σ 0 [(0, .ref (w.2.1 16)), (1, .int v1), (2, .int v2), (3, .int v3)] [] _
  refine r_aload_n hg 0 dX6_mend_0 rfl ?_
  refine q_getr (j := 3) hg rfl rfl rfl (by decide) iX6 kf_RX6_30 rfl dX6_mend_1 ?_
  refine r_iload_n hg 1 dX6_mend_4 rfl ?_
  refine q_callv1 hg (e_X1_has N l w v1 σ) kk_RX6_132 ki_X1_has ks_RX1_X1_has rfl rfl np_X1_has (Nat.le_trans (by decide) hdp) rfl m_c1_nil (Nat.le_of_ble_eq_true rfl) dX6_mend_5 (fun r1 σ2 => ?_)
  refine r_if_eq hg 32 dX6_mend_8 (by decide) ?_ ?_
  · refine r_iconst hg 0 dX6_mend_32 (by decide) ?_
    exact r_zret hg dX6_mend_33 rfl rfl
  · refine r_iload_n hg 2 dX6_mend_11 rfl ?_
    refine r_iconst hg 0 dX6_mend_12 (by decide) ?_
    refine r_sipush hg 999 dX6_mend_13 (by decide) ?_
    refine q_calls1 hg (e_X6_isWithin N l w v2 0 999 σ2) kk_RX6_87 kt_X6_isWithin np_X6_isWithin (Nat.le_trans (by decide) hdp) rfl m_c1_nil (Nat.le_of_ble_eq_true rfl) dX6_mend_16 (fun r3 σ4 => ?_)
    refine r_if_eq hg 32 dX6_mend_19 (by decide) ?_ ?_
    · refine r_iconst hg 0 dX6_mend_32 (by decide) ?_
      exact r_zret hg dX6_mend_33 rfl rfl
    · refine r_iload_n hg 3 dX6_mend_22 rfl ?_
      refine r_iconst hg 1 dX6_mend_23 (by decide) ?_
      refine r_bipush hg 99 dX6_mend_24 (by decide) ?_
      refine q_calls1 hg (e_X6_isWithin N l w v3 1 99 σ4) kk_RX6_87 kt_X6_isWithin np_X6_isWithin (Nat.le_trans (by decide) hdp) rfl m_c1_nil (Nat.le_of_ble_eq_true rfl) dX6_mend_26 (fun r5 σ6 => ?_)
      refine r_if_ne hg 34 dX6_mend_29 (by decide) ?_ ?_
      · refine r_aload_n hg 0 dX6_mend_34 rfl ?_
        refine q_getr (j := 3) hg rfl rfl rfl (by decide) iX6 kf_RX6_30 rfl dX6_mend_35 ?_
        refine q_getr (j := 1) hg rfl rfl rfl (by decide) iX1 kf_RX6_103 rfl dX6_mend_38 ?_
        refine r_iload_n hg 1 dX6_mend_41 rfl ?_
        refine r_iload_n hg 2 dX6_mend_42 rfl ?_
        refine q_iastore (n := 12) hg rfl dX6_mend_43 (fun σ7 => ?_)
        refine r_aload_n hg 0 dX6_mend_44 rfl ?_
        refine q_getr (j := 3) hg rfl rfl rfl (by decide) iX6 kf_RX6_30 rfl dX6_mend_45 ?_
        refine q_getr (j := 2) hg rfl rfl rfl (by decide) iX1 kf_RX6_106 rfl dX6_mend_48 ?_
        refine r_iload_n hg 1 dX6_mend_51 rfl ?_
        refine r_iload_n hg 2 dX6_mend_52 rfl ?_
        refine r_aload_n hg 0 dX6_mend_53 rfl ?_
        refine q_getr (j := 3) hg rfl rfl rfl (by decide) iX6 kf_RX6_30 rfl dX6_mend_54 ?_
        refine q_getr (j := 2) hg rfl rfl rfl (by decide) iX1 kf_RX6_106 rfl dX6_mend_57 ?_
        refine r_iload_n hg 1 dX6_mend_60 rfl ?_
        refine r_iaload (n := 12) hg rfl dX6_mend_61 ?_
        refine r_max hg km_RX6_213 kt_J9_max_7cf53 kz_RJ9 kc_J9_max_7cf53 (Nat.le_trans (by decide) hdp) (m_c1_i (m_c1_r m_c1_nil)) (Nat.le_of_ble_eq_true rfl) dX6_mend_62 ?_
        refine q_iastore (n := 12) hg rfl dX6_mend_65 (fun σ8 => ?_)
        refine r_aload_n hg 0 dX6_mend_66 rfl ?_
        refine q_getr (j := 3) hg rfl rfl rfl (by decide) iX6 kf_RX6_30 rfl dX6_mend_67 ?_
        refine q_getr (j := 0) hg rfl rfl rfl (by decide) iX1 kf_RX6_100 rfl dX6_mend_70 ?_
        refine r_iload_n hg 1 dX6_mend_73 rfl ?_
        refine r_iload_n hg 3 dX6_mend_74 rfl ?_
        refine q_iastore (n := 12) hg rfl dX6_mend_75 (fun σ9 => ?_)
        refine r_iconst hg 1 dX6_mend_76 (by decide) ?_
        exact r_zret hg dX6_mend_77 rfl rfl
      · refine r_iconst hg 0 dX6_mend_32 (by decide) ?_
        exact r_zret hg dX6_mend_33 rfl rfl
set_option maxHeartbeats 4000000 in
set_option maxRecDepth 100000 in
theorem e_X6_count (N : Nat) (l : Launch) (w : mW) (v1 : Int32) (σ : Mem) : Ev l w shC yX6_count cX6_count 2 (some .int) 1 0 [.ref (w.2.1 16), .int v1] σ (f_X6_count N v1 σ) := by
  refine Ev.of (by decide) (m_c1_r (m_c1_i m_c1_nil)) (Nat.le_of_ble_eq_true rfl) (fun p e s m args below meth c hg => ?_)
  have hdp := Nat.le_refl 0
  unfold f_X6_count
  show Vj (p, l, e, 0, s, m, args, below, meth, c) w shC 2 1 σ 0 [(0, .ref (w.2.1 16)), (1, .int v1)] [] _
  refine r_iload_n hg 1 dX6_count_0 rfl ?_
  refine q_tab4 58 32 37 45 50 hg dX6_count_1 (by decide) (by decide) (by decide) (by decide) (by decide) ?_ ?_ ?_ ?_ ?_
  · refine r_aload_n hg 0 dX6_count_32 rfl ?_
    refine q_geti (j := 8) hg rfl rfl rfl (by decide) iX6 kf_RX6_57 rfl dX6_count_33 ?_
    exact r_iret hg dX6_count_36 rfl rfl
  · refine r_aload_n hg 0 dX6_count_37 rfl ?_
    refine q_getr (j := 3) hg rfl rfl rfl (by decide) iX6 kf_RX6_30 rfl dX6_count_38 ?_
    refine q_geti (j := 6) hg rfl rfl rfl (by decide) iX1 kf_RX6_97 rfl dX6_count_41 ?_
    exact r_iret hg dX6_count_44 rfl rfl
  · refine r_aload_n hg 0 dX6_count_45 rfl ?_
    refine q_geti (j := 9) hg rfl rfl rfl (by decide) iX6 kf_RX6_61 rfl dX6_count_46 ?_
    exact r_iret hg dX6_count_49 rfl rfl
  · refine r_aload_n hg 0 dX6_count_50 rfl ?_
    refine q_getr (j := 0) hg rfl rfl rfl (by decide) iX6 kf_RX6_10 rfl dX6_count_51 ?_
    refine q_geti (j := 1) hg rfl rfl rfl (by decide) iX4 kf_RX6_68 rfl dX6_count_54 ?_
    exact r_iret hg dX6_count_57 rfl rfl
  · refine r_iconst hg (-1) dX6_count_58 (by decide) ?_
    exact r_iret hg dX6_count_59 rfl rfl
end CM5
