section RM1
variable {p : Program} {l : Launch} {e : Env} {d : Nat} {s : State} {m : MethodId} {args : Array Value} {below : List Frame} {meth : Method} {c : Code} {w : mW}
set_option maxHeartbeats 4000000 in
set_option maxRecDepth 100000 in
theorem e_X7_loss (N : Nat) (l : Launch) (w : mW) (v1 v2 v3 v4 v5 v6 : Int32) (σ : Mem) : Ev l w shR yX7_loss cX7_loss 7 (some .int) 1 1 [.ref (w.2.1 0), .int v1, .int v2, .int v3, .int v4, .int v5, .int v6] σ (f_X7_loss N v1 v2 v3 v4 v5 v6 σ) := by
  refine Ev.of (by decide) (m_c1_r (m_c1_i (m_c1_i (m_c1_i (m_c1_i (m_c1_i (m_c1_i m_c1_nil))))))) (Nat.le_of_ble_eq_true rfl) (fun p e s m args below meth c hg => ?_)
  have hdp := Nat.le_refl 1
  unfold f_X7_loss
  show Vj (p, l, e, 1, s, m, args, below, meth, c) w shR 7 1 σ 0 [(0, .ref (w.2.1 0)), (1, .int v1), (2, .int v2), (3, .int v3), (4, .int v4), (5, .int v5), (6, .int v6)] [] _
  refine r_aload_n hg 0 dX7_loss_0 rfl ?_
  refine r_iconst hg 0 dX7_loss_1 (by decide) ?_
  refine q_put (j := 0) hg rfl rfl rfl (by decide) iX7 kf_RX7_68 rfl tyX7_ok nmX7 rfl rfl dX7_loss_2 (fun σ1 => ?_)
  refine r_aload_n hg 0 dX7_loss_5 rfl ?_
  refine q_geti (j := 15) hg rfl rfl rfl (by decide) iX7 kf_RX7_146 rfl dX7_loss_6 ?_
  refine r_bipush hg 12 dX7_loss_9 (by decide) ?_
  refine r_icmp_eq hg 87 dX7_loss_11 (by decide) ?_ ?_
  · refine r_iconst hg (-1) dX7_loss_87 (by decide) ?_
    exact r_iret hg dX7_loss_88 rfl rfl
  · refine r_iload_n hg 1 dX7_loss_14 rfl ?_
    refine r_iconst hg 1 dX7_loss_15 (by decide) ?_
    refine r_bipush hg 99 dX7_loss_16 (by decide) ?_
    refine q_calls1 hg (e_X7_isIn N l w v1 1 99 σ1) kk_RX7_107 kt_X7_isIn np_X7_isIn (Nat.le_trans (by decide) hdp) rfl m_c1_nil (Nat.le_of_ble_eq_true rfl) dX7_loss_18 (fun r2 σ3 => ?_)
    refine r_if_eq hg 87 dX7_loss_21 (by decide) ?_ ?_
    · refine r_iconst hg (-1) dX7_loss_87 (by decide) ?_
      exact r_iret hg dX7_loss_88 rfl rfl
    · refine r_iload_n hg 2 dX7_loss_24 rfl ?_
      refine r_iconst hg 0 dX7_loss_25 (by decide) ?_
      refine r_sipush hg 999 dX7_loss_26 (by decide) ?_
      refine q_calls1 hg (e_X7_isIn N l w v2 0 999 σ3) kk_RX7_107 kt_X7_isIn np_X7_isIn (Nat.le_trans (by decide) hdp) rfl m_c1_nil (Nat.le_of_ble_eq_true rfl) dX7_loss_29 (fun r4 σ5 => ?_)
      refine r_if_eq hg 87 dX7_loss_32 (by decide) ?_ ?_
      · refine r_iconst hg (-1) dX7_loss_87 (by decide) ?_
        exact r_iret hg dX7_loss_88 rfl rfl
      · refine r_iload_n hg 3 dX7_loss_35 rfl ?_
        refine r_iconst hg 0 dX7_loss_36 (by decide) ?_
        refine r_bipush hg 99 dX7_loss_37 (by decide) ?_
        refine q_calls1 hg (e_X7_isIn N l w v3 0 99 σ5) kk_RX7_107 kt_X7_isIn np_X7_isIn (Nat.le_trans (by decide) hdp) rfl m_c1_nil (Nat.le_of_ble_eq_true rfl) dX7_loss_39 (fun r6 σ7 => ?_)
        refine r_if_eq hg 87 dX7_loss_42 (by decide) ?_ ?_
        · refine r_iconst hg (-1) dX7_loss_87 (by decide) ?_
          exact r_iret hg dX7_loss_88 rfl rfl
        · refine r_iload_n hg 2 dX7_loss_45 rfl ?_
          refine r_iload_n hg 3 dX7_loss_46 rfl ?_
          refine r_iadd hg dX7_loss_47 ?_
          refine r_sipush hg 999 dX7_loss_48 (by decide) ?_
          refine r_icmp_gt hg 87 dX7_loss_51 (by decide) ?_ ?_
          · refine r_iconst hg (-1) dX7_loss_87 (by decide) ?_
            exact r_iret hg dX7_loss_88 rfl rfl
          · refine r_iload hg 4 dX7_loss_54 rfl ?_
            refine r_iconst hg 0 dX7_loss_56 (by decide) ?_
            refine r_bipush hg 99 dX7_loss_57 (by decide) ?_
            refine q_calls1 hg (e_X7_isIn N l w v4 0 99 σ7) kk_RX7_107 kt_X7_isIn np_X7_isIn (Nat.le_trans (by decide) hdp) rfl m_c1_nil (Nat.le_of_ble_eq_true rfl) dX7_loss_59 (fun r8 σ9 => ?_)
            refine r_if_eq hg 87 dX7_loss_62 (by decide) ?_ ?_
            · refine r_iconst hg (-1) dX7_loss_87 (by decide) ?_
              exact r_iret hg dX7_loss_88 rfl rfl
            · refine r_iload hg 5 dX7_loss_65 rfl ?_
              refine r_iconst hg 0 dX7_loss_67 (by decide) ?_
              refine r_bipush hg 99 dX7_loss_68 (by decide) ?_
              refine q_calls1 hg (e_X7_isIn N l w v5 0 99 σ9) kk_RX7_107 kt_X7_isIn np_X7_isIn (Nat.le_trans (by decide) hdp) rfl m_c1_nil (Nat.le_of_ble_eq_true rfl) dX7_loss_70 (fun r10 σ11 => ?_)
              refine r_if_eq hg 87 dX7_loss_73 (by decide) ?_ ?_
              · refine r_iconst hg (-1) dX7_loss_87 (by decide) ?_
                exact r_iret hg dX7_loss_88 rfl rfl
              · refine r_iload hg 6 dX7_loss_76 rfl ?_
                refine r_iconst hg 1 dX7_loss_78 (by decide) ?_
                refine r_bipush hg 63 dX7_loss_79 (by decide) ?_
                refine q_calls1 hg (e_X7_isIn N l w v6 1 63 σ11) kk_RX7_107 kt_X7_isIn np_X7_isIn (Nat.le_trans (by decide) hdp) rfl m_c1_nil (Nat.le_of_ble_eq_true rfl) dX7_loss_81 (fun r12 σ13 => ?_)
                refine r_if_ne hg 89 dX7_loss_84 (by decide) ?_ ?_
                · refine r_aload_n hg 0 dX7_loss_89 rfl ?_
                  refine q_getr (j := 8) hg rfl rfl rfl (by decide) iX7 kf_RX7_17 rfl dX7_loss_90 ?_
                  refine r_aload_n hg 0 dX7_loss_93 rfl ?_
                  refine q_geti (j := 15) hg rfl rfl rfl (by decide) iX7 kf_RX7_146 rfl dX7_loss_94 ?_
                  refine r_iload_n hg 1 dX7_loss_97 rfl ?_
                  refine q_iastore (n := 12) hg rfl dX7_loss_98 (fun σ14 => ?_)
                  refine r_aload_n hg 0 dX7_loss_99 rfl ?_
                  refine q_getr (j := 9) hg rfl rfl rfl (by decide) iX7 kf_RX7_20 rfl dX7_loss_100 ?_
                  refine r_aload_n hg 0 dX7_loss_103 rfl ?_
                  refine q_geti (j := 15) hg rfl rfl rfl (by decide) iX7 kf_RX7_146 rfl dX7_loss_104 ?_
                  refine r_iload_n hg 2 dX7_loss_107 rfl ?_
                  refine q_iastore (n := 12) hg rfl dX7_loss_108 (fun σ15 => ?_)
                  refine r_aload_n hg 0 dX7_loss_109 rfl ?_
                  refine q_getr (j := 10) hg rfl rfl rfl (by decide) iX7 kf_RX7_23 rfl dX7_loss_110 ?_
                  refine r_aload_n hg 0 dX7_loss_113 rfl ?_
                  refine q_geti (j := 15) hg rfl rfl rfl (by decide) iX7 kf_RX7_146 rfl dX7_loss_114 ?_
                  refine r_iload_n hg 2 dX7_loss_117 rfl ?_
                  refine r_iload_n hg 3 dX7_loss_118 rfl ?_
                  refine r_iadd hg dX7_loss_119 ?_
                  refine q_iastore (n := 12) hg rfl dX7_loss_120 (fun σ16 => ?_)
                  refine r_aload_n hg 0 dX7_loss_121 rfl ?_
                  refine q_getr (j := 11) hg rfl rfl rfl (by decide) iX7 kf_RX7_26 rfl dX7_loss_122 ?_
                  refine r_aload_n hg 0 dX7_loss_125 rfl ?_
                  refine q_geti (j := 15) hg rfl rfl rfl (by decide) iX7 kf_RX7_146 rfl dX7_loss_126 ?_
                  refine r_iload hg 4 dX7_loss_129 rfl ?_
                  refine q_iastore (n := 12) hg rfl dX7_loss_131 (fun σ17 => ?_)
                  refine r_aload_n hg 0 dX7_loss_132 rfl ?_
                  refine q_getr (j := 12) hg rfl rfl rfl (by decide) iX7 kf_RX7_29 rfl dX7_loss_133 ?_
                  refine r_aload_n hg 0 dX7_loss_136 rfl ?_
                  refine q_geti (j := 15) hg rfl rfl rfl (by decide) iX7 kf_RX7_146 rfl dX7_loss_137 ?_
                  refine r_iload hg 5 dX7_loss_140 rfl ?_
                  refine q_iastore (n := 12) hg rfl dX7_loss_142 (fun σ18 => ?_)
                  refine r_aload_n hg 0 dX7_loss_143 rfl ?_
                  refine q_getr (j := 13) hg rfl rfl rfl (by decide) iX7 kf_RX7_32 rfl dX7_loss_144 ?_
                  refine r_aload_n hg 0 dX7_loss_147 rfl ?_
                  refine q_geti (j := 15) hg rfl rfl rfl (by decide) iX7 kf_RX7_146 rfl dX7_loss_148 ?_
                  refine r_iload hg 6 dX7_loss_151 rfl ?_
                  refine q_iastore (n := 12) hg rfl dX7_loss_153 (fun σ19 => ?_)
                  refine r_aload_n hg 0 dX7_loss_154 rfl ?_
                  refine q_getr (j := 14) hg rfl rfl rfl (by decide) iX7 kf_RX7_35 rfl dX7_loss_155 ?_
                  refine r_aload_n hg 0 dX7_loss_158 rfl ?_
                  refine q_geti (j := 15) hg rfl rfl rfl (by decide) iX7 kf_RX7_146 rfl dX7_loss_159 ?_
                  refine r_iconst hg 0 dX7_loss_162 (by decide) ?_
                  refine q_iastore (n := 12) hg rfl dX7_loss_163 (fun σ20 => ?_)
                  refine r_aload_n hg 0 dX7_loss_164 rfl ?_
                  refine r_dupr hg dX7_loss_165 ?_
                  refine q_geti (j := 15) hg rfl rfl rfl (by decide) iX7 kf_RX7_146 rfl dX7_loss_166 ?_
                  refine r_iconst hg 1 dX7_loss_169 (by decide) ?_
                  refine r_iadd hg dX7_loss_170 ?_
                  refine q_put (j := 15) hg rfl rfl rfl (by decide) iX7 kf_RX7_146 rfl tyX7_ok nmX7 rfl rfl dX7_loss_171 (fun σ21 => ?_)
                  refine r_aload_n hg 0 dX7_loss_174 rfl ?_
                  refine q_geti (j := 15) hg rfl rfl rfl (by decide) iX7 kf_RX7_146 rfl dX7_loss_175 ?_
                  refine r_iconst hg 1 dX7_loss_178 (by decide) ?_
                  refine r_isub hg dX7_loss_179 ?_
                  exact r_iret hg dX7_loss_180 rfl rfl
                · refine r_iconst hg (-1) dX7_loss_87 (by decide) ?_
                  exact r_iret hg dX7_loss_88 rfl rfl
set_option maxHeartbeats 4000000 in
set_option maxRecDepth 100000 in
theorem e_X7_isSet (N : Nat) (l : Launch) (w : mW) (v1 : Int32) (σ : Mem) : Ev l w shR yX7_isSet cX7_isSet 2 (some .boolean) 1 0 [.ref (w.2.1 0), .int v1] σ (f_X7_isSet N v1 σ) := by
  refine Ev.of (by decide) (m_c1_r (m_c1_i m_c1_nil)) (Nat.le_of_ble_eq_true rfl) (fun p e s m args below meth c hg => ?_)
  have hdp := Nat.le_refl 0
  unfold f_X7_isSet
  show Vj (p, l, e, 0, s, m, args, below, meth, c) w shR 2 1 σ 0 [(0, .ref (w.2.1 0)), (1, .int v1)] [] _
  refine r_iload_n hg 1 dX7_isSet_0 rfl ?_
  refine r_if_lt hg 18 dX7_isSet_1 (by decide) ?_ ?_
  · refine r_iconst hg 0 dX7_isSet_18 (by decide) ?_
    exact r_zret hg dX7_isSet_19 rfl rfl
  · refine r_iload_n hg 1 dX7_isSet_4 rfl ?_
    refine r_iconst hg 1 dX7_isSet_5 (by decide) ?_
    refine r_aload_n hg 0 dX7_isSet_6 rfl ?_
    refine q_geti (j := 15) hg rfl rfl rfl (by decide) iX7 kf_RX7_146 rfl dX7_isSet_7 ?_
    refine r_ishl hg dX7_isSet_10 ?_
    refine r_icmp_ge hg 18 dX7_isSet_11 (by decide) ?_ ?_
    · refine r_iconst hg 0 dX7_isSet_18 (by decide) ?_
      exact r_zret hg dX7_isSet_19 rfl rfl
    · refine r_iconst hg 1 dX7_isSet_14 (by decide) ?_
      refine r_goto hg 19 dX7_isSet_15 (by decide) ?_
      exact r_zret hg dX7_isSet_19 rfl rfl
set_option maxHeartbeats 4000000 in
set_option maxRecDepth 100000 in
theorem e_X7_has (N : Nat) (l : Launch) (w : mW) (v0 v1 : Int32) (σ : Mem) : Ev l w shR yX7_has cX7_has 2 (some .boolean) 1 0 [.int v0, .int v1] σ (f_X7_has N v0 v1 σ) := by
  refine Ev.of (by decide) (m_c1_i (m_c1_i m_c1_nil)) (Nat.le_of_ble_eq_true rfl) (fun p e s m args below meth c hg => ?_)
  have hdp := Nat.le_refl 0
  unfold f_X7_has
  show Vj (p, l, e, 0, s, m, args, below, meth, c) w shR 2 1 σ 0 [(0, .int v0), (1, .int v1)] [] _
  refine r_iload_n hg 0 dX7_has_0 rfl ?_
  refine r_iload_n hg 1 dX7_has_1 rfl ?_
  refine r_ishr hg dX7_has_2 ?_
  refine r_iconst hg 1 dX7_has_3 (by decide) ?_
  refine r_iand hg dX7_has_4 ?_
  refine r_iconst hg 1 dX7_has_5 (by decide) ?_
  refine r_icmp_ne hg 13 dX7_has_6 (by decide) ?_ ?_
  · refine r_iconst hg 0 dX7_has_13 (by decide) ?_
    exact r_zret hg dX7_has_14 rfl rfl
  · refine r_iconst hg 1 dX7_has_9 (by decide) ?_
    refine r_goto hg 14 dX7_has_10 (by decide) ?_
    exact r_zret hg dX7_has_14 rfl rfl
set_option maxHeartbeats 4000000 in
set_option maxRecDepth 100000 in
theorem vb_X7_mostHour_4 {N : Nat} (hg : m_ok (p, l, e, d, s, m, args, below, meth, c) w shR cX7_mostHour 4 RX7 (some .int)) (hdp : 1 ≤ d) {K4 : Int32 → Int32 → Int32 → Mem → Option (Int32 × Mem)} (hK4 : ∀ (x1 x2 x3 : Int32) (σ : Mem), Vj (p, l, e, d, s, m, args, below, meth, c) w shR 4 1 σ 4 [(0, .ref (w.2.1 0)), (1, .int x1), (2, .int x2), (3, .int x3)] [] (K4 x1 x2 x3 σ)) (x1 x2 x3 : Int32) (σ : Mem) : Vj (p, l, e, d, s, m, args, below, meth, c) w shR 4 1 σ 4 [(0, .ref (w.2.1 0)), (1, .int x1), (2, .int x2), (3, .int x3)] [] (b_X7_mostHour_4 N K4 x1 x2 x3 σ) := by
  unfold b_X7_mostHour_4
  refine r_iload_n hg 3 dX7_mostHour_4 rfl ?_
  refine r_aload_n hg 0 dX7_mostHour_5 rfl ?_
  refine q_geti (j := 15) hg rfl rfl rfl (by decide) iX7 kf_RX7_146 rfl dX7_mostHour_6 ?_
  refine r_icmp_ge hg 37 dX7_mostHour_9 (by decide) ?_ ?_
  · refine r_iload_n hg 2 dX7_mostHour_37 rfl ?_
    exact r_iret hg dX7_mostHour_38 rfl rfl
  · refine r_iload_n hg 1 dX7_mostHour_12 rfl ?_
    refine r_iload_n hg 3 dX7_mostHour_13 rfl ?_
    refine q_calls1 hg (e_X7_has N l w x1 x3 σ) kk_RX7_157 kt_X7_has np_X7_has (Nat.le_trans (by decide) hdp) rfl m_c1_nil (Nat.le_of_ble_eq_true rfl) dX7_mostHour_14 (fun r1 σ2 => ?_)
    refine r_if_eq hg 31 dX7_mostHour_17 (by decide) ?_ ?_
    · refine r_iinc (lv' := [(3, .int (x3 + 1)), (0, .ref (w.2.1 0)), (1, .int x1), (2, .int x2)]) hg 3 (x3 + 1) dX7_mostHour_31 rfl rfl (by decide) rfl ?_
      refine r_goto hg 4 dX7_mostHour_34 (by decide) ?_
      refine r_lv [1, 2, 3, 0] rfl ?_
      exact hK4 x1 x2 (x3 + 1) σ2
    · refine r_iload_n hg 2 dX7_mostHour_20 rfl ?_
      refine r_aload_n hg 0 dX7_mostHour_21 rfl ?_
      refine q_getr (j := 9) hg rfl rfl rfl (by decide) iX7 kf_RX7_20 rfl dX7_mostHour_22 ?_
      refine r_iload_n hg 3 dX7_mostHour_25 rfl ?_
      refine r_iaload (n := 12) hg rfl dX7_mostHour_26 ?_
      refine r_max hg km_RX7_152 kt_J9_max_7cf53 kz_RJ9 kc_J9_max_7cf53 (Nat.le_trans (by decide) hdp) m_c1_nil (Nat.le_of_ble_eq_true rfl) dX7_mostHour_27 ?_
      refine q_name (fun u3 => ?_)
      refine r_istore_n (lv' := [(2, .int u3), (0, .ref (w.2.1 0)), (1, .int x1), (3, .int x3)]) hg dX7_mostHour_30 (by decide) rfl ?_
      refine r_iinc (lv' := [(3, .int (x3 + 1)), (2, .int u3), (0, .ref (w.2.1 0)), (1, .int x1)]) hg 3 (x3 + 1) dX7_mostHour_31 rfl rfl (by decide) rfl ?_
      refine r_goto hg 4 dX7_mostHour_34 (by decide) ?_
      refine r_lv [2, 3, 1, 0] rfl ?_
      exact hK4 x1 u3 (x3 + 1) σ2
set_option maxHeartbeats 4000000 in
set_option maxRecDepth 100000 in
theorem vl_X7_mostHour_4 {N : Nat} (hg : m_ok (p, l, e, d, s, m, args, below, meth, c) w shR cX7_mostHour 4 RX7 (some .int)) (hdp : 1 ≤ d) : ∀ (n : Nat) (x1 x2 x3 : Int32) (σ : Mem), Vj (p, l, e, d, s, m, args, below, meth, c) w shR 4 1 σ 4 [(0, .ref (w.2.1 0)), (1, .int x1), (2, .int x2), (3, .int x3)] [] (l_X7_mostHour_4 N n x1 x2 x3 σ)
| 0, _, _, _, _ => Vj.none
| n + 1, x1, x2, x3, σ => vb_X7_mostHour_4 hg hdp (fun x1 x2 x3 σ => vl_X7_mostHour_4 hg hdp n x1 x2 x3 σ) x1 x2 x3 σ
set_option maxHeartbeats 4000000 in
set_option maxRecDepth 100000 in
theorem e_X7_mostHour (N : Nat) (l : Launch) (w : mW) (v1 : Int32) (σ : Mem) : Ev l w shR yX7_mostHour cX7_mostHour 4 (some .int) 1 1 [.ref (w.2.1 0), .int v1] σ (f_X7_mostHour N v1 σ) := by
  refine Ev.of (by decide) (m_c1_r (m_c1_i m_c1_nil)) (Nat.le_of_ble_eq_true rfl) (fun p e s m args below meth c hg => ?_)
  have hdp := Nat.le_refl 1
  unfold f_X7_mostHour
  show Vj (p, l, e, 1, s, m, args, below, meth, c) w shR 4 1 σ 0 [(0, .ref (w.2.1 0)), (1, .int v1)] [] _
  refine r_iconst hg (-1) dX7_mostHour_0 (by decide) ?_
  refine q_name (fun u1 => ?_)
  refine r_istore_n (lv' := [(2, .int u1), (0, .ref (w.2.1 0)), (1, .int v1)]) hg dX7_mostHour_1 (by decide) rfl ?_
  refine r_iconst hg 0 dX7_mostHour_2 (by decide) ?_
  refine r_istore_n (lv' := [(3, .int 0), (2, .int u1), (0, .ref (w.2.1 0)), (1, .int v1)]) hg dX7_mostHour_3 (by decide) rfl ?_
  refine r_lv [2, 3, 1, 0] rfl ?_
  exact vl_X7_mostHour_4 hg hdp N v1 u1 0 σ
set_option maxHeartbeats 4000000 in
set_option maxRecDepth 100000 in
theorem vb_X7_leastHour_6 {N : Nat} (hg : m_ok (p, l, e, d, s, m, args, below, meth, c) w shR cX7_leastHour 4 RX7 (some .int)) (hdp : 1 ≤ d) {K6 : Int32 → Int32 → Int32 → Mem → Option (Int32 × Mem)} (hK6 : ∀ (x1 x2 x3 : Int32) (σ : Mem), Vj (p, l, e, d, s, m, args, below, meth, c) w shR 4 1 σ 6 [(0, .ref (w.2.1 0)), (1, .int x1), (2, .int x2), (3, .int x3)] [] (K6 x1 x2 x3 σ)) (x1 x2 x3 : Int32) (σ : Mem) : Vj (p, l, e, d, s, m, args, below, meth, c) w shR 4 1 σ 6 [(0, .ref (w.2.1 0)), (1, .int x1), (2, .int x2), (3, .int x3)] [] (b_X7_leastHour_6 N K6 x1 x2 x3 σ) := by
  unfold b_X7_leastHour_6
  refine r_iload_n hg 3 dX7_leastHour_6 rfl ?_
  refine r_aload_n hg 0 dX7_leastHour_7 rfl ?_
  refine q_geti (j := 15) hg rfl rfl rfl (by decide) iX7 kf_RX7_146 rfl dX7_leastHour_8 ?_
  refine r_icmp_ge hg 39 dX7_leastHour_11 (by decide) ?_ ?_
  · refine r_iload_n hg 2 dX7_leastHour_39 rfl ?_
    exact r_iret hg dX7_leastHour_40 rfl rfl
  · refine r_iload_n hg 1 dX7_leastHour_14 rfl ?_
    refine r_iload_n hg 3 dX7_leastHour_15 rfl ?_
    refine q_calls1 hg (e_X7_has N l w x1 x3 σ) kk_RX7_157 kt_X7_has np_X7_has (Nat.le_trans (by decide) hdp) rfl m_c1_nil (Nat.le_of_ble_eq_true rfl) dX7_leastHour_16 (fun r1 σ2 => ?_)
    refine r_if_eq hg 33 dX7_leastHour_19 (by decide) ?_ ?_
    · refine r_iinc (lv' := [(3, .int (x3 + 1)), (0, .ref (w.2.1 0)), (1, .int x1), (2, .int x2)]) hg 3 (x3 + 1) dX7_leastHour_33 rfl rfl (by decide) rfl ?_
      refine r_goto hg 6 dX7_leastHour_36 (by decide) ?_
      refine r_lv [1, 2, 3, 0] rfl ?_
      exact hK6 x1 x2 (x3 + 1) σ2
    · refine r_iload_n hg 2 dX7_leastHour_22 rfl ?_
      refine r_aload_n hg 0 dX7_leastHour_23 rfl ?_
      refine q_getr (j := 9) hg rfl rfl rfl (by decide) iX7 kf_RX7_20 rfl dX7_leastHour_24 ?_
      refine r_iload_n hg 3 dX7_leastHour_27 rfl ?_
      refine r_iaload (n := 12) hg rfl dX7_leastHour_28 ?_
      refine r_min hg km_RX7_160 kt_J9_min_7cf53 kz_RJ9 kc_J9_min_7cf53 (Nat.le_trans (by decide) hdp) m_c1_nil (Nat.le_of_ble_eq_true rfl) dX7_leastHour_29 ?_
      refine q_name (fun u3 => ?_)
      refine r_istore_n (lv' := [(2, .int u3), (0, .ref (w.2.1 0)), (1, .int x1), (3, .int x3)]) hg dX7_leastHour_32 (by decide) rfl ?_
      refine r_iinc (lv' := [(3, .int (x3 + 1)), (2, .int u3), (0, .ref (w.2.1 0)), (1, .int x1)]) hg 3 (x3 + 1) dX7_leastHour_33 rfl rfl (by decide) rfl ?_
      refine r_goto hg 6 dX7_leastHour_36 (by decide) ?_
      refine r_lv [2, 3, 1, 0] rfl ?_
      exact hK6 x1 u3 (x3 + 1) σ2
set_option maxHeartbeats 4000000 in
set_option maxRecDepth 100000 in
theorem vl_X7_leastHour_6 {N : Nat} (hg : m_ok (p, l, e, d, s, m, args, below, meth, c) w shR cX7_leastHour 4 RX7 (some .int)) (hdp : 1 ≤ d) : ∀ (n : Nat) (x1 x2 x3 : Int32) (σ : Mem), Vj (p, l, e, d, s, m, args, below, meth, c) w shR 4 1 σ 6 [(0, .ref (w.2.1 0)), (1, .int x1), (2, .int x2), (3, .int x3)] [] (l_X7_leastHour_6 N n x1 x2 x3 σ)
| 0, _, _, _, _ => Vj.none
| n + 1, x1, x2, x3, σ => vb_X7_leastHour_6 hg hdp (fun x1 x2 x3 σ => vl_X7_leastHour_6 hg hdp n x1 x2 x3 σ) x1 x2 x3 σ
set_option maxHeartbeats 4000000 in
set_option maxRecDepth 100000 in
theorem e_X7_leastHour (N : Nat) (l : Launch) (w : mW) (v1 : Int32) (σ : Mem) : Ev l w shR yX7_leastHour cX7_leastHour 4 (some .int) 1 1 [.ref (w.2.1 0), .int v1] σ (f_X7_leastHour N v1 σ) := by
  refine Ev.of (by decide) (m_c1_r (m_c1_i m_c1_nil)) (Nat.le_of_ble_eq_true rfl) (fun p e s m args below meth c hg => ?_)
  have hdp := Nat.le_refl 1
  unfold f_X7_leastHour
  show Vj (p, l, e, 1, s, m, args, below, meth, c) w shR 4 1 σ 0 [(0, .ref (w.2.1 0)), (1, .int v1)] [] _
  refine r_sipush hg 1000 dX7_leastHour_0 (by decide) ?_
  refine r_istore_n (lv' := [(2, .int 1000), (0, .ref (w.2.1 0)), (1, .int v1)]) hg dX7_leastHour_3 (by decide) rfl ?_
  refine r_iconst hg 0 dX7_leastHour_4 (by decide) ?_
  refine r_istore_n (lv' := [(3, .int 0), (2, .int 1000), (0, .ref (w.2.1 0)), (1, .int v1)]) hg dX7_leastHour_5 (by decide) rfl ?_
  refine r_lv [2, 3, 1, 0] rfl ?_
  exact vl_X7_leastHour_6 hg hdp N v1 1000 0 σ
set_option maxHeartbeats 4000000 in
set_option maxRecDepth 100000 in
theorem e_X7_areNear (N : Nat) (l : Launch) (w : mW) (v1 v2 v3 : Int32) (σ : Mem) : Ev l w shR yX7_areNear cX7_areNear 6 (some .boolean) 1 0 [.ref (w.2.1 0), .int v1, .int v2, .int v3] σ (f_X7_areNear N v1 v2 v3 σ) := by
  refine Ev.of (by decide) (m_c1_r (m_c1_i (m_c1_i (m_c1_i m_c1_nil)))) (Nat.le_of_ble_eq_true rfl) (fun p e s m args below meth c hg => ?_)
  have hdp := Nat.le_refl 0
  unfold f_X7_areNear
  show Vj (p, l, e, 0, s, m, args, below, meth, c) w shR 6 1 σ 0 [(0, .ref (w.2.1 0)), (1, .int v1), (2, .int v2), (3, .int v3)] [] _
  refine r_aload_n hg 0 dX7_areNear_0 rfl ?_
  refine q_getr (j := 11) hg rfl rfl rfl (by decide) iX7 kf_RX7_26 rfl dX7_areNear_1 ?_
  refine r_iload_n hg 1 dX7_areNear_4 rfl ?_
  refine r_iaload (n := 12) hg rfl dX7_areNear_5 ?_
  refine r_aload_n hg 0 dX7_areNear_6 rfl ?_
  refine q_getr (j := 11) hg rfl rfl rfl (by decide) iX7 kf_RX7_26 rfl dX7_areNear_7 ?_
  refine r_iload_n hg 2 dX7_areNear_10 rfl ?_
  refine r_iaload (n := 12) hg rfl dX7_areNear_11 ?_
  refine r_isub hg dX7_areNear_12 ?_
  refine q_name (fun u1 => ?_)
  refine r_istore (lv' := [(4, .int u1), (0, .ref (w.2.1 0)), (1, .int v1), (2, .int v2), (3, .int v3)]) hg dX7_areNear_13 (by decide) rfl ?_
  refine r_aload_n hg 1 dX7_areNear_15 rfl ?_
  refine q_getr (j := 12) hg rfl rfl rfl (by decide) iX7 kf_RX7_29 rfl dX7_areNear_16 ?_
  refine r_iload_n hg 2 dX7_areNear_19 rfl ?_
  refine r_iaload (n := 12) hg rfl dX7_areNear_20 ?_
  refine r_aload_n hg 1 dX7_areNear_21 rfl ?_
  refine q_getr (j := 12) hg rfl rfl rfl (by decide) iX7 kf_RX7_29 rfl dX7_areNear_22 ?_
  refine r_iload_n hg 3 dX7_areNear_25 rfl ?_
  refine r_iaload (n := 12) hg rfl dX7_areNear_26 ?_
  refine r_isub hg dX7_areNear_27 ?_
  refine q_name (fun u2 => ?_)
  refine r_istore (lv' := [(5, .int u2), (4, .int u1), (0, .ref (w.2.1 0)), (1, .int v1), (2, .int v2), (3, .int v3)]) hg dX7_areNear_28 (by decide) rfl ?_
  refine r_iload hg 1 dX7_areNear_30 rfl ?_
  refine r_iload hg 1 dX7_areNear_32 rfl ?_
  refine r_imul hg dX7_areNear_34 ?_
  refine r_iload hg 0 dX7_areNear_35 rfl ?_
  refine r_iload hg 0 dX7_areNear_37 rfl ?_
  refine r_imul hg dX7_areNear_39 ?_
  refine r_iadd hg dX7_areNear_40 ?_
  refine r_iload_n hg 5 dX7_areNear_41 rfl ?_
  refine r_iload_n hg 5 dX7_areNear_42 rfl ?_
  refine r_imul hg dX7_areNear_43 ?_
  refine r_icmp_gt hg 51 dX7_areNear_44 (by decide) ?_ ?_
  · refine r_iconst hg 0 dX7_areNear_51 (by decide) ?_
    exact r_zret hg dX7_areNear_52 rfl rfl
  · refine r_iconst hg 1 dX7_areNear_47 (by decide) ?_
    refine r_goto hg 52 dX7_areNear_48 (by decide) ?_
    exact r_zret hg dX7_areNear_52 rfl rfl
set_option maxHeartbeats 4000000 in
set_option maxRecDepth 100000 in
theorem vb_X7_mayBeOne_62 {N : Nat} (hg : m_ok (p, l, e, d, s, m, args, below, meth, c) w shR cX7_mayBeOne 6 RX7 (some .boolean)) (hdp : 2 ≤ d) {K28 : Int32 → Int32 → Int32 → Int32 → Mem → Option (Int32 × Mem)} (hK28 : ∀ (x1 x2 x3 x4 : Int32) (σ : Mem), Vj (p, l, e, d, s, m, args, below, meth, c) w shR 6 1 σ 28 [(0, .ref (w.2.1 0)), (1, .int x1), (2, .int x2), (3, .int x3), (4, .int x4)] [] (K28 x1 x2 x3 x4 σ)) {K62 : Int32 → Int32 → Int32 → Int32 → Int32 → Mem → Option (Int32 × Mem)} (hK62 : ∀ (x1 x2 x3 x4 x5 : Int32) (σ : Mem), Vj (p, l, e, d, s, m, args, below, meth, c) w shR 6 1 σ 62 [(0, .ref (w.2.1 0)), (1, .int x1), (2, .int x2), (3, .int x3), (4, .int x4), (5, .int x5)] [] (K62 x1 x2 x3 x4 x5 σ)) (x1 x2 x3 x4 x5 : Int32) (σ : Mem) : Vj (p, l, e, d, s, m, args, below, meth, c) w shR 6 1 σ 62 [(0, .ref (w.2.1 0)), (1, .int x1), (2, .int x2), (3, .int x3), (4, .int x4), (5, .int x5)] [] (b_X7_mayBeOne_62 N K28 K62 x1 x2 x3 x4 x5 σ) := by
  unfold b_X7_mayBeOne_62
  refine r_iload hg 5 dX7_mayBeOne_62 rfl ?_
  refine r_iload hg 4 dX7_mayBeOne_64 rfl ?_
  refine r_icmp_ge hg 113 dX7_mayBeOne_66 (by decide) ?_ ?_
  · refine r_iinc (lv' := [(4, .int (x4 + 1)), (0, .ref (w.2.1 0)), (1, .int x1), (2, .int x2), (3, .int x3), (5, .int x5)]) hg 4 (x4 + 1) dX7_mayBeOne_113 rfl rfl (by decide) rfl ?_
    refine r_goto hg 28 dX7_mayBeOne_116 (by decide) ?_
    refine r_lv [1, 2, 3, 4, 0] rfl ?_
    exact hK28 x1 x2 x3 (x4 + 1) σ
  · refine r_aload_n hg 0 dX7_mayBeOne_69 rfl ?_
    refine r_iload_n hg 1 dX7_mayBeOne_70 rfl ?_
    refine r_iconst hg 1 dX7_mayBeOne_71 (by decide) ?_
    refine q_callv1 hg (e_X7_wordOf N l w x1 1 σ) kk_RX7_142 ki_X7_wordOf ks_RX7_X7_wordOf rfl rfl np_X7_wordOf (Nat.le_trans (by decide) hdp) rfl m_c1_nil (Nat.le_of_ble_eq_true rfl) dX7_mayBeOne_72 (fun r1 σ2 => ?_)
    refine r_iconst hg (-1) dX7_mayBeOne_75 (by decide) ?_
    refine r_icmp_eq hg 113 dX7_mayBeOne_76 (by decide) ?_ ?_
    · refine r_iinc (lv' := [(4, .int (x4 + 1)), (0, .ref (w.2.1 0)), (1, .int x1), (2, .int x2), (3, .int x3), (5, .int x5)]) hg 4 (x4 + 1) dX7_mayBeOne_113 rfl rfl (by decide) rfl ?_
      refine r_goto hg 28 dX7_mayBeOne_116 (by decide) ?_
      refine r_lv [1, 2, 3, 4, 0] rfl ?_
      exact hK28 x1 x2 x3 (x4 + 1) σ2
    · refine r_iload_n hg 2 dX7_mayBeOne_79 rfl ?_
      refine r_iload hg 5 dX7_mayBeOne_80 rfl ?_
      refine q_calls1 hg (e_X7_has N l w x2 x5 σ2) kk_RX7_157 kt_X7_has np_X7_has (Nat.le_trans (by decide) hdp) rfl m_c1_nil (Nat.le_of_ble_eq_true rfl) dX7_mayBeOne_82 (fun r3 σ4 => ?_)
      refine r_if_eq hg 107 dX7_mayBeOne_85 (by decide) ?_ ?_
      · refine r_iinc (lv' := [(5, .int (x5 + 1)), (0, .ref (w.2.1 0)), (1, .int x1), (2, .int x2), (3, .int x3), (4, .int x4)]) hg 5 (x5 + 1) dX7_mayBeOne_107 rfl rfl (by decide) rfl ?_
        refine r_goto hg 62 dX7_mayBeOne_110 (by decide) ?_
        refine r_lv [1, 2, 3, 4, 5, 0] rfl ?_
        exact hK62 x1 x2 x3 x4 (x5 + 1) σ4
      · refine r_aload_n hg 0 dX7_mayBeOne_88 rfl ?_
        refine r_iload hg 4 dX7_mayBeOne_89 rfl ?_
        refine r_iload hg 5 dX7_mayBeOne_91 rfl ?_
        refine r_aload_n hg 0 dX7_mayBeOne_93 rfl ?_
        refine r_iload_n hg 1 dX7_mayBeOne_94 rfl ?_
        refine r_iconst hg 1 dX7_mayBeOne_95 (by decide) ?_
        refine q_callv1 hg (e_X7_wordOf N l w x1 1 σ4) kk_RX7_142 ki_X7_wordOf ks_RX7_X7_wordOf rfl rfl np_X7_wordOf (Nat.le_trans (by decide) hdp) rfl (m_c1_i (m_c1_i (m_c1_r m_c1_nil))) (Nat.le_of_ble_eq_true rfl) dX7_mayBeOne_96 (fun r5 σ6 => ?_)
        refine q_callv1 hg (e_X7_areNear N l w x4 x5 r5 σ6) kk_RX7_169 ki_X7_areNear ks_RX7_X7_areNear rfl rfl np_X7_areNear (Nat.le_trans (by decide) hdp) rfl m_c1_nil (Nat.le_of_ble_eq_true rfl) dX7_mayBeOne_99 (fun r7 σ8 => ?_)
        refine r_if_ne hg 107 dX7_mayBeOne_102 (by decide) ?_ ?_
        · refine r_iinc (lv' := [(5, .int (x5 + 1)), (0, .ref (w.2.1 0)), (1, .int x1), (2, .int x2), (3, .int x3), (4, .int x4)]) hg 5 (x5 + 1) dX7_mayBeOne_107 rfl rfl (by decide) rfl ?_
          refine r_goto hg 62 dX7_mayBeOne_110 (by decide) ?_
          refine r_lv [1, 2, 3, 4, 5, 0] rfl ?_
          exact hK62 x1 x2 x3 x4 (x5 + 1) σ8
        · refine r_iconst hg 0 dX7_mayBeOne_105 (by decide) ?_
          exact r_zret hg dX7_mayBeOne_106 rfl rfl
set_option maxHeartbeats 4000000 in
set_option maxRecDepth 100000 in
theorem vl_X7_mayBeOne_62 {N : Nat} (hg : m_ok (p, l, e, d, s, m, args, below, meth, c) w shR cX7_mayBeOne 6 RX7 (some .boolean)) (hdp : 2 ≤ d) {K28 : Int32 → Int32 → Int32 → Int32 → Mem → Option (Int32 × Mem)} (hK28 : ∀ (x1 x2 x3 x4 : Int32) (σ : Mem), Vj (p, l, e, d, s, m, args, below, meth, c) w shR 6 1 σ 28 [(0, .ref (w.2.1 0)), (1, .int x1), (2, .int x2), (3, .int x3), (4, .int x4)] [] (K28 x1 x2 x3 x4 σ)) : ∀ (n : Nat) (x1 x2 x3 x4 x5 : Int32) (σ : Mem), Vj (p, l, e, d, s, m, args, below, meth, c) w shR 6 1 σ 62 [(0, .ref (w.2.1 0)), (1, .int x1), (2, .int x2), (3, .int x3), (4, .int x4), (5, .int x5)] [] (l_X7_mayBeOne_62 N K28 n x1 x2 x3 x4 x5 σ)
| 0, _, _, _, _, _, _ => Vj.none
| n + 1, x1, x2, x3, x4, x5, σ => vb_X7_mayBeOne_62 hg hdp hK28 (fun x1 x2 x3 x4 x5 σ => vl_X7_mayBeOne_62 hg hdp hK28 n x1 x2 x3 x4 x5 σ) x1 x2 x3 x4 x5 σ
set_option maxHeartbeats 4000000 in
set_option maxRecDepth 100000 in
theorem vb_X7_mayBeOne_28 {N : Nat} (hg : m_ok (p, l, e, d, s, m, args, below, meth, c) w shR cX7_mayBeOne 6 RX7 (some .boolean)) (hdp : 2 ≤ d) {K28 : Int32 → Int32 → Int32 → Int32 → Mem → Option (Int32 × Mem)} (hK28 : ∀ (x1 x2 x3 x4 : Int32) (σ : Mem), Vj (p, l, e, d, s, m, args, below, meth, c) w shR 6 1 σ 28 [(0, .ref (w.2.1 0)), (1, .int x1), (2, .int x2), (3, .int x3), (4, .int x4)] [] (K28 x1 x2 x3 x4 σ)) (x1 x2 x3 x4 : Int32) (σ : Mem) : Vj (p, l, e, d, s, m, args, below, meth, c) w shR 6 1 σ 28 [(0, .ref (w.2.1 0)), (1, .int x1), (2, .int x2), (3, .int x3), (4, .int x4)] [] (b_X7_mayBeOne_28 N K28 x1 x2 x3 x4 σ) := by
  unfold b_X7_mayBeOne_28
  refine r_iload hg 4 dX7_mayBeOne_28 rfl ?_
  refine r_aload_n hg 0 dX7_mayBeOne_30 rfl ?_
  refine q_geti (j := 15) hg rfl rfl rfl (by decide) iX7 kf_RX7_146 rfl dX7_mayBeOne_31 ?_
  refine r_icmp_ge hg 119 dX7_mayBeOne_34 (by decide) ?_ ?_
  · refine r_aload_n hg 0 dX7_mayBeOne_119 rfl ?_
    refine r_iload_n hg 1 dX7_mayBeOne_120 rfl ?_
    refine r_iconst hg 2 dX7_mayBeOne_121 (by decide) ?_
    refine q_callv1 hg (e_X7_wordOf N l w x1 2 σ) kk_RX7_142 ki_X7_wordOf ks_RX7_X7_wordOf rfl rfl np_X7_wordOf (Nat.le_trans (by decide) hdp) rfl m_c1_nil (Nat.le_of_ble_eq_true rfl) dX7_mayBeOne_122 (fun r1 σ2 => ?_)
    refine r_if_eq hg 132 dX7_mayBeOne_125 (by decide) ?_ ?_
    · refine r_iconst hg 1 dX7_mayBeOne_132 (by decide) ?_
      refine r_goto hg 137 dX7_mayBeOne_133 (by decide) ?_
      exact r_zret hg dX7_mayBeOne_137 rfl rfl
    · refine r_iload_n hg 3 dX7_mayBeOne_128 rfl ?_
      refine r_if_eq hg 136 dX7_mayBeOne_129 (by decide) ?_ ?_
      · refine r_iconst hg 0 dX7_mayBeOne_136 (by decide) ?_
        exact r_zret hg dX7_mayBeOne_137 rfl rfl
      · refine r_iconst hg 1 dX7_mayBeOne_132 (by decide) ?_
        refine r_goto hg 137 dX7_mayBeOne_133 (by decide) ?_
        exact r_zret hg dX7_mayBeOne_137 rfl rfl
  · refine r_iload_n hg 2 dX7_mayBeOne_37 rfl ?_
    refine r_iload hg 4 dX7_mayBeOne_38 rfl ?_
    refine q_calls1 hg (e_X7_has N l w x2 x4 σ) kk_RX7_157 kt_X7_has np_X7_has (Nat.le_trans (by decide) hdp) rfl m_c1_nil (Nat.le_of_ble_eq_true rfl) dX7_mayBeOne_40 (fun r3 σ4 => ?_)
    refine r_if_ne hg 49 dX7_mayBeOne_43 (by decide) ?_ ?_
    · refine r_iload_n hg 3 dX7_mayBeOne_49 rfl ?_
      refine r_aload_n hg 0 dX7_mayBeOne_50 rfl ?_
      refine q_getr (j := 13) hg rfl rfl rfl (by decide) iX7 kf_RX7_32 rfl dX7_mayBeOne_51 ?_
      refine r_iload hg 4 dX7_mayBeOne_54 rfl ?_
      refine r_iaload (n := 12) hg rfl dX7_mayBeOne_56 ?_
      refine r_iand hg dX7_mayBeOne_57 ?_
      refine q_name (fun u5 => ?_)
      refine r_istore_n (lv' := [(3, .int u5), (0, .ref (w.2.1 0)), (1, .int x1), (2, .int x2), (4, .int x4)]) hg dX7_mayBeOne_58 (by decide) rfl ?_
      refine r_iconst hg 0 dX7_mayBeOne_59 (by decide) ?_
      refine r_istore (lv' := [(5, .int 0), (3, .int u5), (0, .ref (w.2.1 0)), (1, .int x1), (2, .int x2), (4, .int x4)]) hg dX7_mayBeOne_60 (by decide) rfl ?_
      refine r_lv [2, 3, 4, 1, 5, 0] rfl ?_
      exact vl_X7_mayBeOne_62 hg hdp hK28 N x1 x2 u5 x4 0 σ4
    · refine r_goto hg 113 dX7_mayBeOne_46 (by decide) ?_
      refine r_iinc (lv' := [(4, .int (x4 + 1)), (0, .ref (w.2.1 0)), (1, .int x1), (2, .int x2), (3, .int x3)]) hg 4 (x4 + 1) dX7_mayBeOne_113 rfl rfl (by decide) rfl ?_
      refine r_goto hg 28 dX7_mayBeOne_116 (by decide) ?_
      refine r_lv [1, 2, 3, 4, 0] rfl ?_
      exact hK28 x1 x2 x3 (x4 + 1) σ4
set_option maxHeartbeats 4000000 in
set_option maxRecDepth 100000 in
theorem vl_X7_mayBeOne_28 {N : Nat} (hg : m_ok (p, l, e, d, s, m, args, below, meth, c) w shR cX7_mayBeOne 6 RX7 (some .boolean)) (hdp : 2 ≤ d) : ∀ (n : Nat) (x1 x2 x3 x4 : Int32) (σ : Mem), Vj (p, l, e, d, s, m, args, below, meth, c) w shR 6 1 σ 28 [(0, .ref (w.2.1 0)), (1, .int x1), (2, .int x2), (3, .int x3), (4, .int x4)] [] (l_X7_mayBeOne_28 N n x1 x2 x3 x4 σ)
| 0, _, _, _, _, _ => Vj.none
| n + 1, x1, x2, x3, x4, σ => vb_X7_mayBeOne_28 hg hdp (fun x1 x2 x3 x4 σ => vl_X7_mayBeOne_28 hg hdp n x1 x2 x3 x4 σ) x1 x2 x3 x4 σ
set_option maxHeartbeats 4000000 in
set_option maxRecDepth 100000 in
theorem e_X7_mayBeOne (N : Nat) (l : Launch) (w : mW) (v1 v2 : Int32) (σ : Mem) : Ev l w shR yX7_mayBeOne cX7_mayBeOne 6 (some .boolean) 1 2 [.ref (w.2.1 0), .int v1, .int v2] σ (f_X7_mayBeOne N v1 v2 σ) := by
  refine Ev.of (by decide) (m_c1_r (m_c1_i (m_c1_i m_c1_nil))) (Nat.le_of_ble_eq_true rfl) (fun p e s m args below meth c hg => ?_)
  have hdp := Nat.le_refl 2
  unfold f_X7_mayBeOne
  show Vj (p, l, e, 2, s, m, args, below, meth, c) w shR 6 1 σ 0 [(0, .ref (w.2.1 0)), (1, .int v1), (2, .int v2)] [] _
  refine r_aload_n hg 0 dX7_mayBeOne_0 rfl ?_
  refine r_iload_n hg 2 dX7_mayBeOne_1 rfl ?_
  refine q_callv1 hg (e_X7_mostHour N l w v2 σ) kk_RX7_163 ki_X7_mostHour ks_RX7_X7_mostHour rfl rfl np_X7_mostHour (Nat.le_trans (by decide) hdp) rfl m_c1_nil (Nat.le_of_ble_eq_true rfl) dX7_mayBeOne_2 (fun r1 σ2 => ?_)
  refine r_aload_n hg 0 dX7_mayBeOne_5 rfl ?_
  refine r_iload_n hg 2 dX7_mayBeOne_6 rfl ?_
  refine q_callv1 hg (e_X7_leastHour N l w v2 σ2) kk_RX7_166 ki_X7_leastHour ks_RX7_X7_leastHour rfl rfl np_X7_leastHour (Nat.le_trans (by decide) hdp) rfl (m_c1_i m_c1_nil) (Nat.le_of_ble_eq_true rfl) dX7_mayBeOne_7 (fun r3 σ4 => ?_)
  refine r_isub hg dX7_mayBeOne_10 ?_
  refine r_aload_n hg 0 dX7_mayBeOne_11 rfl ?_
  refine r_iload_n hg 1 dX7_mayBeOne_12 rfl ?_
  refine r_iconst hg 0 dX7_mayBeOne_13 (by decide) ?_
  refine q_callv1 hg (e_X7_wordOf N l w v1 0 σ4) kk_RX7_142 ki_X7_wordOf ks_RX7_X7_wordOf rfl rfl np_X7_wordOf (Nat.le_trans (by decide) hdp) rfl (m_c1_i m_c1_nil) (Nat.le_of_ble_eq_true rfl) dX7_mayBeOne_14 (fun r5 σ6 => ?_)
  refine r_icmp_lt hg 22 dX7_mayBeOne_17 (by decide) ?_ ?_
  · refine r_bipush hg 63 dX7_mayBeOne_22 (by decide) ?_
    refine r_istore_n (lv' := [(3, .int 63), (0, .ref (w.2.1 0)), (1, .int v1), (2, .int v2)]) hg dX7_mayBeOne_24 (by decide) rfl ?_
    refine r_iconst hg 0 dX7_mayBeOne_25 (by decide) ?_
    refine r_istore (lv' := [(4, .int 0), (3, .int 63), (0, .ref (w.2.1 0)), (1, .int v1), (2, .int v2)]) hg dX7_mayBeOne_26 (by decide) rfl ?_
    refine r_lv [2, 3, 4, 1, 0] rfl ?_
    exact vl_X7_mayBeOne_28 hg hdp N v1 v2 63 0 σ6
  · refine r_iconst hg 0 dX7_mayBeOne_20 (by decide) ?_
    exact r_zret hg dX7_mayBeOne_21 rfl rfl
set_option maxHeartbeats 4000000 in
set_option maxRecDepth 100000 in
theorem e_X7_may (N : Nat) (l : Launch) (w : mW) (v1 v2 : Int32) (σ : Mem) : Ev l w shR yX7_may cX7_may 3 (some .int) 1 3 [.ref (w.2.1 0), .int v1, .int v2] σ (f_X7_may N v1 v2 σ) := by
  refine Ev.of (by decide) (m_c1_r (m_c1_i (m_c1_i m_c1_nil))) (Nat.le_of_ble_eq_true rfl) (fun p e s m args below meth c hg => ?_)
  have hdp := Nat.le_refl 3
  unfold f_X7_may
  show Vj (p, l, e, 3, s, m, args, below, meth, c) w shR 3 1 σ 0 [(0, .ref (w.2.1 0)), (1, .int v1), (2, .int v2)] [] _
  refine r_aload_n hg 0 dX7_may_0 rfl ?_
  refine r_iconst hg 0 dX7_may_1 (by decide) ?_
  refine q_put (j := 0) hg rfl rfl rfl (by decide) iX7 kf_RX7_68 rfl tyX7_ok nmX7 rfl rfl dX7_may_2 (fun σ1 => ?_)
  refine r_aload_n hg 0 dX7_may_5 rfl ?_
  refine r_iload_n hg 1 dX7_may_6 rfl ?_
  refine q_callv1 hg (e_X7_isCover N l w v1 σ1) kk_RX7_139 ki_X7_isCover ks_RX7_X7_isCover rfl rfl np_X7_isCover (Nat.le_trans (by decide) hdp) rfl m_c1_nil (Nat.le_of_ble_eq_true rfl) dX7_may_7 (fun r2 σ3 => ?_)
  refine r_if_eq hg 25 dX7_may_10 (by decide) ?_ ?_
  · refine r_iconst hg (-1) dX7_may_25 (by decide) ?_
    refine r_goto hg 43 dX7_may_26 (by decide) ?_
    exact r_iret hg dX7_may_43 rfl rfl
  · refine r_aload_n hg 0 dX7_may_13 rfl ?_
    refine r_iload_n hg 2 dX7_may_14 rfl ?_
    refine q_callv1 hg (e_X7_isSet N l w v2 σ3) kk_RX7_172 ki_X7_isSet ks_RX7_X7_isSet rfl rfl np_X7_isSet (Nat.le_trans (by decide) hdp) rfl m_c1_nil (Nat.le_of_ble_eq_true rfl) dX7_may_15 (fun r4 σ5 => ?_)
    refine r_if_eq hg 25 dX7_may_18 (by decide) ?_ ?_
    · refine r_iconst hg (-1) dX7_may_25 (by decide) ?_
      refine r_goto hg 43 dX7_may_26 (by decide) ?_
      exact r_iret hg dX7_may_43 rfl rfl
    · refine r_iload_n hg 2 dX7_may_21 rfl ?_
      refine r_if_ne hg 29 dX7_may_22 (by decide) ?_ ?_
      · refine r_aload_n hg 0 dX7_may_29 rfl ?_
        refine r_iload_n hg 1 dX7_may_30 rfl ?_
        refine r_iload_n hg 2 dX7_may_31 rfl ?_
        refine q_callv1 hg (e_X7_mayBeOne N l w v1 v2 σ5) kk_RX7_175 ki_X7_mayBeOne ks_RX7_X7_mayBeOne rfl rfl np_X7_mayBeOne (Nat.le_trans (by decide) hdp) rfl m_c1_nil (Nat.le_of_ble_eq_true rfl) dX7_may_32 (fun r6 σ7 => ?_)
        refine r_if_eq hg 42 dX7_may_35 (by decide) ?_ ?_
        · refine r_iconst hg 0 dX7_may_42 (by decide) ?_
          exact r_iret hg dX7_may_43 rfl rfl
        · refine r_iconst hg 1 dX7_may_38 (by decide) ?_
          refine r_goto hg 43 dX7_may_39 (by decide) ?_
          exact r_iret hg dX7_may_43 rfl rfl
      · refine r_iconst hg (-1) dX7_may_25 (by decide) ?_
        refine r_goto hg 43 dX7_may_26 (by decide) ?_
        exact r_iret hg dX7_may_43 rfl rfl
set_option maxHeartbeats 4000000 in
set_option maxRecDepth 100000 in
theorem vb_X7_sumOf_4 {N : Nat} (hg : m_ok (p, l, e, d, s, m, args, below, meth, c) w shR cX7_sumOf 4 RX7 (some .int)) (hdp : 1 ≤ d) {K4 : Int32 → Int32 → Int32 → Mem → Option (Int32 × Mem)} (hK4 : ∀ (x1 x2 x3 : Int32) (σ : Mem), Vj (p, l, e, d, s, m, args, below, meth, c) w shR 4 1 σ 4 [(0, .ref (w.2.1 0)), (1, .int x1), (2, .int x2), (3, .int x3)] [] (K4 x1 x2 x3 σ)) (x1 x2 x3 : Int32) (σ : Mem) : Vj (p, l, e, d, s, m, args, below, meth, c) w shR 4 1 σ 4 [(0, .ref (w.2.1 0)), (1, .int x1), (2, .int x2), (3, .int x3)] [] (b_X7_sumOf_4 N K4 x1 x2 x3 σ) := by
  unfold b_X7_sumOf_4
  refine r_iload_n hg 3 dX7_sumOf_4 rfl ?_
  refine r_aload_n hg 0 dX7_sumOf_5 rfl ?_
  refine q_geti (j := 15) hg rfl rfl rfl (by decide) iX7 kf_RX7_146 rfl dX7_sumOf_6 ?_
  refine r_icmp_ge hg 39 dX7_sumOf_9 (by decide) ?_ ?_
  · refine r_iload_n hg 2 dX7_sumOf_39 rfl ?_
    exact r_iret hg dX7_sumOf_40 rfl rfl
  · refine r_iload_n hg 2 dX7_sumOf_12 rfl ?_
    refine r_iload_n hg 1 dX7_sumOf_13 rfl ?_
    refine r_iload_n hg 3 dX7_sumOf_14 rfl ?_
    refine q_calls1 hg (e_X7_has N l w x1 x3 σ) kk_RX7_157 kt_X7_has np_X7_has (Nat.le_trans (by decide) hdp) rfl (m_c1_i m_c1_nil) (Nat.le_of_ble_eq_true rfl) dX7_sumOf_15 (fun r1 σ2 => ?_)
    refine r_if_eq hg 30 dX7_sumOf_18 (by decide) ?_ ?_
    · refine r_iconst hg 0 dX7_sumOf_30 (by decide) ?_
      refine r_iadd hg dX7_sumOf_31 ?_
      refine q_name (fun u3 => ?_)
      refine r_istore_n (lv' := [(2, .int u3), (0, .ref (w.2.1 0)), (1, .int x1), (3, .int x3)]) hg dX7_sumOf_32 (by decide) rfl ?_
      refine r_iinc (lv' := [(3, .int (x3 + 1)), (2, .int u3), (0, .ref (w.2.1 0)), (1, .int x1)]) hg 3 (x3 + 1) dX7_sumOf_33 rfl rfl (by decide) rfl ?_
      refine r_goto hg 4 dX7_sumOf_36 (by decide) ?_
      refine r_lv [2, 3, 1, 0] rfl ?_
      exact hK4 x1 u3 (x3 + 1) σ2
    · refine r_aload_n hg 0 dX7_sumOf_21 rfl ?_
      refine q_getr (j := 8) hg rfl rfl rfl (by decide) iX7 kf_RX7_17 rfl dX7_sumOf_22 ?_
      refine r_iload_n hg 3 dX7_sumOf_25 rfl ?_
      refine r_iaload (n := 12) hg rfl dX7_sumOf_26 ?_
      refine r_goto hg 31 dX7_sumOf_27 (by decide) ?_
      refine r_iadd hg dX7_sumOf_31 ?_
      refine q_name (fun u4 => ?_)
      refine r_istore_n (lv' := [(2, .int u4), (0, .ref (w.2.1 0)), (1, .int x1), (3, .int x3)]) hg dX7_sumOf_32 (by decide) rfl ?_
      refine r_iinc (lv' := [(3, .int (x3 + 1)), (2, .int u4), (0, .ref (w.2.1 0)), (1, .int x1)]) hg 3 (x3 + 1) dX7_sumOf_33 rfl rfl (by decide) rfl ?_
      refine r_goto hg 4 dX7_sumOf_36 (by decide) ?_
      refine r_lv [2, 3, 1, 0] rfl ?_
      exact hK4 x1 u4 (x3 + 1) σ2
set_option maxHeartbeats 4000000 in
set_option maxRecDepth 100000 in
theorem vl_X7_sumOf_4 {N : Nat} (hg : m_ok (p, l, e, d, s, m, args, below, meth, c) w shR cX7_sumOf 4 RX7 (some .int)) (hdp : 1 ≤ d) : ∀ (n : Nat) (x1 x2 x3 : Int32) (σ : Mem), Vj (p, l, e, d, s, m, args, below, meth, c) w shR 4 1 σ 4 [(0, .ref (w.2.1 0)), (1, .int x1), (2, .int x2), (3, .int x3)] [] (l_X7_sumOf_4 N n x1 x2 x3 σ)
| 0, _, _, _, _ => Vj.none
| n + 1, x1, x2, x3, σ => vb_X7_sumOf_4 hg hdp (fun x1 x2 x3 σ => vl_X7_sumOf_4 hg hdp n x1 x2 x3 σ) x1 x2 x3 σ
set_option maxHeartbeats 4000000 in
set_option maxRecDepth 100000 in
theorem e_X7_sumOf (N : Nat) (l : Launch) (w : mW) (v1 : Int32) (σ : Mem) : Ev l w shR yX7_sumOf cX7_sumOf 4 (some .int) 1 1 [.ref (w.2.1 0), .int v1] σ (f_X7_sumOf N v1 σ) := by
  refine Ev.of (by decide) (m_c1_r (m_c1_i m_c1_nil)) (Nat.le_of_ble_eq_true rfl) (fun p e s m args below meth c hg => ?_)
  have hdp := Nat.le_refl 1
  unfold f_X7_sumOf
  show Vj (p, l, e, 1, s, m, args, below, meth, c) w shR 4 1 σ 0 [(0, .ref (w.2.1 0)), (1, .int v1)] [] _
  refine r_iconst hg 0 dX7_sumOf_0 (by decide) ?_
  refine r_istore_n (lv' := [(2, .int 0), (0, .ref (w.2.1 0)), (1, .int v1)]) hg dX7_sumOf_1 (by decide) rfl ?_
  refine r_iconst hg 0 dX7_sumOf_2 (by decide) ?_
  refine r_istore_n (lv' := [(3, .int 0), (2, .int 0), (0, .ref (w.2.1 0)), (1, .int v1)]) hg dX7_sumOf_3 (by decide) rfl ?_
  refine r_lv [2, 3, 1, 0] rfl ?_
  exact vl_X7_sumOf_4 hg hdp N v1 0 0 σ
set_option maxHeartbeats 4000000 in
set_option maxRecDepth 100000 in
theorem e_X7_paidOf (N : Nat) (l : Launch) (w : mW) (v1 v2 : Int32) (σ : Mem) : Ev l w shR yX7_paidOf cX7_paidOf 3 (some .int) 1 1 [.ref (w.2.1 0), .int v1, .int v2] σ (f_X7_paidOf N v1 v2 σ) := by
  refine Ev.of (by decide) (m_c1_r (m_c1_i (m_c1_i m_c1_nil))) (Nat.le_of_ble_eq_true rfl) (fun p e s m args below meth c hg => ?_)
  have hdp := Nat.le_refl 1
  unfold f_X7_paidOf
  show Vj (p, l, e, 1, s, m, args, below, meth, c) w shR 3 1 σ 0 [(0, .ref (w.2.1 0)), (1, .int v1), (2, .int v2)] [] _
  refine r_aload_n hg 0 dX7_paidOf_0 rfl ?_
  refine r_iload_n hg 1 dX7_paidOf_1 rfl ?_
  refine r_bipush hg 6 dX7_paidOf_2 (by decide) ?_
  refine q_callv1 hg (e_X7_wordOf N l w v1 6 σ) kk_RX7_142 ki_X7_wordOf ks_RX7_X7_wordOf rfl rfl np_X7_wordOf (Nat.le_trans (by decide) hdp) rfl m_c1_nil (Nat.le_of_ble_eq_true rfl) dX7_paidOf_4 (fun r1 σ2 => ?_)
  refine r_iconst hg 0 dX7_paidOf_7 (by decide) ?_
  refine r_iload_n hg 2 dX7_paidOf_8 rfl ?_
  refine r_aload_n hg 0 dX7_paidOf_9 rfl ?_
  refine r_iload_n hg 1 dX7_paidOf_10 rfl ?_
  refine r_iconst hg 5 dX7_paidOf_11 (by decide) ?_
  refine q_callv1 hg (e_X7_wordOf N l w v1 5 σ2) kk_RX7_142 ki_X7_wordOf ks_RX7_X7_wordOf rfl rfl np_X7_wordOf (Nat.le_trans (by decide) hdp) rfl (m_c1_i (m_c1_i (m_c1_i m_c1_nil))) (Nat.le_of_ble_eq_true rfl) dX7_paidOf_12 (fun r3 σ4 => ?_)
  refine r_isub hg dX7_paidOf_15 ?_
  refine r_max hg km_RX7_152 kt_J9_max_7cf53 kz_RJ9 kc_J9_max_7cf53 (Nat.le_trans (by decide) hdp) (m_c1_i m_c1_nil) (Nat.le_of_ble_eq_true rfl) dX7_paidOf_16 ?_
  refine r_min hg km_RX7_160 kt_J9_min_7cf53 kz_RJ9 kc_J9_min_7cf53 (Nat.le_trans (by decide) hdp) m_c1_nil (Nat.le_of_ble_eq_true rfl) dX7_paidOf_19 ?_
  exact r_iret hg dX7_paidOf_22 rfl rfl
set_option maxHeartbeats 4000000 in
set_option maxRecDepth 100000 in
theorem e_X7_paid (N : Nat) (l : Launch) (w : mW) (v1 v2 : Int32) (σ : Mem) : Ev l w shR yX7_paid cX7_paid 3 (some .int) 1 2 [.ref (w.2.1 0), .int v1, .int v2] σ (f_X7_paid N v1 v2 σ) := by
  refine Ev.of (by decide) (m_c1_r (m_c1_i (m_c1_i m_c1_nil))) (Nat.le_of_ble_eq_true rfl) (fun p e s m args below meth c hg => ?_)
  have hdp := Nat.le_refl 2
  unfold f_X7_paid
  show Vj (p, l, e, 2, s, m, args, below, meth, c) w shR 3 1 σ 0 [(0, .ref (w.2.1 0)), (1, .int v1), (2, .int v2)] [] _
  refine r_aload_n hg 0 dX7_paid_0 rfl ?_
  refine r_iconst hg 0 dX7_paid_1 (by decide) ?_
  refine q_put (j := 0) hg rfl rfl rfl (by decide) iX7 kf_RX7_68 rfl tyX7_ok nmX7 rfl rfl dX7_paid_2 (fun σ1 => ?_)
  refine r_aload_n hg 0 dX7_paid_5 rfl ?_
  refine r_iload_n hg 1 dX7_paid_6 rfl ?_
  refine q_callv1 hg (e_X7_isCover N l w v1 σ1) kk_RX7_139 ki_X7_isCover ks_RX7_X7_isCover rfl rfl np_X7_isCover (Nat.le_trans (by decide) hdp) rfl m_c1_nil (Nat.le_of_ble_eq_true rfl) dX7_paid_7 (fun r2 σ3 => ?_)
  refine r_if_eq hg 25 dX7_paid_10 (by decide) ?_ ?_
  · refine r_iconst hg (-1) dX7_paid_25 (by decide) ?_
    refine r_goto hg 39 dX7_paid_26 (by decide) ?_
    exact r_iret hg dX7_paid_39 rfl rfl
  · refine r_aload_n hg 0 dX7_paid_13 rfl ?_
    refine r_iload_n hg 2 dX7_paid_14 rfl ?_
    refine q_callv1 hg (e_X7_isSet N l w v2 σ3) kk_RX7_172 ki_X7_isSet ks_RX7_X7_isSet rfl rfl np_X7_isSet (Nat.le_trans (by decide) hdp) rfl m_c1_nil (Nat.le_of_ble_eq_true rfl) dX7_paid_15 (fun r4 σ5 => ?_)
    refine r_if_eq hg 25 dX7_paid_18 (by decide) ?_ ?_
    · refine r_iconst hg (-1) dX7_paid_25 (by decide) ?_
      refine r_goto hg 39 dX7_paid_26 (by decide) ?_
      exact r_iret hg dX7_paid_39 rfl rfl
    · refine r_iload_n hg 2 dX7_paid_21 rfl ?_
      refine r_if_ne hg 29 dX7_paid_22 (by decide) ?_ ?_
      · refine r_aload_n hg 0 dX7_paid_29 rfl ?_
        refine r_iload_n hg 1 dX7_paid_30 rfl ?_
        refine r_aload_n hg 0 dX7_paid_31 rfl ?_
        refine r_iload_n hg 2 dX7_paid_32 rfl ?_
        refine q_callv1 hg (e_X7_sumOf N l w v2 σ5) kk_RX7_178 ki_X7_sumOf ks_RX7_X7_sumOf rfl rfl np_X7_sumOf (Nat.le_trans (by decide) hdp) rfl (m_c1_i (m_c1_r m_c1_nil)) (Nat.le_of_ble_eq_true rfl) dX7_paid_33 (fun r6 σ7 => ?_)
        refine q_callv1 hg (e_X7_paidOf N l w v1 r6 σ7) kk_RX7_181 ki_X7_paidOf ks_RX7_X7_paidOf rfl rfl np_X7_paidOf (Nat.le_trans (by decide) hdp) rfl m_c1_nil (Nat.le_of_ble_eq_true rfl) dX7_paid_36 (fun r8 σ9 => ?_)
        exact r_iret hg dX7_paid_39 rfl rfl
      · refine r_iconst hg (-1) dX7_paid_25 (by decide) ?_
        refine r_goto hg 39 dX7_paid_26 (by decide) ?_
        exact r_iret hg dX7_paid_39 rfl rfl
set_option maxHeartbeats 4000000 in
set_option maxRecDepth 100000 in
theorem e_X7_isLoss (N : Nat) (l : Launch) (w : mW) (v1 : Int32) (σ : Mem) : Ev l w shR yX7_isLoss cX7_isLoss 2 (some .boolean) 1 0 [.ref (w.2.1 0), .int v1] σ (f_X7_isLoss N v1 σ) := by
  refine Ev.of (by decide) (m_c1_r (m_c1_i m_c1_nil)) (Nat.le_of_ble_eq_true rfl) (fun p e s m args below meth c hg => ?_)
  have hdp := Nat.le_refl 0
  unfold f_X7_isLoss
  show Vj (p, l, e, 0, s, m, args, below, meth, c) w shR 2 1 σ 0 [(0, .ref (w.2.1 0)), (1, .int v1)] [] _
  refine r_iload_n hg 1 dX7_isLoss_0 rfl ?_
  refine r_if_lt hg 16 dX7_isLoss_1 (by decide) ?_ ?_
  · refine r_iconst hg 0 dX7_isLoss_16 (by decide) ?_
    exact r_zret hg dX7_isLoss_17 rfl rfl
  · refine r_iload_n hg 1 dX7_isLoss_4 rfl ?_
    refine r_aload_n hg 0 dX7_isLoss_5 rfl ?_
    refine q_geti (j := 15) hg rfl rfl rfl (by decide) iX7 kf_RX7_146 rfl dX7_isLoss_6 ?_
    refine r_icmp_ge hg 16 dX7_isLoss_9 (by decide) ?_ ?_
    · refine r_iconst hg 0 dX7_isLoss_16 (by decide) ?_
      exact r_zret hg dX7_isLoss_17 rfl rfl
    · refine r_iconst hg 1 dX7_isLoss_12 (by decide) ?_
      refine r_goto hg 17 dX7_isLoss_13 (by decide) ?_
      exact r_zret hg dX7_isLoss_17 rfl rfl
set_option maxHeartbeats 4000000 in
set_option maxRecDepth 100000 in
theorem e_X7_put_ (N : Nat) (l : Launch) (w : mW) (v1 v2 : Int32) (σ : Mem) : Ev l w shR yX7_put_ cX7_put_ 3 (some .boolean) 1 1 [.ref (w.2.1 0), .int v1, .int v2] σ (f_X7_put_ N v1 v2 σ) := by
  refine Ev.of (by decide) (m_c1_r (m_c1_i (m_c1_i m_c1_nil))) (Nat.le_of_ble_eq_true rfl) (fun p e s m args below meth c hg => ?_)
  have hdp := Nat.le_refl 1
  unfold f_X7_put_
  show Vj (p, l, e, 1, s, m, args, below, meth, c) w shR 3 1 σ 0 [(0, .ref (w.2.1 0)), (1, .int v1), (2, .int v2)] [] _
  refine r_aload_n hg 0 dX7_put__0 rfl ?_
  refine r_iconst hg 0 dX7_put__1 (by decide) ?_
  refine q_put (j := 0) hg rfl rfl rfl (by decide) iX7 kf_RX7_68 rfl tyX7_ok nmX7 rfl rfl dX7_put__2 (fun σ1 => ?_)
  refine r_aload_n hg 0 dX7_put__5 rfl ?_
  refine r_iload_n hg 1 dX7_put__6 rfl ?_
  refine q_callv1 hg (e_X7_isLoss N l w v1 σ1) kk_RX7_149 ki_X7_isLoss ks_RX7_X7_isLoss rfl rfl np_X7_isLoss (Nat.le_trans (by decide) hdp) rfl m_c1_nil (Nat.le_of_ble_eq_true rfl) dX7_put__7 (fun r2 σ3 => ?_)
  refine r_if_eq hg 23 dX7_put__10 (by decide) ?_ ?_
  · refine r_iconst hg 0 dX7_put__23 (by decide) ?_
    exact r_zret hg dX7_put__24 rfl rfl
  · refine r_iload_n hg 2 dX7_put__13 rfl ?_
    refine r_iconst hg 0 dX7_put__14 (by decide) ?_
    refine r_bipush hg 15 dX7_put__15 (by decide) ?_
    refine q_calls1 hg (e_X7_isIn N l w v2 0 15 σ3) kk_RX7_107 kt_X7_isIn np_X7_isIn (Nat.le_trans (by decide) hdp) rfl m_c1_nil (Nat.le_of_ble_eq_true rfl) dX7_put__17 (fun r4 σ5 => ?_)
    refine r_if_ne hg 25 dX7_put__20 (by decide) ?_ ?_
    · refine r_aload_n hg 0 dX7_put__25 rfl ?_
      refine q_getr (j := 14) hg rfl rfl rfl (by decide) iX7 kf_RX7_35 rfl dX7_put__26 ?_
      refine r_iload_n hg 1 dX7_put__29 rfl ?_
      refine r_iload_n hg 2 dX7_put__30 rfl ?_
      refine q_iastore (n := 12) hg rfl dX7_put__31 (fun σ6 => ?_)
      refine r_iconst hg 1 dX7_put__32 (by decide) ?_
      exact r_zret hg dX7_put__33 rfl rfl
    · refine r_iconst hg 0 dX7_put__23 (by decide) ?_
      exact r_zret hg dX7_put__24 rfl rfl
set_option maxHeartbeats 4000000 in
set_option maxRecDepth 100000 in
theorem vb_X7_toldWith_4 {N : Nat} (hg : m_ok (p, l, e, d, s, m, args, below, meth, c) w shR cX7_toldWith 4 RX7 (some .int)) (hdp : 0 ≤ d) {K4 : Int32 → Int32 → Int32 → Mem → Option (Int32 × Mem)} (hK4 : ∀ (x1 x2 x3 : Int32) (σ : Mem), Vj (p, l, e, d, s, m, args, below, meth, c) w shR 4 1 σ 4 [(0, .ref (w.2.1 0)), (1, .int x1), (2, .int x2), (3, .int x3)] [] (K4 x1 x2 x3 σ)) (x1 x2 x3 : Int32) (σ : Mem) : Vj (p, l, e, d, s, m, args, below, meth, c) w shR 4 1 σ 4 [(0, .ref (w.2.1 0)), (1, .int x1), (2, .int x2), (3, .int x3)] [] (b_X7_toldWith_4 N K4 x1 x2 x3 σ) := by
  unfold b_X7_toldWith_4
  refine r_iload_n hg 3 dX7_toldWith_4 rfl ?_
  refine r_aload_n hg 0 dX7_toldWith_5 rfl ?_
  refine q_geti (j := 15) hg rfl rfl rfl (by decide) iX7 kf_RX7_146 rfl dX7_toldWith_6 ?_
  refine r_icmp_ge hg 43 dX7_toldWith_9 (by decide) ?_ ?_
  · refine r_iload_n hg 2 dX7_toldWith_43 rfl ?_
    exact r_iret hg dX7_toldWith_44 rfl rfl
  · refine r_iload_n hg 2 dX7_toldWith_12 rfl ?_
    refine r_aload_n hg 0 dX7_toldWith_13 rfl ?_
    refine q_getr (j := 14) hg rfl rfl rfl (by decide) iX7 kf_RX7_35 rfl dX7_toldWith_14 ?_
    refine r_iload_n hg 3 dX7_toldWith_17 rfl ?_
    refine r_iaload (n := 12) hg rfl dX7_toldWith_18 ?_
    refine r_aload_n hg 0 dX7_toldWith_19 rfl ?_
    refine q_getr (j := 14) hg rfl rfl rfl (by decide) iX7 kf_RX7_35 rfl dX7_toldWith_20 ?_
    refine r_iload_n hg 1 dX7_toldWith_23 rfl ?_
    refine r_iaload (n := 12) hg rfl dX7_toldWith_24 ?_
    refine r_icmp_ne hg 34 dX7_toldWith_25 (by decide) ?_ ?_
    · refine r_iconst hg 0 dX7_toldWith_34 (by decide) ?_
      refine r_ior hg dX7_toldWith_35 ?_
      refine q_name (fun u1 => ?_)
      refine r_istore_n (lv' := [(2, .int u1), (0, .ref (w.2.1 0)), (1, .int x1), (3, .int x3)]) hg dX7_toldWith_36 (by decide) rfl ?_
      refine r_iinc (lv' := [(3, .int (x3 + 1)), (2, .int u1), (0, .ref (w.2.1 0)), (1, .int x1)]) hg 3 (x3 + 1) dX7_toldWith_37 rfl rfl (by decide) rfl ?_
      refine r_goto hg 4 dX7_toldWith_40 (by decide) ?_
      refine r_lv [2, 3, 1, 0] rfl ?_
      exact hK4 x1 u1 (x3 + 1) σ
    · refine r_iconst hg 1 dX7_toldWith_28 (by decide) ?_
      refine r_iload_n hg 3 dX7_toldWith_29 rfl ?_
      refine r_ishl hg dX7_toldWith_30 ?_
      refine r_goto hg 35 dX7_toldWith_31 (by decide) ?_
      refine r_ior hg dX7_toldWith_35 ?_
      refine q_name (fun u2 => ?_)
      refine r_istore_n (lv' := [(2, .int u2), (0, .ref (w.2.1 0)), (1, .int x1), (3, .int x3)]) hg dX7_toldWith_36 (by decide) rfl ?_
      refine r_iinc (lv' := [(3, .int (x3 + 1)), (2, .int u2), (0, .ref (w.2.1 0)), (1, .int x1)]) hg 3 (x3 + 1) dX7_toldWith_37 rfl rfl (by decide) rfl ?_
      refine r_goto hg 4 dX7_toldWith_40 (by decide) ?_
      refine r_lv [2, 3, 1, 0] rfl ?_
      exact hK4 x1 u2 (x3 + 1) σ
set_option maxHeartbeats 4000000 in
set_option maxRecDepth 100000 in
theorem vl_X7_toldWith_4 {N : Nat} (hg : m_ok (p, l, e, d, s, m, args, below, meth, c) w shR cX7_toldWith 4 RX7 (some .int)) (hdp : 0 ≤ d) : ∀ (n : Nat) (x1 x2 x3 : Int32) (σ : Mem), Vj (p, l, e, d, s, m, args, below, meth, c) w shR 4 1 σ 4 [(0, .ref (w.2.1 0)), (1, .int x1), (2, .int x2), (3, .int x3)] [] (l_X7_toldWith_4 N n x1 x2 x3 σ)
| 0, _, _, _, _ => Vj.none
| n + 1, x1, x2, x3, σ => vb_X7_toldWith_4 hg hdp (fun x1 x2 x3 σ => vl_X7_toldWith_4 hg hdp n x1 x2 x3 σ) x1 x2 x3 σ
set_option maxHeartbeats 4000000 in
set_option maxRecDepth 100000 in
theorem e_X7_toldWith (N : Nat) (l : Launch) (w : mW) (v1 : Int32) (σ : Mem) : Ev l w shR yX7_toldWith cX7_toldWith 4 (some .int) 1 0 [.ref (w.2.1 0), .int v1] σ (f_X7_toldWith N v1 σ) := by
  refine Ev.of (by decide) (m_c1_r (m_c1_i m_c1_nil)) (Nat.le_of_ble_eq_true rfl) (fun p e s m args below meth c hg => ?_)
  have hdp := Nat.le_refl 0
  unfold f_X7_toldWith
  show Vj (p, l, e, 0, s, m, args, below, meth, c) w shR 4 1 σ 0 [(0, .ref (w.2.1 0)), (1, .int v1)] [] _
  refine r_iconst hg 0 dX7_toldWith_0 (by decide) ?_
  refine r_istore_n (lv' := [(2, .int 0), (0, .ref (w.2.1 0)), (1, .int v1)]) hg dX7_toldWith_1 (by decide) rfl ?_
  refine r_iconst hg 0 dX7_toldWith_2 (by decide) ?_
  refine r_istore_n (lv' := [(3, .int 0), (2, .int 0), (0, .ref (w.2.1 0)), (1, .int v1)]) hg dX7_toldWith_3 (by decide) rfl ?_
  refine r_lv [2, 3, 1, 0] rfl ?_
  exact vl_X7_toldWith_4 hg hdp N v1 0 0 σ
set_option maxHeartbeats 4000000 in
set_option maxRecDepth 100000 in
theorem e_J6_numberOfTrailingZeros_0f7a4 (N : Nat) {sh : mSh} (l : Launch) (w : mW) (v0 : Int32) (σ : Mem) : Ev l w sh yJ6_numberOfTrailingZeros_0f7a4 cJ6_numberOfTrailingZeros_0f7a4 2 (some .int) 1 0 [.int v0] σ (f_J6_numberOfTrailingZeros_0f7a4 N v0 σ) := by
  refine Ev.of (by decide) (m_c1_i m_c1_nil) (Nat.le_of_ble_eq_true rfl) (fun p e s m args below meth c hg => ?_)
  have hdp := Nat.le_refl 0
  unfold f_J6_numberOfTrailingZeros_0f7a4
  show Vj (p, l, e, 0, s, m, args, below, meth, c) w sh 2 1 σ 0 [(0, .int v0)] [] _
  refine r_iload_n hg 0 dJ6_numberOfTrailingZeros_0f7a4_0 rfl ?_
  refine r_iconst hg (-1) dJ6_numberOfTrailingZeros_0f7a4_1 (by decide) ?_
  refine r_ixor hg dJ6_numberOfTrailingZeros_0f7a4_2 ?_
  refine r_iload_n hg 0 dJ6_numberOfTrailingZeros_0f7a4_3 rfl ?_
  refine r_iconst hg 1 dJ6_numberOfTrailingZeros_0f7a4_4 (by decide) ?_
  refine r_isub hg dJ6_numberOfTrailingZeros_0f7a4_5 ?_
  refine r_iand hg dJ6_numberOfTrailingZeros_0f7a4_6 ?_
  refine q_name (fun u1 => ?_)
  refine r_istore_n (lv' := [(0, .int u1)]) hg dJ6_numberOfTrailingZeros_0f7a4_7 (by decide) rfl ?_
  refine r_iload_n hg 0 dJ6_numberOfTrailingZeros_0f7a4_8 rfl ?_
  refine r_if_gt hg 17 dJ6_numberOfTrailingZeros_0f7a4_9 (by decide) ?_ ?_
  · refine r_iconst hg 1 dJ6_numberOfTrailingZeros_0f7a4_17 (by decide) ?_
    refine r_istore_n (lv' := [(1, .int 1), (0, .int u1)]) hg dJ6_numberOfTrailingZeros_0f7a4_18 (by decide) rfl ?_
    refine r_iload_n hg 1 dJ6_numberOfTrailingZeros_0f7a4_19 rfl ?_
    refine r_ldcw hg kv_RJ6_264 dJ6_numberOfTrailingZeros_0f7a4_20 ?_
    refine r_icmp_le hg 34 dJ6_numberOfTrailingZeros_0f7a4_23 (by decide) ?_ ?_
    · refine r_iload_n hg 1 dJ6_numberOfTrailingZeros_0f7a4_34 rfl ?_
      refine r_sipush hg 256 dJ6_numberOfTrailingZeros_0f7a4_35 (by decide) ?_
      refine r_icmp_le hg 49 dJ6_numberOfTrailingZeros_0f7a4_38 (by decide) ?_ ?_
      · refine r_iload_n hg 1 dJ6_numberOfTrailingZeros_0f7a4_49 rfl ?_
        refine r_bipush hg 16 dJ6_numberOfTrailingZeros_0f7a4_50 (by decide) ?_
        refine r_icmp_le hg 62 dJ6_numberOfTrailingZeros_0f7a4_52 (by decide) ?_ ?_
        · refine r_iload_n hg 1 dJ6_numberOfTrailingZeros_0f7a4_62 rfl ?_
          refine r_iconst hg 4 dJ6_numberOfTrailingZeros_0f7a4_63 (by decide) ?_
          refine r_icmp_le hg 74 dJ6_numberOfTrailingZeros_0f7a4_64 (by decide) ?_ ?_
          · refine r_iload_n hg 0 dJ6_numberOfTrailingZeros_0f7a4_74 rfl ?_
            refine r_iload_n hg 1 dJ6_numberOfTrailingZeros_0f7a4_75 rfl ?_
            refine r_iconst hg 1 dJ6_numberOfTrailingZeros_0f7a4_76 (by decide) ?_
            refine r_iushr hg dJ6_numberOfTrailingZeros_0f7a4_77 ?_
            refine r_iadd hg dJ6_numberOfTrailingZeros_0f7a4_78 ?_
            exact r_iret hg dJ6_numberOfTrailingZeros_0f7a4_79 rfl rfl
          · refine r_iinc (lv' := [(1, .int (1 + 2)), (0, .int u1)]) hg 0 (1 + 2) dJ6_numberOfTrailingZeros_0f7a4_67 rfl rfl (by decide) rfl ?_
            refine r_iload_n hg 1 dJ6_numberOfTrailingZeros_0f7a4_70 rfl ?_
            refine r_iconst hg 2 dJ6_numberOfTrailingZeros_0f7a4_71 (by decide) ?_
            refine r_iushr hg dJ6_numberOfTrailingZeros_0f7a4_72 ?_
            refine q_name (fun u2 => ?_)
            refine r_istore_n (lv' := [(0, .int u2), (1, .int (1 + 2))]) hg dJ6_numberOfTrailingZeros_0f7a4_73 (by decide) rfl ?_
            refine r_iload_n hg 1 dJ6_numberOfTrailingZeros_0f7a4_74 rfl ?_
            refine r_iload_n hg 0 dJ6_numberOfTrailingZeros_0f7a4_75 rfl ?_
            refine r_iconst hg 1 dJ6_numberOfTrailingZeros_0f7a4_76 (by decide) ?_
            refine r_iushr hg dJ6_numberOfTrailingZeros_0f7a4_77 ?_
            refine r_iadd hg dJ6_numberOfTrailingZeros_0f7a4_78 ?_
            exact r_iret hg dJ6_numberOfTrailingZeros_0f7a4_79 rfl rfl
        · refine r_iinc (lv' := [(1, .int (1 + 4)), (0, .int u1)]) hg 0 (1 + 4) dJ6_numberOfTrailingZeros_0f7a4_55 rfl rfl (by decide) rfl ?_
          refine r_iload_n hg 1 dJ6_numberOfTrailingZeros_0f7a4_58 rfl ?_
          refine r_iconst hg 4 dJ6_numberOfTrailingZeros_0f7a4_59 (by decide) ?_
          refine r_iushr hg dJ6_numberOfTrailingZeros_0f7a4_60 ?_
          refine q_name (fun u3 => ?_)
          refine r_istore_n (lv' := [(0, .int u3), (1, .int (1 + 4))]) hg dJ6_numberOfTrailingZeros_0f7a4_61 (by decide) rfl ?_
          refine r_iload_n hg 0 dJ6_numberOfTrailingZeros_0f7a4_62 rfl ?_
          refine r_iconst hg 4 dJ6_numberOfTrailingZeros_0f7a4_63 (by decide) ?_
          refine r_icmp_le hg 74 dJ6_numberOfTrailingZeros_0f7a4_64 (by decide) ?_ ?_
          · refine r_iload_n hg 1 dJ6_numberOfTrailingZeros_0f7a4_74 rfl ?_
            refine r_iload_n hg 0 dJ6_numberOfTrailingZeros_0f7a4_75 rfl ?_
            refine r_iconst hg 1 dJ6_numberOfTrailingZeros_0f7a4_76 (by decide) ?_
            refine r_iushr hg dJ6_numberOfTrailingZeros_0f7a4_77 ?_
            refine r_iadd hg dJ6_numberOfTrailingZeros_0f7a4_78 ?_
            exact r_iret hg dJ6_numberOfTrailingZeros_0f7a4_79 rfl rfl
          · refine r_iinc (lv' := [(1, .int ((1 + 4) + 2)), (0, .int u3)]) hg 1 ((1 + 4) + 2) dJ6_numberOfTrailingZeros_0f7a4_67 rfl rfl (by decide) rfl ?_
            refine r_iload_n hg 1 dJ6_numberOfTrailingZeros_0f7a4_70 rfl ?_
            refine r_iconst hg 2 dJ6_numberOfTrailingZeros_0f7a4_71 (by decide) ?_
            refine r_iushr hg dJ6_numberOfTrailingZeros_0f7a4_72 ?_
            refine q_name (fun u4 => ?_)
            refine r_istore_n (lv' := [(0, .int u4), (1, .int ((1 + 4) + 2))]) hg dJ6_numberOfTrailingZeros_0f7a4_73 (by decide) rfl ?_
            refine r_iload_n hg 1 dJ6_numberOfTrailingZeros_0f7a4_74 rfl ?_
            refine r_iload_n hg 0 dJ6_numberOfTrailingZeros_0f7a4_75 rfl ?_
            refine r_iconst hg 1 dJ6_numberOfTrailingZeros_0f7a4_76 (by decide) ?_
            refine r_iushr hg dJ6_numberOfTrailingZeros_0f7a4_77 ?_
            refine r_iadd hg dJ6_numberOfTrailingZeros_0f7a4_78 ?_
            exact r_iret hg dJ6_numberOfTrailingZeros_0f7a4_79 rfl rfl
      · refine r_iinc (lv' := [(1, .int (1 + 8)), (0, .int u1)]) hg 0 (1 + 8) dJ6_numberOfTrailingZeros_0f7a4_41 rfl rfl (by decide) rfl ?_
        refine r_iload_n hg 1 dJ6_numberOfTrailingZeros_0f7a4_44 rfl ?_
        refine r_bipush hg 8 dJ6_numberOfTrailingZeros_0f7a4_45 (by decide) ?_
        refine r_iushr hg dJ6_numberOfTrailingZeros_0f7a4_47 ?_
        refine q_name (fun u5 => ?_)
        refine r_istore_n (lv' := [(0, .int u5), (1, .int (1 + 8))]) hg dJ6_numberOfTrailingZeros_0f7a4_48 (by decide) rfl ?_
        refine r_iload_n hg 0 dJ6_numberOfTrailingZeros_0f7a4_49 rfl ?_
        refine r_bipush hg 16 dJ6_numberOfTrailingZeros_0f7a4_50 (by decide) ?_
        refine r_icmp_le hg 62 dJ6_numberOfTrailingZeros_0f7a4_52 (by decide) ?_ ?_
        · refine r_iload_n hg 0 dJ6_numberOfTrailingZeros_0f7a4_62 rfl ?_
          refine r_iconst hg 4 dJ6_numberOfTrailingZeros_0f7a4_63 (by decide) ?_
          refine r_icmp_le hg 74 dJ6_numberOfTrailingZeros_0f7a4_64 (by decide) ?_ ?_
          · refine r_iload_n hg 1 dJ6_numberOfTrailingZeros_0f7a4_74 rfl ?_
            refine r_iload_n hg 0 dJ6_numberOfTrailingZeros_0f7a4_75 rfl ?_
            refine r_iconst hg 1 dJ6_numberOfTrailingZeros_0f7a4_76 (by decide) ?_
            refine r_iushr hg dJ6_numberOfTrailingZeros_0f7a4_77 ?_
            refine r_iadd hg dJ6_numberOfTrailingZeros_0f7a4_78 ?_
            exact r_iret hg dJ6_numberOfTrailingZeros_0f7a4_79 rfl rfl
          · refine r_iinc (lv' := [(1, .int ((1 + 8) + 2)), (0, .int u5)]) hg 1 ((1 + 8) + 2) dJ6_numberOfTrailingZeros_0f7a4_67 rfl rfl (by decide) rfl ?_
            refine r_iload_n hg 1 dJ6_numberOfTrailingZeros_0f7a4_70 rfl ?_
            refine r_iconst hg 2 dJ6_numberOfTrailingZeros_0f7a4_71 (by decide) ?_
            refine r_iushr hg dJ6_numberOfTrailingZeros_0f7a4_72 ?_
            refine q_name (fun u6 => ?_)
            refine r_istore_n (lv' := [(0, .int u6), (1, .int ((1 + 8) + 2))]) hg dJ6_numberOfTrailingZeros_0f7a4_73 (by decide) rfl ?_
            refine r_iload_n hg 1 dJ6_numberOfTrailingZeros_0f7a4_74 rfl ?_
            refine r_iload_n hg 0 dJ6_numberOfTrailingZeros_0f7a4_75 rfl ?_
            refine r_iconst hg 1 dJ6_numberOfTrailingZeros_0f7a4_76 (by decide) ?_
            refine r_iushr hg dJ6_numberOfTrailingZeros_0f7a4_77 ?_
            refine r_iadd hg dJ6_numberOfTrailingZeros_0f7a4_78 ?_
            exact r_iret hg dJ6_numberOfTrailingZeros_0f7a4_79 rfl rfl
        · refine r_iinc (lv' := [(1, .int ((1 + 8) + 4)), (0, .int u5)]) hg 1 ((1 + 8) + 4) dJ6_numberOfTrailingZeros_0f7a4_55 rfl rfl (by decide) rfl ?_
          refine r_iload_n hg 1 dJ6_numberOfTrailingZeros_0f7a4_58 rfl ?_
          refine r_iconst hg 4 dJ6_numberOfTrailingZeros_0f7a4_59 (by decide) ?_
          refine r_iushr hg dJ6_numberOfTrailingZeros_0f7a4_60 ?_
          refine q_name (fun u7 => ?_)
          refine r_istore_n (lv' := [(0, .int u7), (1, .int ((1 + 8) + 4))]) hg dJ6_numberOfTrailingZeros_0f7a4_61 (by decide) rfl ?_
          refine r_iload_n hg 0 dJ6_numberOfTrailingZeros_0f7a4_62 rfl ?_
          refine r_iconst hg 4 dJ6_numberOfTrailingZeros_0f7a4_63 (by decide) ?_
          refine r_icmp_le hg 74 dJ6_numberOfTrailingZeros_0f7a4_64 (by decide) ?_ ?_
          · refine r_iload_n hg 1 dJ6_numberOfTrailingZeros_0f7a4_74 rfl ?_
            refine r_iload_n hg 0 dJ6_numberOfTrailingZeros_0f7a4_75 rfl ?_
            refine r_iconst hg 1 dJ6_numberOfTrailingZeros_0f7a4_76 (by decide) ?_
            refine r_iushr hg dJ6_numberOfTrailingZeros_0f7a4_77 ?_
            refine r_iadd hg dJ6_numberOfTrailingZeros_0f7a4_78 ?_
            exact r_iret hg dJ6_numberOfTrailingZeros_0f7a4_79 rfl rfl
          · refine r_iinc (lv' := [(1, .int (((1 + 8) + 4) + 2)), (0, .int u7)]) hg 1 (((1 + 8) + 4) + 2) dJ6_numberOfTrailingZeros_0f7a4_67 rfl rfl (by decide) rfl ?_
            refine r_iload_n hg 1 dJ6_numberOfTrailingZeros_0f7a4_70 rfl ?_
            refine r_iconst hg 2 dJ6_numberOfTrailingZeros_0f7a4_71 (by decide) ?_
            refine r_iushr hg dJ6_numberOfTrailingZeros_0f7a4_72 ?_
            refine q_name (fun u8 => ?_)
            refine r_istore_n (lv' := [(0, .int u8), (1, .int (((1 + 8) + 4) + 2))]) hg dJ6_numberOfTrailingZeros_0f7a4_73 (by decide) rfl ?_
            refine r_iload_n hg 1 dJ6_numberOfTrailingZeros_0f7a4_74 rfl ?_
            refine r_iload_n hg 0 dJ6_numberOfTrailingZeros_0f7a4_75 rfl ?_
            refine r_iconst hg 1 dJ6_numberOfTrailingZeros_0f7a4_76 (by decide) ?_
            refine r_iushr hg dJ6_numberOfTrailingZeros_0f7a4_77 ?_
            refine r_iadd hg dJ6_numberOfTrailingZeros_0f7a4_78 ?_
            exact r_iret hg dJ6_numberOfTrailingZeros_0f7a4_79 rfl rfl
    · refine r_iinc (lv' := [(1, .int (1 + 16)), (0, .int u1)]) hg 0 (1 + 16) dJ6_numberOfTrailingZeros_0f7a4_26 rfl rfl (by decide) rfl ?_
      refine r_iload_n hg 1 dJ6_numberOfTrailingZeros_0f7a4_29 rfl ?_
      refine r_bipush hg 16 dJ6_numberOfTrailingZeros_0f7a4_30 (by decide) ?_
      refine r_iushr hg dJ6_numberOfTrailingZeros_0f7a4_32 ?_
      refine q_name (fun u9 => ?_)
      refine r_istore_n (lv' := [(0, .int u9), (1, .int (1 + 16))]) hg dJ6_numberOfTrailingZeros_0f7a4_33 (by decide) rfl ?_
      refine r_iload_n hg 0 dJ6_numberOfTrailingZeros_0f7a4_34 rfl ?_
      refine r_sipush hg 256 dJ6_numberOfTrailingZeros_0f7a4_35 (by decide) ?_
      refine r_icmp_le hg 49 dJ6_numberOfTrailingZeros_0f7a4_38 (by decide) ?_ ?_
      · refine r_iload_n hg 0 dJ6_numberOfTrailingZeros_0f7a4_49 rfl ?_
        refine r_bipush hg 16 dJ6_numberOfTrailingZeros_0f7a4_50 (by decide) ?_
        refine r_icmp_le hg 62 dJ6_numberOfTrailingZeros_0f7a4_52 (by decide) ?_ ?_
        · refine r_iload_n hg 0 dJ6_numberOfTrailingZeros_0f7a4_62 rfl ?_
          refine r_iconst hg 4 dJ6_numberOfTrailingZeros_0f7a4_63 (by decide) ?_
          refine r_icmp_le hg 74 dJ6_numberOfTrailingZeros_0f7a4_64 (by decide) ?_ ?_
          · refine r_iload_n hg 1 dJ6_numberOfTrailingZeros_0f7a4_74 rfl ?_
            refine r_iload_n hg 0 dJ6_numberOfTrailingZeros_0f7a4_75 rfl ?_
            refine r_iconst hg 1 dJ6_numberOfTrailingZeros_0f7a4_76 (by decide) ?_
            refine r_iushr hg dJ6_numberOfTrailingZeros_0f7a4_77 ?_
            refine r_iadd hg dJ6_numberOfTrailingZeros_0f7a4_78 ?_
            exact r_iret hg dJ6_numberOfTrailingZeros_0f7a4_79 rfl rfl
          · refine r_iinc (lv' := [(1, .int ((1 + 16) + 2)), (0, .int u9)]) hg 1 ((1 + 16) + 2) dJ6_numberOfTrailingZeros_0f7a4_67 rfl rfl (by decide) rfl ?_
            refine r_iload_n hg 1 dJ6_numberOfTrailingZeros_0f7a4_70 rfl ?_
            refine r_iconst hg 2 dJ6_numberOfTrailingZeros_0f7a4_71 (by decide) ?_
            refine r_iushr hg dJ6_numberOfTrailingZeros_0f7a4_72 ?_
            refine q_name (fun u10 => ?_)
            refine r_istore_n (lv' := [(0, .int u10), (1, .int ((1 + 16) + 2))]) hg dJ6_numberOfTrailingZeros_0f7a4_73 (by decide) rfl ?_
            refine r_iload_n hg 1 dJ6_numberOfTrailingZeros_0f7a4_74 rfl ?_
            refine r_iload_n hg 0 dJ6_numberOfTrailingZeros_0f7a4_75 rfl ?_
            refine r_iconst hg 1 dJ6_numberOfTrailingZeros_0f7a4_76 (by decide) ?_
            refine r_iushr hg dJ6_numberOfTrailingZeros_0f7a4_77 ?_
            refine r_iadd hg dJ6_numberOfTrailingZeros_0f7a4_78 ?_
            exact r_iret hg dJ6_numberOfTrailingZeros_0f7a4_79 rfl rfl
        · refine r_iinc (lv' := [(1, .int ((1 + 16) + 4)), (0, .int u9)]) hg 1 ((1 + 16) + 4) dJ6_numberOfTrailingZeros_0f7a4_55 rfl rfl (by decide) rfl ?_
          refine r_iload_n hg 1 dJ6_numberOfTrailingZeros_0f7a4_58 rfl ?_
          refine r_iconst hg 4 dJ6_numberOfTrailingZeros_0f7a4_59 (by decide) ?_
          refine r_iushr hg dJ6_numberOfTrailingZeros_0f7a4_60 ?_
          refine q_name (fun u11 => ?_)
          refine r_istore_n (lv' := [(0, .int u11), (1, .int ((1 + 16) + 4))]) hg dJ6_numberOfTrailingZeros_0f7a4_61 (by decide) rfl ?_
          refine r_iload_n hg 0 dJ6_numberOfTrailingZeros_0f7a4_62 rfl ?_
          refine r_iconst hg 4 dJ6_numberOfTrailingZeros_0f7a4_63 (by decide) ?_
          refine r_icmp_le hg 74 dJ6_numberOfTrailingZeros_0f7a4_64 (by decide) ?_ ?_
          · refine r_iload_n hg 1 dJ6_numberOfTrailingZeros_0f7a4_74 rfl ?_
            refine r_iload_n hg 0 dJ6_numberOfTrailingZeros_0f7a4_75 rfl ?_
            refine r_iconst hg 1 dJ6_numberOfTrailingZeros_0f7a4_76 (by decide) ?_
            refine r_iushr hg dJ6_numberOfTrailingZeros_0f7a4_77 ?_
            refine r_iadd hg dJ6_numberOfTrailingZeros_0f7a4_78 ?_
            exact r_iret hg dJ6_numberOfTrailingZeros_0f7a4_79 rfl rfl
          · refine r_iinc (lv' := [(1, .int (((1 + 16) + 4) + 2)), (0, .int u11)]) hg 1 (((1 + 16) + 4) + 2) dJ6_numberOfTrailingZeros_0f7a4_67 rfl rfl (by decide) rfl ?_
            refine r_iload_n hg 1 dJ6_numberOfTrailingZeros_0f7a4_70 rfl ?_
            refine r_iconst hg 2 dJ6_numberOfTrailingZeros_0f7a4_71 (by decide) ?_
            refine r_iushr hg dJ6_numberOfTrailingZeros_0f7a4_72 ?_
            refine q_name (fun u12 => ?_)
            refine r_istore_n (lv' := [(0, .int u12), (1, .int (((1 + 16) + 4) + 2))]) hg dJ6_numberOfTrailingZeros_0f7a4_73 (by decide) rfl ?_
            refine r_iload_n hg 1 dJ6_numberOfTrailingZeros_0f7a4_74 rfl ?_
            refine r_iload_n hg 0 dJ6_numberOfTrailingZeros_0f7a4_75 rfl ?_
            refine r_iconst hg 1 dJ6_numberOfTrailingZeros_0f7a4_76 (by decide) ?_
            refine r_iushr hg dJ6_numberOfTrailingZeros_0f7a4_77 ?_
            refine r_iadd hg dJ6_numberOfTrailingZeros_0f7a4_78 ?_
            exact r_iret hg dJ6_numberOfTrailingZeros_0f7a4_79 rfl rfl
      · refine r_iinc (lv' := [(1, .int ((1 + 16) + 8)), (0, .int u9)]) hg 1 ((1 + 16) + 8) dJ6_numberOfTrailingZeros_0f7a4_41 rfl rfl (by decide) rfl ?_
        refine r_iload_n hg 1 dJ6_numberOfTrailingZeros_0f7a4_44 rfl ?_
        refine r_bipush hg 8 dJ6_numberOfTrailingZeros_0f7a4_45 (by decide) ?_
        refine r_iushr hg dJ6_numberOfTrailingZeros_0f7a4_47 ?_
        refine q_name (fun u13 => ?_)
        refine r_istore_n (lv' := [(0, .int u13), (1, .int ((1 + 16) + 8))]) hg dJ6_numberOfTrailingZeros_0f7a4_48 (by decide) rfl ?_
        refine r_iload_n hg 0 dJ6_numberOfTrailingZeros_0f7a4_49 rfl ?_
        refine r_bipush hg 16 dJ6_numberOfTrailingZeros_0f7a4_50 (by decide) ?_
        refine r_icmp_le hg 62 dJ6_numberOfTrailingZeros_0f7a4_52 (by decide) ?_ ?_
        · refine r_iload_n hg 0 dJ6_numberOfTrailingZeros_0f7a4_62 rfl ?_
          refine r_iconst hg 4 dJ6_numberOfTrailingZeros_0f7a4_63 (by decide) ?_
          refine r_icmp_le hg 74 dJ6_numberOfTrailingZeros_0f7a4_64 (by decide) ?_ ?_
          · refine r_iload_n hg 1 dJ6_numberOfTrailingZeros_0f7a4_74 rfl ?_
            refine r_iload_n hg 0 dJ6_numberOfTrailingZeros_0f7a4_75 rfl ?_
            refine r_iconst hg 1 dJ6_numberOfTrailingZeros_0f7a4_76 (by decide) ?_
            refine r_iushr hg dJ6_numberOfTrailingZeros_0f7a4_77 ?_
            refine r_iadd hg dJ6_numberOfTrailingZeros_0f7a4_78 ?_
            exact r_iret hg dJ6_numberOfTrailingZeros_0f7a4_79 rfl rfl
          · refine r_iinc (lv' := [(1, .int (((1 + 16) + 8) + 2)), (0, .int u13)]) hg 1 (((1 + 16) + 8) + 2) dJ6_numberOfTrailingZeros_0f7a4_67 rfl rfl (by decide) rfl ?_
            refine r_iload_n hg 1 dJ6_numberOfTrailingZeros_0f7a4_70 rfl ?_
            refine r_iconst hg 2 dJ6_numberOfTrailingZeros_0f7a4_71 (by decide) ?_
            refine r_iushr hg dJ6_numberOfTrailingZeros_0f7a4_72 ?_
            refine q_name (fun u14 => ?_)
            refine r_istore_n (lv' := [(0, .int u14), (1, .int (((1 + 16) + 8) + 2))]) hg dJ6_numberOfTrailingZeros_0f7a4_73 (by decide) rfl ?_
            refine r_iload_n hg 1 dJ6_numberOfTrailingZeros_0f7a4_74 rfl ?_
            refine r_iload_n hg 0 dJ6_numberOfTrailingZeros_0f7a4_75 rfl ?_
            refine r_iconst hg 1 dJ6_numberOfTrailingZeros_0f7a4_76 (by decide) ?_
            refine r_iushr hg dJ6_numberOfTrailingZeros_0f7a4_77 ?_
            refine r_iadd hg dJ6_numberOfTrailingZeros_0f7a4_78 ?_
            exact r_iret hg dJ6_numberOfTrailingZeros_0f7a4_79 rfl rfl
        · refine r_iinc (lv' := [(1, .int (((1 + 16) + 8) + 4)), (0, .int u13)]) hg 1 (((1 + 16) + 8) + 4) dJ6_numberOfTrailingZeros_0f7a4_55 rfl rfl (by decide) rfl ?_
          refine r_iload_n hg 1 dJ6_numberOfTrailingZeros_0f7a4_58 rfl ?_
          refine r_iconst hg 4 dJ6_numberOfTrailingZeros_0f7a4_59 (by decide) ?_
          refine r_iushr hg dJ6_numberOfTrailingZeros_0f7a4_60 ?_
          refine q_name (fun u15 => ?_)
          refine r_istore_n (lv' := [(0, .int u15), (1, .int (((1 + 16) + 8) + 4))]) hg dJ6_numberOfTrailingZeros_0f7a4_61 (by decide) rfl ?_
          refine r_iload_n hg 0 dJ6_numberOfTrailingZeros_0f7a4_62 rfl ?_
          refine r_iconst hg 4 dJ6_numberOfTrailingZeros_0f7a4_63 (by decide) ?_
          refine r_icmp_le hg 74 dJ6_numberOfTrailingZeros_0f7a4_64 (by decide) ?_ ?_
          · refine r_iload_n hg 1 dJ6_numberOfTrailingZeros_0f7a4_74 rfl ?_
            refine r_iload_n hg 0 dJ6_numberOfTrailingZeros_0f7a4_75 rfl ?_
            refine r_iconst hg 1 dJ6_numberOfTrailingZeros_0f7a4_76 (by decide) ?_
            refine r_iushr hg dJ6_numberOfTrailingZeros_0f7a4_77 ?_
            refine r_iadd hg dJ6_numberOfTrailingZeros_0f7a4_78 ?_
            exact r_iret hg dJ6_numberOfTrailingZeros_0f7a4_79 rfl rfl
          · refine r_iinc (lv' := [(1, .int ((((1 + 16) + 8) + 4) + 2)), (0, .int u15)]) hg 1 ((((1 + 16) + 8) + 4) + 2) dJ6_numberOfTrailingZeros_0f7a4_67 rfl rfl (by decide) rfl ?_
            refine r_iload_n hg 1 dJ6_numberOfTrailingZeros_0f7a4_70 rfl ?_
            refine r_iconst hg 2 dJ6_numberOfTrailingZeros_0f7a4_71 (by decide) ?_
            refine r_iushr hg dJ6_numberOfTrailingZeros_0f7a4_72 ?_
            refine q_name (fun u16 => ?_)
            refine r_istore_n (lv' := [(0, .int u16), (1, .int ((((1 + 16) + 8) + 4) + 2))]) hg dJ6_numberOfTrailingZeros_0f7a4_73 (by decide) rfl ?_
            refine r_iload_n hg 1 dJ6_numberOfTrailingZeros_0f7a4_74 rfl ?_
            refine r_iload_n hg 0 dJ6_numberOfTrailingZeros_0f7a4_75 rfl ?_
            refine r_iconst hg 1 dJ6_numberOfTrailingZeros_0f7a4_76 (by decide) ?_
            refine r_iushr hg dJ6_numberOfTrailingZeros_0f7a4_77 ?_
            refine r_iadd hg dJ6_numberOfTrailingZeros_0f7a4_78 ?_
            exact r_iret hg dJ6_numberOfTrailingZeros_0f7a4_79 rfl rfl
  · refine r_iload_n hg 0 dJ6_numberOfTrailingZeros_0f7a4_12 rfl ?_
    refine r_bipush hg 32 dJ6_numberOfTrailingZeros_0f7a4_13 (by decide) ?_
    refine r_iand hg dJ6_numberOfTrailingZeros_0f7a4_15 ?_
    exact r_iret hg dJ6_numberOfTrailingZeros_0f7a4_16 rfl rfl
end RM1
