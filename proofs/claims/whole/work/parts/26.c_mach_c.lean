section CM2
variable {p : Program} {l : Launch} {e : Env} {d : Nat} {s : State} {m : MethodId} {args : Array Value} {below : List Frame} {meth : Method} {c : Code} {w : mW}
set_option maxHeartbeats 4000000 in
set_option maxRecDepth 100000 in
theorem vb_X5_reckon_39 {N : Nat} (hg : m_ok (p, l, e, d, s, m, args, below, meth, c) w shC cX5_reckon 7 RX5 none) (hdp : 3 ≤ d) {K39 : Int32 → Int32 → Int32 → Int32 → Mem → Option (Int32 × Mem)} (hK39 : ∀ (x1 x2 x3 x4 : Int32) (σ : Mem), Vj (p, l, e, d, s, m, args, below, meth, c) w shC 7 0 σ 39 [(0, .ref (w.2.1 19)), (1, m_rf w.2.1 x1), (2, .int x2), (3, .int x3), (4, .int x4)] [] (K39 x1 x2 x3 x4 σ)) (x1 x2 x3 x4 : Int32) (σ : Mem) : Vj (p, l, e, d, s, m, args, below, meth, c) w shC 7 0 σ 39 [(0, .ref (w.2.1 19)), (1, m_rf w.2.1 x1), (2, .int x2), (3, .int x3), (4, .int x4)] [] (b_X5_reckon_39 N K39 x1 x2 x3 x4 σ) := by
  unfold b_X5_reckon_39
  refine r_iload hg 4 dX5_reckon_39 rfl ?_
  refine r_iload_n hg 2 dX5_reckon_41 rfl ?_
  refine r_icmp_ge hg 151 dX5_reckon_42 (by decide) ?_ ?_
  · exact r_ret hg dX5_reckon_151 rfl rfl
  · refine r_aload_n hg 0 dX5_reckon_45 rfl ?_
    refine q_getr (j := 5) hg rfl rfl rfl (by decide) iX5 kf_RX5_19 rfl dX5_reckon_46 ?_
    refine r_iload hg 4 dX5_reckon_49 rfl ?_
    refine r_iaload (n := 12) hg rfl dX5_reckon_51 ?_
    refine r_iload_n hg 3 dX5_reckon_52 rfl ?_
    refine q_calls1 hg (e_X1_isIn N l w (σ 33 x4.toNatClampNeg) x3 σ) kk_RX5_81 kt_X1_isIn np_X1_isIn (Nat.le_trans (by decide) hdp) rfl m_c1_nil (Nat.le_of_ble_eq_true rfl) dX5_reckon_53 (fun r1 σ2 => ?_)
    refine r_if_eq hg 62 dX5_reckon_56 (by decide) ?_ ?_
    · refine r_aload_n hg 0 dX5_reckon_62 rfl ?_
      refine r_aload_n hg 0 dX5_reckon_63 rfl ?_
      refine q_getr (j := 5) hg rfl rfl rfl (by decide) iX5 kf_RX5_19 rfl dX5_reckon_64 ?_
      refine r_iload hg 4 dX5_reckon_67 rfl ?_
      refine r_iaload (n := 12) hg rfl dX5_reckon_69 ?_
      refine q_callv1 hg (e_X5_happeningOf N l w (σ2 33 x4.toNatClampNeg) σ2) kk_RX5_32 ki_X5_happeningOf ks_RX5_X5_happeningOf rfl rfl np_X5_happeningOf (Nat.le_trans (by decide) hdp) rfl m_c1_nil (Nat.le_of_ble_eq_true rfl) dX5_reckon_70 (fun r3 σ4 => ?_)
      refine r_istore (lv' := [(5, .int r3), (0, .ref (w.2.1 19)), (1, m_rf w.2.1 x1), (2, .int x2), (3, .int x3), (4, .int x4)]) hg dX5_reckon_73 (by decide) rfl ?_
      refine r_iload_n hg 4 dX5_reckon_75 rfl ?_
      refine r_iload hg 0 dX5_reckon_76 rfl ?_
      refine r_ior hg dX5_reckon_78 ?_
      refine q_name (fun u5 => ?_)
      refine r_istore_n (lv' := [(3, .int u5), (5, .int r3), (0, .ref (w.2.1 19)), (1, m_rf w.2.1 x1), (2, .int x2), (4, .int x4)]) hg dX5_reckon_79 (by decide) rfl ?_
      refine r_aload_n hg 2 dX5_reckon_80 rfl ?_
      refine r_dupr hg dX5_reckon_81 ?_
      refine q_geti (j := 1) hg rfl rfl rfl (by decide) iX5 kf_RX5_72 rfl dX5_reckon_82 ?_
      refine r_iconst hg 1 dX5_reckon_85 (by decide) ?_
      refine r_iadd hg dX5_reckon_86 ?_
      refine q_put (j := 1) hg rfl rfl rfl (by decide) iX5 kf_RX5_72 rfl tyX5_ok nmX5 rfl rfl dX5_reckon_87 (fun σ6 => ?_)
      refine r_aloadq_n hg 3 dX5_reckon_90 rfl ?_
      refine r_aload_n hg 2 dX5_reckon_91 rfl ?_
      refine q_getr (j := 4) hg rfl rfl rfl (by decide) iX5 kf_RX5_9 rfl dX5_reckon_92 ?_
      refine r_iload hg 1 dX5_reckon_95 rfl ?_
      refine q_callv1 hg (e_X1_sumOf N l w r3 σ6) kk_RX5_85 ki_X1_sumOf ks_RX1_X1_sumOf rfl rfl np_X1_sumOf (Nat.le_trans (by decide) hdp) rfl (m_c1_q m_c1_nil) (Nat.le_of_ble_eq_true rfl) dX5_reckon_97 (fun r7 σ8 => ?_)
      refine q_callq1 hg (e_X0_payFor N l w x1 r7 σ8) kk_RX5_88 ki_X0_payFor ks_RX0_X0_payFor shC_q2 np_X0_payFor (Nat.le_trans (by decide) hdp) rfl m_c1_nil (Nat.le_of_ble_eq_true rfl) dX5_reckon_100 (fun r9 σ10 => ?_)
      refine r_istore (lv' := [(6, .int r9), (3, .int u5), (5, .int r3), (0, .ref (w.2.1 19)), (1, m_rf w.2.1 x1), (2, .int x2), (4, .int x4)]) hg dX5_reckon_103 (by decide) rfl ?_
      refine r_iload hg 0 dX5_reckon_105 rfl ?_
      refine r_if_le hg 145 dX5_reckon_107 (by decide) ?_ ?_
      · refine r_iinc (lv' := [(4, .int (x4 + 1)), (6, .int r9), (3, .int u5), (5, .int r3), (0, .ref (w.2.1 19)), (1, m_rf w.2.1 x1), (2, .int x2)]) hg 6 (x4 + 1) dX5_reckon_145 rfl rfl (by decide) rfl ?_
        refine r_goto hg 39 dX5_reckon_148 (by decide) ?_
        refine r_lv [4, 5, 6, 2, 0] rfl ?_
        exact hK39 x1 x2 u5 (x4 + 1) σ10
      · refine r_aload_n hg 3 dX5_reckon_110 rfl ?_
        refine q_geti (j := 2) hg rfl rfl rfl (by decide) iX5 kf_RX5_75 rfl dX5_reckon_111 ?_
        refine r_aloadq_n hg 4 dX5_reckon_114 rfl ?_
        refine q_getq (b := 8) hg shC_q rfl (by decide) iX0 kf_RX5_51 rfl dX5_reckon_115 (fun h11 => ?_)
        refine r_bipush hg 7 dX5_reckon_118 (by decide) ?_
        refine r_iaload (n := 10) hg (shC_w h11) dX5_reckon_120 ?_
        refine r_icmp_ge hg 145 dX5_reckon_121 (by decide) ?_ ?_
        · refine r_iinc (lv' := [(4, .int (x4 + 1)), (6, .int r9), (3, .int u5), (5, .int r3), (0, .ref (w.2.1 19)), (1, m_rf w.2.1 x1), (2, .int x2)]) hg 6 (x4 + 1) dX5_reckon_145 rfl rfl (by decide) rfl ?_
          refine r_goto hg 39 dX5_reckon_148 (by decide) ?_
          refine r_lv [4, 5, 6, 2, 0] rfl ?_
          exact hK39 x1 x2 u5 (x4 + 1) σ10
        · refine r_aload_n hg 3 dX5_reckon_124 rfl ?_
          refine r_dupr hg dX5_reckon_125 ?_
          refine q_geti (j := 2) hg rfl rfl rfl (by decide) iX5 kf_RX5_75 rfl dX5_reckon_126 ?_
          refine r_iconst hg 1 dX5_reckon_129 (by decide) ?_
          refine r_iadd hg dX5_reckon_130 ?_
          refine q_put (j := 2) hg rfl rfl rfl (by decide) iX5 kf_RX5_75 rfl tyX5_ok nmX5 rfl rfl dX5_reckon_131 (fun σ12 => ?_)
          refine r_aload_n hg 3 dX5_reckon_134 rfl ?_
          refine r_dupr hg dX5_reckon_135 ?_
          refine q_geti (j := 3) hg rfl rfl rfl (by decide) iX5 kf_RX5_78 rfl dX5_reckon_136 ?_
          refine r_iload hg 0 dX5_reckon_139 rfl ?_
          refine r_iadd hg dX5_reckon_141 ?_
          refine q_put (j := 3) hg rfl rfl rfl (by decide) iX5 kf_RX5_78 rfl tyX5_ok nmX5 rfl rfl dX5_reckon_142 (fun σ13 => ?_)
          refine r_iinc (lv' := [(4, .int (x4 + 1)), (6, .int r9), (3, .int u5), (5, .int r3), (0, .ref (w.2.1 19)), (1, m_rf w.2.1 x1), (2, .int x2)]) hg 6 (x4 + 1) dX5_reckon_145 rfl rfl (by decide) rfl ?_
          refine r_goto hg 39 dX5_reckon_148 (by decide) ?_
          refine r_lv [4, 5, 6, 2, 0] rfl ?_
          exact hK39 x1 x2 u5 (x4 + 1) σ13
    · refine r_goto hg 145 dX5_reckon_59 (by decide) ?_
      refine r_iinc (lv' := [(4, .int (x4 + 1)), (0, .ref (w.2.1 19)), (1, m_rf w.2.1 x1), (2, .int x2), (3, .int x3)]) hg 4 (x4 + 1) dX5_reckon_145 rfl rfl (by decide) rfl ?_
      refine r_goto hg 39 dX5_reckon_148 (by decide) ?_
      refine r_lv [1, 2, 3, 4, 0] rfl ?_
      exact hK39 x1 x2 x3 (x4 + 1) σ2
set_option maxHeartbeats 4000000 in
set_option maxRecDepth 100000 in
theorem vl_X5_reckon_39 {N : Nat} (hg : m_ok (p, l, e, d, s, m, args, below, meth, c) w shC cX5_reckon 7 RX5 none) (hdp : 3 ≤ d) : ∀ (n : Nat) (x1 x2 x3 x4 : Int32) (σ : Mem), Vj (p, l, e, d, s, m, args, below, meth, c) w shC 7 0 σ 39 [(0, .ref (w.2.1 19)), (1, m_rf w.2.1 x1), (2, .int x2), (3, .int x3), (4, .int x4)] [] (l_X5_reckon_39 N n x1 x2 x3 x4 σ)
| 0, _, _, _, _, _ => Vj.none
| n + 1, x1, x2, x3, x4, σ => vb_X5_reckon_39 hg hdp (fun x1 x2 x3 x4 σ => vl_X5_reckon_39 hg hdp n x1 x2 x3 x4 σ) x1 x2 x3 x4 σ
set_option maxHeartbeats 4000000 in
set_option maxRecDepth 100000 in
theorem e_X5_reckon (N : Nat) (l : Launch) (w : mW) (v1 : Int32) (σ : Mem) : Ev l w shC yX5_reckon cX5_reckon 7 none 0 3 [.ref (w.2.1 19), m_rf w.2.1 v1] σ (f_X5_reckon N v1 σ) := by
  refine Ev.of (by decide) (m_c1_r (m_c1_q m_c1_nil)) (Nat.le_of_ble_eq_true rfl) (fun p e s m args below meth c hg => ?_)
  have hdp := Nat.le_refl 3
  unfold f_X5_reckon
  show Vj (p, l, e, 3, s, m, args, below, meth, c) w shC 7 0 σ 0 [(0, .ref (w.2.1 19)), (1, m_rf w.2.1 v1)] [] _
  refine r_aload_n hg 0 dX5_reckon_0 rfl ?_
  refine q_getr (j := 4) hg rfl rfl rfl (by decide) iX5 kf_RX5_9 rfl dX5_reckon_1 ?_
  refine r_aload_n hg 0 dX5_reckon_4 rfl ?_
  refine q_getr (j := 4) hg rfl rfl rfl (by decide) iX5 kf_RX5_9 rfl dX5_reckon_5 ?_
  refine q_callv1 hg (e_X1_all N l w σ) kk_RX5_64 ki_X1_all ks_RX1_X1_all rfl rfl np_X1_all (Nat.le_trans (by decide) hdp) rfl (m_c1_r m_c1_nil) (Nat.le_of_ble_eq_true rfl) dX5_reckon_8 (fun r1 σ2 => ?_)
  refine r_aload_n hg 0 dX5_reckon_11 rfl ?_
  refine q_getr (j := 5) hg rfl rfl rfl (by decide) iX5 kf_RX5_19 rfl dX5_reckon_12 ?_
  refine q_callv1 hg (e_X1_putInRow_33 N l w r1 σ2) kk_RX5_68 ki_X1_putInRow ks_RX1_X1_putInRow rfl rfl np_X1_putInRow (Nat.le_trans (by decide) hdp) rfl m_c1_nil (Nat.le_of_ble_eq_true rfl) dX5_reckon_15 (fun r3 σ4 => ?_)
  refine r_istore_n (lv' := [(2, .int r3), (0, .ref (w.2.1 19)), (1, m_rf w.2.1 v1)]) hg dX5_reckon_18 (by decide) rfl ?_
  refine r_iconst hg 0 dX5_reckon_19 (by decide) ?_
  refine r_istore_n (lv' := [(3, .int 0), (2, .int r3), (0, .ref (w.2.1 19)), (1, m_rf w.2.1 v1)]) hg dX5_reckon_20 (by decide) rfl ?_
  refine r_aload_n hg 2 dX5_reckon_21 rfl ?_
  refine r_iconst hg 0 dX5_reckon_22 (by decide) ?_
  refine q_put (j := 1) hg rfl rfl rfl (by decide) iX5 kf_RX5_72 rfl tyX5_ok nmX5 rfl rfl dX5_reckon_23 (fun σ5 => ?_)
  refine r_aload_n hg 2 dX5_reckon_26 rfl ?_
  refine r_iconst hg 0 dX5_reckon_27 (by decide) ?_
  refine q_put (j := 2) hg rfl rfl rfl (by decide) iX5 kf_RX5_75 rfl tyX5_ok nmX5 rfl rfl dX5_reckon_28 (fun σ6 => ?_)
  refine r_aload_n hg 2 dX5_reckon_31 rfl ?_
  refine r_iconst hg 0 dX5_reckon_32 (by decide) ?_
  refine q_put (j := 3) hg rfl rfl rfl (by decide) iX5 kf_RX5_78 rfl tyX5_ok nmX5 rfl rfl dX5_reckon_33 (fun σ7 => ?_)
  refine r_iconst hg 0 dX5_reckon_36 (by decide) ?_
  refine r_istore (lv' := [(4, .int 0), (3, .int 0), (2, .int r3), (0, .ref (w.2.1 19)), (1, m_rf w.2.1 v1)]) hg dX5_reckon_37 (by decide) rfl ?_
  refine r_lv [3, 4, 2, 1, 0] rfl ?_
  exact vl_X5_reckon_39 hg hdp N v1 r3 0 0 σ7
set_option maxHeartbeats 4000000 in
set_option maxRecDepth 100000 in
theorem e_X0_share (N : Nat) (l : Launch) (w : mW) (v0 : Int32) (σ : Mem) : Ev l w shC yX0_share cX0_share 1 (some .int) 1 0 [m_rf w.2.1 v0] σ (f_X0_share N v0 σ) := by
  refine Ev.of (by decide) (m_c1_q m_c1_nil) (Nat.le_of_ble_eq_true rfl) (fun p e s m args below meth c hg => ?_)
  have hdp := Nat.le_refl 0
  unfold f_X0_share
  show Vj (p, l, e, 0, s, m, args, below, meth, c) w shC 1 1 σ 0 [(0, m_rf w.2.1 v0)] [] _
  refine r_bipush hg 100 dX0_share_0 (by decide) ?_
  refine r_aloadq_n hg 0 dX0_share_2 rfl ?_
  refine q_getq (b := 8) hg shC_q rfl (by decide) iX0 kf_RX0_9 rfl dX0_share_3 (fun h1 => ?_)
  refine r_bipush hg 8 dX0_share_6 (by decide) ?_
  refine r_iaload (n := 10) hg (shC_w h1) dX0_share_8 ?_
  refine r_isub hg dX0_share_9 ?_
  exact r_iret hg dX0_share_10 rfl rfl
set_option maxHeartbeats 4000000 in
set_option maxRecDepth 100000 in
theorem e_X0_bringFor (N : Nat) (l : Launch) (w : mW) (v0 v1 : Int32) (σ : Mem) : Ev l w shC yX0_bringFor cX0_bringFor 2 (some .int) 1 1 [m_rf w.2.1 v0, .int v1] σ (f_X0_bringFor N v0 v1 σ) := by
  refine Ev.of (by decide) (m_c1_q (m_c1_i m_c1_nil)) (Nat.le_of_ble_eq_true rfl) (fun p e s m args below meth c hg => ?_)
  have hdp := Nat.le_refl 1
  unfold f_X0_bringFor
  show Vj (p, l, e, 1, s, m, args, below, meth, c) w shC 2 1 σ 0 [(0, m_rf w.2.1 v0), (1, .int v1)] [] _
  refine r_iload_n hg 1 dX0_bringFor_0 rfl ?_
  refine r_aloadq_n hg 0 dX0_bringFor_1 rfl ?_
  refine q_callq1 hg (e_X0_share N l w v0 σ) kk_RX0_42 ki_X0_share ks_RX0_X0_share shC_q2 np_X0_share (Nat.le_trans (by decide) hdp) rfl (m_c1_i m_c1_nil) (Nat.le_of_ble_eq_true rfl) dX0_bringFor_2 (fun r1 σ2 => ?_)
  refine r_imul hg dX0_bringFor_5 ?_
  exact r_iret hg dX0_bringFor_6 rfl rfl
set_option maxHeartbeats 4000000 in
set_option maxRecDepth 100000 in
theorem vj_X0_netOf_16 {N : Nat} (hg : m_ok (p, l, e, d, s, m, args, below, meth, c) w shC cX0_netOf 5 RX0 (some .int)) (hdp : 1 ≤ d) (x0 x1 y0 : Int32) (σ : Mem) : Vj (p, l, e, d, s, m, args, below, meth, c) w shC 5 1 σ 16 [(0, m_rf w.2.1 x0), (1, .int x1)] [.int y0] (j_X0_netOf_16 N x0 x1 y0 σ) := by
  unfold j_X0_netOf_16
  refine r_istore_n (lv' := [(3, .int y0), (0, m_rf w.2.1 x0), (1, .int x1)]) hg dX0_netOf_16 (by decide) rfl ?_
  refine r_iload_n hg 0 dX0_netOf_17 rfl ?_
  refine r_aloadq_n hg 1 dX0_netOf_18 rfl ?_
  refine q_getq (b := 8) hg shC_q rfl (by decide) iX0 kf_RX0_9 rfl dX0_netOf_19 (fun h1 => ?_)
  refine r_bipush hg 6 dX0_netOf_22 (by decide) ?_
  refine r_iaload (n := 10) hg (shC_w h1) dX0_netOf_24 ?_
  refine r_aloadq_n hg 1 dX0_netOf_25 rfl ?_
  refine q_getq (b := 8) hg shC_q rfl (by decide) iX0 kf_RX0_9 rfl dX0_netOf_26 (fun h2 => ?_)
  refine r_bipush hg 7 dX0_netOf_29 (by decide) ?_
  refine r_iaload (n := 10) hg (shC_w h2) dX0_netOf_31 ?_
  refine r_iconst hg 1 dX0_netOf_32 (by decide) ?_
  refine r_isub hg dX0_netOf_33 ?_
  refine r_imul hg dX0_netOf_34 ?_
  refine r_min hg km_RX0_46 kt_J9_min_7cf53 kz_RJ9 kc_J9_min_7cf53 (Nat.le_trans (by decide) hdp) m_c1_nil (Nat.le_of_ble_eq_true rfl) dX0_netOf_35 ?_
  refine q_name (fun u3 => ?_)
  refine r_istore (lv' := [(4, .int u3), (3, .int y0), (0, m_rf w.2.1 x0), (1, .int x1)]) hg dX0_netOf_38 (by decide) rfl ?_
  refine r_iload_n hg 3 dX0_netOf_40 rfl ?_
  refine r_aloadq_n hg 2 dX0_netOf_41 rfl ?_
  refine q_getq (b := 8) hg shC_q rfl (by decide) iX0 kf_RX0_9 rfl dX0_netOf_42 (fun h4 => ?_)
  refine r_bipush hg 6 dX0_netOf_45 (by decide) ?_
  refine r_iaload (n := 10) hg (shC_w h4) dX0_netOf_47 ?_
  refine r_imul hg dX0_netOf_48 ?_
  refine r_bipush hg 100 dX0_netOf_49 (by decide) ?_
  refine r_aloadq_n hg 2 dX0_netOf_51 rfl ?_
  refine q_getq (b := 8) hg shC_q rfl (by decide) iX0 kf_RX0_9 rfl dX0_netOf_52 (fun h5 => ?_)
  refine r_bipush hg 9 dX0_netOf_55 (by decide) ?_
  refine r_iaload (n := 10) hg (shC_w h5) dX0_netOf_57 ?_
  refine r_imul hg dX0_netOf_58 ?_
  refine r_iload hg 0 dX0_netOf_59 rfl ?_
  refine r_imul hg dX0_netOf_61 ?_
  refine r_isub hg dX0_netOf_62 ?_
  exact r_iret hg dX0_netOf_63 rfl rfl
set_option maxHeartbeats 4000000 in
set_option maxRecDepth 100000 in
theorem e_X0_netOf (N : Nat) (l : Launch) (w : mW) (v0 v1 : Int32) (σ : Mem) : Ev l w shC yX0_netOf cX0_netOf 5 (some .int) 1 1 [m_rf w.2.1 v0, .int v1] σ (f_X0_netOf N v0 v1 σ) := by
  refine Ev.of (by decide) (m_c1_q (m_c1_i m_c1_nil)) (Nat.le_of_ble_eq_true rfl) (fun p e s m args below meth c hg => ?_)
  have hdp := Nat.le_refl 1
  unfold f_X0_netOf
  show Vj (p, l, e, 1, s, m, args, below, meth, c) w shC 5 1 σ 0 [(0, m_rf w.2.1 v0), (1, .int v1)] [] _
  refine r_aloadq_n hg 0 dX0_netOf_0 rfl ?_
  refine q_callq1 hg (e_X0_share N l w v0 σ) kk_RX0_42 ki_X0_share ks_RX0_X0_share shC_q2 np_X0_share (Nat.le_trans (by decide) hdp) rfl m_c1_nil (Nat.le_of_ble_eq_true rfl) dX0_netOf_1 (fun r1 σ2 => ?_)
  refine r_istore_n (lv' := [(2, .int r1), (0, m_rf w.2.1 v0), (1, .int v1)]) hg dX0_netOf_4 (by decide) rfl ?_
  refine r_iload_n hg 0 dX0_netOf_5 rfl ?_
  refine r_if_le hg 15 dX0_netOf_6 (by decide) ?_ ?_
  · refine r_iconst hg 0 dX0_netOf_15 (by decide) ?_
    refine r_lv [1, 2] rfl ?_
    exact vj_X0_netOf_16 hg hdp v0 v1 0 σ2
  · refine r_iload_n hg 2 dX0_netOf_9 rfl ?_
    refine r_iload_n hg 0 dX0_netOf_10 rfl ?_
    refine r_idiv hg dX0_netOf_11 ?_
    refine r_goto hg 16 dX0_netOf_12 (by decide) ?_
    refine r_lv [1, 2] rfl ?_
    exact vj_X0_netOf_16 hg hdp v0 v1 (v1 / r1) σ2
set_option maxHeartbeats 4000000 in
set_option maxRecDepth 100000 in
theorem e_X6_brings (N : Nat) (l : Launch) (w : mW) (v1 v2 : Int32) (σ : Mem) : Ev l w shC yX6_brings cX6_brings 5 (some .int) 1 5 [.ref (w.2.1 16), .int v1, .int v2] σ (f_X6_brings N v1 v2 σ) := by
  refine Ev.of (by decide) (m_c1_r (m_c1_i (m_c1_i m_c1_nil))) (Nat.le_of_ble_eq_true rfl) (fun p e s m args below meth c hg => ?_)
  have hdp := Nat.le_refl 5
  unfold f_X6_brings
  show Vj (p, l, e, 5, s, m, args, below, meth, c) w shC 5 1 σ 0 [(0, .ref (w.2.1 16)), (1, .int v1), (2, .int v2)] [] _
  refine r_aload_n hg 0 dX6_brings_0 rfl ?_
  refine r_iload_n hg 1 dX6_brings_1 rfl ?_
  refine q_callv2 hg (e_X6_coverAt N l w v1 σ) kk_RX6_83 ki_X6_coverAt ks_RX6_X6_coverAt rfl rfl np_X6_coverAt (Nat.le_trans (by decide) hdp) rfl m_c1_nil (Nat.le_of_ble_eq_true rfl) dX6_brings_2 (fun r1 σ2 => ?_)
  refine r_astoreq_n (lv' := [(3, m_rf w.2.1 r1), (0, .ref (w.2.1 16)), (1, .int v1), (2, .int v2)]) hg dX6_brings_5 (by decide) rfl ?_
  refine r_aloadq_n hg 0 dX6_brings_6 rfl ?_
  refine r_ifnull hg 31 dX6_brings_7 (by decide) ?_ ?_
  · refine r_ldc hg kv_RX6_141 dX6_brings_31 ?_
    exact r_iret hg dX6_brings_33 rfl rfl
  · refine r_iload_n hg 3 dX6_brings_10 rfl ?_
    refine r_iconst hg 0 dX6_brings_11 (by decide) ?_
    refine r_iconst hg 3 dX6_brings_12 (by decide) ?_
    refine q_calls1 hg (e_X6_isWithin N l w v2 0 3 σ2) kk_RX6_87 kt_X6_isWithin np_X6_isWithin (Nat.le_trans (by decide) hdp) rfl m_c1_nil (Nat.le_of_ble_eq_true rfl) dX6_brings_13 (fun r3 σ4 => ?_)
    refine r_if_eq hg 31 dX6_brings_16 (by decide) ?_ ?_
    · refine r_ldc hg kv_RX6_141 dX6_brings_31 ?_
      exact r_iret hg dX6_brings_33 rfl rfl
    · refine r_aload_n hg 1 dX6_brings_19 rfl ?_
      refine q_getr (j := 4) hg rfl rfl rfl (by decide) iX6 kf_RX6_39 rfl dX6_brings_20 ?_
      refine r_aloadq_n hg 0 dX6_brings_23 rfl ?_
      refine q_callv1 hg (e_X5_firstBar N l w r1 σ4) kk_RX6_138 ki_X5_firstBar ks_RX5_X5_firstBar rfl rfl np_X5_firstBar (Nat.le_trans (by decide) hdp) rfl m_c1_nil (Nat.le_of_ble_eq_true rfl) dX6_brings_24 (fun r5 σ6 => ?_)
      refine r_iconst hg (-1) dX6_brings_27 (by decide) ?_
      refine r_icmp_eq hg 34 dX6_brings_28 (by decide) ?_ ?_
      · refine r_aload_n hg 1 dX6_brings_34 rfl ?_
        refine q_getr (j := 4) hg rfl rfl rfl (by decide) iX6 kf_RX6_39 rfl dX6_brings_35 ?_
        refine r_aloadq_n hg 0 dX6_brings_38 rfl ?_
        refine q_callv0 hg (e_X5_reckon N l w r1 σ6) kk_RX6_142 ki_X5_reckon ks_RX5_X5_reckon rfl rfl np_X5_reckon (Nat.le_trans (by decide) hdp) rfl m_c1_nil (Nat.le_of_ble_eq_true rfl) dX6_brings_39 (fun r7 σ8 => ?_)
        refine r_iload_n hg 3 dX6_brings_42 rfl ?_
        refine r_iconst hg 2 dX6_brings_43 (by decide) ?_
        refine r_icmp_ne hg 55 dX6_brings_44 (by decide) ?_ ?_
        · refine r_iload_n hg 3 dX6_brings_55 rfl ?_
          refine r_iconst hg 3 dX6_brings_56 (by decide) ?_
          refine r_icmp_ne hg 68 dX6_brings_57 (by decide) ?_ ?_
          · refine r_aloadq_n hg 0 dX6_brings_68 rfl ?_
            refine r_aload_n hg 1 dX6_brings_69 rfl ?_
            refine q_getr (j := 4) hg rfl rfl rfl (by decide) iX6 kf_RX6_39 rfl dX6_brings_70 ?_
            refine q_geti (j := 3) hg rfl rfl rfl (by decide) iX5 kf_RX6_151 rfl dX6_brings_73 ?_
            refine q_callq1 hg (e_X0_bringFor N l w r1 (σ8 19 3) σ8) kk_RX6_154 ki_X0_bringFor ks_RX0_X0_bringFor shC_q2 np_X0_bringFor (Nat.le_trans (by decide) hdp) rfl m_c1_nil (Nat.le_of_ble_eq_true rfl) dX6_brings_76 (fun r9 σ10 => ?_)
            refine r_istore (lv' := [(4, .int r9), (3, m_rf w.2.1 r1), (0, .ref (w.2.1 16)), (1, .int v1), (2, .int v2)]) hg dX6_brings_79 (by decide) rfl ?_
            refine r_iload_n hg 4 dX6_brings_81 rfl ?_
            refine r_if_ne hg 90 dX6_brings_82 (by decide) ?_ ?_
            · refine r_aloadq_n hg 1 dX6_brings_90 rfl ?_
              refine r_iload hg 0 dX6_brings_91 rfl ?_
              refine q_callq1 hg (e_X0_netOf N l w r1 r9 σ10) kk_RX6_157 ki_X0_netOf ks_RX0_X0_netOf shC_q2 np_X0_netOf (Nat.le_trans (by decide) hdp) rfl m_c1_nil (Nat.le_of_ble_eq_true rfl) dX6_brings_93 (fun r11 σ12 => ?_)
              exact r_iret hg dX6_brings_96 rfl rfl
            · refine r_iload hg 0 dX6_brings_85 rfl ?_
              refine r_goto hg 96 dX6_brings_87 (by decide) ?_
              exact r_iret hg dX6_brings_96 rfl rfl
          · refine r_aload_n hg 1 dX6_brings_60 rfl ?_
            refine q_getr (j := 4) hg rfl rfl rfl (by decide) iX6 kf_RX6_39 rfl dX6_brings_61 ?_
            refine q_geti (j := 2) hg rfl rfl rfl (by decide) iX5 kf_RX6_148 rfl dX6_brings_64 ?_
            exact r_iret hg dX6_brings_67 rfl rfl
        · refine r_aload_n hg 1 dX6_brings_47 rfl ?_
          refine q_getr (j := 4) hg rfl rfl rfl (by decide) iX6 kf_RX6_39 rfl dX6_brings_48 ?_
          refine q_geti (j := 1) hg rfl rfl rfl (by decide) iX5 kf_RX6_145 rfl dX6_brings_51 ?_
          exact r_iret hg dX6_brings_54 rfl rfl
      · refine r_ldc hg kv_RX6_141 dX6_brings_31 ?_
        exact r_iret hg dX6_brings_33 rfl rfl
set_option maxHeartbeats 4000000 in
set_option maxRecDepth 100000 in
theorem e_X6_year (N : Nat) (l : Launch) (w : mW) (v1 v2 v3 : Int32) (σ : Mem) : Ev l w shC yX6_year cX6_year 6 (some .int) 1 3 [.ref (w.2.1 16), .int v1, .int v2, .int v3] σ (f_X6_year N v1 v2 v3 σ) := by
  refine Ev.of (by decide) (m_c1_r (m_c1_i (m_c1_i (m_c1_i m_c1_nil)))) (Nat.le_of_ble_eq_true rfl) (fun p e s m args below meth c hg => ?_)
  have hdp := Nat.le_refl 3
  unfold f_X6_year
  show Vj (p, l, e, 3, s, m, args, below, meth, c) w shC 6 1 σ 0 [(0, .ref (w.2.1 16)), (1, .int v1), (2, .int v2), (3, .int v3)] [] _
  refine r_aload_n hg 0 dX6_year_0 rfl ?_
  refine q_getr (j := 3) hg rfl rfl rfl (by decide) iX6 kf_RX6_30 rfl dX6_year_1 ?_
  refine r_iload_n hg 1 dX6_year_4 rfl ?_
  refine q_callv1 hg (e_X1_has N l w v1 σ) kk_RX6_132 ki_X1_has ks_RX1_X1_has rfl rfl np_X1_has (Nat.le_trans (by decide) hdp) rfl m_c1_nil (Nat.le_of_ble_eq_true rfl) dX6_year_5 (fun r1 σ2 => ?_)
  refine r_if_eq hg 22 dX6_year_8 (by decide) ?_ ?_
  · refine r_iconst hg (-1) dX6_year_22 (by decide) ?_
    exact r_iret hg dX6_year_23 rfl rfl
  · refine r_iload_n hg 2 dX6_year_11 rfl ?_
    refine r_iconst hg 0 dX6_year_12 (by decide) ?_
    refine r_sipush hg 999 dX6_year_13 (by decide) ?_
    refine q_calls1 hg (e_X6_isWithin N l w v2 0 999 σ2) kk_RX6_87 kt_X6_isWithin np_X6_isWithin (Nat.le_trans (by decide) hdp) rfl m_c1_nil (Nat.le_of_ble_eq_true rfl) dX6_year_16 (fun r3 σ4 => ?_)
    refine r_if_ne hg 24 dX6_year_19 (by decide) ?_ ?_
    · refine r_aload_n hg 0 dX6_year_24 rfl ?_
      refine q_getr (j := 4) hg rfl rfl rfl (by decide) iX6 kf_RX6_39 rfl dX6_year_25 ?_
      refine r_iload_n hg 1 dX6_year_28 rfl ?_
      refine q_callv1 hg (e_X5_happeningOf N l w v1 σ4) kk_RX6_160 ki_X5_happeningOf ks_RX5_X5_happeningOf rfl rfl np_X5_happeningOf (Nat.le_trans (by decide) hdp) rfl m_c1_nil (Nat.le_of_ble_eq_true rfl) dX6_year_29 (fun r5 σ6 => ?_)
      refine r_istore (lv' := [(4, .int r5), (0, .ref (w.2.1 16)), (1, .int v1), (2, .int v2), (3, .int v3)]) hg dX6_year_32 (by decide) rfl ?_
      refine r_iload_n hg 4 dX6_year_34 rfl ?_
      refine r_if_ne hg 57 dX6_year_35 (by decide) ?_ ?_
      · refine r_aload_n hg 1 dX6_year_57 rfl ?_
        refine q_getr (j := 3) hg rfl rfl rfl (by decide) iX6 kf_RX6_30 rfl dX6_year_58 ?_
        refine r_iload hg 0 dX6_year_61 rfl ?_
        refine r_iload_n hg 3 dX6_year_63 rfl ?_
        refine q_callv1 hg (e_X1_sumBefore N l w r5 v2 σ6) kk_RX6_166 ki_X1_sumBefore ks_RX1_X1_sumBefore rfl rfl np_X1_sumBefore (Nat.le_trans (by decide) hdp) rfl m_c1_nil (Nat.le_of_ble_eq_true rfl) dX6_year_64 (fun r7 σ8 => ?_)
        refine r_istore (lv' := [(5, .int r7), (4, .int r5), (0, .ref (w.2.1 16)), (1, .int v1), (2, .int v2), (3, .int v3)]) hg dX6_year_67 (by decide) rfl ?_
        refine r_iload hg 0 dX6_year_69 rfl ?_
        refine r_aload_n hg 2 dX6_year_71 rfl ?_
        refine q_getr (j := 3) hg rfl rfl rfl (by decide) iX6 kf_RX6_30 rfl dX6_year_72 ?_
        refine r_iload hg 1 dX6_year_75 rfl ?_
        refine q_callv1 hg (e_X1_sumOf N l w r5 σ8) kk_RX6_126 ki_X1_sumOf ks_RX1_X1_sumOf rfl rfl np_X1_sumOf (Nat.le_trans (by decide) hdp) rfl (m_c1_i m_c1_nil) (Nat.le_of_ble_eq_true rfl) dX6_year_77 (fun r9 σ10 => ?_)
        refine r_iload hg 0 dX6_year_80 rfl ?_
        refine r_isub hg dX6_year_82 ?_
        refine r_icmp_lt hg 90 dX6_year_83 (by decide) ?_ ?_
        · refine r_iconst hg 1 dX6_year_90 (by decide) ?_
          exact r_iret hg dX6_year_91 rfl rfl
        · refine r_iconst hg 0 dX6_year_86 (by decide) ?_
          refine r_goto hg 91 dX6_year_87 (by decide) ?_
          exact r_iret hg dX6_year_91 rfl rfl
      · refine r_aload_n hg 1 dX6_year_38 rfl ?_
        refine q_getr (j := 3) hg rfl rfl rfl (by decide) iX6 kf_RX6_30 rfl dX6_year_39 ?_
        refine r_iload hg 0 dX6_year_42 rfl ?_
        refine q_callv1 hg (e_X1_leastHourOf N l w r5 σ6) kk_RX6_163 ki_X1_leastHourOf ks_RX1_X1_leastHourOf rfl rfl np_X1_leastHourOf (Nat.le_trans (by decide) hdp) rfl m_c1_nil (Nat.le_of_ble_eq_true rfl) dX6_year_44 (fun r11 σ12 => ?_)
        refine r_iload_n hg 3 dX6_year_47 rfl ?_
        refine r_icmp_ge hg 55 dX6_year_48 (by decide) ?_ ?_
        · refine r_iconst hg 1 dX6_year_55 (by decide) ?_
          exact r_iret hg dX6_year_56 rfl rfl
        · refine r_iconst hg 0 dX6_year_51 (by decide) ?_
          refine r_goto hg 56 dX6_year_52 (by decide) ?_
          exact r_iret hg dX6_year_56 rfl rfl
    · refine r_iconst hg (-1) dX6_year_22 (by decide) ?_
      exact r_iret hg dX6_year_23 rfl rfl
set_option maxHeartbeats 4000000 in
set_option maxRecDepth 100000 in
theorem e_X2_clear (N : Nat) (l : Launch) (w : mW) (σ : Mem) : Ev l w shC yX2_clear cX2_clear 1 none 0 0 [.ref (w.2.1 21)] σ (f_X2_clear N σ) := by
  refine Ev.of (by decide) (m_c1_r m_c1_nil) (Nat.le_of_ble_eq_true rfl) (fun p e s m args below meth c hg => ?_)
  have hdp := Nat.le_refl 0
  unfold f_X2_clear
  show Vj (p, l, e, 0, s, m, args, below, meth, c) w shC 1 0 σ 0 [(0, .ref (w.2.1 21))] [] _
  refine r_aload_n hg 0 dX2_clear_0 rfl ?_
  refine r_iconst hg 0 dX2_clear_1 (by decide) ?_
  refine q_put (j := 5) hg rfl rfl rfl (by decide) iX2 kf_RX2_32 rfl tyX2_ok nmX2 rfl rfl dX2_clear_2 (fun σ1 => ?_)
  exact r_ret hg dX2_clear_5 rfl rfl
set_option maxHeartbeats 4000000 in
set_option maxRecDepth 100000 in
theorem e_X3_startJoining (N : Nat) (l : Launch) (w : mW) (σ : Mem) : Ev l w shC yX3_startJoining cX3_startJoining 1 none 0 1 [.ref (w.2.1 20)] σ (f_X3_startJoining N σ) := by
  refine Ev.of (by decide) (m_c1_r m_c1_nil) (Nat.le_of_ble_eq_true rfl) (fun p e s m args below meth c hg => ?_)
  have hdp := Nat.le_refl 1
  unfold f_X3_startJoining
  show Vj (p, l, e, 1, s, m, args, below, meth, c) w shC 1 0 σ 0 [(0, .ref (w.2.1 20))] [] _
  refine r_aload_n hg 0 dX3_startJoining_0 rfl ?_
  refine q_getr (j := 7) hg rfl rfl rfl (by decide) iX3 kf_RX3_25 rfl dX3_startJoining_1 ?_
  refine q_callv0 hg (e_X2_clear N l w σ) kk_RX3_63 ki_X2_clear ks_RX2_X2_clear rfl rfl np_X2_clear (Nat.le_trans (by decide) hdp) rfl m_c1_nil (Nat.le_of_ble_eq_true rfl) dX3_startJoining_4 (fun r1 σ2 => ?_)
  exact r_ret hg dX3_startJoining_7 rfl rfl
set_option maxHeartbeats 4000000 in
set_option maxRecDepth 100000 in
theorem e_X2_isEmpty (N : Nat) (l : Launch) (w : mW) (σ : Mem) : Ev l w shC yX2_isEmpty cX2_isEmpty 1 (some .boolean) 1 0 [.ref (w.2.1 21)] σ (f_X2_isEmpty N σ) := by
  refine Ev.of (by decide) (m_c1_r m_c1_nil) (Nat.le_of_ble_eq_true rfl) (fun p e s m args below meth c hg => ?_)
  have hdp := Nat.le_refl 0
  unfold f_X2_isEmpty
  show Vj (p, l, e, 0, s, m, args, below, meth, c) w shC 1 1 σ 0 [(0, .ref (w.2.1 21))] [] _
  refine r_aload_n hg 0 dX2_isEmpty_0 rfl ?_
  refine q_geti (j := 5) hg rfl rfl rfl (by decide) iX2 kf_RX2_32 rfl dX2_isEmpty_1 ?_
  refine r_if_ne hg 11 dX2_isEmpty_4 (by decide) ?_ ?_
  · refine r_iconst hg 0 dX2_isEmpty_11 (by decide) ?_
    exact r_zret hg dX2_isEmpty_12 rfl rfl
  · refine r_iconst hg 1 dX2_isEmpty_7 (by decide) ?_
    refine r_goto hg 12 dX2_isEmpty_8 (by decide) ?_
    exact r_zret hg dX2_isEmpty_12 rfl rfl
set_option maxHeartbeats 4000000 in
set_option maxRecDepth 100000 in
theorem vj_X0_narrowBy_121 {N : Nat} (hg : m_ok (p, l, e, d, s, m, args, below, meth, c) w shC cX0_narrowBy 7 RX0 none) (hdp : 1 ≤ d) (x0 x1 x2 x3 x4 : Int32) (σ : Mem) : Vj (p, l, e, d, s, m, args, below, meth, c) w shC 7 0 σ 121 [(0, m_rf w.2.1 x0), (1, m_rf w.2.1 x1), (2, .int x2), (3, .int x3), (4, .int x4)] [] (j_X0_narrowBy_121 N x0 x1 x2 x3 x4 σ) := by
  unfold j_X0_narrowBy_121
  refine r_aloadq_n hg 0 dX0_narrowBy_121 rfl ?_
  refine q_getq (b := 8) hg shC_q rfl (by decide) iX0 kf_RX0_9 rfl dX0_narrowBy_122 (fun h1 => ?_)
  refine r_iconst hg 2 dX0_narrowBy_125 (by decide) ?_
  refine r_aloadq_n hg 0 dX0_narrowBy_126 rfl ?_
  refine q_getq (b := 8) hg shC_q rfl (by decide) iX0 kf_RX0_9 rfl dX0_narrowBy_127 (fun h2 => ?_)
  refine r_iconst hg 2 dX0_narrowBy_130 (by decide) ?_
  refine r_iaload (n := 10) hg (shC_w h2) dX0_narrowBy_131 ?_
  refine r_aloadq_n hg 1 dX0_narrowBy_132 rfl ?_
  refine q_getq (b := 8) hg shC_q rfl (by decide) iX0 kf_RX0_9 rfl dX0_narrowBy_133 (fun h3 => ?_)
  refine r_iconst hg 2 dX0_narrowBy_136 (by decide) ?_
  refine r_iaload (n := 10) hg (shC_w h3) dX0_narrowBy_137 ?_
  refine r_max hg km_RX0_56 kt_J9_max_7cf53 kz_RJ9 kc_J9_max_7cf53 (Nat.le_trans (by decide) hdp) (m_c1_i (m_c1_r m_c1_nil)) (Nat.le_of_ble_eq_true rfl) dX0_narrowBy_138 ?_
  refine q_iastore (n := 10) hg (shC_w h1) dX0_narrowBy_141 (fun σ4 => ?_)
  refine r_aloadq_n hg 0 dX0_narrowBy_142 rfl ?_
  refine q_getq (b := 8) hg shC_q rfl (by decide) iX0 kf_RX0_9 rfl dX0_narrowBy_143 (fun h5 => ?_)
  refine r_iconst hg 3 dX0_narrowBy_146 (by decide) ?_
  refine r_iload_n hg 2 dX0_narrowBy_147 rfl ?_
  refine r_if_eq hg 155 dX0_narrowBy_148 (by decide) ?_ ?_
  · refine r_iconst hg 0 dX0_narrowBy_155 (by decide) ?_
    refine q_iastore (n := 10) hg (shC_w h5) dX0_narrowBy_156 (fun σ6 => ?_)
    refine r_aloadq_n hg 0 dX0_narrowBy_157 rfl ?_
    refine q_getq (b := 8) hg shC_q rfl (by decide) iX0 kf_RX0_9 rfl dX0_narrowBy_158 (fun h7 => ?_)
    refine r_iconst hg 4 dX0_narrowBy_161 (by decide) ?_
    refine r_iload_n hg 3 dX0_narrowBy_162 rfl ?_
    refine r_iload hg 4 dX0_narrowBy_163 rfl ?_
    refine r_max hg km_RX0_56 kt_J9_max_7cf53 kz_RJ9 kc_J9_max_7cf53 (Nat.le_trans (by decide) hdp) (m_c1_i (m_c1_r m_c1_nil)) (Nat.le_of_ble_eq_true rfl) dX0_narrowBy_165 ?_
    refine q_iastore (n := 10) hg (shC_w h7) dX0_narrowBy_168 (fun σ8 => ?_)
    exact r_ret hg dX0_narrowBy_169 rfl rfl
  · refine r_iconst hg 1 dX0_narrowBy_151 (by decide) ?_
    refine r_goto hg 156 dX0_narrowBy_152 (by decide) ?_
    refine q_iastore (n := 10) hg (shC_w h5) dX0_narrowBy_156 (fun σ9 => ?_)
    refine r_aloadq_n hg 0 dX0_narrowBy_157 rfl ?_
    refine q_getq (b := 8) hg shC_q rfl (by decide) iX0 kf_RX0_9 rfl dX0_narrowBy_158 (fun h10 => ?_)
    refine r_iconst hg 4 dX0_narrowBy_161 (by decide) ?_
    refine r_iload_n hg 3 dX0_narrowBy_162 rfl ?_
    refine r_iload hg 4 dX0_narrowBy_163 rfl ?_
    refine r_max hg km_RX0_56 kt_J9_max_7cf53 kz_RJ9 kc_J9_max_7cf53 (Nat.le_trans (by decide) hdp) (m_c1_i (m_c1_r m_c1_nil)) (Nat.le_of_ble_eq_true rfl) dX0_narrowBy_165 ?_
    refine q_iastore (n := 10) hg (shC_w h10) dX0_narrowBy_168 (fun σ11 => ?_)
    exact r_ret hg dX0_narrowBy_169 rfl rfl
set_option maxHeartbeats 4000000 in
set_option maxRecDepth 100000 in
theorem vj_X0_narrowBy_113 {N : Nat} (hg : m_ok (p, l, e, d, s, m, args, below, meth, c) w shC cX0_narrowBy 7 RX0 none) (hdp : 1 ≤ d) (x0 x1 x2 x3 x4 x6 : Int32) (σ : Mem) : Vj (p, l, e, d, s, m, args, below, meth, c) w shC 7 0 σ 113 [(0, m_rf w.2.1 x0), (1, m_rf w.2.1 x1), (2, .int x2), (3, .int x3), (4, .int x4), (6, .int x6)] [] (j_X0_narrowBy_113 N x0 x1 x2 x3 x4 x6 σ) := by
  unfold j_X0_narrowBy_113
  refine r_aloadq_n hg 0 dX0_narrowBy_113 rfl ?_
  refine q_getq (b := 8) hg shC_q rfl (by decide) iX0 kf_RX0_9 rfl dX0_narrowBy_114 (fun h1 => ?_)
  refine r_iconst hg 1 dX0_narrowBy_117 (by decide) ?_
  refine r_iload hg 5 dX0_narrowBy_118 rfl ?_
  refine q_iastore (n := 10) hg (shC_w h1) dX0_narrowBy_120 (fun σ2 => ?_)
  refine r_lv [0, 1, 2, 3, 4] rfl ?_
  exact vj_X0_narrowBy_121 hg hdp x0 x1 x2 x3 x4 σ2
set_option maxHeartbeats 4000000 in
set_option maxRecDepth 100000 in
theorem vj_X0_narrowBy_55 {N : Nat} (hg : m_ok (p, l, e, d, s, m, args, below, meth, c) w shC cX0_narrowBy 7 RX0 none) (hdp : 1 ≤ d) (x0 x1 x2 x3 y0 : Int32) (σ : Mem) : Vj (p, l, e, d, s, m, args, below, meth, c) w shC 7 0 σ 55 [(0, m_rf w.2.1 x0), (1, m_rf w.2.1 x1), (2, .int x2), (3, .int x3)] [.int y0] (j_X0_narrowBy_55 N x0 x1 x2 x3 y0 σ) := by
  unfold j_X0_narrowBy_55
  refine r_istore (lv' := [(4, .int y0), (0, m_rf w.2.1 x0), (1, m_rf w.2.1 x1), (2, .int x2), (3, .int x3)]) hg dX0_narrowBy_55 (by decide) rfl ?_
  refine r_aloadq_n hg 1 dX0_narrowBy_57 rfl ?_
  refine q_getq (b := 8) hg shC_q rfl (by decide) iX0 kf_RX0_9 rfl dX0_narrowBy_58 (fun h1 => ?_)
  refine r_iconst hg 1 dX0_narrowBy_61 (by decide) ?_
  refine r_iaload (n := 10) hg (shC_w h1) dX0_narrowBy_62 ?_
  refine q_name (fun u2 => ?_)
  refine r_istore (lv' := [(5, .int u2), (4, .int y0), (0, m_rf w.2.1 x0), (1, m_rf w.2.1 x1), (2, .int x2), (3, .int x3)]) hg dX0_narrowBy_63 (by decide) rfl ?_
  refine r_aloadq_n hg 3 dX0_narrowBy_65 rfl ?_
  refine q_getq (b := 8) hg shC_q rfl (by decide) iX0 kf_RX0_9 rfl dX0_narrowBy_66 (fun h3 => ?_)
  refine r_iconst hg 1 dX0_narrowBy_69 (by decide) ?_
  refine r_iaload (n := 10) hg (shC_w h3) dX0_narrowBy_70 ?_
  refine q_name (fun u4 => ?_)
  refine r_istore (lv' := [(6, .int u4), (5, .int u2), (4, .int y0), (0, m_rf w.2.1 x0), (1, m_rf w.2.1 x1), (2, .int x2), (3, .int x3)]) hg dX0_narrowBy_71 (by decide) rfl ?_
  refine r_aloadq_n hg 3 dX0_narrowBy_73 rfl ?_
  refine q_getq (b := 8) hg shC_q rfl (by decide) iX0 kf_RX0_9 rfl dX0_narrowBy_74 (fun h5 => ?_)
  refine r_iconst hg 0 dX0_narrowBy_77 (by decide) ?_
  refine r_aloadq_n hg 3 dX0_narrowBy_78 rfl ?_
  refine q_getq (b := 8) hg shC_q rfl (by decide) iX0 kf_RX0_9 rfl dX0_narrowBy_79 (fun h6 => ?_)
  refine r_iconst hg 0 dX0_narrowBy_82 (by decide) ?_
  refine r_iaload (n := 10) hg (shC_w h6) dX0_narrowBy_83 ?_
  refine r_aloadq_n hg 4 dX0_narrowBy_84 rfl ?_
  refine q_getq (b := 8) hg shC_q rfl (by decide) iX0 kf_RX0_9 rfl dX0_narrowBy_85 (fun h7 => ?_)
  refine r_iconst hg 0 dX0_narrowBy_88 (by decide) ?_
  refine r_iaload (n := 10) hg (shC_w h7) dX0_narrowBy_89 ?_
  refine r_min hg km_RX0_46 kt_J9_min_7cf53 kz_RJ9 kc_J9_min_7cf53 (Nat.le_trans (by decide) hdp) (m_c1_i (m_c1_r m_c1_nil)) (Nat.le_of_ble_eq_true rfl) dX0_narrowBy_90 ?_
  refine q_iastore (n := 10) hg (shC_w h5) dX0_narrowBy_93 (fun σ8 => ?_)
  refine r_iload hg 1 dX0_narrowBy_94 rfl ?_
  refine r_iconst hg (-1) dX0_narrowBy_96 (by decide) ?_
  refine r_icmp_eq hg 113 dX0_narrowBy_97 (by decide) ?_ ?_
  · refine r_lv [3, 4, 5, 6, 2, 0] rfl ?_
    exact vj_X0_narrowBy_113 hg hdp x0 x1 x2 x3 y0 u4 σ8
  · refine r_iload hg 0 dX0_narrowBy_100 rfl ?_
    refine r_iconst hg (-1) dX0_narrowBy_102 (by decide) ?_
    refine r_icmp_eq hg 121 dX0_narrowBy_103 (by decide) ?_ ?_
    · refine r_lv [3, 4, 5, 6, 2] rfl ?_
      exact vj_X0_narrowBy_121 hg hdp x0 x1 x2 x3 y0 σ8
    · refine r_iload hg 0 dX0_narrowBy_106 rfl ?_
      refine r_iload hg 1 dX0_narrowBy_108 rfl ?_
      refine r_icmp_ge hg 121 dX0_narrowBy_110 (by decide) ?_ ?_
      · refine r_lv [3, 4, 5, 6, 2] rfl ?_
        exact vj_X0_narrowBy_121 hg hdp x0 x1 x2 x3 y0 σ8
      · refine r_lv [3, 4, 5, 6, 2, 0] rfl ?_
        exact vj_X0_narrowBy_113 hg hdp x0 x1 x2 x3 y0 u4 σ8
set_option maxHeartbeats 4000000 in
set_option maxRecDepth 100000 in
theorem vj_X0_narrowBy_37 {N : Nat} (hg : m_ok (p, l, e, d, s, m, args, below, meth, c) w shC cX0_narrowBy 7 RX0 none) (hdp : 1 ≤ d) (x0 x1 x2 y0 : Int32) (σ : Mem) : Vj (p, l, e, d, s, m, args, below, meth, c) w shC 7 0 σ 37 [(0, m_rf w.2.1 x0), (1, m_rf w.2.1 x1), (2, .int x2)] [.int y0] (j_X0_narrowBy_37 N x0 x1 x2 y0 σ) := by
  unfold j_X0_narrowBy_37
  refine r_istore_n (lv' := [(3, .int y0), (0, m_rf w.2.1 x0), (1, m_rf w.2.1 x1), (2, .int x2)]) hg dX0_narrowBy_37 (by decide) rfl ?_
  refine r_aloadq_n hg 2 dX0_narrowBy_38 rfl ?_
  refine q_callq1 hg (e_X0_overlaps N l w x1 σ) kk_RX0_52 ki_X0_overlaps ks_RX0_X0_overlaps shC_q2 np_X0_overlaps (Nat.le_trans (by decide) hdp) rfl m_c1_nil (Nat.le_of_ble_eq_true rfl) dX0_narrowBy_39 (fun r1 σ2 => ?_)
  refine r_if_eq hg 49 dX0_narrowBy_42 (by decide) ?_ ?_
  · refine r_aloadq_n hg 2 dX0_narrowBy_49 rfl ?_
    refine q_getq (b := 8) hg shC_q rfl (by decide) iX0 kf_RX0_9 rfl dX0_narrowBy_50 (fun h3 => ?_)
    refine r_iconst hg 4 dX0_narrowBy_53 (by decide) ?_
    refine r_iaload (n := 10) hg (shC_w h3) dX0_narrowBy_54 ?_
    refine r_lv [1, 2, 3, 0] rfl ?_
    exact vj_X0_narrowBy_55 hg hdp x0 x1 x2 y0 (σ2 (8 + x1.toNatClampNeg) (Int32.toNatClampNeg 4)) σ2
  · refine r_iconst hg 0 dX0_narrowBy_45 (by decide) ?_
    refine r_goto hg 55 dX0_narrowBy_46 (by decide) ?_
    refine r_lv [1, 2, 3, 0] rfl ?_
    exact vj_X0_narrowBy_55 hg hdp x0 x1 x2 y0 0 σ2
set_option maxHeartbeats 4000000 in
set_option maxRecDepth 100000 in
theorem vj_X0_narrowBy_19 {N : Nat} (hg : m_ok (p, l, e, d, s, m, args, below, meth, c) w shC cX0_narrowBy 7 RX0 none) (hdp : 1 ≤ d) (x0 x1 y0 : Int32) (σ : Mem) : Vj (p, l, e, d, s, m, args, below, meth, c) w shC 7 0 σ 19 [(0, m_rf w.2.1 x0), (1, m_rf w.2.1 x1)] [.int y0] (j_X0_narrowBy_19 N x0 x1 y0 σ) := by
  unfold j_X0_narrowBy_19
  refine r_istore_n (lv' := [(2, .int y0), (0, m_rf w.2.1 x0), (1, m_rf w.2.1 x1)]) hg dX0_narrowBy_19 (by decide) rfl ?_
  refine r_aloadq_n hg 1 dX0_narrowBy_20 rfl ?_
  refine q_callq1 hg (e_X0_overlaps N l w x0 σ) kk_RX0_52 ki_X0_overlaps ks_RX0_X0_overlaps shC_q2 np_X0_overlaps (Nat.le_trans (by decide) hdp) rfl m_c1_nil (Nat.le_of_ble_eq_true rfl) dX0_narrowBy_21 (fun r1 σ2 => ?_)
  refine r_if_eq hg 31 dX0_narrowBy_24 (by decide) ?_ ?_
  · refine r_aloadq_n hg 1 dX0_narrowBy_31 rfl ?_
    refine q_getq (b := 8) hg shC_q rfl (by decide) iX0 kf_RX0_9 rfl dX0_narrowBy_32 (fun h3 => ?_)
    refine r_iconst hg 4 dX0_narrowBy_35 (by decide) ?_
    refine r_iaload (n := 10) hg (shC_w h3) dX0_narrowBy_36 ?_
    refine r_lv [1, 2, 0] rfl ?_
    exact vj_X0_narrowBy_37 hg hdp x0 x1 y0 (σ2 (8 + x0.toNatClampNeg) (Int32.toNatClampNeg 4)) σ2
  · refine r_iconst hg 0 dX0_narrowBy_27 (by decide) ?_
    refine r_goto hg 37 dX0_narrowBy_28 (by decide) ?_
    refine r_lv [1, 2, 0] rfl ?_
    exact vj_X0_narrowBy_37 hg hdp x0 x1 y0 0 σ2
set_option maxHeartbeats 4000000 in
set_option maxRecDepth 100000 in
theorem vj_X0_narrowBy_18 {N : Nat} (hg : m_ok (p, l, e, d, s, m, args, below, meth, c) w shC cX0_narrowBy 7 RX0 none) (hdp : 1 ≤ d) (x0 x1 : Int32) (σ : Mem) : Vj (p, l, e, d, s, m, args, below, meth, c) w shC 7 0 σ 18 [(0, m_rf w.2.1 x0), (1, m_rf w.2.1 x1)] [] (j_X0_narrowBy_18 N x0 x1 σ) := by
  unfold j_X0_narrowBy_18
  refine r_iconst hg 0 dX0_narrowBy_18 (by decide) ?_
  exact vj_X0_narrowBy_19 hg hdp x0 x1 0 σ
set_option maxHeartbeats 4000000 in
set_option maxRecDepth 100000 in
theorem e_X0_narrowBy (N : Nat) (l : Launch) (w : mW) (v0 v1 : Int32) (σ : Mem) : Ev l w shC yX0_narrowBy cX0_narrowBy 7 none 0 1 [m_rf w.2.1 v0, m_rf w.2.1 v1] σ (f_X0_narrowBy N v0 v1 σ) := by
  refine Ev.of (by decide) (m_c1_q (m_c1_q m_c1_nil)) (Nat.le_of_ble_eq_true rfl) (fun p e s m args below meth c hg => ?_)
  have hdp := Nat.le_refl 1
  unfold f_X0_narrowBy
  show Vj (p, l, e, 1, s, m, args, below, meth, c) w shC 7 0 σ 0 [(0, m_rf w.2.1 v0), (1, m_rf w.2.1 v1)] [] _
  refine r_aloadq_n hg 0 dX0_narrowBy_0 rfl ?_
  refine q_callq1 hg (e_X0_overlaps N l w v0 σ) kk_RX0_52 ki_X0_overlaps ks_RX0_X0_overlaps shC_q2 np_X0_overlaps (Nat.le_trans (by decide) hdp) rfl m_c1_nil (Nat.le_of_ble_eq_true rfl) dX0_narrowBy_1 (fun r1 σ2 => ?_)
  refine r_if_eq hg 18 dX0_narrowBy_4 (by decide) ?_ ?_
  · exact vj_X0_narrowBy_18 hg hdp v0 v1 σ2
  · refine r_aloadq_n hg 1 dX0_narrowBy_7 rfl ?_
    refine q_callq1 hg (e_X0_overlaps N l w v1 σ2) kk_RX0_52 ki_X0_overlaps ks_RX0_X0_overlaps shC_q2 np_X0_overlaps (Nat.le_trans (by decide) hdp) rfl m_c1_nil (Nat.le_of_ble_eq_true rfl) dX0_narrowBy_8 (fun r3 σ4 => ?_)
    refine r_if_eq hg 18 dX0_narrowBy_11 (by decide) ?_ ?_
    · exact vj_X0_narrowBy_18 hg hdp v0 v1 σ4
    · refine r_iconst hg 1 dX0_narrowBy_14 (by decide) ?_
      refine r_goto hg 19 dX0_narrowBy_15 (by decide) ?_
      exact vj_X0_narrowBy_19 hg hdp v0 v1 1 σ4
set_option maxHeartbeats 4000000 in
set_option maxRecDepth 100000 in
theorem e_X2_join (N : Nat) (l : Launch) (w : mW) (v1 : Int32) (σ : Mem) : Ev l w shC yX2_join cX2_join 2 none 0 1 [.ref (w.2.1 21), m_rf w.2.1 v1] σ (f_X2_join N v1 σ) := by
  refine Ev.of (by decide) (m_c1_r (m_c1_q m_c1_nil)) (Nat.le_of_ble_eq_true rfl) (fun p e s m args below meth c hg => ?_)
  have hdp := Nat.le_refl 1
  unfold f_X2_join
  show Vj (p, l, e, 1, s, m, args, below, meth, c) w shC 2 0 σ 0 [(0, .ref (w.2.1 21)), (1, m_rf w.2.1 v1)] [] _
  refine r_aload_n hg 0 dX2_join_0 rfl ?_
  refine q_geti (j := 5) hg rfl rfl rfl (by decide) iX2 kf_RX2_32 rfl dX2_join_1 ?_
  refine r_bipush hg 6 dX2_join_4 (by decide) ?_
  refine r_icmp_ge hg 68 dX2_join_6 (by decide) ?_ ?_
  · exact r_ret hg dX2_join_68 rfl rfl
  · refine r_aload_n hg 0 dX2_join_9 rfl ?_
    refine q_getr (j := 4) hg rfl rfl rfl (by decide) iX2 kf_RX2_28 rfl dX2_join_10 ?_
    refine r_aload_n hg 0 dX2_join_13 rfl ?_
    refine q_geti (j := 5) hg rfl rfl rfl (by decide) iX2 kf_RX2_32 rfl dX2_join_14 ?_
    refine r_aloadq_n hg 1 dX2_join_17 rfl ?_
    refine q_aastore (n := 6) hg rfl shC_q2 dX2_join_18 (fun σ1 => ?_)
    refine r_aload_n hg 0 dX2_join_19 rfl ?_
    refine q_getr (j := 1) hg rfl rfl rfl (by decide) iX2 kf_RX2_17 rfl dX2_join_20 ?_
    refine r_aload_n hg 0 dX2_join_23 rfl ?_
    refine q_geti (j := 5) hg rfl rfl rfl (by decide) iX2 kf_RX2_32 rfl dX2_join_24 ?_
    refine r_aloadq_n hg 1 dX2_join_27 rfl ?_
    refine q_getq (b := 8) hg shC_q rfl (by decide) iX0 kf_RX2_36 rfl dX2_join_28 (fun h2 => ?_)
    refine r_bipush hg 7 dX2_join_31 (by decide) ?_
    refine r_iaload (n := 10) hg (shC_w h2) dX2_join_33 ?_
    refine q_iastore (n := 6) hg rfl dX2_join_34 (fun σ3 => ?_)
    refine r_aload_n hg 0 dX2_join_35 rfl ?_
    refine q_getr (j := 2) hg rfl rfl rfl (by decide) iX2 kf_RX2_20 rfl dX2_join_36 ?_
    refine r_aload_n hg 0 dX2_join_39 rfl ?_
    refine q_geti (j := 5) hg rfl rfl rfl (by decide) iX2 kf_RX2_32 rfl dX2_join_40 ?_
    refine r_aloadq_n hg 1 dX2_join_43 rfl ?_
    refine q_callq1 hg (e_X0_share N l w v1 σ3) kk_RX2_39 ki_X0_share ks_RX0_X0_share shC_q2 np_X0_share (Nat.le_trans (by decide) hdp) rfl (m_c1_i (m_c1_r m_c1_nil)) (Nat.le_of_ble_eq_true rfl) dX2_join_44 (fun r4 σ5 => ?_)
    refine q_iastore (n := 6) hg rfl dX2_join_47 (fun σ6 => ?_)
    refine r_aload_n hg 0 dX2_join_48 rfl ?_
    refine q_getr (j := 3) hg rfl rfl rfl (by decide) iX2 kf_RX2_23 rfl dX2_join_49 ?_
    refine r_aload_n hg 0 dX2_join_52 rfl ?_
    refine q_geti (j := 5) hg rfl rfl rfl (by decide) iX2 kf_RX2_32 rfl dX2_join_53 ?_
    refine r_iconst hg 0 dX2_join_56 (by decide) ?_
    refine q_iastore (n := 78) hg rfl dX2_join_57 (fun σ7 => ?_)
    refine r_aload_n hg 0 dX2_join_58 rfl ?_
    refine r_dupr hg dX2_join_59 ?_
    refine q_geti (j := 5) hg rfl rfl rfl (by decide) iX2 kf_RX2_32 rfl dX2_join_60 ?_
    refine r_iconst hg 1 dX2_join_63 (by decide) ?_
    refine r_iadd hg dX2_join_64 ?_
    refine q_put (j := 5) hg rfl rfl rfl (by decide) iX2 kf_RX2_32 rfl tyX2_ok nmX2 rfl rfl dX2_join_65 (fun σ8 => ?_)
    exact r_ret hg dX2_join_68 rfl rfl
set_option maxHeartbeats 4000000 in
set_option maxRecDepth 100000 in
theorem vj_X3_join_29 {N : Nat} (hg : m_ok (p, l, e, d, s, m, args, below, meth, c) w shC cX3_join 2 RX3 none) (hdp : 2 ≤ d) (x1 : Int32) (σ : Mem) : Vj (p, l, e, d, s, m, args, below, meth, c) w shC 2 0 σ 29 [(0, .ref (w.2.1 20)), (1, m_rf w.2.1 x1)] [] (j_X3_join_29 N x1 σ) := by
  unfold j_X3_join_29
  refine r_aload_n hg 0 dX3_join_29 rfl ?_
  refine q_getr (j := 7) hg rfl rfl rfl (by decide) iX3 kf_RX3_25 rfl dX3_join_30 ?_
  refine r_aloadq_n hg 1 dX3_join_33 rfl ?_
  refine q_callv0 hg (e_X2_join N l w x1 σ) kk_RX3_75 ki_X2_join ks_RX2_X2_join rfl rfl np_X2_join (Nat.le_trans (by decide) hdp) rfl m_c1_nil (Nat.le_of_ble_eq_true rfl) dX3_join_34 (fun r1 σ2 => ?_)
  exact r_ret hg dX3_join_37 rfl rfl
set_option maxHeartbeats 4000000 in
set_option maxRecDepth 100000 in
theorem e_X3_join (N : Nat) (l : Launch) (w : mW) (v1 : Int32) (σ : Mem) : Ev l w shC yX3_join cX3_join 2 none 0 2 [.ref (w.2.1 20), m_rf w.2.1 v1] σ (f_X3_join N v1 σ) := by
  refine Ev.of (by decide) (m_c1_r (m_c1_q m_c1_nil)) (Nat.le_of_ble_eq_true rfl) (fun p e s m args below meth c hg => ?_)
  have hdp := Nat.le_refl 2
  unfold f_X3_join
  show Vj (p, l, e, 2, s, m, args, below, meth, c) w shC 2 0 σ 0 [(0, .ref (w.2.1 20)), (1, m_rf w.2.1 v1)] [] _
  refine r_aload_n hg 0 dX3_join_0 rfl ?_
  refine q_getr (j := 7) hg rfl rfl rfl (by decide) iX3 kf_RX3_25 rfl dX3_join_1 ?_
  refine q_callv1 hg (e_X2_isEmpty N l w σ) kk_RX3_66 ki_X2_isEmpty ks_RX2_X2_isEmpty rfl rfl np_X2_isEmpty (Nat.le_trans (by decide) hdp) rfl m_c1_nil (Nat.le_of_ble_eq_true rfl) dX3_join_4 (fun r1 σ2 => ?_)
  refine r_if_eq hg 21 dX3_join_7 (by decide) ?_ ?_
  · refine r_aload_n hg 0 dX3_join_21 rfl ?_
    refine q_getd (j := 6) hg rfl rfl rfl (by decide) iX3 kf_RX3_18 rfl dX3_join_22 ?_
    refine r_aloadq_n hg 1 dX3_join_25 rfl ?_
    refine q_callq0 hg (e_X0_narrowBy N l w (σ2 20 6) v1 σ2) kk_RX3_72 ki_X0_narrowBy ks_RX0_X0_narrowBy shC_q2 np_X0_narrowBy (Nat.le_trans (by decide) hdp) rfl m_c1_nil (Nat.le_of_ble_eq_true rfl) dX3_join_26 (fun r3 σ4 => ?_)
    exact vj_X3_join_29 hg hdp v1 σ4
  · refine r_aload_n hg 0 dX3_join_10 rfl ?_
    refine q_getd (j := 6) hg rfl rfl rfl (by decide) iX3 kf_RX3_18 rfl dX3_join_11 ?_
    refine r_aloadq_n hg 1 dX3_join_14 rfl ?_
    refine q_callq0 hg (e_X0_copyFrom N l w (σ2 20 6) v1 σ2) kk_RX3_69 ki_X0_copyFrom ks_RX0_X0_copyFrom shC_q2 np_X0_copyFrom (Nat.le_trans (by decide) hdp) rfl m_c1_nil (Nat.le_of_ble_eq_true rfl) dX3_join_15 (fun r5 σ6 => ?_)
    refine r_goto hg 29 dX3_join_18 (by decide) ?_
    exact vj_X3_join_29 hg hdp v1 σ6
set_option maxHeartbeats 4000000 in
set_option maxRecDepth 100000 in
theorem e_X3_isToldFor (N : Nat) (l : Launch) (w : mW) (v0 v1 : Int32) (σ : Mem) : Ev l w shC yX3_isToldFor cX3_isToldFor 2 (some .boolean) 1 1 [m_rf w.2.1 v0, .int v1] σ (f_X3_isToldFor N v0 v1 σ) := by
  refine Ev.of (by decide) (m_c1_q (m_c1_i m_c1_nil)) (Nat.le_of_ble_eq_true rfl) (fun p e s m args below meth c hg => ?_)
  have hdp := Nat.le_refl 1
  unfold f_X3_isToldFor
  show Vj (p, l, e, 1, s, m, args, below, meth, c) w shC 2 1 σ 0 [(0, m_rf w.2.1 v0), (1, .int v1)] [] _
  refine r_aloadq_n hg 0 dX3_isToldFor_0 rfl ?_
  refine q_callq1 hg (e_X0_overlaps N l w v0 σ) kk_RX3_42 ki_X0_overlaps ks_RX0_X0_overlaps shC_q2 np_X0_overlaps (Nat.le_trans (by decide) hdp) rfl m_c1_nil (Nat.le_of_ble_eq_true rfl) dX3_isToldFor_1 (fun r1 σ2 => ?_)
  refine r_if_eq hg 16 dX3_isToldFor_4 (by decide) ?_ ?_
  · refine r_iconst hg 1 dX3_isToldFor_16 (by decide) ?_
    refine r_goto hg 21 dX3_isToldFor_17 (by decide) ?_
    exact r_zret hg dX3_isToldFor_21 rfl rfl
  · refine r_iload_n hg 1 dX3_isToldFor_7 rfl ?_
    refine q_calls1 hg (e_J6_bitCount_0f7a4 N l w v1 σ2) kk_RX3_46 kt_J6_bitCount_0f7a4 np_J6_bitCount_0f7a4 (Nat.le_trans (by decide) hdp) rfl m_c1_nil (Nat.le_of_ble_eq_true rfl) dX3_isToldFor_8 (fun r3 σ4 => ?_)
    refine r_bipush hg 8 dX3_isToldFor_11 (by decide) ?_
    refine r_icmp_gt hg 20 dX3_isToldFor_13 (by decide) ?_ ?_
    · refine r_iconst hg 0 dX3_isToldFor_20 (by decide) ?_
      exact r_zret hg dX3_isToldFor_21 rfl rfl
    · refine r_iconst hg 1 dX3_isToldFor_16 (by decide) ?_
      refine r_goto hg 21 dX3_isToldFor_17 (by decide) ?_
      exact r_zret hg dX3_isToldFor_21 rfl rfl
set_option maxHeartbeats 4000000 in
set_option maxRecDepth 100000 in
theorem vj_X1_putInRow_34_77 {N : Nat} (hg : m_ok (p, l, e, d, s, m, args, below, meth, c) w shC cX1_putInRow 6 RX1 (some .int)) (hdp : 1 ≤ d) {K5 : Int32 → Int32 → Int32 → Mem → Option (Int32 × Mem)} (hK5 : ∀ (x1 x3 x4 : Int32) (σ : Mem), Vj (p, l, e, d, s, m, args, below, meth, c) w shC 6 1 σ 5 [(0, .ref (w.2.1 18)), (1, .int x1), (2, .ref (w.2.1 34)), (3, .int x3), (4, .int x4)] [] (K5 x1 x3 x4 σ)) (x1 x3 x4 x5 : Int32) (σ : Mem) : Vj (p, l, e, d, s, m, args, below, meth, c) w shC 6 1 σ 77 [(0, .ref (w.2.1 18)), (1, .int x1), (2, .ref (w.2.1 34)), (3, .int x3), (4, .int x4), (5, .int x5)] [] (j_X1_putInRow_34_77 N K5 x1 x3 x4 x5 σ) := by
  unfold j_X1_putInRow_34_77
  refine r_aload_n hg 2 dX1_putInRow_77 rfl ?_
  refine r_iload hg 5 dX1_putInRow_78 rfl ?_
  refine r_iload hg 4 dX1_putInRow_80 rfl ?_
  refine q_iastore (n := 12) hg rfl dX1_putInRow_82 (fun σ1 => ?_)
  refine r_iinc (lv' := [(3, .int (x3 + 1)), (0, .ref (w.2.1 18)), (1, .int x1), (2, .ref (w.2.1 34)), (4, .int x4), (5, .int x5)]) hg 3 (x3 + 1) dX1_putInRow_83 rfl rfl (by decide) rfl ?_
  refine r_iinc (lv' := [(4, .int (x4 + 1)), (3, .int (x3 + 1)), (0, .ref (w.2.1 18)), (1, .int x1), (2, .ref (w.2.1 34)), (5, .int x5)]) hg 4 (x4 + 1) dX1_putInRow_86 rfl rfl (by decide) rfl ?_
  refine r_goto hg 5 dX1_putInRow_89 (by decide) ?_
  refine r_lv [2, 3, 4, 1, 0] rfl ?_
  exact hK5 x1 (x3 + 1) (x4 + 1) σ1
set_option maxHeartbeats 4000000 in
set_option maxRecDepth 100000 in
theorem vb_X1_putInRow_34_35 {N : Nat} (hg : m_ok (p, l, e, d, s, m, args, below, meth, c) w shC cX1_putInRow 6 RX1 (some .int)) (hdp : 1 ≤ d) {K5 : Int32 → Int32 → Int32 → Mem → Option (Int32 × Mem)} (hK5 : ∀ (x1 x3 x4 : Int32) (σ : Mem), Vj (p, l, e, d, s, m, args, below, meth, c) w shC 6 1 σ 5 [(0, .ref (w.2.1 18)), (1, .int x1), (2, .ref (w.2.1 34)), (3, .int x3), (4, .int x4)] [] (K5 x1 x3 x4 σ)) {K35 : Int32 → Int32 → Int32 → Int32 → Mem → Option (Int32 × Mem)} (hK35 : ∀ (x1 x3 x4 x5 : Int32) (σ : Mem), Vj (p, l, e, d, s, m, args, below, meth, c) w shC 6 1 σ 35 [(0, .ref (w.2.1 18)), (1, .int x1), (2, .ref (w.2.1 34)), (3, .int x3), (4, .int x4), (5, .int x5)] [] (K35 x1 x3 x4 x5 σ)) (x1 x3 x4 x5 : Int32) (σ : Mem) : Vj (p, l, e, d, s, m, args, below, meth, c) w shC 6 1 σ 35 [(0, .ref (w.2.1 18)), (1, .int x1), (2, .ref (w.2.1 34)), (3, .int x3), (4, .int x4), (5, .int x5)] [] (b_X1_putInRow_34_35 N K5 K35 x1 x3 x4 x5 σ) := by
  unfold b_X1_putInRow_34_35
  refine r_iload hg 5 dX1_putInRow_35 rfl ?_
  refine r_if_le hg 77 dX1_putInRow_37 (by decide) ?_ ?_
  · exact vj_X1_putInRow_34_77 hg hdp hK5 x1 x3 x4 x5 σ
  · refine r_aload_n hg 0 dX1_putInRow_40 rfl ?_
    refine q_getr (j := 1) hg rfl rfl rfl (by decide) iX1 kf_RX1_15 rfl dX1_putInRow_41 ?_
    refine r_aload_n hg 2 dX1_putInRow_44 rfl ?_
    refine r_iload hg 5 dX1_putInRow_45 rfl ?_
    refine r_iconst hg 1 dX1_putInRow_47 (by decide) ?_
    refine r_isub hg dX1_putInRow_48 ?_
    refine r_iaload (n := 12) hg rfl dX1_putInRow_49 ?_
    refine r_iaload (n := 12) hg rfl dX1_putInRow_50 ?_
    refine r_aload_n hg 0 dX1_putInRow_51 rfl ?_
    refine q_getr (j := 1) hg rfl rfl rfl (by decide) iX1 kf_RX1_15 rfl dX1_putInRow_52 ?_
    refine r_iload hg 4 dX1_putInRow_55 rfl ?_
    refine r_iaload (n := 12) hg rfl dX1_putInRow_57 ?_
    refine r_icmp_le hg 77 dX1_putInRow_58 (by decide) ?_ ?_
    · exact vj_X1_putInRow_34_77 hg hdp hK5 x1 x3 x4 x5 σ
    · refine r_aload_n hg 2 dX1_putInRow_61 rfl ?_
      refine r_iload hg 5 dX1_putInRow_62 rfl ?_
      refine r_aload_n hg 2 dX1_putInRow_64 rfl ?_
      refine r_iload hg 5 dX1_putInRow_65 rfl ?_
      refine r_iconst hg 1 dX1_putInRow_67 (by decide) ?_
      refine r_isub hg dX1_putInRow_68 ?_
      refine r_iaload (n := 12) hg rfl dX1_putInRow_69 ?_
      refine q_iastore (n := 12) hg rfl dX1_putInRow_70 (fun σ1 => ?_)
      refine r_iinc (lv' := [(5, .int (x5 + (-1))), (0, .ref (w.2.1 18)), (1, .int x1), (2, .ref (w.2.1 34)), (3, .int x3), (4, .int x4)]) hg 5 (x5 + (-1)) dX1_putInRow_71 rfl rfl (by decide) rfl ?_
      refine r_goto hg 35 dX1_putInRow_74 (by decide) ?_
      refine r_lv [1, 2, 3, 4, 5, 0] rfl ?_
      exact hK35 x1 x3 x4 (x5 + (-1)) σ1
set_option maxHeartbeats 4000000 in
set_option maxRecDepth 100000 in
theorem vl_X1_putInRow_34_35 {N : Nat} (hg : m_ok (p, l, e, d, s, m, args, below, meth, c) w shC cX1_putInRow 6 RX1 (some .int)) (hdp : 1 ≤ d) {K5 : Int32 → Int32 → Int32 → Mem → Option (Int32 × Mem)} (hK5 : ∀ (x1 x3 x4 : Int32) (σ : Mem), Vj (p, l, e, d, s, m, args, below, meth, c) w shC 6 1 σ 5 [(0, .ref (w.2.1 18)), (1, .int x1), (2, .ref (w.2.1 34)), (3, .int x3), (4, .int x4)] [] (K5 x1 x3 x4 σ)) : ∀ (n : Nat) (x1 x3 x4 x5 : Int32) (σ : Mem), Vj (p, l, e, d, s, m, args, below, meth, c) w shC 6 1 σ 35 [(0, .ref (w.2.1 18)), (1, .int x1), (2, .ref (w.2.1 34)), (3, .int x3), (4, .int x4), (5, .int x5)] [] (l_X1_putInRow_34_35 N K5 n x1 x3 x4 x5 σ)
| 0, _, _, _, _, _ => Vj.none
| n + 1, x1, x3, x4, x5, σ => vb_X1_putInRow_34_35 hg hdp hK5 (fun x1 x3 x4 x5 σ => vl_X1_putInRow_34_35 hg hdp hK5 n x1 x3 x4 x5 σ) x1 x3 x4 x5 σ
set_option maxHeartbeats 4000000 in
set_option maxRecDepth 100000 in
theorem vb_X1_putInRow_34_5 {N : Nat} (hg : m_ok (p, l, e, d, s, m, args, below, meth, c) w shC cX1_putInRow 6 RX1 (some .int)) (hdp : 1 ≤ d) {K5 : Int32 → Int32 → Int32 → Mem → Option (Int32 × Mem)} (hK5 : ∀ (x1 x3 x4 : Int32) (σ : Mem), Vj (p, l, e, d, s, m, args, below, meth, c) w shC 6 1 σ 5 [(0, .ref (w.2.1 18)), (1, .int x1), (2, .ref (w.2.1 34)), (3, .int x3), (4, .int x4)] [] (K5 x1 x3 x4 σ)) (x1 x3 x4 : Int32) (σ : Mem) : Vj (p, l, e, d, s, m, args, below, meth, c) w shC 6 1 σ 5 [(0, .ref (w.2.1 18)), (1, .int x1), (2, .ref (w.2.1 34)), (3, .int x3), (4, .int x4)] [] (b_X1_putInRow_34_5 N K5 x1 x3 x4 σ) := by
  unfold b_X1_putInRow_34_5
  refine r_iload hg 4 dX1_putInRow_5 rfl ?_
  refine r_aload_n hg 0 dX1_putInRow_7 rfl ?_
  refine q_geti (j := 6) hg rfl rfl rfl (by decide) iX1 kf_RX1_30 rfl dX1_putInRow_8 ?_
  refine r_icmp_ge hg 92 dX1_putInRow_11 (by decide) ?_ ?_
  · refine r_iload_n hg 3 dX1_putInRow_92 rfl ?_
    exact r_iret hg dX1_putInRow_93 rfl rfl
  · refine r_iload_n hg 3 dX1_putInRow_14 rfl ?_
    refine r_aload_n hg 2 dX1_putInRow_15 rfl ?_
    refine r_alen (n := 12) hg rfl dX1_putInRow_16 ?_
    refine r_icmp_ge hg 92 dX1_putInRow_17 (by decide) ?_ ?_
    · refine r_iload_n hg 3 dX1_putInRow_92 rfl ?_
      exact r_iret hg dX1_putInRow_93 rfl rfl
    · refine r_iload hg 4 dX1_putInRow_20 rfl ?_
      refine r_iload_n hg 1 dX1_putInRow_22 rfl ?_
      refine q_calls1 hg (e_X1_isIn N l w x4 x1 σ) kk_RX1_42 kt_X1_isIn np_X1_isIn (Nat.le_trans (by decide) hdp) rfl m_c1_nil (Nat.le_of_ble_eq_true rfl) dX1_putInRow_23 (fun r1 σ2 => ?_)
      refine r_if_ne hg 32 dX1_putInRow_26 (by decide) ?_ ?_
      · refine r_iload_n hg 3 dX1_putInRow_32 rfl ?_
        refine r_istore (lv' := [(5, .int x3), (0, .ref (w.2.1 18)), (1, .int x1), (2, .ref (w.2.1 34)), (3, .int x3), (4, .int x4)]) hg dX1_putInRow_33 (by decide) rfl ?_
        refine r_lv [1, 2, 3, 4, 5, 0] rfl ?_
        exact vl_X1_putInRow_34_35 hg hdp hK5 N x1 x3 x4 x3 σ2
      · refine r_goto hg 86 dX1_putInRow_29 (by decide) ?_
        refine r_iinc (lv' := [(4, .int (x4 + 1)), (0, .ref (w.2.1 18)), (1, .int x1), (2, .ref (w.2.1 34)), (3, .int x3)]) hg 4 (x4 + 1) dX1_putInRow_86 rfl rfl (by decide) rfl ?_
        refine r_goto hg 5 dX1_putInRow_89 (by decide) ?_
        refine r_lv [1, 2, 3, 4, 0] rfl ?_
        exact hK5 x1 x3 (x4 + 1) σ2
set_option maxHeartbeats 4000000 in
set_option maxRecDepth 100000 in
theorem vl_X1_putInRow_34_5 {N : Nat} (hg : m_ok (p, l, e, d, s, m, args, below, meth, c) w shC cX1_putInRow 6 RX1 (some .int)) (hdp : 1 ≤ d) : ∀ (n : Nat) (x1 x3 x4 : Int32) (σ : Mem), Vj (p, l, e, d, s, m, args, below, meth, c) w shC 6 1 σ 5 [(0, .ref (w.2.1 18)), (1, .int x1), (2, .ref (w.2.1 34)), (3, .int x3), (4, .int x4)] [] (l_X1_putInRow_34_5 N n x1 x3 x4 σ)
| 0, _, _, _, _ => Vj.none
| n + 1, x1, x3, x4, σ => vb_X1_putInRow_34_5 hg hdp (fun x1 x3 x4 σ => vl_X1_putInRow_34_5 hg hdp n x1 x3 x4 σ) x1 x3 x4 σ
set_option maxHeartbeats 4000000 in
set_option maxRecDepth 100000 in
theorem e_X1_putInRow_34 (N : Nat) (l : Launch) (w : mW) (v1 : Int32) (σ : Mem) : Ev l w shC yX1_putInRow cX1_putInRow 6 (some .int) 1 1 [.ref (w.2.1 18), .int v1, .ref (w.2.1 34)] σ (f_X1_putInRow_34 N v1 σ) := by
  refine Ev.of (by decide) (m_c1_r (m_c1_i (m_c1_r m_c1_nil))) (Nat.le_of_ble_eq_true rfl) (fun p e s m args below meth c hg => ?_)
  have hdp := Nat.le_refl 1
  unfold f_X1_putInRow_34
  show Vj (p, l, e, 1, s, m, args, below, meth, c) w shC 6 1 σ 0 [(0, .ref (w.2.1 18)), (1, .int v1), (2, .ref (w.2.1 34))] [] _
  refine r_iconst hg 0 dX1_putInRow_0 (by decide) ?_
  refine r_istore_n (lv' := [(3, .int 0), (0, .ref (w.2.1 18)), (1, .int v1), (2, .ref (w.2.1 34))]) hg dX1_putInRow_1 (by decide) rfl ?_
  refine r_iconst hg 0 dX1_putInRow_2 (by decide) ?_
  refine r_istore (lv' := [(4, .int 0), (3, .int 0), (0, .ref (w.2.1 18)), (1, .int v1), (2, .ref (w.2.1 34))]) hg dX1_putInRow_3 (by decide) rfl ?_
  refine r_lv [2, 3, 4, 1, 0] rfl ?_
  exact vl_X1_putInRow_34_5 hg hdp N v1 0 0 σ
set_option maxHeartbeats 4000000 in
set_option maxRecDepth 100000 in
theorem vb_X3_seeWhoIsNear_19 {N : Nat} (hg : m_ok (p, l, e, d, s, m, args, below, meth, c) w shC cX3_seeWhoIsNear 3 RX3 none) (hdp : 2 ≤ d) {K2 : Int32 → Mem → Option (Int32 × Mem)} (hK2 : ∀ (x1 : Int32) (σ : Mem), Vj (p, l, e, d, s, m, args, below, meth, c) w shC 3 0 σ 2 [(0, .ref (w.2.1 20)), (1, .int x1)] [] (K2 x1 σ)) {K19 : Int32 → Int32 → Mem → Option (Int32 × Mem)} (hK19 : ∀ (x1 x2 : Int32) (σ : Mem), Vj (p, l, e, d, s, m, args, below, meth, c) w shC 3 0 σ 19 [(0, .ref (w.2.1 20)), (1, .int x1), (2, .int x2)] [] (K19 x1 x2 σ)) (x1 x2 : Int32) (σ : Mem) : Vj (p, l, e, d, s, m, args, below, meth, c) w shC 3 0 σ 19 [(0, .ref (w.2.1 20)), (1, .int x1), (2, .int x2)] [] (b_X3_seeWhoIsNear_19 N K2 K19 x1 x2 σ) := by
  unfold b_X3_seeWhoIsNear_19
  refine r_iload_n hg 2 dX3_seeWhoIsNear_19 rfl ?_
  refine r_aload_n hg 0 dX3_seeWhoIsNear_20 rfl ?_
  refine q_geti (j := 12) hg rfl rfl rfl (by decide) iX3 kf_RX3_93 rfl dX3_seeWhoIsNear_21 ?_
  refine r_icmp_ge hg 71 dX3_seeWhoIsNear_24 (by decide) ?_ ?_
  · refine r_iinc (lv' := [(1, .int (x1 + 1)), (0, .ref (w.2.1 20)), (2, .int x2)]) hg 1 (x1 + 1) dX3_seeWhoIsNear_71 rfl rfl (by decide) rfl ?_
    refine r_goto hg 2 dX3_seeWhoIsNear_74 (by decide) ?_
    refine r_lv [1, 0] rfl ?_
    exact hK2 (x1 + 1) σ
  · refine r_aload_n hg 0 dX3_seeWhoIsNear_27 rfl ?_
    refine q_getr (j := 5) hg rfl rfl rfl (by decide) iX3 kf_RX3_9 rfl dX3_seeWhoIsNear_28 ?_
    refine r_aload_n hg 0 dX3_seeWhoIsNear_31 rfl ?_
    refine q_getd (j := 6) hg rfl rfl rfl (by decide) iX3 kf_RX3_18 rfl dX3_seeWhoIsNear_32 ?_
    refine r_aload_n hg 0 dX3_seeWhoIsNear_35 rfl ?_
    refine q_getr (j := 8) hg rfl rfl rfl (by decide) iX3 kf_RX3_29 rfl dX3_seeWhoIsNear_36 ?_
    refine r_iload_n hg 1 dX3_seeWhoIsNear_39 rfl ?_
    refine r_iaload (n := 12) hg rfl dX3_seeWhoIsNear_40 ?_
    refine r_aload_n hg 0 dX3_seeWhoIsNear_41 rfl ?_
    refine q_getr (j := 8) hg rfl rfl rfl (by decide) iX3 kf_RX3_29 rfl dX3_seeWhoIsNear_42 ?_
    refine r_iload_n hg 2 dX3_seeWhoIsNear_45 rfl ?_
    refine r_iaload (n := 12) hg rfl dX3_seeWhoIsNear_46 ?_
    refine q_callv1 hg (e_X1_areNear N l w (σ 20 6) (σ 34 x1.toNatClampNeg) (σ 34 x2.toNatClampNeg) σ) kk_RX3_117 ki_X1_areNear ks_RX1_X1_areNear rfl rfl np_X1_areNear (Nat.le_trans (by decide) hdp) rfl m_c1_nil (Nat.le_of_ble_eq_true rfl) dX3_seeWhoIsNear_47 (fun r1 σ2 => ?_)
    refine r_if_eq hg 65 dX3_seeWhoIsNear_50 (by decide) ?_ ?_
    · refine r_iinc (lv' := [(2, .int (x2 + 1)), (0, .ref (w.2.1 20)), (1, .int x1)]) hg 2 (x2 + 1) dX3_seeWhoIsNear_65 rfl rfl (by decide) rfl ?_
      refine r_goto hg 19 dX3_seeWhoIsNear_68 (by decide) ?_
      refine r_lv [1, 2, 0] rfl ?_
      exact hK19 x1 (x2 + 1) σ2
    · refine r_aload_n hg 0 dX3_seeWhoIsNear_53 rfl ?_
      refine q_getr (j := 9) hg rfl rfl rfl (by decide) iX3 kf_RX3_33 rfl dX3_seeWhoIsNear_54 ?_
      refine r_iload_n hg 1 dX3_seeWhoIsNear_57 rfl ?_
      refine r_dup2 hg dX3_seeWhoIsNear_58 ?_
      refine r_iaload (n := 12) hg rfl dX3_seeWhoIsNear_59 ?_
      refine r_iconst hg 1 dX3_seeWhoIsNear_60 (by decide) ?_
      refine r_iload_n hg 2 dX3_seeWhoIsNear_61 rfl ?_
      refine r_ishl hg dX3_seeWhoIsNear_62 ?_
      refine r_ior hg dX3_seeWhoIsNear_63 ?_
      refine q_iastore (n := 12) hg rfl dX3_seeWhoIsNear_64 (fun σ3 => ?_)
      refine r_iinc (lv' := [(2, .int (x2 + 1)), (0, .ref (w.2.1 20)), (1, .int x1)]) hg 2 (x2 + 1) dX3_seeWhoIsNear_65 rfl rfl (by decide) rfl ?_
      refine r_goto hg 19 dX3_seeWhoIsNear_68 (by decide) ?_
      refine r_lv [1, 2, 0] rfl ?_
      exact hK19 x1 (x2 + 1) σ3
set_option maxHeartbeats 4000000 in
set_option maxRecDepth 100000 in
theorem vl_X3_seeWhoIsNear_19 {N : Nat} (hg : m_ok (p, l, e, d, s, m, args, below, meth, c) w shC cX3_seeWhoIsNear 3 RX3 none) (hdp : 2 ≤ d) {K2 : Int32 → Mem → Option (Int32 × Mem)} (hK2 : ∀ (x1 : Int32) (σ : Mem), Vj (p, l, e, d, s, m, args, below, meth, c) w shC 3 0 σ 2 [(0, .ref (w.2.1 20)), (1, .int x1)] [] (K2 x1 σ)) : ∀ (n : Nat) (x1 x2 : Int32) (σ : Mem), Vj (p, l, e, d, s, m, args, below, meth, c) w shC 3 0 σ 19 [(0, .ref (w.2.1 20)), (1, .int x1), (2, .int x2)] [] (l_X3_seeWhoIsNear_19 N K2 n x1 x2 σ)
| 0, _, _, _ => Vj.none
| n + 1, x1, x2, σ => vb_X3_seeWhoIsNear_19 hg hdp hK2 (fun x1 x2 σ => vl_X3_seeWhoIsNear_19 hg hdp hK2 n x1 x2 σ) x1 x2 σ
set_option maxHeartbeats 4000000 in
set_option maxRecDepth 100000 in
theorem vb_X3_seeWhoIsNear_2 {N : Nat} (hg : m_ok (p, l, e, d, s, m, args, below, meth, c) w shC cX3_seeWhoIsNear 3 RX3 none) (hdp : 2 ≤ d) {K2 : Int32 → Mem → Option (Int32 × Mem)} (hK2 : ∀ (x1 : Int32) (σ : Mem), Vj (p, l, e, d, s, m, args, below, meth, c) w shC 3 0 σ 2 [(0, .ref (w.2.1 20)), (1, .int x1)] [] (K2 x1 σ)) (x1 : Int32) (σ : Mem) : Vj (p, l, e, d, s, m, args, below, meth, c) w shC 3 0 σ 2 [(0, .ref (w.2.1 20)), (1, .int x1)] [] (b_X3_seeWhoIsNear_2 N K2 x1 σ) := by
  unfold b_X3_seeWhoIsNear_2
  refine r_iload_n hg 1 dX3_seeWhoIsNear_2 rfl ?_
  refine r_aload_n hg 0 dX3_seeWhoIsNear_3 rfl ?_
  refine q_geti (j := 12) hg rfl rfl rfl (by decide) iX3 kf_RX3_93 rfl dX3_seeWhoIsNear_4 ?_
  refine r_icmp_ge hg 77 dX3_seeWhoIsNear_7 (by decide) ?_ ?_
  · exact r_ret hg dX3_seeWhoIsNear_77 rfl rfl
  · refine r_aload_n hg 0 dX3_seeWhoIsNear_10 rfl ?_
    refine q_getr (j := 9) hg rfl rfl rfl (by decide) iX3 kf_RX3_33 rfl dX3_seeWhoIsNear_11 ?_
    refine r_iload_n hg 1 dX3_seeWhoIsNear_14 rfl ?_
    refine r_iconst hg 0 dX3_seeWhoIsNear_15 (by decide) ?_
    refine q_iastore (n := 12) hg rfl dX3_seeWhoIsNear_16 (fun σ1 => ?_)
    refine r_iconst hg 0 dX3_seeWhoIsNear_17 (by decide) ?_
    refine r_istore_n (lv' := [(2, .int 0), (0, .ref (w.2.1 20)), (1, .int x1)]) hg dX3_seeWhoIsNear_18 (by decide) rfl ?_
    refine r_lv [1, 2, 0] rfl ?_
    exact vl_X3_seeWhoIsNear_19 hg hdp hK2 N x1 0 σ1
set_option maxHeartbeats 4000000 in
set_option maxRecDepth 100000 in
theorem vl_X3_seeWhoIsNear_2 {N : Nat} (hg : m_ok (p, l, e, d, s, m, args, below, meth, c) w shC cX3_seeWhoIsNear 3 RX3 none) (hdp : 2 ≤ d) : ∀ (n : Nat) (x1 : Int32) (σ : Mem), Vj (p, l, e, d, s, m, args, below, meth, c) w shC 3 0 σ 2 [(0, .ref (w.2.1 20)), (1, .int x1)] [] (l_X3_seeWhoIsNear_2 N n x1 σ)
| 0, _, _ => Vj.none
| n + 1, x1, σ => vb_X3_seeWhoIsNear_2 hg hdp (fun x1 σ => vl_X3_seeWhoIsNear_2 hg hdp n x1 σ) x1 σ
set_option maxHeartbeats 4000000 in
set_option maxRecDepth 100000 in
theorem e_X3_seeWhoIsNear (N : Nat) (l : Launch) (w : mW) (σ : Mem) : Ev l w shC yX3_seeWhoIsNear cX3_seeWhoIsNear 3 none 0 2 [.ref (w.2.1 20)] σ (f_X3_seeWhoIsNear N σ) := by
  refine Ev.of (by decide) (m_c1_r m_c1_nil) (Nat.le_of_ble_eq_true rfl) (fun p e s m args below meth c hg => ?_)
  have hdp := Nat.le_refl 2
  unfold f_X3_seeWhoIsNear
  show Vj (p, l, e, 2, s, m, args, below, meth, c) w shC 3 0 σ 0 [(0, .ref (w.2.1 20))] [] _
  refine r_iconst hg 0 dX3_seeWhoIsNear_0 (by decide) ?_
  refine r_istore_n (lv' := [(1, .int 0), (0, .ref (w.2.1 20))]) hg dX3_seeWhoIsNear_1 (by decide) rfl ?_
  refine r_lv [1, 0] rfl ?_
  exact vl_X3_seeWhoIsNear_2 hg hdp N 0 σ
set_option maxHeartbeats 4000000 in
set_option maxRecDepth 100000 in
theorem vb_X2_price_2 {N : Nat} (hg : m_ok (p, l, e, d, s, m, args, below, meth, c) w shC cX2_price 5 RX2 none) (hdp : 1 ≤ d) {K2 : Int32 → Int32 → Int32 → Mem → Option (Int32 × Mem)} (hK2 : ∀ (x1 x2 x3 : Int32) (σ : Mem), Vj (p, l, e, d, s, m, args, below, meth, c) w shC 5 0 σ 2 [(0, .ref (w.2.1 21)), (1, .int x1), (2, .int x2), (3, .int x3)] [] (K2 x1 x2 x3 σ)) (x1 x2 x3 : Int32) (σ : Mem) : Vj (p, l, e, d, s, m, args, below, meth, c) w shC 5 0 σ 2 [(0, .ref (w.2.1 21)), (1, .int x1), (2, .int x2), (3, .int x3)] [] (b_X2_price_2 N K2 x1 x2 x3 σ) := by
  unfold b_X2_price_2
  refine r_iload_n hg 3 dX2_price_2 rfl ?_
  refine r_aload_n hg 0 dX2_price_3 rfl ?_
  refine q_geti (j := 5) hg rfl rfl rfl (by decide) iX2 kf_RX2_32 rfl dX2_price_4 ?_
  refine r_icmp_ge hg 47 dX2_price_7 (by decide) ?_ ?_
  · exact r_ret hg dX2_price_47 rfl rfl
  · refine r_aload_n hg 0 dX2_price_10 rfl ?_
    refine q_getr (j := 4) hg rfl rfl rfl (by decide) iX2 kf_RX2_28 rfl dX2_price_11 ?_
    refine r_iload_n hg 3 dX2_price_14 rfl ?_
    refine r_aaload (n := 6) hg rfl dX2_price_15 ?_
    refine r_astoreq (lv' := [(4, m_rf w.2.1 (σ 42 x3.toNatClampNeg)), (0, .ref (w.2.1 21)), (1, .int x1), (2, .int x2), (3, .int x3)]) hg dX2_price_16 (by decide) rfl ?_
    refine r_aloadq hg 0 dX2_price_18 rfl ?_
    refine r_ifnull hg 41 dX2_price_20 (by decide) ?_ ?_
    · refine r_iinc (lv' := [(3, .int (x3 + 1)), (4, m_rf w.2.1 (σ 42 x3.toNatClampNeg)), (0, .ref (w.2.1 21)), (1, .int x1), (2, .int x2)]) hg 4 (x3 + 1) dX2_price_41 rfl rfl (by decide) rfl ?_
      refine r_goto hg 2 dX2_price_44 (by decide) ?_
      refine r_lv [2, 3, 4, 0] rfl ?_
      exact hK2 x1 x2 (x3 + 1) σ
    · refine r_aload_n hg 1 dX2_price_23 rfl ?_
      refine q_getr (j := 0) hg rfl rfl rfl (by decide) iX2 kf_RX2_11 rfl dX2_price_24 ?_
      refine r_iload_n hg 4 dX2_price_27 rfl ?_
      refine r_sipush hg 256 dX2_price_28 (by decide) ?_
      refine r_imul hg dX2_price_31 ?_
      refine r_iload_n hg 2 dX2_price_32 rfl ?_
      refine r_iadd hg dX2_price_33 ?_
      refine r_aloadq hg 0 dX2_price_34 rfl ?_
      refine r_iload_n hg 3 dX2_price_36 rfl ?_
      refine q_callq1 hg (e_X0_payFor N l w (σ 42 x3.toNatClampNeg) x2 σ) kk_RX2_43 ki_X0_payFor ks_RX0_X0_payFor shC_q2 np_X0_payFor (Nat.le_trans (by decide) hdp) rfl (m_c1_i (m_c1_r m_c1_nil)) (Nat.le_of_ble_eq_true rfl) dX2_price_37 (fun r1 σ2 => ?_)
      refine q_iastore (n := 1536) hg rfl dX2_price_40 (fun σ3 => ?_)
      refine r_iinc (lv' := [(3, .int (x3 + 1)), (4, m_rf w.2.1 (σ 42 x3.toNatClampNeg)), (0, .ref (w.2.1 21)), (1, .int x1), (2, .int x2)]) hg 4 (x3 + 1) dX2_price_41 rfl rfl (by decide) rfl ?_
      refine r_goto hg 2 dX2_price_44 (by decide) ?_
      refine r_lv [2, 3, 4, 0] rfl ?_
      exact hK2 x1 x2 (x3 + 1) σ3
set_option maxHeartbeats 4000000 in
set_option maxRecDepth 100000 in
theorem vl_X2_price_2 {N : Nat} (hg : m_ok (p, l, e, d, s, m, args, below, meth, c) w shC cX2_price 5 RX2 none) (hdp : 1 ≤ d) : ∀ (n : Nat) (x1 x2 x3 : Int32) (σ : Mem), Vj (p, l, e, d, s, m, args, below, meth, c) w shC 5 0 σ 2 [(0, .ref (w.2.1 21)), (1, .int x1), (2, .int x2), (3, .int x3)] [] (l_X2_price_2 N n x1 x2 x3 σ)
| 0, _, _, _, _ => Vj.none
| n + 1, x1, x2, x3, σ => vb_X2_price_2 hg hdp (fun x1 x2 x3 σ => vl_X2_price_2 hg hdp n x1 x2 x3 σ) x1 x2 x3 σ
set_option maxHeartbeats 4000000 in
set_option maxRecDepth 100000 in
theorem e_X2_price (N : Nat) (l : Launch) (w : mW) (v1 v2 : Int32) (σ : Mem) : Ev l w shC yX2_price cX2_price 5 none 0 1 [.ref (w.2.1 21), .int v1, .int v2] σ (f_X2_price N v1 v2 σ) := by
  refine Ev.of (by decide) (m_c1_r (m_c1_i (m_c1_i m_c1_nil))) (Nat.le_of_ble_eq_true rfl) (fun p e s m args below meth c hg => ?_)
  have hdp := Nat.le_refl 1
  unfold f_X2_price
  show Vj (p, l, e, 1, s, m, args, below, meth, c) w shC 5 0 σ 0 [(0, .ref (w.2.1 21)), (1, .int v1), (2, .int v2)] [] _
  refine r_iconst hg 0 dX2_price_0 (by decide) ?_
  refine r_istore_n (lv' := [(3, .int 0), (0, .ref (w.2.1 21)), (1, .int v1), (2, .int v2)]) hg dX2_price_1 (by decide) rfl ?_
  refine r_lv [1, 2, 3, 0] rfl ?_
  exact vl_X2_price_2 hg hdp N v1 v2 0 σ
set_option maxHeartbeats 4000000 in
set_option maxRecDepth 100000 in
theorem vb_X3_priceHappenings_14 {N : Nat} (hg : m_ok (p, l, e, d, s, m, args, below, meth, c) w shC cX3_priceHappenings 4 RX3 none) (hdp : 2 ≤ d) {K2 : Int32 → Mem → Option (Int32 × Mem)} (hK2 : ∀ (x1 : Int32) (σ : Mem), Vj (p, l, e, d, s, m, args, below, meth, c) w shC 4 0 σ 2 [(0, .ref (w.2.1 20)), (1, .int x1)] [] (K2 x1 σ)) {K14 : Int32 → Int32 → Int32 → Mem → Option (Int32 × Mem)} (hK14 : ∀ (x1 x2 x3 : Int32) (σ : Mem), Vj (p, l, e, d, s, m, args, below, meth, c) w shC 4 0 σ 14 [(0, .ref (w.2.1 20)), (1, .int x1), (2, .int x2), (3, .int x3)] [] (K14 x1 x2 x3 σ)) (x1 x2 x3 : Int32) (σ : Mem) : Vj (p, l, e, d, s, m, args, below, meth, c) w shC 4 0 σ 14 [(0, .ref (w.2.1 20)), (1, .int x1), (2, .int x2), (3, .int x3)] [] (b_X3_priceHappenings_14 N K2 K14 x1 x2 x3 σ) := by
  unfold b_X3_priceHappenings_14
  refine r_iload_n hg 3 dX3_priceHappenings_14 rfl ?_
  refine r_aload_n hg 0 dX3_priceHappenings_15 rfl ?_
  refine q_geti (j := 12) hg rfl rfl rfl (by decide) iX3 kf_RX3_93 rfl dX3_priceHappenings_16 ?_
  refine r_icmp_ge hg 58 dX3_priceHappenings_19 (by decide) ?_ ?_
  · refine r_aload_n hg 0 dX3_priceHappenings_58 rfl ?_
    refine q_getr (j := 7) hg rfl rfl rfl (by decide) iX3 kf_RX3_25 rfl dX3_priceHappenings_59 ?_
    refine r_iload_n hg 1 dX3_priceHappenings_62 rfl ?_
    refine r_iload_n hg 2 dX3_priceHappenings_63 rfl ?_
    refine q_callv0 hg (e_X2_price N l w x1 x2 σ) kk_RX3_142 ki_X2_price ks_RX2_X2_price rfl rfl np_X2_price (Nat.le_trans (by decide) hdp) rfl m_c1_nil (Nat.le_of_ble_eq_true rfl) dX3_priceHappenings_64 (fun r1 σ2 => ?_)
    refine r_iinc (lv' := [(1, .int (x1 + 1)), (0, .ref (w.2.1 20)), (2, .int x2), (3, .int x3)]) hg 1 (x1 + 1) dX3_priceHappenings_67 rfl rfl (by decide) rfl ?_
    refine r_goto hg 2 dX3_priceHappenings_70 (by decide) ?_
    refine r_lv [1, 0] rfl ?_
    exact hK2 (x1 + 1) σ2
  · refine r_aload_n hg 0 dX3_priceHappenings_22 rfl ?_
    refine q_getr (j := 10) hg rfl rfl rfl (by decide) iX3 kf_RX3_36 rfl dX3_priceHappenings_23 ?_
    refine r_iload_n hg 1 dX3_priceHappenings_26 rfl ?_
    refine r_iaload (n := 256) hg rfl dX3_priceHappenings_27 ?_
    refine r_iconst hg 1 dX3_priceHappenings_28 (by decide) ?_
    refine r_iload_n hg 3 dX3_priceHappenings_29 rfl ?_
    refine r_ishl hg dX3_priceHappenings_30 ?_
    refine r_iand hg dX3_priceHappenings_31 ?_
    refine r_if_eq hg 52 dX3_priceHappenings_32 (by decide) ?_ ?_
    · refine r_iinc (lv' := [(3, .int (x3 + 1)), (0, .ref (w.2.1 20)), (1, .int x1), (2, .int x2)]) hg 3 (x3 + 1) dX3_priceHappenings_52 rfl rfl (by decide) rfl ?_
      refine r_goto hg 14 dX3_priceHappenings_55 (by decide) ?_
      refine r_lv [1, 2, 3, 0] rfl ?_
      exact hK14 x1 x2 (x3 + 1) σ
    · refine r_iload_n hg 2 dX3_priceHappenings_35 rfl ?_
      refine r_aload_n hg 0 dX3_priceHappenings_36 rfl ?_
      refine q_getr (j := 5) hg rfl rfl rfl (by decide) iX3 kf_RX3_9 rfl dX3_priceHappenings_37 ?_
      refine q_getr (j := 0) hg rfl rfl rfl (by decide) iX1 kf_RX3_139 rfl dX3_priceHappenings_40 ?_
      refine r_aload_n hg 0 dX3_priceHappenings_43 rfl ?_
      refine q_getr (j := 8) hg rfl rfl rfl (by decide) iX3 kf_RX3_29 rfl dX3_priceHappenings_44 ?_
      refine r_iload_n hg 3 dX3_priceHappenings_47 rfl ?_
      refine r_iaload (n := 12) hg rfl dX3_priceHappenings_48 ?_
      refine r_iaload (n := 12) hg rfl dX3_priceHappenings_49 ?_
      refine r_iadd hg dX3_priceHappenings_50 ?_
      refine q_name (fun u3 => ?_)
      refine r_istore_n (lv' := [(2, .int u3), (0, .ref (w.2.1 20)), (1, .int x1), (3, .int x3)]) hg dX3_priceHappenings_51 (by decide) rfl ?_
      refine r_iinc (lv' := [(3, .int (x3 + 1)), (2, .int u3), (0, .ref (w.2.1 20)), (1, .int x1)]) hg 3 (x3 + 1) dX3_priceHappenings_52 rfl rfl (by decide) rfl ?_
      refine r_goto hg 14 dX3_priceHappenings_55 (by decide) ?_
      refine r_lv [2, 3, 1, 0] rfl ?_
      exact hK14 x1 u3 (x3 + 1) σ
set_option maxHeartbeats 4000000 in
set_option maxRecDepth 100000 in
theorem vl_X3_priceHappenings_14 {N : Nat} (hg : m_ok (p, l, e, d, s, m, args, below, meth, c) w shC cX3_priceHappenings 4 RX3 none) (hdp : 2 ≤ d) {K2 : Int32 → Mem → Option (Int32 × Mem)} (hK2 : ∀ (x1 : Int32) (σ : Mem), Vj (p, l, e, d, s, m, args, below, meth, c) w shC 4 0 σ 2 [(0, .ref (w.2.1 20)), (1, .int x1)] [] (K2 x1 σ)) : ∀ (n : Nat) (x1 x2 x3 : Int32) (σ : Mem), Vj (p, l, e, d, s, m, args, below, meth, c) w shC 4 0 σ 14 [(0, .ref (w.2.1 20)), (1, .int x1), (2, .int x2), (3, .int x3)] [] (l_X3_priceHappenings_14 N K2 n x1 x2 x3 σ)
| 0, _, _, _, _ => Vj.none
| n + 1, x1, x2, x3, σ => vb_X3_priceHappenings_14 hg hdp hK2 (fun x1 x2 x3 σ => vl_X3_priceHappenings_14 hg hdp hK2 n x1 x2 x3 σ) x1 x2 x3 σ
set_option maxHeartbeats 4000000 in
set_option maxRecDepth 100000 in
theorem vb_X3_priceHappenings_2 {N : Nat} (hg : m_ok (p, l, e, d, s, m, args, below, meth, c) w shC cX3_priceHappenings 4 RX3 none) (hdp : 2 ≤ d) {K2 : Int32 → Mem → Option (Int32 × Mem)} (hK2 : ∀ (x1 : Int32) (σ : Mem), Vj (p, l, e, d, s, m, args, below, meth, c) w shC 4 0 σ 2 [(0, .ref (w.2.1 20)), (1, .int x1)] [] (K2 x1 σ)) (x1 : Int32) (σ : Mem) : Vj (p, l, e, d, s, m, args, below, meth, c) w shC 4 0 σ 2 [(0, .ref (w.2.1 20)), (1, .int x1)] [] (b_X3_priceHappenings_2 N K2 x1 σ) := by
  unfold b_X3_priceHappenings_2
  refine r_iload_n hg 1 dX3_priceHappenings_2 rfl ?_
  refine r_aload_n hg 0 dX3_priceHappenings_3 rfl ?_
  refine q_geti (j := 13) hg rfl rfl rfl (by decide) iX3 kf_RX3_100 rfl dX3_priceHappenings_4 ?_
  refine r_icmp_ge hg 73 dX3_priceHappenings_7 (by decide) ?_ ?_
  · exact r_ret hg dX3_priceHappenings_73 rfl rfl
  · refine r_iconst hg 0 dX3_priceHappenings_10 (by decide) ?_
    refine r_istore_n (lv' := [(2, .int 0), (0, .ref (w.2.1 20)), (1, .int x1)]) hg dX3_priceHappenings_11 (by decide) rfl ?_
    refine r_iconst hg 0 dX3_priceHappenings_12 (by decide) ?_
    refine r_istore_n (lv' := [(3, .int 0), (2, .int 0), (0, .ref (w.2.1 20)), (1, .int x1)]) hg dX3_priceHappenings_13 (by decide) rfl ?_
    refine r_lv [2, 3, 1, 0] rfl ?_
    exact vl_X3_priceHappenings_14 hg hdp hK2 N x1 0 0 σ
set_option maxHeartbeats 4000000 in
set_option maxRecDepth 100000 in
theorem vl_X3_priceHappenings_2 {N : Nat} (hg : m_ok (p, l, e, d, s, m, args, below, meth, c) w shC cX3_priceHappenings 4 RX3 none) (hdp : 2 ≤ d) : ∀ (n : Nat) (x1 : Int32) (σ : Mem), Vj (p, l, e, d, s, m, args, below, meth, c) w shC 4 0 σ 2 [(0, .ref (w.2.1 20)), (1, .int x1)] [] (l_X3_priceHappenings_2 N n x1 σ)
| 0, _, _ => Vj.none
| n + 1, x1, σ => vb_X3_priceHappenings_2 hg hdp (fun x1 σ => vl_X3_priceHappenings_2 hg hdp n x1 σ) x1 σ
set_option maxHeartbeats 4000000 in
set_option maxRecDepth 100000 in
theorem e_X3_priceHappenings (N : Nat) (l : Launch) (w : mW) (σ : Mem) : Ev l w shC yX3_priceHappenings cX3_priceHappenings 4 none 0 2 [.ref (w.2.1 20)] σ (f_X3_priceHappenings N σ) := by
  refine Ev.of (by decide) (m_c1_r m_c1_nil) (Nat.le_of_ble_eq_true rfl) (fun p e s m args below meth c hg => ?_)
  have hdp := Nat.le_refl 2
  unfold f_X3_priceHappenings
  show Vj (p, l, e, 2, s, m, args, below, meth, c) w shC 4 0 σ 0 [(0, .ref (w.2.1 20))] [] _
  refine r_iconst hg 0 dX3_priceHappenings_0 (by decide) ?_
  refine r_istore_n (lv' := [(1, .int 0), (0, .ref (w.2.1 20))]) hg dX3_priceHappenings_1 (by decide) rfl ?_
  refine r_lv [1, 0] rfl ?_
  exact vl_X3_priceHappenings_2 hg hdp N 0 σ
end CM2
