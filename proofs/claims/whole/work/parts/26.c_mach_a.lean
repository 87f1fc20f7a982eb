section CM0
variable {p : Program} {l : Launch} {e : Env} {d : Nat} {s : State} {m : MethodId} {args : Array Value} {below : List Frame} {meth : Method} {c : Code} {w : mW}
set_option maxHeartbeats 4000000 in
set_option maxRecDepth 100000 in
theorem vb_X4_bytesIn_5 {N : Nat} (hg : m_ok (p, l, e, d, s, m, args, below, meth, c) w shC cX4_bytesIn 3 RX4 (some .int)) (hdp : 0 ≤ d) {K5 : Int32 → Int32 → Int32 → Mem → Option (Int32 × Mem)} (hK5 : ∀ (x0 x1 x2 : Int32) (σ : Mem), Vj (p, l, e, d, s, m, args, below, meth, c) w shC 3 1 σ 5 [(0, .int x0), (1, .int x1), (2, .int x2)] [] (K5 x0 x1 x2 σ)) (x0 x1 x2 : Int32) (σ : Mem) : Vj (p, l, e, d, s, m, args, below, meth, c) w shC 3 1 σ 5 [(0, .int x0), (1, .int x1), (2, .int x2)] [] (b_X4_bytesIn_5 N K5 x0 x1 x2 σ) := by
  unfold b_X4_bytesIn_5
  refine r_iload_n hg 2 dX4_bytesIn_5 rfl ?_
  refine r_if_lt hg 28 dX4_bytesIn_6 (by decide) ?_ ?_
  · refine r_iload_n hg 1 dX4_bytesIn_28 rfl ?_
    exact r_iret hg dX4_bytesIn_29 rfl rfl
  · refine r_iload_n hg 0 dX4_bytesIn_9 rfl ?_
    refine r_iload_n hg 2 dX4_bytesIn_10 rfl ?_
    refine r_iushr hg dX4_bytesIn_11 ?_
    refine r_sipush hg 255 dX4_bytesIn_12 (by decide) ?_
    refine r_iand hg dX4_bytesIn_15 ?_
    refine r_if_eq hg 22 dX4_bytesIn_16 (by decide) ?_ ?_
    · refine r_iinc (lv' := [(2, .int (x2 + (-8))), (0, .int x0), (1, .int x1)]) hg 2 (x2 + (-8)) dX4_bytesIn_22 rfl rfl (by decide) rfl ?_
      refine r_goto hg 5 dX4_bytesIn_25 (by decide) ?_
      refine r_lv [1, 2, 0] rfl ?_
      exact hK5 x0 x1 (x2 + (-8)) σ
    · refine r_iinc (lv' := [(1, .int (x1 + 1)), (0, .int x0), (2, .int x2)]) hg 1 (x1 + 1) dX4_bytesIn_19 rfl rfl (by decide) rfl ?_
      refine r_iinc (lv' := [(2, .int (x2 + (-8))), (1, .int (x1 + 1)), (0, .int x0)]) hg 2 (x2 + (-8)) dX4_bytesIn_22 rfl rfl (by decide) rfl ?_
      refine r_goto hg 5 dX4_bytesIn_25 (by decide) ?_
      refine r_lv [2, 1, 0] rfl ?_
      exact hK5 x0 (x1 + 1) (x2 + (-8)) σ
set_option maxHeartbeats 4000000 in
set_option maxRecDepth 100000 in
theorem vl_X4_bytesIn_5 {N : Nat} (hg : m_ok (p, l, e, d, s, m, args, below, meth, c) w shC cX4_bytesIn 3 RX4 (some .int)) (hdp : 0 ≤ d) : ∀ (n : Nat) (x0 x1 x2 : Int32) (σ : Mem), Vj (p, l, e, d, s, m, args, below, meth, c) w shC 3 1 σ 5 [(0, .int x0), (1, .int x1), (2, .int x2)] [] (l_X4_bytesIn_5 N n x0 x1 x2 σ)
| 0, _, _, _, _ => Vj.none
| n + 1, x0, x1, x2, σ => vb_X4_bytesIn_5 hg hdp (fun x0 x1 x2 σ => vl_X4_bytesIn_5 hg hdp n x0 x1 x2 σ) x0 x1 x2 σ
set_option maxHeartbeats 4000000 in
set_option maxRecDepth 100000 in
theorem e_X4_bytesIn (N : Nat) (l : Launch) (w : mW) (v0 : Int32) (σ : Mem) : Ev l w shC yX4_bytesIn cX4_bytesIn 3 (some .int) 1 0 [.int v0] σ (f_X4_bytesIn N v0 σ) := by
  refine Ev.of (by decide) (m_c1_i m_c1_nil) (Nat.le_of_ble_eq_true rfl) (fun p e s m args below meth c hg => ?_)
  have hdp := Nat.le_refl 0
  unfold f_X4_bytesIn
  show Vj (p, l, e, 0, s, m, args, below, meth, c) w shC 3 1 σ 0 [(0, .int v0)] [] _
  refine r_iconst hg 0 dX4_bytesIn_0 (by decide) ?_
  refine r_istore_n (lv' := [(1, .int 0), (0, .int v0)]) hg dX4_bytesIn_1 (by decide) rfl ?_
  refine r_bipush hg 24 dX4_bytesIn_2 (by decide) ?_
  refine r_istore_n (lv' := [(2, .int 24), (1, .int 0), (0, .int v0)]) hg dX4_bytesIn_4 (by decide) rfl ?_
  refine r_lv [2, 1, 0] rfl ?_
  exact vl_X4_bytesIn_5 hg hdp N v0 0 24 σ
set_option maxHeartbeats 4000000 in
set_option maxRecDepth 100000 in
theorem vb_X4_append_3 {N : Nat} (hg : m_ok (p, l, e, d, s, m, args, below, meth, c) w shC cX4_append 4 RX4 none) (hdp : 0 ≤ d) {K3 : Int32 → Int32 → Mem → Option (Int32 × Mem)} (hK3 : ∀ (x1 x2 : Int32) (σ : Mem), Vj (p, l, e, d, s, m, args, below, meth, c) w shC 4 0 σ 3 [(0, .ref (w.2.1 17)), (1, .int x1), (2, .int x2)] [] (K3 x1 x2 σ)) (x1 x2 : Int32) (σ : Mem) : Vj (p, l, e, d, s, m, args, below, meth, c) w shC 4 0 σ 3 [(0, .ref (w.2.1 17)), (1, .int x1), (2, .int x2)] [] (b_X4_append_3 N K3 x1 x2 σ) := by
  unfold b_X4_append_3
  refine r_iload_n hg 2 dX4_append_3 rfl ?_
  refine r_if_lt hg 54 dX4_append_4 (by decide) ?_ ?_
  · exact r_ret hg dX4_append_54 rfl rfl
  · refine r_iload_n hg 1 dX4_append_7 rfl ?_
    refine r_iload_n hg 2 dX4_append_8 rfl ?_
    refine r_iushr hg dX4_append_9 ?_
    refine r_sipush hg 255 dX4_append_10 (by decide) ?_
    refine r_iand hg dX4_append_13 ?_
    refine q_name (fun u1 => ?_)
    refine r_istore_n (lv' := [(3, .int u1), (0, .ref (w.2.1 17)), (1, .int x1), (2, .int x2)]) hg dX4_append_14 (by decide) rfl ?_
    refine r_iload_n hg 0 dX4_append_15 rfl ?_
    refine r_if_eq hg 48 dX4_append_16 (by decide) ?_ ?_
    · refine r_iinc (lv' := [(2, .int (x2 + (-8))), (3, .int u1), (0, .ref (w.2.1 17)), (1, .int x1)]) hg 3 (x2 + (-8)) dX4_append_48 rfl rfl (by decide) rfl ?_
      refine r_goto hg 3 dX4_append_51 (by decide) ?_
      refine r_lv [2, 3, 0] rfl ?_
      exact hK3 x1 (x2 + (-8)) σ
    · refine r_aload_n hg 1 dX4_append_19 rfl ?_
      refine q_geti (j := 1) hg rfl rfl rfl (by decide) iX4 kf_RX4_15 rfl dX4_append_20 ?_
      refine r_bipush hg 120 dX4_append_23 (by decide) ?_
      refine r_icmp_ge hg 48 dX4_append_25 (by decide) ?_ ?_
      · refine r_iinc (lv' := [(2, .int (x2 + (-8))), (3, .int u1), (0, .ref (w.2.1 17)), (1, .int x1)]) hg 3 (x2 + (-8)) dX4_append_48 rfl rfl (by decide) rfl ?_
        refine r_goto hg 3 dX4_append_51 (by decide) ?_
        refine r_lv [2, 3, 0] rfl ?_
        exact hK3 x1 (x2 + (-8)) σ
      · refine r_aload_n hg 1 dX4_append_28 rfl ?_
        refine q_getr (j := 0) hg rfl rfl rfl (by decide) iX4 kf_RX4_11 rfl dX4_append_29 ?_
        refine r_aload_n hg 1 dX4_append_32 rfl ?_
        refine q_geti (j := 1) hg rfl rfl rfl (by decide) iX4 kf_RX4_15 rfl dX4_append_33 ?_
        refine r_iload_n hg 0 dX4_append_36 rfl ?_
        refine q_iastore (n := 120) hg rfl dX4_append_37 (fun σ2 => ?_)
        refine r_aload_n hg 1 dX4_append_38 rfl ?_
        refine r_dupr hg dX4_append_39 ?_
        refine q_geti (j := 1) hg rfl rfl rfl (by decide) iX4 kf_RX4_15 rfl dX4_append_40 ?_
        refine r_iconst hg 1 dX4_append_43 (by decide) ?_
        refine r_iadd hg dX4_append_44 ?_
        refine q_put (j := 1) hg rfl rfl rfl (by decide) iX4 kf_RX4_15 rfl tyX4_ok nmX4 rfl rfl dX4_append_45 (fun σ3 => ?_)
        refine r_iinc (lv' := [(2, .int (x2 + (-8))), (3, .int u1), (0, .ref (w.2.1 17)), (1, .int x1)]) hg 3 (x2 + (-8)) dX4_append_48 rfl rfl (by decide) rfl ?_
        refine r_goto hg 3 dX4_append_51 (by decide) ?_
        refine r_lv [2, 3, 0] rfl ?_
        exact hK3 x1 (x2 + (-8)) σ3
set_option maxHeartbeats 4000000 in
set_option maxRecDepth 100000 in
theorem vl_X4_append_3 {N : Nat} (hg : m_ok (p, l, e, d, s, m, args, below, meth, c) w shC cX4_append 4 RX4 none) (hdp : 0 ≤ d) : ∀ (n : Nat) (x1 x2 : Int32) (σ : Mem), Vj (p, l, e, d, s, m, args, below, meth, c) w shC 4 0 σ 3 [(0, .ref (w.2.1 17)), (1, .int x1), (2, .int x2)] [] (l_X4_append_3 N n x1 x2 σ)
| 0, _, _, _ => Vj.none
| n + 1, x1, x2, σ => vb_X4_append_3 hg hdp (fun x1 x2 σ => vl_X4_append_3 hg hdp n x1 x2 σ) x1 x2 σ
set_option maxHeartbeats 4000000 in
set_option maxRecDepth 100000 in
theorem e_X4_append (N : Nat) (l : Launch) (w : mW) (v1 : Int32) (σ : Mem) : Ev l w shC yX4_append cX4_append 4 none 0 0 [.ref (w.2.1 17), .int v1] σ (f_X4_append N v1 σ) := by
  refine Ev.of (by decide) (m_c1_r (m_c1_i m_c1_nil)) (Nat.le_of_ble_eq_true rfl) (fun p e s m args below meth c hg => ?_)
  have hdp := Nat.le_refl 0
  unfold f_X4_append
  show Vj (p, l, e, 0, s, m, args, below, meth, c) w shC 4 0 σ 0 [(0, .ref (w.2.1 17)), (1, .int v1)] [] _
  refine r_bipush hg 24 dX4_append_0 (by decide) ?_
  refine r_istore_n (lv' := [(2, .int 24), (0, .ref (w.2.1 17)), (1, .int v1)]) hg dX4_append_2 (by decide) rfl ?_
  refine r_lv [1, 2, 0] rfl ?_
  exact vl_X4_append_3 hg hdp N v1 24 σ
set_option maxHeartbeats 4000000 in
set_option maxRecDepth 100000 in
theorem e_X6_feed (N : Nat) (l : Launch) (w : mW) (v1 v2 v3 v4 v5 : Int32) (σ : Mem) : Ev l w shC yX6_feed cX6_feed 7 (some .int) 1 1 [.ref (w.2.1 16), .int v1, .int v2, .int v3, .int v4, .int v5] σ (f_X6_feed N v1 v2 v3 v4 v5 σ) := by
  refine Ev.of (by decide) (m_c1_r (m_c1_i (m_c1_i (m_c1_i (m_c1_i (m_c1_i m_c1_nil)))))) (Nat.le_of_ble_eq_true rfl) (fun p e s m args below meth c hg => ?_)
  have hdp := Nat.le_refl 1
  unfold f_X6_feed
  show Vj (p, l, e, 1, s, m, args, below, meth, c) w shC 7 1 σ 0 [(0, .ref (w.2.1 16)), (1, .int v1), (2, .int v2), (3, .int v3), (4, .int v4), (5, .int v5)] [] _
  refine r_iload_n hg 1 dX6_feed_0 rfl ?_
  refine q_calls1 hg (e_X4_bytesIn N l w v1 σ) kk_RX6_64 kt_X4_bytesIn np_X4_bytesIn (Nat.le_trans (by decide) hdp) rfl m_c1_nil (Nat.le_of_ble_eq_true rfl) dX6_feed_1 (fun r1 σ2 => ?_)
  refine r_iload_n hg 2 dX6_feed_4 rfl ?_
  refine q_calls1 hg (e_X4_bytesIn N l w v2 σ2) kk_RX6_64 kt_X4_bytesIn np_X4_bytesIn (Nat.le_trans (by decide) hdp) rfl (m_c1_i m_c1_nil) (Nat.le_of_ble_eq_true rfl) dX6_feed_5 (fun r3 σ4 => ?_)
  refine r_iadd hg dX6_feed_8 ?_
  refine r_iload_n hg 3 dX6_feed_9 rfl ?_
  refine q_calls1 hg (e_X4_bytesIn N l w v3 σ4) kk_RX6_64 kt_X4_bytesIn np_X4_bytesIn (Nat.le_trans (by decide) hdp) rfl (m_c1_i m_c1_nil) (Nat.le_of_ble_eq_true rfl) dX6_feed_10 (fun r5 σ6 => ?_)
  refine r_iadd hg dX6_feed_13 ?_
  refine r_iload hg 4 dX6_feed_14 rfl ?_
  refine q_calls1 hg (e_X4_bytesIn N l w v4 σ6) kk_RX6_64 kt_X4_bytesIn np_X4_bytesIn (Nat.le_trans (by decide) hdp) rfl (m_c1_i m_c1_nil) (Nat.le_of_ble_eq_true rfl) dX6_feed_16 (fun r7 σ8 => ?_)
  refine r_iadd hg dX6_feed_19 ?_
  refine r_iload hg 5 dX6_feed_20 rfl ?_
  refine q_calls1 hg (e_X4_bytesIn N l w v5 σ8) kk_RX6_64 kt_X4_bytesIn np_X4_bytesIn (Nat.le_trans (by decide) hdp) rfl (m_c1_i m_c1_nil) (Nat.le_of_ble_eq_true rfl) dX6_feed_22 (fun r9 σ10 => ?_)
  refine r_iadd hg dX6_feed_25 ?_
  refine q_name (fun u11 => ?_)
  refine r_istore (lv' := [(6, .int u11), (0, .ref (w.2.1 16)), (1, .int v1), (2, .int v2), (3, .int v3), (4, .int v4), (5, .int v5)]) hg dX6_feed_26 (by decide) rfl ?_
  refine r_aload_n hg 1 dX6_feed_28 rfl ?_
  refine q_getr (j := 0) hg rfl rfl rfl (by decide) iX6 kf_RX6_10 rfl dX6_feed_29 ?_
  refine q_geti (j := 1) hg rfl rfl rfl (by decide) iX4 kf_RX6_68 rfl dX6_feed_32 ?_
  refine r_iload hg 0 dX6_feed_35 rfl ?_
  refine r_iadd hg dX6_feed_37 ?_
  refine r_bipush hg 120 dX6_feed_38 (by decide) ?_
  refine r_icmp_le hg 45 dX6_feed_40 (by decide) ?_ ?_
  · refine r_aload_n hg 1 dX6_feed_45 rfl ?_
    refine q_getr (j := 0) hg rfl rfl rfl (by decide) iX6 kf_RX6_10 rfl dX6_feed_46 ?_
    refine r_iload_n hg 2 dX6_feed_49 rfl ?_
    refine q_callv0 hg (e_X4_append N l w v1 σ10) kk_RX6_71 ki_X4_append ks_RX4_X4_append rfl rfl np_X4_append (Nat.le_trans (by decide) hdp) rfl m_c1_nil (Nat.le_of_ble_eq_true rfl) dX6_feed_50 (fun r12 σ13 => ?_)
    refine r_aload_n hg 1 dX6_feed_53 rfl ?_
    refine q_getr (j := 0) hg rfl rfl rfl (by decide) iX6 kf_RX6_10 rfl dX6_feed_54 ?_
    refine r_iload_n hg 3 dX6_feed_57 rfl ?_
    refine q_callv0 hg (e_X4_append N l w v2 σ13) kk_RX6_71 ki_X4_append ks_RX4_X4_append rfl rfl np_X4_append (Nat.le_trans (by decide) hdp) rfl m_c1_nil (Nat.le_of_ble_eq_true rfl) dX6_feed_58 (fun r14 σ15 => ?_)
    refine r_aload_n hg 1 dX6_feed_61 rfl ?_
    refine q_getr (j := 0) hg rfl rfl rfl (by decide) iX6 kf_RX6_10 rfl dX6_feed_62 ?_
    refine r_iload_n hg 4 dX6_feed_65 rfl ?_
    refine q_callv0 hg (e_X4_append N l w v3 σ15) kk_RX6_71 ki_X4_append ks_RX4_X4_append rfl rfl np_X4_append (Nat.le_trans (by decide) hdp) rfl m_c1_nil (Nat.le_of_ble_eq_true rfl) dX6_feed_66 (fun r16 σ17 => ?_)
    refine r_aload_n hg 1 dX6_feed_69 rfl ?_
    refine q_getr (j := 0) hg rfl rfl rfl (by decide) iX6 kf_RX6_10 rfl dX6_feed_70 ?_
    refine r_iload hg 5 dX6_feed_73 rfl ?_
    refine q_callv0 hg (e_X4_append N l w v4 σ17) kk_RX6_71 ki_X4_append ks_RX4_X4_append rfl rfl np_X4_append (Nat.le_trans (by decide) hdp) rfl m_c1_nil (Nat.le_of_ble_eq_true rfl) dX6_feed_75 (fun r18 σ19 => ?_)
    refine r_aload_n hg 1 dX6_feed_78 rfl ?_
    refine q_getr (j := 0) hg rfl rfl rfl (by decide) iX6 kf_RX6_10 rfl dX6_feed_79 ?_
    refine r_iload hg 6 dX6_feed_82 rfl ?_
    refine q_callv0 hg (e_X4_append N l w v5 σ19) kk_RX6_71 ki_X4_append ks_RX4_X4_append rfl rfl np_X4_append (Nat.le_trans (by decide) hdp) rfl m_c1_nil (Nat.le_of_ble_eq_true rfl) dX6_feed_84 (fun r20 σ21 => ?_)
    refine r_aload_n hg 1 dX6_feed_87 rfl ?_
    refine q_getr (j := 0) hg rfl rfl rfl (by decide) iX6 kf_RX6_10 rfl dX6_feed_88 ?_
    refine q_geti (j := 1) hg rfl rfl rfl (by decide) iX4 kf_RX6_68 rfl dX6_feed_91 ?_
    exact r_iret hg dX6_feed_94 rfl rfl
  · refine r_iconst hg (-1) dX6_feed_43 (by decide) ?_
    exact r_iret hg dX6_feed_44 rfl rfl
set_option maxHeartbeats 4000000 in
set_option maxRecDepth 100000 in
theorem e_X6_end (N : Nat) (l : Launch) (w : mW) (v1 : Int32) (σ : Mem) : Ev l w shC yX6_end cX6_end 2 (some .boolean) 1 0 [.ref (w.2.1 16), .int v1] σ (f_X6_end N v1 σ) := by
  refine Ev.of (by decide) (m_c1_r (m_c1_i m_c1_nil)) (Nat.le_of_ble_eq_true rfl) (fun p e s m args below meth c hg => ?_)
  have hdp := Nat.le_refl 0
  unfold f_X6_end
  show Vj (p, l, e, 0, s, m, args, below, meth, c) w shC 2 1 σ 0 [(0, .ref (w.2.1 16)), (1, .int v1)] [] _
  refine r_iload_n hg 1 dX6_end_0 rfl ?_
  refine r_if_lt hg 15 dX6_end_1 (by decide) ?_ ?_
  · refine r_iconst hg 0 dX6_end_15 (by decide) ?_
    exact r_zret hg dX6_end_16 rfl rfl
  · refine r_iload_n hg 1 dX6_end_4 rfl ?_
    refine r_aload_n hg 0 dX6_end_5 rfl ?_
    refine q_getr (j := 0) hg rfl rfl rfl (by decide) iX6 kf_RX6_10 rfl dX6_end_6 ?_
    refine q_geti (j := 1) hg rfl rfl rfl (by decide) iX4 kf_RX6_68 rfl dX6_end_9 ?_
    refine r_icmp_le hg 17 dX6_end_12 (by decide) ?_ ?_
    · refine r_aload_n hg 0 dX6_end_17 rfl ?_
      refine q_getr (j := 0) hg rfl rfl rfl (by decide) iX6 kf_RX6_10 rfl dX6_end_18 ?_
      refine r_iload_n hg 1 dX6_end_21 rfl ?_
      refine q_put (j := 1) hg rfl rfl rfl (by decide) iX4 kf_RX6_68 rfl tyX4_ok nmX4 rfl rfl dX6_end_22 (fun σ1 => ?_)
      refine r_iconst hg 1 dX6_end_25 (by decide) ?_
      exact r_zret hg dX6_end_26 rfl rfl
    · refine r_iconst hg 0 dX6_end_15 (by decide) ?_
      exact r_zret hg dX6_end_16 rfl rfl
set_option maxHeartbeats 4000000 in
set_option maxRecDepth 100000 in
theorem e_X0_forget (N : Nat) (l : Launch) (w : mW) (v0 : Int32) (σ : Mem) : Ev l w shC yX0_forget cX0_forget 1 none 0 1 [m_rf w.2.1 v0] σ (f_X0_forget N v0 σ) := by
  refine Ev.of (by decide) (m_c1_q m_c1_nil) (Nat.le_of_ble_eq_true rfl) (fun p e s m args below meth c hg => ?_)
  have hdp := Nat.le_refl 1
  unfold f_X0_forget
  show Vj (p, l, e, 1, s, m, args, below, meth, c) w shC 1 0 σ 0 [(0, m_rf w.2.1 v0)] [] _
  refine r_gets2 hg kf_RX0_23 dX0_forget_0 ?_
  refine r_iconst hg 0 dX0_forget_3 (by decide) ?_
  refine r_aloadq_n hg 0 dX0_forget_4 rfl ?_
  refine q_getq (b := 8) hg shC_q rfl (by decide) iX0 kf_RX0_9 rfl dX0_forget_5 (fun h1 => ?_)
  refine r_iconst hg 0 dX0_forget_8 (by decide) ?_
  refine r_bipush hg 10 dX0_forget_9 (by decide) ?_
  refine r_copyS hg (Nat.le_trans (by decide) hdp) (shC_w h1) km_RX0_26 m_c1_nil (Nat.le_of_ble_eq_true rfl) dX0_forget_11 (fun σ2 => ?_)
  exact r_ret hg dX0_forget_14 rfl rfl
set_option maxHeartbeats 4000000 in
set_option maxRecDepth 100000 in
theorem vb_X4_pastBlanks_2 {N : Nat} (hg : m_ok (p, l, e, d, s, m, args, below, meth, c) w shC cX4_pastBlanks 3 RX4 (some .int)) (hdp : 0 ≤ d) {K2 : Int32 → Mem → Option (Int32 × Mem)} (hK2 : ∀ (x2 : Int32) (σ : Mem), Vj (p, l, e, d, s, m, args, below, meth, c) w shC 3 1 σ 2 [(0, .ref (w.2.1 17)), (2, .int x2)] [] (K2 x2 σ)) (x2 : Int32) (σ : Mem) : Vj (p, l, e, d, s, m, args, below, meth, c) w shC 3 1 σ 2 [(0, .ref (w.2.1 17)), (2, .int x2)] [] (b_X4_pastBlanks_2 N K2 x2 σ) := by
  unfold b_X4_pastBlanks_2
  refine r_iload_n hg 1 dX4_pastBlanks_2 rfl ?_
  refine r_aload_n hg 0 dX4_pastBlanks_3 rfl ?_
  refine q_geti (j := 1) hg rfl rfl rfl (by decide) iX4 kf_RX4_15 rfl dX4_pastBlanks_4 ?_
  refine r_icmp_ge hg 27 dX4_pastBlanks_7 (by decide) ?_ ?_
  · refine r_iload_n hg 1 dX4_pastBlanks_27 rfl ?_
    exact r_iret hg dX4_pastBlanks_28 rfl rfl
  · refine r_aload_n hg 0 dX4_pastBlanks_10 rfl ?_
    refine q_getr (j := 0) hg rfl rfl rfl (by decide) iX4 kf_RX4_11 rfl dX4_pastBlanks_11 ?_
    refine r_iload_n hg 1 dX4_pastBlanks_14 rfl ?_
    refine r_iaload (n := 120) hg rfl dX4_pastBlanks_15 ?_
    refine r_bipush hg 32 dX4_pastBlanks_16 (by decide) ?_
    refine r_icmp_ne hg 27 dX4_pastBlanks_18 (by decide) ?_ ?_
    · refine r_iload_n hg 1 dX4_pastBlanks_27 rfl ?_
      exact r_iret hg dX4_pastBlanks_28 rfl rfl
    · refine r_iinc (lv' := [(2, .int (x2 + 1)), (0, .ref (w.2.1 17))]) hg 1 (x2 + 1) dX4_pastBlanks_21 rfl rfl (by decide) rfl ?_
      refine r_goto hg 2 dX4_pastBlanks_24 (by decide) ?_
      refine r_lv [1, 0] rfl ?_
      exact hK2 (x2 + 1) σ
set_option maxHeartbeats 4000000 in
set_option maxRecDepth 100000 in
theorem vl_X4_pastBlanks_2 {N : Nat} (hg : m_ok (p, l, e, d, s, m, args, below, meth, c) w shC cX4_pastBlanks 3 RX4 (some .int)) (hdp : 0 ≤ d) : ∀ (n : Nat) (x2 : Int32) (σ : Mem), Vj (p, l, e, d, s, m, args, below, meth, c) w shC 3 1 σ 2 [(0, .ref (w.2.1 17)), (2, .int x2)] [] (l_X4_pastBlanks_2 N n x2 σ)
| 0, _, _ => Vj.none
| n + 1, x2, σ => vb_X4_pastBlanks_2 hg hdp (fun x2 σ => vl_X4_pastBlanks_2 hg hdp n x2 σ) x2 σ
set_option maxHeartbeats 4000000 in
set_option maxRecDepth 100000 in
theorem e_X4_pastBlanks (N : Nat) (l : Launch) (w : mW) (v1 : Int32) (σ : Mem) : Ev l w shC yX4_pastBlanks cX4_pastBlanks 3 (some .int) 1 0 [.ref (w.2.1 17), .int v1] σ (f_X4_pastBlanks N v1 σ) := by
  refine Ev.of (by decide) (m_c1_r (m_c1_i m_c1_nil)) (Nat.le_of_ble_eq_true rfl) (fun p e s m args below meth c hg => ?_)
  have hdp := Nat.le_refl 0
  unfold f_X4_pastBlanks
  show Vj (p, l, e, 0, s, m, args, below, meth, c) w shC 3 1 σ 0 [(0, .ref (w.2.1 17)), (1, .int v1)] [] _
  refine r_iload_n hg 1 dX4_pastBlanks_0 rfl ?_
  refine r_istore_n (lv' := [(2, .int v1), (0, .ref (w.2.1 17)), (1, .int v1)]) hg dX4_pastBlanks_1 (by decide) rfl ?_
  refine r_lv [1, 0] rfl ?_
  exact vl_X4_pastBlanks_2 hg hdp N v1 σ
set_option maxHeartbeats 4000000 in
set_option maxRecDepth 100000 in
theorem e_X0_whatOf (N : Nat) (l : Launch) (w : mW) (v0 : Int32) (σ : Mem) : Ev l w shC yX0_whatOf cX0_whatOf 1 (some .int) 1 4 [.int v0] σ (f_X0_whatOf N v0 σ) := by
  refine Ev.of (by decide) (m_c1_i m_c1_nil) (Nat.le_of_ble_eq_true rfl) (fun p e s m args below meth c hg => ?_)
  have hdp := Nat.le_refl 4
  unfold f_X0_whatOf
  show Vj (p, l, e, 4, s, m, args, below, meth, c) w shC 1 1 σ 0 [(0, .int v0)] [] _
  refine r_ldcS0 hg dX0_whatOf_0 ?_
  refine r_iload_n hg 0 dX0_whatOf_2 rfl ?_
  refine r_i2c hg dX0_whatOf_3 ?_
  refine q_callx1 hg (e_J0_indexOf_0f7a4 N l w (i2c v0) σ) kk_RX0_17 ki_J0_indexOf_0f7a4 ks_RJ0_J0_indexOf_0f7a4 np_J0_indexOf_0f7a4 (Nat.le_trans (by decide) hdp) rfl m_c1_nil (Nat.le_of_ble_eq_true rfl) dX0_whatOf_4 (fun r1 σ2 => ?_)
  exact r_iret hg dX0_whatOf_7 rfl rfl
set_option maxHeartbeats 4000000 in
set_option maxRecDepth 100000 in
theorem e_X4_isDigit (N : Nat) (l : Launch) (w : mW) (v1 : Int32) (σ : Mem) : Ev l w shC yX4_isDigit cX4_isDigit 2 (some .boolean) 1 0 [.ref (w.2.1 17), .int v1] σ (f_X4_isDigit N v1 σ) := by
  refine Ev.of (by decide) (m_c1_r (m_c1_i m_c1_nil)) (Nat.le_of_ble_eq_true rfl) (fun p e s m args below meth c hg => ?_)
  have hdp := Nat.le_refl 0
  unfold f_X4_isDigit
  show Vj (p, l, e, 0, s, m, args, below, meth, c) w shC 2 1 σ 0 [(0, .ref (w.2.1 17)), (1, .int v1)] [] _
  refine r_iload_n hg 1 dX4_isDigit_0 rfl ?_
  refine r_aload_n hg 0 dX4_isDigit_1 rfl ?_
  refine q_geti (j := 1) hg rfl rfl rfl (by decide) iX4 kf_RX4_15 rfl dX4_isDigit_2 ?_
  refine r_icmp_ge hg 34 dX4_isDigit_5 (by decide) ?_ ?_
  · refine r_iconst hg 0 dX4_isDigit_34 (by decide) ?_
    exact r_zret hg dX4_isDigit_35 rfl rfl
  · refine r_aload_n hg 0 dX4_isDigit_8 rfl ?_
    refine q_getr (j := 0) hg rfl rfl rfl (by decide) iX4 kf_RX4_11 rfl dX4_isDigit_9 ?_
    refine r_iload_n hg 1 dX4_isDigit_12 rfl ?_
    refine r_iaload (n := 120) hg rfl dX4_isDigit_13 ?_
    refine r_bipush hg 48 dX4_isDigit_14 (by decide) ?_
    refine r_icmp_lt hg 34 dX4_isDigit_16 (by decide) ?_ ?_
    · refine r_iconst hg 0 dX4_isDigit_34 (by decide) ?_
      exact r_zret hg dX4_isDigit_35 rfl rfl
    · refine r_aload_n hg 0 dX4_isDigit_19 rfl ?_
      refine q_getr (j := 0) hg rfl rfl rfl (by decide) iX4 kf_RX4_11 rfl dX4_isDigit_20 ?_
      refine r_iload_n hg 1 dX4_isDigit_23 rfl ?_
      refine r_iaload (n := 120) hg rfl dX4_isDigit_24 ?_
      refine r_bipush hg 57 dX4_isDigit_25 (by decide) ?_
      refine r_icmp_gt hg 34 dX4_isDigit_27 (by decide) ?_ ?_
      · refine r_iconst hg 0 dX4_isDigit_34 (by decide) ?_
        exact r_zret hg dX4_isDigit_35 rfl rfl
      · refine r_iconst hg 1 dX4_isDigit_30 (by decide) ?_
        refine r_goto hg 35 dX4_isDigit_31 (by decide) ?_
        exact r_zret hg dX4_isDigit_35 rfl rfl
set_option maxHeartbeats 4000000 in
set_option maxRecDepth 100000 in
theorem vb_X4_valueOf_5 {N : Nat} (hg : m_ok (p, l, e, d, s, m, args, below, meth, c) w shC cX4_valueOf 5 RX4 (some .int)) (hdp : 0 ≤ d) {K5 : Int32 → Int32 → Int32 → Mem → Option (Int32 × Mem)} (hK5 : ∀ (x2 x3 x4 : Int32) (σ : Mem), Vj (p, l, e, d, s, m, args, below, meth, c) w shC 5 1 σ 5 [(0, .ref (w.2.1 17)), (2, .int x2), (3, .int x3), (4, .int x4)] [] (K5 x2 x3 x4 σ)) (x2 x3 x4 : Int32) (σ : Mem) : Vj (p, l, e, d, s, m, args, below, meth, c) w shC 5 1 σ 5 [(0, .ref (w.2.1 17)), (2, .int x2), (3, .int x3), (4, .int x4)] [] (b_X4_valueOf_5 N K5 x2 x3 x4 σ) := by
  unfold b_X4_valueOf_5
  refine r_iload hg 3 dX4_valueOf_5 rfl ?_
  refine r_iload_n hg 1 dX4_valueOf_7 rfl ?_
  refine r_icmp_gt hg 42 dX4_valueOf_8 (by decide) ?_ ?_
  · refine r_iload_n hg 2 dX4_valueOf_42 rfl ?_
    exact r_iret hg dX4_valueOf_43 rfl rfl
  · refine r_iload hg 3 dX4_valueOf_11 rfl ?_
    refine r_aload_n hg 0 dX4_valueOf_13 rfl ?_
    refine q_geti (j := 1) hg rfl rfl rfl (by decide) iX4 kf_RX4_15 rfl dX4_valueOf_14 ?_
    refine r_icmp_ge hg 42 dX4_valueOf_17 (by decide) ?_ ?_
    · refine r_iload_n hg 2 dX4_valueOf_42 rfl ?_
      exact r_iret hg dX4_valueOf_43 rfl rfl
    · refine r_bipush hg 10 dX4_valueOf_20 (by decide) ?_
      refine r_iload_n hg 2 dX4_valueOf_22 rfl ?_
      refine r_imul hg dX4_valueOf_23 ?_
      refine r_aload_n hg 0 dX4_valueOf_24 rfl ?_
      refine q_getr (j := 0) hg rfl rfl rfl (by decide) iX4 kf_RX4_11 rfl dX4_valueOf_25 ?_
      refine r_iload hg 3 dX4_valueOf_28 rfl ?_
      refine r_iaload (n := 120) hg rfl dX4_valueOf_30 ?_
      refine r_iadd hg dX4_valueOf_31 ?_
      refine r_bipush hg 48 dX4_valueOf_32 (by decide) ?_
      refine r_isub hg dX4_valueOf_34 ?_
      refine q_name (fun u1 => ?_)
      refine r_istore_n (lv' := [(3, .int u1), (0, .ref (w.2.1 17)), (2, .int x2), (4, .int x4)]) hg dX4_valueOf_35 (by decide) rfl ?_
      refine r_iinc (lv' := [(4, .int (x4 + 1)), (3, .int u1), (0, .ref (w.2.1 17)), (2, .int x2)]) hg 3 (x4 + 1) dX4_valueOf_36 rfl rfl (by decide) rfl ?_
      refine r_goto hg 5 dX4_valueOf_39 (by decide) ?_
      refine r_lv [2, 3, 1, 0] rfl ?_
      exact hK5 x2 u1 (x4 + 1) σ
set_option maxHeartbeats 4000000 in
set_option maxRecDepth 100000 in
theorem vl_X4_valueOf_5 {N : Nat} (hg : m_ok (p, l, e, d, s, m, args, below, meth, c) w shC cX4_valueOf 5 RX4 (some .int)) (hdp : 0 ≤ d) : ∀ (n : Nat) (x2 x3 x4 : Int32) (σ : Mem), Vj (p, l, e, d, s, m, args, below, meth, c) w shC 5 1 σ 5 [(0, .ref (w.2.1 17)), (2, .int x2), (3, .int x3), (4, .int x4)] [] (l_X4_valueOf_5 N n x2 x3 x4 σ)
| 0, _, _, _, _ => Vj.none
| n + 1, x2, x3, x4, σ => vb_X4_valueOf_5 hg hdp (fun x2 x3 x4 σ => vl_X4_valueOf_5 hg hdp n x2 x3 x4 σ) x2 x3 x4 σ
set_option maxHeartbeats 4000000 in
set_option maxRecDepth 100000 in
theorem e_X4_valueOf (N : Nat) (l : Launch) (w : mW) (v1 v2 : Int32) (σ : Mem) : Ev l w shC yX4_valueOf cX4_valueOf 5 (some .int) 1 0 [.ref (w.2.1 17), .int v1, .int v2] σ (f_X4_valueOf N v1 v2 σ) := by
  refine Ev.of (by decide) (m_c1_r (m_c1_i (m_c1_i m_c1_nil))) (Nat.le_of_ble_eq_true rfl) (fun p e s m args below meth c hg => ?_)
  have hdp := Nat.le_refl 0
  unfold f_X4_valueOf
  show Vj (p, l, e, 0, s, m, args, below, meth, c) w shC 5 1 σ 0 [(0, .ref (w.2.1 17)), (1, .int v1), (2, .int v2)] [] _
  refine r_iconst hg 0 dX4_valueOf_0 (by decide) ?_
  refine r_istore_n (lv' := [(3, .int 0), (0, .ref (w.2.1 17)), (1, .int v1), (2, .int v2)]) hg dX4_valueOf_1 (by decide) rfl ?_
  refine r_iload_n hg 2 dX4_valueOf_2 rfl ?_
  refine r_istore (lv' := [(4, .int v1), (3, .int 0), (0, .ref (w.2.1 17)), (1, .int v1), (2, .int v2)]) hg dX4_valueOf_3 (by decide) rfl ?_
  refine r_lv [2, 4, 1, 0] rfl ?_
  exact vl_X4_valueOf_5 hg hdp N v2 0 v1 σ
set_option maxHeartbeats 4000000 in
set_option maxRecDepth 100000 in
theorem e_X6_isWithin (N : Nat) (l : Launch) (w : mW) (v0 v1 v2 : Int32) (σ : Mem) : Ev l w shC yX6_isWithin cX6_isWithin 3 (some .boolean) 1 0 [.int v0, .int v1, .int v2] σ (f_X6_isWithin N v0 v1 v2 σ) := by
  refine Ev.of (by decide) (m_c1_i (m_c1_i (m_c1_i m_c1_nil))) (Nat.le_of_ble_eq_true rfl) (fun p e s m args below meth c hg => ?_)
  have hdp := Nat.le_refl 0
  unfold f_X6_isWithin
  show Vj (p, l, e, 0, s, m, args, below, meth, c) w shC 3 1 σ 0 [(0, .int v0), (1, .int v1), (2, .int v2)] [] _
  refine r_iload_n hg 0 dX6_isWithin_0 rfl ?_
  refine r_iload_n hg 1 dX6_isWithin_1 rfl ?_
  refine r_icmp_lt hg 14 dX6_isWithin_2 (by decide) ?_ ?_
  · refine r_iconst hg 0 dX6_isWithin_14 (by decide) ?_
    exact r_zret hg dX6_isWithin_15 rfl rfl
  · refine r_iload_n hg 0 dX6_isWithin_5 rfl ?_
    refine r_iload_n hg 2 dX6_isWithin_6 rfl ?_
    refine r_icmp_gt hg 14 dX6_isWithin_7 (by decide) ?_ ?_
    · refine r_iconst hg 0 dX6_isWithin_14 (by decide) ?_
      exact r_zret hg dX6_isWithin_15 rfl rfl
    · refine r_iconst hg 1 dX6_isWithin_10 (by decide) ?_
      refine r_goto hg 15 dX6_isWithin_11 (by decide) ?_
      exact r_zret hg dX6_isWithin_15 rfl rfl
set_option maxHeartbeats 4000000 in
set_option maxRecDepth 100000 in
theorem e_X0_tell (N : Nat) (l : Launch) (w : mW) (v0 v1 v2 : Int32) (σ : Mem) : Ev l w shC yX0_tell cX0_tell 3 (some .boolean) 1 1 [m_rf w.2.1 v0, .int v1, .int v2] σ (f_X0_tell N v0 v1 v2 σ) := by
  refine Ev.of (by decide) (m_c1_q (m_c1_i (m_c1_i m_c1_nil))) (Nat.le_of_ble_eq_true rfl) (fun p e s m args below meth c hg => ?_)
  have hdp := Nat.le_refl 1
  unfold f_X0_tell
  show Vj (p, l, e, 1, s, m, args, below, meth, c) w shC 3 1 σ 0 [(0, m_rf w.2.1 v0), (1, .int v1), (2, .int v2)] [] _
  refine r_iload_n hg 1 dX0_tell_0 rfl ?_
  refine r_iconst hg 0 dX0_tell_1 (by decide) ?_
  refine r_bipush hg 9 dX0_tell_2 (by decide) ?_
  refine q_callsN1 hg (e_X6_isWithin N l w v1 0 9 σ) id kc_X6_isWithin kz_RX6 (by decide) (by decide) (by decide) kt_X6_isWithin np_X6_isWithin (Nat.le_trans (by decide) hdp) rfl m_c1_nil (Nat.le_of_ble_eq_true rfl) dX0_tell_4 (fun r1 σ2 => ?_)
  refine r_if_eq hg 27 dX0_tell_7 (by decide) ?_ ?_
  · refine r_iconst hg 0 dX0_tell_27 (by decide) ?_
    exact r_zret hg dX0_tell_28 rfl rfl
  · refine r_iload_n hg 2 dX0_tell_10 rfl ?_
    refine r_gets0 hg kf_RX0_36 dX0_tell_11 ?_
    refine r_iload_n hg 1 dX0_tell_14 rfl ?_
    refine r_ldst0 hg dX0_tell_15 ?_
    refine r_gets1 hg kf_RX0_39 dX0_tell_16 ?_
    refine r_iload_n hg 1 dX0_tell_19 rfl ?_
    refine r_ldst1 hg dX0_tell_20 ?_
    refine q_callsN1 hg (e_X6_isWithin N l w v2 (m_le.getD v1.toNatClampNeg 0) (m_gr.getD v1.toNatClampNeg 0) σ2) id kc_X6_isWithin kz_RX6 (by decide) (by decide) (by decide) kt_X6_isWithin np_X6_isWithin (Nat.le_trans (by decide) hdp) rfl m_c1_nil (Nat.le_of_ble_eq_true rfl) dX0_tell_21 (fun r3 σ4 => ?_)
    refine r_if_ne hg 29 dX0_tell_24 (by decide) ?_ ?_
    · refine r_aloadq_n hg 0 dX0_tell_29 rfl ?_
      refine q_getq (b := 8) hg shC_q rfl (by decide) iX0 kf_RX0_9 rfl dX0_tell_30 (fun h5 => ?_)
      refine r_iload_n hg 1 dX0_tell_33 rfl ?_
      refine r_iload_n hg 2 dX0_tell_34 rfl ?_
      refine q_iastore (n := 10) hg (shC_w h5) dX0_tell_35 (fun σ6 => ?_)
      refine r_iconst hg 1 dX0_tell_36 (by decide) ?_
      exact r_zret hg dX0_tell_37 rfl rfl
    · refine r_iconst hg 0 dX0_tell_27 (by decide) ?_
      exact r_zret hg dX0_tell_28 rfl rfl
set_option maxHeartbeats 4000000 in
set_option maxRecDepth 100000 in
theorem vj_X4_readInto_122 {N : Nat} (hg : m_ok (p, l, e, d, s, m, args, below, meth, c) w shC cX4_readInto 7 RX4 (some .int)) (hdp : 5 ≤ d) {K8 : Int32 → Int32 → Int32 → Mem → Option (Int32 × Mem)} (hK8 : ∀ (x1 x2 x3 : Int32) (σ : Mem), Vj (p, l, e, d, s, m, args, below, meth, c) w shC 7 1 σ 8 [(0, .ref (w.2.1 17)), (1, m_rf w.2.1 x1), (2, .int x2), (3, .int x3)] [] (K8 x1 x2 x3 σ)) (x1 x3 x4 x5 y0 : Int32) (σ : Mem) : Vj (p, l, e, d, s, m, args, below, meth, c) w shC 7 1 σ 122 [(0, .ref (w.2.1 17)), (1, m_rf w.2.1 x1), (3, .int x3), (4, .int x4), (5, .int x5)] [.int y0] (j_X4_readInto_122 N K8 x1 x3 x4 x5 y0 σ) := by
  unfold j_X4_readInto_122
  refine r_istore (lv' := [(6, .int y0), (0, .ref (w.2.1 17)), (1, m_rf w.2.1 x1), (3, .int x3), (4, .int x4), (5, .int x5)]) hg dX4_readInto_122 (by decide) rfl ?_
  refine r_aloadq_n hg 2 dX4_readInto_124 rfl ?_
  refine r_iload hg 4 dX4_readInto_125 rfl ?_
  refine r_aload_n hg 1 dX4_readInto_127 rfl ?_
  refine r_iload hg 5 dX4_readInto_128 rfl ?_
  refine r_iload hg 0 dX4_readInto_130 rfl ?_
  refine q_callv1 hg (e_X4_valueOf N l w x5 y0 σ) kk_RX4_35 ki_X4_valueOf ks_RX4_X4_valueOf rfl rfl np_X4_valueOf (Nat.le_trans (by decide) hdp) rfl (m_c1_i (m_c1_q m_c1_nil)) (Nat.le_of_ble_eq_true rfl) dX4_readInto_132 (fun r1 σ2 => ?_)
  refine q_callq1 hg (e_X0_tell N l w x1 x4 r1 σ2) kk_RX4_39 ki_X0_tell ks_RX0_X0_tell shC_q2 np_X0_tell (Nat.le_trans (by decide) hdp) rfl m_c1_nil (Nat.le_of_ble_eq_true rfl) dX4_readInto_135 (fun r3 σ4 => ?_)
  refine r_if_ne hg 144 dX4_readInto_138 (by decide) ?_ ?_
  · refine r_aload_n hg 1 dX4_readInto_144 rfl ?_
    refine r_iload hg 0 dX4_readInto_145 rfl ?_
    refine r_iconst hg 1 dX4_readInto_147 (by decide) ?_
    refine r_iadd hg dX4_readInto_148 ?_
    refine q_callv1 hg (e_X4_pastBlanks N l w (y0 + 1) σ4) kk_RX4_24 ki_X4_pastBlanks ks_RX4_X4_pastBlanks rfl rfl np_X4_pastBlanks (Nat.le_trans (by decide) hdp) rfl m_c1_nil (Nat.le_of_ble_eq_true rfl) dX4_readInto_149 (fun r5 σ6 => ?_)
    refine r_istore_n (lv' := [(2, .int r5), (6, .int y0), (0, .ref (w.2.1 17)), (1, m_rf w.2.1 x1), (3, .int x3), (4, .int x4), (5, .int x5)]) hg dX4_readInto_152 (by decide) rfl ?_
    refine r_iload_n hg 0 dX4_readInto_153 rfl ?_
    refine r_aload_n hg 2 dX4_readInto_154 rfl ?_
    refine q_geti (j := 1) hg rfl rfl rfl (by decide) iX4 kf_RX4_15 rfl dX4_readInto_155 ?_
    refine r_icmp_lt hg 163 dX4_readInto_158 (by decide) ?_ ?_
    · refine r_aload_n hg 2 dX4_readInto_163 rfl ?_
      refine q_getr (j := 0) hg rfl rfl rfl (by decide) iX4 kf_RX4_11 rfl dX4_readInto_164 ?_
      refine r_iload_n hg 0 dX4_readInto_167 rfl ?_
      refine r_iaload (n := 120) hg rfl dX4_readInto_168 ?_
      refine r_bipush hg 59 dX4_readInto_169 (by decide) ?_
      refine r_icmp_eq hg 176 dX4_readInto_171 (by decide) ?_ ?_
      · refine r_iinc (lv' := [(2, .int (r5 + 1)), (6, .int y0), (0, .ref (w.2.1 17)), (1, m_rf w.2.1 x1), (3, .int x3), (4, .int x4), (5, .int x5)]) hg 0 (r5 + 1) dX4_readInto_176 rfl rfl (by decide) rfl ?_
        refine r_iinc (lv' := [(3, .int (x3 + 1)), (2, .int (r5 + 1)), (6, .int y0), (0, .ref (w.2.1 17)), (1, m_rf w.2.1 x1), (4, .int x4), (5, .int x5)]) hg 4 (x3 + 1) dX4_readInto_179 rfl rfl (by decide) rfl ?_
        refine r_goto hg 8 dX4_readInto_182 (by decide) ?_
        refine r_lv [3, 4, 1, 0] rfl ?_
        exact hK8 x1 (r5 + 1) (x3 + 1) σ6
      · refine r_iload_n hg 0 dX4_readInto_174 rfl ?_
        exact r_iret hg dX4_readInto_175 rfl rfl
    · refine r_iconst hg (-1) dX4_readInto_161 (by decide) ?_
      exact r_iret hg dX4_readInto_162 rfl rfl
  · refine r_iload hg 0 dX4_readInto_141 rfl ?_
    exact r_iret hg dX4_readInto_143 rfl rfl
set_option maxHeartbeats 4000000 in
set_option maxRecDepth 100000 in
theorem vj_X4_readInto_41 {N : Nat} (hg : m_ok (p, l, e, d, s, m, args, below, meth, c) w shC cX4_readInto 7 RX4 (some .int)) (hdp : 5 ≤ d) {K8 : Int32 → Int32 → Int32 → Mem → Option (Int32 × Mem)} (hK8 : ∀ (x1 x2 x3 : Int32) (σ : Mem), Vj (p, l, e, d, s, m, args, below, meth, c) w shC 7 1 σ 8 [(0, .ref (w.2.1 17)), (1, m_rf w.2.1 x1), (2, .int x2), (3, .int x3)] [] (K8 x1 x2 x3 σ)) (x1 x2 x3 y0 : Int32) (σ : Mem) : Vj (p, l, e, d, s, m, args, below, meth, c) w shC 7 1 σ 41 [(0, .ref (w.2.1 17)), (1, m_rf w.2.1 x1), (2, .int x2), (3, .int x3)] [.int y0] (j_X4_readInto_41 N K8 x1 x2 x3 y0 σ) := by
  unfold j_X4_readInto_41
  refine r_istore (lv' := [(4, .int y0), (0, .ref (w.2.1 17)), (1, m_rf w.2.1 x1), (2, .int x2), (3, .int x3)]) hg dX4_readInto_41 (by decide) rfl ?_
  refine r_iload hg 0 dX4_readInto_43 rfl ?_
  refine r_iconst hg (-1) dX4_readInto_45 (by decide) ?_
  refine r_icmp_eq hg 71 dX4_readInto_46 (by decide) ?_ ?_
  · refine r_iload_n hg 3 dX4_readInto_71 rfl ?_
    exact r_iret hg dX4_readInto_72 rfl rfl
  · refine r_iload hg 0 dX4_readInto_49 rfl ?_
    refine r_if_ne hg 58 dX4_readInto_51 (by decide) ?_ ?_
    · refine r_iconst hg 0 dX4_readInto_58 (by decide) ?_
      refine r_iload_n hg 4 dX4_readInto_59 rfl ?_
      refine r_if_ne hg 67 dX4_readInto_60 (by decide) ?_ ?_
      · refine r_iconst hg 0 dX4_readInto_67 (by decide) ?_
        refine q_name (fun u1 => ?_)
        refine r_icmp_eq hg 73 dX4_readInto_68 (by decide) ?_ ?_
        · refine r_aload_n hg 1 dX4_readInto_73 rfl ?_
          refine r_iload_n hg 3 dX4_readInto_74 rfl ?_
          refine r_iconst hg 1 dX4_readInto_75 (by decide) ?_
          refine r_iadd hg dX4_readInto_76 ?_
          refine q_callv1 hg (e_X4_pastBlanks N l w (x2 + 1) σ) kk_RX4_24 ki_X4_pastBlanks ks_RX4_X4_pastBlanks rfl rfl np_X4_pastBlanks (Nat.le_trans (by decide) hdp) rfl m_c1_nil (Nat.le_of_ble_eq_true rfl) dX4_readInto_77 (fun r2 σ3 => ?_)
          refine r_istore (lv' := [(5, .int r2), (4, .int y0), (0, .ref (w.2.1 17)), (1, m_rf w.2.1 x1), (2, .int x2), (3, .int x3)]) hg dX4_readInto_80 (by decide) rfl ?_
          refine r_iload hg 0 dX4_readInto_82 rfl ?_
          refine r_iload_n hg 4 dX4_readInto_84 rfl ?_
          refine r_iconst hg 1 dX4_readInto_85 (by decide) ?_
          refine r_iadd hg dX4_readInto_86 ?_
          refine r_icmp_eq hg 99 dX4_readInto_87 (by decide) ?_ ?_
          · refine r_iload hg 0 dX4_readInto_99 rfl ?_
            exact r_iret hg dX4_readInto_101 rfl rfl
          · refine r_aload_n hg 2 dX4_readInto_90 rfl ?_
            refine r_iload hg 0 dX4_readInto_91 rfl ?_
            refine q_callv1 hg (e_X4_isDigit N l w r2 σ3) kk_RX4_31 ki_X4_isDigit ks_RX4_X4_isDigit rfl rfl np_X4_isDigit (Nat.le_trans (by decide) hdp) rfl m_c1_nil (Nat.le_of_ble_eq_true rfl) dX4_readInto_93 (fun r4 σ5 => ?_)
            refine r_if_ne hg 102 dX4_readInto_96 (by decide) ?_ ?_
            · refine r_aload_n hg 2 dX4_readInto_102 rfl ?_
              refine r_iload hg 0 dX4_readInto_103 rfl ?_
              refine r_iconst hg 1 dX4_readInto_105 (by decide) ?_
              refine r_iadd hg dX4_readInto_106 ?_
              refine q_callv1 hg (e_X4_isDigit N l w (r2 + 1) σ5) kk_RX4_31 ki_X4_isDigit ks_RX4_X4_isDigit rfl rfl np_X4_isDigit (Nat.le_trans (by decide) hdp) rfl m_c1_nil (Nat.le_of_ble_eq_true rfl) dX4_readInto_107 (fun r6 σ7 => ?_)
              refine r_if_eq hg 120 dX4_readInto_110 (by decide) ?_ ?_
              · refine r_iload hg 0 dX4_readInto_120 rfl ?_
                refine r_lv [2, 3, 5, 1, 0] rfl ?_
                exact vj_X4_readInto_122 hg hdp hK8 x1 x3 y0 r2 r2 σ7
              · refine r_iload hg 0 dX4_readInto_113 rfl ?_
                refine r_iconst hg 1 dX4_readInto_115 (by decide) ?_
                refine r_iadd hg dX4_readInto_116 ?_
                refine r_goto hg 122 dX4_readInto_117 (by decide) ?_
                refine r_lv [2, 3, 5, 1, 0] rfl ?_
                exact vj_X4_readInto_122 hg hdp hK8 x1 x3 y0 r2 (r2 + 1) σ7
            · refine r_iload hg 0 dX4_readInto_99 rfl ?_
              exact r_iret hg dX4_readInto_101 rfl rfl
        · refine r_iload_n hg 3 dX4_readInto_71 rfl ?_
          exact r_iret hg dX4_readInto_72 rfl rfl
      · refine r_iconst hg 1 dX4_readInto_63 (by decide) ?_
        refine r_goto hg 68 dX4_readInto_64 (by decide) ?_
        refine q_name (fun u8 => ?_)
        refine r_icmp_eq hg 73 dX4_readInto_68 (by decide) ?_ ?_
        · refine r_aload_n hg 1 dX4_readInto_73 rfl ?_
          refine r_iload_n hg 3 dX4_readInto_74 rfl ?_
          refine r_iconst hg 1 dX4_readInto_75 (by decide) ?_
          refine r_iadd hg dX4_readInto_76 ?_
          refine q_callv1 hg (e_X4_pastBlanks N l w (x2 + 1) σ) kk_RX4_24 ki_X4_pastBlanks ks_RX4_X4_pastBlanks rfl rfl np_X4_pastBlanks (Nat.le_trans (by decide) hdp) rfl m_c1_nil (Nat.le_of_ble_eq_true rfl) dX4_readInto_77 (fun r9 σ10 => ?_)
          refine r_istore (lv' := [(5, .int r9), (4, .int y0), (0, .ref (w.2.1 17)), (1, m_rf w.2.1 x1), (2, .int x2), (3, .int x3)]) hg dX4_readInto_80 (by decide) rfl ?_
          refine r_iload hg 0 dX4_readInto_82 rfl ?_
          refine r_iload_n hg 4 dX4_readInto_84 rfl ?_
          refine r_iconst hg 1 dX4_readInto_85 (by decide) ?_
          refine r_iadd hg dX4_readInto_86 ?_
          refine r_icmp_eq hg 99 dX4_readInto_87 (by decide) ?_ ?_
          · refine r_iload hg 0 dX4_readInto_99 rfl ?_
            exact r_iret hg dX4_readInto_101 rfl rfl
          · refine r_aload_n hg 2 dX4_readInto_90 rfl ?_
            refine r_iload hg 0 dX4_readInto_91 rfl ?_
            refine q_callv1 hg (e_X4_isDigit N l w r9 σ10) kk_RX4_31 ki_X4_isDigit ks_RX4_X4_isDigit rfl rfl np_X4_isDigit (Nat.le_trans (by decide) hdp) rfl m_c1_nil (Nat.le_of_ble_eq_true rfl) dX4_readInto_93 (fun r11 σ12 => ?_)
            refine r_if_ne hg 102 dX4_readInto_96 (by decide) ?_ ?_
            · refine r_aload_n hg 2 dX4_readInto_102 rfl ?_
              refine r_iload hg 0 dX4_readInto_103 rfl ?_
              refine r_iconst hg 1 dX4_readInto_105 (by decide) ?_
              refine r_iadd hg dX4_readInto_106 ?_
              refine q_callv1 hg (e_X4_isDigit N l w (r9 + 1) σ12) kk_RX4_31 ki_X4_isDigit ks_RX4_X4_isDigit rfl rfl np_X4_isDigit (Nat.le_trans (by decide) hdp) rfl m_c1_nil (Nat.le_of_ble_eq_true rfl) dX4_readInto_107 (fun r13 σ14 => ?_)
              refine r_if_eq hg 120 dX4_readInto_110 (by decide) ?_ ?_
              · refine r_iload hg 0 dX4_readInto_120 rfl ?_
                refine r_lv [2, 3, 5, 1, 0] rfl ?_
                exact vj_X4_readInto_122 hg hdp hK8 x1 x3 y0 r9 r9 σ14
              · refine r_iload hg 0 dX4_readInto_113 rfl ?_
                refine r_iconst hg 1 dX4_readInto_115 (by decide) ?_
                refine r_iadd hg dX4_readInto_116 ?_
                refine r_goto hg 122 dX4_readInto_117 (by decide) ?_
                refine r_lv [2, 3, 5, 1, 0] rfl ?_
                exact vj_X4_readInto_122 hg hdp hK8 x1 x3 y0 r9 (r9 + 1) σ14
            · refine r_iload hg 0 dX4_readInto_99 rfl ?_
              exact r_iret hg dX4_readInto_101 rfl rfl
        · refine r_iload_n hg 3 dX4_readInto_71 rfl ?_
          exact r_iret hg dX4_readInto_72 rfl rfl
    · refine r_iconst hg 1 dX4_readInto_54 (by decide) ?_
      refine r_goto hg 59 dX4_readInto_55 (by decide) ?_
      refine r_iload_n hg 4 dX4_readInto_59 rfl ?_
      refine r_if_ne hg 67 dX4_readInto_60 (by decide) ?_ ?_
      · refine r_iconst hg 0 dX4_readInto_67 (by decide) ?_
        refine q_name (fun u15 => ?_)
        refine r_icmp_eq hg 73 dX4_readInto_68 (by decide) ?_ ?_
        · refine r_aload_n hg 1 dX4_readInto_73 rfl ?_
          refine r_iload_n hg 3 dX4_readInto_74 rfl ?_
          refine r_iconst hg 1 dX4_readInto_75 (by decide) ?_
          refine r_iadd hg dX4_readInto_76 ?_
          refine q_callv1 hg (e_X4_pastBlanks N l w (x2 + 1) σ) kk_RX4_24 ki_X4_pastBlanks ks_RX4_X4_pastBlanks rfl rfl np_X4_pastBlanks (Nat.le_trans (by decide) hdp) rfl m_c1_nil (Nat.le_of_ble_eq_true rfl) dX4_readInto_77 (fun r16 σ17 => ?_)
          refine r_istore (lv' := [(5, .int r16), (4, .int y0), (0, .ref (w.2.1 17)), (1, m_rf w.2.1 x1), (2, .int x2), (3, .int x3)]) hg dX4_readInto_80 (by decide) rfl ?_
          refine r_iload hg 0 dX4_readInto_82 rfl ?_
          refine r_iload_n hg 4 dX4_readInto_84 rfl ?_
          refine r_iconst hg 1 dX4_readInto_85 (by decide) ?_
          refine r_iadd hg dX4_readInto_86 ?_
          refine r_icmp_eq hg 99 dX4_readInto_87 (by decide) ?_ ?_
          · refine r_iload hg 0 dX4_readInto_99 rfl ?_
            exact r_iret hg dX4_readInto_101 rfl rfl
          · refine r_aload_n hg 2 dX4_readInto_90 rfl ?_
            refine r_iload hg 0 dX4_readInto_91 rfl ?_
            refine q_callv1 hg (e_X4_isDigit N l w r16 σ17) kk_RX4_31 ki_X4_isDigit ks_RX4_X4_isDigit rfl rfl np_X4_isDigit (Nat.le_trans (by decide) hdp) rfl m_c1_nil (Nat.le_of_ble_eq_true rfl) dX4_readInto_93 (fun r18 σ19 => ?_)
            refine r_if_ne hg 102 dX4_readInto_96 (by decide) ?_ ?_
            · refine r_aload_n hg 2 dX4_readInto_102 rfl ?_
              refine r_iload hg 0 dX4_readInto_103 rfl ?_
              refine r_iconst hg 1 dX4_readInto_105 (by decide) ?_
              refine r_iadd hg dX4_readInto_106 ?_
              refine q_callv1 hg (e_X4_isDigit N l w (r16 + 1) σ19) kk_RX4_31 ki_X4_isDigit ks_RX4_X4_isDigit rfl rfl np_X4_isDigit (Nat.le_trans (by decide) hdp) rfl m_c1_nil (Nat.le_of_ble_eq_true rfl) dX4_readInto_107 (fun r20 σ21 => ?_)
              refine r_if_eq hg 120 dX4_readInto_110 (by decide) ?_ ?_
              · refine r_iload hg 0 dX4_readInto_120 rfl ?_
                refine r_lv [2, 3, 5, 1, 0] rfl ?_
                exact vj_X4_readInto_122 hg hdp hK8 x1 x3 y0 r16 r16 σ21
              · refine r_iload hg 0 dX4_readInto_113 rfl ?_
                refine r_iconst hg 1 dX4_readInto_115 (by decide) ?_
                refine r_iadd hg dX4_readInto_116 ?_
                refine r_goto hg 122 dX4_readInto_117 (by decide) ?_
                refine r_lv [2, 3, 5, 1, 0] rfl ?_
                exact vj_X4_readInto_122 hg hdp hK8 x1 x3 y0 r16 (r16 + 1) σ21
            · refine r_iload hg 0 dX4_readInto_99 rfl ?_
              exact r_iret hg dX4_readInto_101 rfl rfl
        · refine r_iload_n hg 3 dX4_readInto_71 rfl ?_
          exact r_iret hg dX4_readInto_72 rfl rfl
      · refine r_iconst hg 1 dX4_readInto_63 (by decide) ?_
        refine r_goto hg 68 dX4_readInto_64 (by decide) ?_
        refine q_name (fun u22 => ?_)
        refine r_icmp_eq hg 73 dX4_readInto_68 (by decide) ?_ ?_
        · refine r_aload_n hg 1 dX4_readInto_73 rfl ?_
          refine r_iload_n hg 3 dX4_readInto_74 rfl ?_
          refine r_iconst hg 1 dX4_readInto_75 (by decide) ?_
          refine r_iadd hg dX4_readInto_76 ?_
          refine q_callv1 hg (e_X4_pastBlanks N l w (x2 + 1) σ) kk_RX4_24 ki_X4_pastBlanks ks_RX4_X4_pastBlanks rfl rfl np_X4_pastBlanks (Nat.le_trans (by decide) hdp) rfl m_c1_nil (Nat.le_of_ble_eq_true rfl) dX4_readInto_77 (fun r23 σ24 => ?_)
          refine r_istore (lv' := [(5, .int r23), (4, .int y0), (0, .ref (w.2.1 17)), (1, m_rf w.2.1 x1), (2, .int x2), (3, .int x3)]) hg dX4_readInto_80 (by decide) rfl ?_
          refine r_iload hg 0 dX4_readInto_82 rfl ?_
          refine r_iload_n hg 4 dX4_readInto_84 rfl ?_
          refine r_iconst hg 1 dX4_readInto_85 (by decide) ?_
          refine r_iadd hg dX4_readInto_86 ?_
          refine r_icmp_eq hg 99 dX4_readInto_87 (by decide) ?_ ?_
          · refine r_iload hg 0 dX4_readInto_99 rfl ?_
            exact r_iret hg dX4_readInto_101 rfl rfl
          · refine r_aload_n hg 2 dX4_readInto_90 rfl ?_
            refine r_iload hg 0 dX4_readInto_91 rfl ?_
            refine q_callv1 hg (e_X4_isDigit N l w r23 σ24) kk_RX4_31 ki_X4_isDigit ks_RX4_X4_isDigit rfl rfl np_X4_isDigit (Nat.le_trans (by decide) hdp) rfl m_c1_nil (Nat.le_of_ble_eq_true rfl) dX4_readInto_93 (fun r25 σ26 => ?_)
            refine r_if_ne hg 102 dX4_readInto_96 (by decide) ?_ ?_
            · refine r_aload_n hg 2 dX4_readInto_102 rfl ?_
              refine r_iload hg 0 dX4_readInto_103 rfl ?_
              refine r_iconst hg 1 dX4_readInto_105 (by decide) ?_
              refine r_iadd hg dX4_readInto_106 ?_
              refine q_callv1 hg (e_X4_isDigit N l w (r23 + 1) σ26) kk_RX4_31 ki_X4_isDigit ks_RX4_X4_isDigit rfl rfl np_X4_isDigit (Nat.le_trans (by decide) hdp) rfl m_c1_nil (Nat.le_of_ble_eq_true rfl) dX4_readInto_107 (fun r27 σ28 => ?_)
              refine r_if_eq hg 120 dX4_readInto_110 (by decide) ?_ ?_
              · refine r_iload hg 0 dX4_readInto_120 rfl ?_
                refine r_lv [2, 3, 5, 1, 0] rfl ?_
                exact vj_X4_readInto_122 hg hdp hK8 x1 x3 y0 r23 r23 σ28
              · refine r_iload hg 0 dX4_readInto_113 rfl ?_
                refine r_iconst hg 1 dX4_readInto_115 (by decide) ?_
                refine r_iadd hg dX4_readInto_116 ?_
                refine r_goto hg 122 dX4_readInto_117 (by decide) ?_
                refine r_lv [2, 3, 5, 1, 0] rfl ?_
                exact vj_X4_readInto_122 hg hdp hK8 x1 x3 y0 r23 (r23 + 1) σ28
            · refine r_iload hg 0 dX4_readInto_99 rfl ?_
              exact r_iret hg dX4_readInto_101 rfl rfl
        · refine r_iload_n hg 3 dX4_readInto_71 rfl ?_
          exact r_iret hg dX4_readInto_72 rfl rfl
set_option maxHeartbeats 4000000 in
set_option maxRecDepth 100000 in
theorem vb_X4_readInto_8 {N : Nat} (hg : m_ok (p, l, e, d, s, m, args, below, meth, c) w shC cX4_readInto 7 RX4 (some .int)) (hdp : 5 ≤ d) {K8 : Int32 → Int32 → Int32 → Mem → Option (Int32 × Mem)} (hK8 : ∀ (x1 x2 x3 : Int32) (σ : Mem), Vj (p, l, e, d, s, m, args, below, meth, c) w shC 7 1 σ 8 [(0, .ref (w.2.1 17)), (1, m_rf w.2.1 x1), (2, .int x2), (3, .int x3)] [] (K8 x1 x2 x3 σ)) (x1 x2 x3 : Int32) (σ : Mem) : Vj (p, l, e, d, s, m, args, below, meth, c) w shC 7 1 σ 8 [(0, .ref (w.2.1 17)), (1, m_rf w.2.1 x1), (2, .int x2), (3, .int x3)] [] (b_X4_readInto_8 N K8 x1 x2 x3 σ) := by
  unfold b_X4_readInto_8
  refine r_iload_n hg 3 dX4_readInto_8 rfl ?_
  refine r_bipush hg 120 dX4_readInto_9 (by decide) ?_
  refine r_icmp_gt hg 185 dX4_readInto_11 (by decide) ?_ ?_
  · refine r_iload_n hg 2 dX4_readInto_185 rfl ?_
    exact r_iret hg dX4_readInto_186 rfl rfl
  · refine r_aload_n hg 0 dX4_readInto_14 rfl ?_
    refine r_iload_n hg 2 dX4_readInto_15 rfl ?_
    refine q_callv1 hg (e_X4_pastBlanks N l w x2 σ) kk_RX4_24 ki_X4_pastBlanks ks_RX4_X4_pastBlanks rfl rfl np_X4_pastBlanks (Nat.le_trans (by decide) hdp) rfl m_c1_nil (Nat.le_of_ble_eq_true rfl) dX4_readInto_16 (fun r1 σ2 => ?_)
    refine r_istore_n (lv' := [(2, .int r1), (0, .ref (w.2.1 17)), (1, m_rf w.2.1 x1), (3, .int x3)]) hg dX4_readInto_19 (by decide) rfl ?_
    refine r_iload_n hg 0 dX4_readInto_20 rfl ?_
    refine r_aload_n hg 1 dX4_readInto_21 rfl ?_
    refine q_geti (j := 1) hg rfl rfl rfl (by decide) iX4 kf_RX4_15 rfl dX4_readInto_22 ?_
    refine r_icmp_ge hg 40 dX4_readInto_25 (by decide) ?_ ?_
    · refine r_iconst hg (-1) dX4_readInto_40 (by decide) ?_
      refine r_lv [1, 2, 0, 3] rfl ?_
      exact vj_X4_readInto_41 hg hdp hK8 x1 r1 x3 (-1) σ2
    · refine r_aload_n hg 1 dX4_readInto_28 rfl ?_
      refine q_getr (j := 0) hg rfl rfl rfl (by decide) iX4 kf_RX4_11 rfl dX4_readInto_29 ?_
      refine r_iload_n hg 0 dX4_readInto_32 rfl ?_
      refine r_iaload (n := 120) hg rfl dX4_readInto_33 ?_
      refine q_calls1 hg (e_X0_whatOf N l w (σ2 25 r1.toNatClampNeg) σ2) kk_RX4_28 kt_X0_whatOf np_X0_whatOf (Nat.le_trans (by decide) hdp) rfl m_c1_nil (Nat.le_of_ble_eq_true rfl) dX4_readInto_34 (fun r3 σ4 => ?_)
      refine r_goto hg 41 dX4_readInto_37 (by decide) ?_
      refine r_lv [1, 2, 0, 3] rfl ?_
      exact vj_X4_readInto_41 hg hdp hK8 x1 r1 x3 r3 σ4
set_option maxHeartbeats 4000000 in
set_option maxRecDepth 100000 in
theorem vl_X4_readInto_8 {N : Nat} (hg : m_ok (p, l, e, d, s, m, args, below, meth, c) w shC cX4_readInto 7 RX4 (some .int)) (hdp : 5 ≤ d) : ∀ (n : Nat) (x1 x2 x3 : Int32) (σ : Mem), Vj (p, l, e, d, s, m, args, below, meth, c) w shC 7 1 σ 8 [(0, .ref (w.2.1 17)), (1, m_rf w.2.1 x1), (2, .int x2), (3, .int x3)] [] (l_X4_readInto_8 N n x1 x2 x3 σ)
| 0, _, _, _, _ => Vj.none
| n + 1, x1, x2, x3, σ => vb_X4_readInto_8 hg hdp (fun x1 x2 x3 σ => vl_X4_readInto_8 hg hdp n x1 x2 x3 σ) x1 x2 x3 σ
set_option maxHeartbeats 4000000 in
set_option maxRecDepth 100000 in
theorem e_X4_readInto (N : Nat) (l : Launch) (w : mW) (v1 : Int32) (σ : Mem) : Ev l w shC yX4_readInto cX4_readInto 7 (some .int) 1 5 [.ref (w.2.1 17), m_rf w.2.1 v1] σ (f_X4_readInto N v1 σ) := by
  refine Ev.of (by decide) (m_c1_r (m_c1_q m_c1_nil)) (Nat.le_of_ble_eq_true rfl) (fun p e s m args below meth c hg => ?_)
  have hdp := Nat.le_refl 5
  unfold f_X4_readInto
  show Vj (p, l, e, 5, s, m, args, below, meth, c) w shC 7 1 σ 0 [(0, .ref (w.2.1 17)), (1, m_rf w.2.1 v1)] [] _
  refine r_aloadq_n hg 1 dX4_readInto_0 rfl ?_
  refine q_callq0 hg (e_X0_forget N l w v1 σ) kk_RX4_19 ki_X0_forget ks_RX0_X0_forget shC_q2 np_X0_forget (Nat.le_trans (by decide) hdp) rfl m_c1_nil (Nat.le_of_ble_eq_true rfl) dX4_readInto_1 (fun r1 σ2 => ?_)
  refine r_iconst hg 0 dX4_readInto_4 (by decide) ?_
  refine r_istore_n (lv' := [(2, .int 0), (0, .ref (w.2.1 17)), (1, m_rf w.2.1 v1)]) hg dX4_readInto_5 (by decide) rfl ?_
  refine r_iconst hg 0 dX4_readInto_6 (by decide) ?_
  refine r_istore_n (lv' := [(3, .int 0), (2, .int 0), (0, .ref (w.2.1 17)), (1, m_rf w.2.1 v1)]) hg dX4_readInto_7 (by decide) rfl ?_
  refine r_lv [2, 3, 1, 0] rfl ?_
  exact vl_X4_readInto_8 hg hdp N v1 0 0 σ2
set_option maxHeartbeats 4000000 in
set_option maxRecDepth 100000 in
theorem e_X6_fault (N : Nat) (l : Launch) (w : mW) (σ : Mem) : Ev l w shC yX6_fault cX6_fault 1 (some .int) 1 6 [.ref (w.2.1 16)] σ (f_X6_fault N σ) := by
  refine Ev.of (by decide) (m_c1_r m_c1_nil) (Nat.le_of_ble_eq_true rfl) (fun p e s m args below meth c hg => ?_)
  have hdp := Nat.le_refl 6
  unfold f_X6_fault
  show Vj (p, l, e, 6, s, m, args, below, meth, c) w shC 1 1 σ 0 [(0, .ref (w.2.1 16))] [] _
  refine r_aload_n hg 0 dX6_fault_0 rfl ?_
  refine q_getr (j := 0) hg rfl rfl rfl (by decide) iX6 kf_RX6_10 rfl dX6_fault_1 ?_
  refine r_aload_n hg 0 dX6_fault_4 rfl ?_
  refine q_getd (j := 2) hg rfl rfl rfl (by decide) iX6 kf_RX6_23 rfl dX6_fault_5 ?_
  refine q_callv1 hg (e_X4_readInto N l w (σ 16 2) σ) kk_RX6_75 ki_X4_readInto ks_RX4_X4_readInto rfl rfl np_X4_readInto (Nat.le_trans (by decide) hdp) rfl m_c1_nil (Nat.le_of_ble_eq_true rfl) dX6_fault_8 (fun r1 σ2 => ?_)
  exact r_iret hg dX6_fault_11 rfl rfl
set_option maxHeartbeats 4000000 in
set_option maxRecDepth 100000 in
theorem e_X0_copyFrom (N : Nat) (l : Launch) (w : mW) (v0 v1 : Int32) (σ : Mem) : Ev l w shC yX0_copyFrom cX0_copyFrom 2 none 0 1 [m_rf w.2.1 v0, m_rf w.2.1 v1] σ (f_X0_copyFrom N v0 v1 σ) := by
  refine Ev.of (by decide) (m_c1_q (m_c1_q m_c1_nil)) (Nat.le_of_ble_eq_true rfl) (fun p e s m args below meth c hg => ?_)
  have hdp := Nat.le_refl 1
  unfold f_X0_copyFrom
  show Vj (p, l, e, 1, s, m, args, below, meth, c) w shC 2 0 σ 0 [(0, m_rf w.2.1 v0), (1, m_rf w.2.1 v1)] [] _
  refine r_aloadq_n hg 1 dX0_copyFrom_0 rfl ?_
  refine q_getq (b := 8) hg shC_q rfl (by decide) iX0 kf_RX0_9 rfl dX0_copyFrom_1 (fun h1 => ?_)
  refine r_iconst hg 0 dX0_copyFrom_4 (by decide) ?_
  refine r_aloadq_n hg 0 dX0_copyFrom_5 rfl ?_
  refine q_getq (b := 8) hg shC_q rfl (by decide) iX0 kf_RX0_9 rfl dX0_copyFrom_6 (fun h2 => ?_)
  refine r_iconst hg 0 dX0_copyFrom_9 (by decide) ?_
  refine r_bipush hg 10 dX0_copyFrom_10 (by decide) ?_
  refine r_copyW hg (Nat.le_trans (by decide) hdp) (shC_w h1) (shC_w h2) km_RX0_26 m_c1_nil (Nat.le_of_ble_eq_true rfl) dX0_copyFrom_12 (fun σ3 => ?_)
  exact r_ret hg dX0_copyFrom_15 rfl rfl
set_option maxHeartbeats 4000000 in
set_option maxRecDepth 100000 in
theorem e_X6_cover (N : Nat) (l : Launch) (w : mW) (σ : Mem) : Ev l w shC yX6_cover cX6_cover 2 (some .int) 1 6 [.ref (w.2.1 16)] σ (f_X6_cover N σ) := by
  refine Ev.of (by decide) (m_c1_r m_c1_nil) (Nat.le_of_ble_eq_true rfl) (fun p e s m args below meth c hg => ?_)
  have hdp := Nat.le_refl 6
  unfold f_X6_cover
  show Vj (p, l, e, 6, s, m, args, below, meth, c) w shC 2 1 σ 0 [(0, .ref (w.2.1 16))] [] _
  refine r_aload_n hg 0 dX6_cover_0 rfl ?_
  refine q_geti (j := 8) hg rfl rfl rfl (by decide) iX6 kf_RX6_57 rfl dX6_cover_1 ?_
  refine r_bipush hg 6 dX6_cover_4 (by decide) ?_
  refine r_icmp_ge hg 24 dX6_cover_6 (by decide) ?_ ?_
  · refine r_iconst hg (-1) dX6_cover_24 (by decide) ?_
    exact r_iret hg dX6_cover_25 rfl rfl
  · refine r_aload_n hg 0 dX6_cover_9 rfl ?_
    refine q_getr (j := 0) hg rfl rfl rfl (by decide) iX6 kf_RX6_10 rfl dX6_cover_10 ?_
    refine r_aload_n hg 0 dX6_cover_13 rfl ?_
    refine q_getd (j := 2) hg rfl rfl rfl (by decide) iX6 kf_RX6_23 rfl dX6_cover_14 ?_
    refine q_callv1 hg (e_X4_readInto N l w (σ 16 2) σ) kk_RX6_75 ki_X4_readInto ks_RX4_X4_readInto rfl rfl np_X4_readInto (Nat.le_trans (by decide) hdp) rfl m_c1_nil (Nat.le_of_ble_eq_true rfl) dX6_cover_17 (fun r1 σ2 => ?_)
    refine r_iconst hg (-1) dX6_cover_20 (by decide) ?_
    refine r_icmp_eq hg 26 dX6_cover_21 (by decide) ?_ ?_
    · refine r_aload_n hg 0 dX6_cover_26 rfl ?_
      refine q_getr (j := 1) hg rfl rfl rfl (by decide) iX6 kf_RX6_18 rfl dX6_cover_27 ?_
      refine r_aload_n hg 0 dX6_cover_30 rfl ?_
      refine q_geti (j := 8) hg rfl rfl rfl (by decide) iX6 kf_RX6_57 rfl dX6_cover_31 ?_
      refine r_aaload (n := 6) hg rfl dX6_cover_34 ?_
      refine r_astoreq_n (lv' := [(1, m_rf w.2.1 (σ2 22 (σ2 16 8).toNatClampNeg)), (0, .ref (w.2.1 16))]) hg dX6_cover_35 (by decide) rfl ?_
      refine r_aloadq_n hg 0 dX6_cover_36 rfl ?_
      refine r_ifnonnull hg 42 dX6_cover_37 (by decide) ?_ ?_
      · refine r_iconst hg (-1) dX6_cover_40 (by decide) ?_
        exact r_iret hg dX6_cover_41 rfl rfl
      · refine r_aloadq_n hg 0 dX6_cover_42 rfl ?_
        refine r_aload_n hg 1 dX6_cover_43 rfl ?_
        refine q_getd (j := 2) hg rfl rfl rfl (by decide) iX6 kf_RX6_23 rfl dX6_cover_44 ?_
        refine q_callq0 hg (e_X0_copyFrom N l w (σ2 22 (σ2 16 8).toNatClampNeg) (σ2 16 2) σ2) kk_RX6_79 ki_X0_copyFrom ks_RX0_X0_copyFrom shC_q2 np_X0_copyFrom (Nat.le_trans (by decide) hdp) rfl m_c1_nil (Nat.le_of_ble_eq_true rfl) dX6_cover_47 (fun r3 σ4 => ?_)
        refine r_aload_n hg 1 dX6_cover_50 rfl ?_
        refine q_getr (j := 0) hg rfl rfl rfl (by decide) iX6 kf_RX6_10 rfl dX6_cover_51 ?_
        refine r_iconst hg 0 dX6_cover_54 (by decide) ?_
        refine q_put (j := 1) hg rfl rfl rfl (by decide) iX4 kf_RX6_68 rfl tyX4_ok nmX4 rfl rfl dX6_cover_55 (fun σ5 => ?_)
        refine r_aload_n hg 1 dX6_cover_58 rfl ?_
        refine r_dupr hg dX6_cover_59 ?_
        refine q_geti (j := 8) hg rfl rfl rfl (by decide) iX6 kf_RX6_57 rfl dX6_cover_60 ?_
        refine r_iconst hg 1 dX6_cover_63 (by decide) ?_
        refine r_iadd hg dX6_cover_64 ?_
        refine q_put (j := 8) hg rfl rfl rfl (by decide) iX6 kf_RX6_57 rfl tyX6_ok nmX6 rfl rfl dX6_cover_65 (fun σ6 => ?_)
        refine r_aload_n hg 1 dX6_cover_68 rfl ?_
        refine q_geti (j := 8) hg rfl rfl rfl (by decide) iX6 kf_RX6_57 rfl dX6_cover_69 ?_
        refine r_iconst hg 1 dX6_cover_72 (by decide) ?_
        refine r_isub hg dX6_cover_73 ?_
        exact r_iret hg dX6_cover_74 rfl rfl
    · refine r_iconst hg (-1) dX6_cover_24 (by decide) ?_
      exact r_iret hg dX6_cover_25 rfl rfl
set_option maxHeartbeats 4000000 in
set_option maxRecDepth 100000 in
theorem vj_X6_loss_64 {N : Nat} (hg : m_ok (p, l, e, d, s, m, args, below, meth, c) w shC cX6_loss 11 RX6 (some .int)) (hdp : 1 ≤ d) (x1 x2 x3 x4 x5 x6 x7 y0 : Int32) (σ : Mem) : Vj (p, l, e, d, s, m, args, below, meth, c) w shC 11 1 σ 64 [(0, .ref (w.2.1 16)), (1, .int x1), (2, .int x2), (3, .int x3), (4, .int x4), (5, .int x5), (6, .int x6), (7, .int x7)] [.int y0] (j_X6_loss_64 N x1 x2 x3 x4 x5 x6 x7 y0 σ) := by
  unfold j_X6_loss_64
  refine r_istore (lv' := [(8, .int y0), (0, .ref (w.2.1 16)), (1, .int x1), (2, .int x2), (3, .int x3), (4, .int x4), (5, .int x5), (6, .int x6), (7, .int x7)]) hg dX6_loss_64 (by decide) rfl ?_
  refine r_iload hg 7 dX6_loss_66 rfl ?_
  refine r_iconst hg 1 dX6_loss_68 (by decide) ?_
  refine r_bipush hg 63 dX6_loss_69 (by decide) ?_
  refine q_calls1 hg (e_X6_isWithin N l w x6 1 63 σ) kk_RX6_87 kt_X6_isWithin np_X6_isWithin (Nat.le_trans (by decide) hdp) rfl m_c1_nil (Nat.le_of_ble_eq_true rfl) dX6_loss_71 (fun r1 σ2 => ?_)
  refine r_istore (lv' := [(9, .int r1), (8, .int y0), (0, .ref (w.2.1 16)), (1, .int x1), (2, .int x2), (3, .int x3), (4, .int x4), (5, .int x5), (6, .int x6), (7, .int x7)]) hg dX6_loss_74 (by decide) rfl ?_
  refine r_aload_n hg 2 dX6_loss_76 rfl ?_
  refine q_getr (j := 3) hg rfl rfl rfl (by decide) iX6 kf_RX6_30 rfl dX6_loss_77 ?_
  refine q_geti (j := 6) hg rfl rfl rfl (by decide) iX1 kf_RX6_97 rfl dX6_loss_80 ?_
  refine r_bipush hg 12 dX6_loss_83 (by decide) ?_
  refine r_icmp_ge hg 113 dX6_loss_85 (by decide) ?_ ?_
  · refine r_iconst hg (-1) dX6_loss_113 (by decide) ?_
    exact r_iret hg dX6_loss_114 rfl rfl
  · refine r_iload_n hg 3 dX6_loss_88 rfl ?_
    refine r_iconst hg 1 dX6_loss_89 (by decide) ?_
    refine r_bipush hg 99 dX6_loss_90 (by decide) ?_
    refine q_calls1 hg (e_X6_isWithin N l w x1 1 99 σ2) kk_RX6_87 kt_X6_isWithin np_X6_isWithin (Nat.le_trans (by decide) hdp) rfl m_c1_nil (Nat.le_of_ble_eq_true rfl) dX6_loss_92 (fun r3 σ4 => ?_)
    refine r_if_eq hg 113 dX6_loss_95 (by decide) ?_ ?_
    · refine r_iconst hg (-1) dX6_loss_113 (by decide) ?_
      exact r_iret hg dX6_loss_114 rfl rfl
    · refine r_iload hg 9 dX6_loss_98 rfl ?_
      refine r_if_eq hg 113 dX6_loss_100 (by decide) ?_ ?_
      · refine r_iconst hg (-1) dX6_loss_113 (by decide) ?_
        exact r_iret hg dX6_loss_114 rfl rfl
      · refine r_iload hg 1 dX6_loss_103 rfl ?_
        refine r_if_eq hg 113 dX6_loss_105 (by decide) ?_ ?_
        · refine r_iconst hg (-1) dX6_loss_113 (by decide) ?_
          exact r_iret hg dX6_loss_114 rfl rfl
        · refine r_iload hg 0 dX6_loss_108 rfl ?_
          refine r_if_ne hg 115 dX6_loss_110 (by decide) ?_ ?_
          · refine r_aload_n hg 2 dX6_loss_115 rfl ?_
            refine q_getr (j := 3) hg rfl rfl rfl (by decide) iX6 kf_RX6_30 rfl dX6_loss_116 ?_
            refine q_geti (j := 6) hg rfl rfl rfl (by decide) iX1 kf_RX6_97 rfl dX6_loss_119 ?_
            refine q_name (fun u5 => ?_)
            refine r_istore (lv' := [(10, .int u5), (9, .int r1), (8, .int y0), (0, .ref (w.2.1 16)), (1, .int x1), (2, .int x2), (3, .int x3), (4, .int x4), (5, .int x5), (6, .int x6), (7, .int x7)]) hg dX6_loss_122 (by decide) rfl ?_
            refine r_aload_n hg 3 dX6_loss_124 rfl ?_
            refine q_getr (j := 3) hg rfl rfl rfl (by decide) iX6 kf_RX6_30 rfl dX6_loss_125 ?_
            refine q_getr (j := 0) hg rfl rfl rfl (by decide) iX1 kf_RX6_100 rfl dX6_loss_128 ?_
            refine r_iload hg 0 dX6_loss_131 rfl ?_
            refine r_iload_n hg 4 dX6_loss_133 rfl ?_
            refine q_iastore (n := 12) hg rfl dX6_loss_134 (fun σ6 => ?_)
            refine r_aload_n hg 3 dX6_loss_135 rfl ?_
            refine q_getr (j := 3) hg rfl rfl rfl (by decide) iX6 kf_RX6_30 rfl dX6_loss_136 ?_
            refine q_getr (j := 1) hg rfl rfl rfl (by decide) iX1 kf_RX6_103 rfl dX6_loss_139 ?_
            refine r_iload hg 0 dX6_loss_142 rfl ?_
            refine r_iload_n hg 5 dX6_loss_144 rfl ?_
            refine q_iastore (n := 12) hg rfl dX6_loss_145 (fun σ7 => ?_)
            refine r_aload_n hg 3 dX6_loss_146 rfl ?_
            refine q_getr (j := 3) hg rfl rfl rfl (by decide) iX6 kf_RX6_30 rfl dX6_loss_147 ?_
            refine q_getr (j := 2) hg rfl rfl rfl (by decide) iX1 kf_RX6_106 rfl dX6_loss_150 ?_
            refine r_iload hg 0 dX6_loss_153 rfl ?_
            refine r_iload_n hg 5 dX6_loss_155 rfl ?_
            refine r_iload_n hg 6 dX6_loss_156 rfl ?_
            refine r_iadd hg dX6_loss_157 ?_
            refine q_iastore (n := 12) hg rfl dX6_loss_158 (fun σ8 => ?_)
            refine r_aload_n hg 3 dX6_loss_159 rfl ?_
            refine q_getr (j := 3) hg rfl rfl rfl (by decide) iX6 kf_RX6_30 rfl dX6_loss_160 ?_
            refine q_getr (j := 3) hg rfl rfl rfl (by decide) iX1 kf_RX6_109 rfl dX6_loss_163 ?_
            refine r_iload hg 0 dX6_loss_166 rfl ?_
            refine r_iload hg 7 dX6_loss_168 rfl ?_
            refine q_iastore (n := 12) hg rfl dX6_loss_170 (fun σ9 => ?_)
            refine r_aload_n hg 3 dX6_loss_171 rfl ?_
            refine q_getr (j := 3) hg rfl rfl rfl (by decide) iX6 kf_RX6_30 rfl dX6_loss_172 ?_
            refine q_getr (j := 4) hg rfl rfl rfl (by decide) iX1 kf_RX6_112 rfl dX6_loss_175 ?_
            refine r_iload hg 0 dX6_loss_178 rfl ?_
            refine r_iload hg 8 dX6_loss_180 rfl ?_
            refine q_iastore (n := 12) hg rfl dX6_loss_182 (fun σ10 => ?_)
            refine r_aload_n hg 3 dX6_loss_183 rfl ?_
            refine q_getr (j := 3) hg rfl rfl rfl (by decide) iX6 kf_RX6_30 rfl dX6_loss_184 ?_
            refine q_getr (j := 5) hg rfl rfl rfl (by decide) iX1 kf_RX6_115 rfl dX6_loss_187 ?_
            refine r_iload hg 0 dX6_loss_190 rfl ?_
            refine r_iload hg 9 dX6_loss_192 rfl ?_
            refine q_iastore (n := 12) hg rfl dX6_loss_194 (fun σ11 => ?_)
            refine r_aload_n hg 3 dX6_loss_195 rfl ?_
            refine q_getr (j := 3) hg rfl rfl rfl (by decide) iX6 kf_RX6_30 rfl dX6_loss_196 ?_
            refine r_iload hg 0 dX6_loss_199 rfl ?_
            refine r_iconst hg 1 dX6_loss_201 (by decide) ?_
            refine r_iadd hg dX6_loss_202 ?_
            refine q_put (j := 6) hg rfl rfl rfl (by decide) iX1 kf_RX6_97 rfl tyX1_ok nmX1 rfl rfl dX6_loss_203 (fun σ12 => ?_)
            refine r_iload hg 0 dX6_loss_206 rfl ?_
            exact r_iret hg dX6_loss_208 rfl rfl
          · refine r_iconst hg (-1) dX6_loss_113 (by decide) ?_
            exact r_iret hg dX6_loss_114 rfl rfl
set_option maxHeartbeats 4000000 in
set_option maxRecDepth 100000 in
theorem vj_X6_loss_63 {N : Nat} (hg : m_ok (p, l, e, d, s, m, args, below, meth, c) w shC cX6_loss 11 RX6 (some .int)) (hdp : 1 ≤ d) (x1 x2 x3 x4 x5 x6 x7 : Int32) (σ : Mem) : Vj (p, l, e, d, s, m, args, below, meth, c) w shC 11 1 σ 63 [(0, .ref (w.2.1 16)), (1, .int x1), (2, .int x2), (3, .int x3), (4, .int x4), (5, .int x5), (6, .int x6), (7, .int x7)] [] (j_X6_loss_63 N x1 x2 x3 x4 x5 x6 x7 σ) := by
  unfold j_X6_loss_63
  refine r_iconst hg 0 dX6_loss_63 (by decide) ?_
  exact vj_X6_loss_64 hg hdp x1 x2 x3 x4 x5 x6 x7 0 σ
set_option maxHeartbeats 4000000 in
set_option maxRecDepth 100000 in
theorem vj_X6_loss_35 {N : Nat} (hg : m_ok (p, l, e, d, s, m, args, below, meth, c) w shC cX6_loss 11 RX6 (some .int)) (hdp : 1 ≤ d) (x1 x2 x3 x4 x5 x6 y0 : Int32) (σ : Mem) : Vj (p, l, e, d, s, m, args, below, meth, c) w shC 11 1 σ 35 [(0, .ref (w.2.1 16)), (1, .int x1), (2, .int x2), (3, .int x3), (4, .int x4), (5, .int x5), (6, .int x6)] [.int y0] (j_X6_loss_35 N x1 x2 x3 x4 x5 x6 y0 σ) := by
  unfold j_X6_loss_35
  refine r_istore (lv' := [(7, .int y0), (0, .ref (w.2.1 16)), (1, .int x1), (2, .int x2), (3, .int x3), (4, .int x4), (5, .int x5), (6, .int x6)]) hg dX6_loss_35 (by decide) rfl ?_
  refine r_iload hg 5 dX6_loss_37 rfl ?_
  refine r_iconst hg 0 dX6_loss_39 (by decide) ?_
  refine r_bipush hg 99 dX6_loss_40 (by decide) ?_
  refine q_calls1 hg (e_X6_isWithin N l w x4 0 99 σ) kk_RX6_87 kt_X6_isWithin np_X6_isWithin (Nat.le_trans (by decide) hdp) rfl m_c1_nil (Nat.le_of_ble_eq_true rfl) dX6_loss_42 (fun r1 σ2 => ?_)
  refine r_if_eq hg 63 dX6_loss_45 (by decide) ?_ ?_
  · refine r_lv [1, 2, 3, 4, 5, 6, 7, 0] rfl ?_
    exact vj_X6_loss_63 hg hdp x1 x2 x3 x4 x5 x6 y0 σ2
  · refine r_iload hg 6 dX6_loss_48 rfl ?_
    refine r_iconst hg 0 dX6_loss_50 (by decide) ?_
    refine r_bipush hg 99 dX6_loss_51 (by decide) ?_
    refine q_calls1 hg (e_X6_isWithin N l w x5 0 99 σ2) kk_RX6_87 kt_X6_isWithin np_X6_isWithin (Nat.le_trans (by decide) hdp) rfl m_c1_nil (Nat.le_of_ble_eq_true rfl) dX6_loss_53 (fun r3 σ4 => ?_)
    refine r_if_eq hg 63 dX6_loss_56 (by decide) ?_ ?_
    · refine r_lv [1, 2, 3, 4, 5, 6, 7, 0] rfl ?_
      exact vj_X6_loss_63 hg hdp x1 x2 x3 x4 x5 x6 y0 σ4
    · refine r_iconst hg 1 dX6_loss_59 (by decide) ?_
      refine r_goto hg 64 dX6_loss_60 (by decide) ?_
      refine r_lv [1, 2, 3, 4, 5, 6, 7, 0] rfl ?_
      exact vj_X6_loss_64 hg hdp x1 x2 x3 x4 x5 x6 y0 1 σ4
set_option maxHeartbeats 4000000 in
set_option maxRecDepth 100000 in
theorem vj_X6_loss_34 {N : Nat} (hg : m_ok (p, l, e, d, s, m, args, below, meth, c) w shC cX6_loss 11 RX6 (some .int)) (hdp : 1 ≤ d) (x1 x2 x3 x4 x5 x6 : Int32) (σ : Mem) : Vj (p, l, e, d, s, m, args, below, meth, c) w shC 11 1 σ 34 [(0, .ref (w.2.1 16)), (1, .int x1), (2, .int x2), (3, .int x3), (4, .int x4), (5, .int x5), (6, .int x6)] [] (j_X6_loss_34 N x1 x2 x3 x4 x5 x6 σ) := by
  unfold j_X6_loss_34
  refine r_iconst hg 0 dX6_loss_34 (by decide) ?_
  exact vj_X6_loss_35 hg hdp x1 x2 x3 x4 x5 x6 0 σ
set_option maxHeartbeats 4000000 in
set_option maxRecDepth 100000 in
theorem e_X6_loss (N : Nat) (l : Launch) (w : mW) (v1 v2 v3 v4 v5 v6 : Int32) (σ : Mem) : Ev l w shC yX6_loss cX6_loss 11 (some .int) 1 1 [.ref (w.2.1 16), .int v1, .int v2, .int v3, .int v4, .int v5, .int v6] σ (f_X6_loss N v1 v2 v3 v4 v5 v6 σ) := by
  refine Ev.of (by decide) (m_c1_r (m_c1_i (m_c1_i (m_c1_i (m_c1_i (m_c1_i (m_c1_i m_c1_nil))))))) (Nat.le_of_ble_eq_true rfl) (fun p e s m args below meth c hg => ?_)
  have hdp := Nat.le_refl 1
  unfold f_X6_loss
  show Vj (p, l, e, 1, s, m, args, below, meth, c) w shC 11 1 σ 0 [(0, .ref (w.2.1 16)), (1, .int v1), (2, .int v2), (3, .int v3), (4, .int v4), (5, .int v5), (6, .int v6)] [] _
  refine r_iload_n hg 2 dX6_loss_0 rfl ?_
  refine r_iconst hg 0 dX6_loss_1 (by decide) ?_
  refine r_sipush hg 999 dX6_loss_2 (by decide) ?_
  refine q_calls1 hg (e_X6_isWithin N l w v2 0 999 σ) kk_RX6_87 kt_X6_isWithin np_X6_isWithin (Nat.le_trans (by decide) hdp) rfl m_c1_nil (Nat.le_of_ble_eq_true rfl) dX6_loss_5 (fun r1 σ2 => ?_)
  refine r_if_eq hg 34 dX6_loss_8 (by decide) ?_ ?_
  · exact vj_X6_loss_34 hg hdp v1 v2 v3 v4 v5 v6 σ2
  · refine r_iload_n hg 3 dX6_loss_11 rfl ?_
    refine r_iconst hg 0 dX6_loss_12 (by decide) ?_
    refine r_bipush hg 99 dX6_loss_13 (by decide) ?_
    refine q_calls1 hg (e_X6_isWithin N l w v3 0 99 σ2) kk_RX6_87 kt_X6_isWithin np_X6_isWithin (Nat.le_trans (by decide) hdp) rfl m_c1_nil (Nat.le_of_ble_eq_true rfl) dX6_loss_15 (fun r3 σ4 => ?_)
    refine r_if_eq hg 34 dX6_loss_18 (by decide) ?_ ?_
    · exact vj_X6_loss_34 hg hdp v1 v2 v3 v4 v5 v6 σ4
    · refine r_iload_n hg 2 dX6_loss_21 rfl ?_
      refine r_iload_n hg 3 dX6_loss_22 rfl ?_
      refine r_iadd hg dX6_loss_23 ?_
      refine r_sipush hg 999 dX6_loss_24 (by decide) ?_
      refine r_icmp_gt hg 34 dX6_loss_27 (by decide) ?_ ?_
      · exact vj_X6_loss_34 hg hdp v1 v2 v3 v4 v5 v6 σ4
      · refine r_iconst hg 1 dX6_loss_30 (by decide) ?_
        refine r_goto hg 35 dX6_loss_31 (by decide) ?_
        exact vj_X6_loss_35 hg hdp v1 v2 v3 v4 v5 v6 1 σ4
set_option maxHeartbeats 4000000 in
set_option maxRecDepth 100000 in
theorem e_X6_coverAt (N : Nat) (l : Launch) (w : mW) (v1 : Int32) (σ : Mem) : Ev l w shC yX6_coverAt cX6_coverAt 2 (some (.object "StormParting$Cover")) 2 0 [.ref (w.2.1 16), .int v1] σ (f_X6_coverAt N v1 σ) := by
  refine Ev.of (by decide) (m_c1_r (m_c1_i m_c1_nil)) (Nat.le_of_ble_eq_true rfl) (fun p e s m args below meth c hg => ?_)
  have hdp := Nat.le_refl 0
  unfold f_X6_coverAt
  show Vj (p, l, e, 0, s, m, args, below, meth, c) w shC 2 2 σ 0 [(0, .ref (w.2.1 16)), (1, .int v1)] [] _
  refine r_iload_n hg 1 dX6_coverAt_0 rfl ?_
  refine r_if_lt hg 21 dX6_coverAt_1 (by decide) ?_ ?_
  · refine r_null hg dX6_coverAt_21 ?_
    exact r_aret hg dX6_coverAt_22 rfl rfl
  · refine r_iload_n hg 1 dX6_coverAt_4 rfl ?_
    refine r_aload_n hg 0 dX6_coverAt_5 rfl ?_
    refine q_geti (j := 8) hg rfl rfl rfl (by decide) iX6 kf_RX6_57 rfl dX6_coverAt_6 ?_
    refine r_icmp_ge hg 21 dX6_coverAt_9 (by decide) ?_ ?_
    · refine r_null hg dX6_coverAt_21 ?_
      exact r_aret hg dX6_coverAt_22 rfl rfl
    · refine r_aload_n hg 0 dX6_coverAt_12 rfl ?_
      refine q_getr (j := 1) hg rfl rfl rfl (by decide) iX6 kf_RX6_18 rfl dX6_coverAt_13 ?_
      refine r_iload_n hg 1 dX6_coverAt_16 rfl ?_
      refine r_aaload (n := 6) hg rfl dX6_coverAt_17 ?_
      refine r_goto hg 22 dX6_coverAt_18 (by decide) ?_
      exact r_aret hg dX6_coverAt_22 rfl rfl
set_option maxHeartbeats 4000000 in
set_option maxRecDepth 100000 in
theorem e_X1_all (N : Nat) (l : Launch) (w : mW) (σ : Mem) : Ev l w shC yX1_all cX1_all 1 (some .int) 1 0 [.ref (w.2.1 18)] σ (f_X1_all N σ) := by
  refine Ev.of (by decide) (m_c1_r m_c1_nil) (Nat.le_of_ble_eq_true rfl) (fun p e s m args below meth c hg => ?_)
  have hdp := Nat.le_refl 0
  unfold f_X1_all
  show Vj (p, l, e, 0, s, m, args, below, meth, c) w shC 1 1 σ 0 [(0, .ref (w.2.1 18))] [] _
  refine r_iconst hg 1 dX1_all_0 (by decide) ?_
  refine r_aload_n hg 0 dX1_all_1 rfl ?_
  refine q_geti (j := 6) hg rfl rfl rfl (by decide) iX1 kf_RX1_30 rfl dX1_all_2 ?_
  refine r_ishl hg dX1_all_5 ?_
  refine r_iconst hg 1 dX1_all_6 (by decide) ?_
  refine r_isub hg dX1_all_7 ?_
  exact r_iret hg dX1_all_8 rfl rfl
set_option maxHeartbeats 4000000 in
set_option maxRecDepth 100000 in
theorem e_X1_hasAll (N : Nat) (l : Launch) (w : mW) (v1 : Int32) (σ : Mem) : Ev l w shC yX1_hasAll cX1_hasAll 2 (some .boolean) 1 1 [.ref (w.2.1 18), .int v1] σ (f_X1_hasAll N v1 σ) := by
  refine Ev.of (by decide) (m_c1_r (m_c1_i m_c1_nil)) (Nat.le_of_ble_eq_true rfl) (fun p e s m args below meth c hg => ?_)
  have hdp := Nat.le_refl 1
  unfold f_X1_hasAll
  show Vj (p, l, e, 1, s, m, args, below, meth, c) w shC 2 1 σ 0 [(0, .ref (w.2.1 18)), (1, .int v1)] [] _
  refine r_iload_n hg 1 dX1_hasAll_0 rfl ?_
  refine r_aload_n hg 0 dX1_hasAll_1 rfl ?_
  refine q_callv1 hg (e_X1_all N l w σ) kk_RX1_34 ki_X1_all ks_RX1_X1_all rfl rfl np_X1_all (Nat.le_trans (by decide) hdp) rfl (m_c1_i m_c1_nil) (Nat.le_of_ble_eq_true rfl) dX1_hasAll_2 (fun r1 σ2 => ?_)
  refine r_iconst hg (-1) dX1_hasAll_5 (by decide) ?_
  refine r_ixor hg dX1_hasAll_6 ?_
  refine r_iand hg dX1_hasAll_7 ?_
  refine r_if_ne hg 15 dX1_hasAll_8 (by decide) ?_ ?_
  · refine r_iconst hg 0 dX1_hasAll_15 (by decide) ?_
    exact r_zret hg dX1_hasAll_16 rfl rfl
  · refine r_iconst hg 1 dX1_hasAll_11 (by decide) ?_
    refine r_goto hg 16 dX1_hasAll_12 (by decide) ?_
    exact r_zret hg dX1_hasAll_16 rfl rfl
set_option maxHeartbeats 4000000 in
set_option maxRecDepth 100000 in
theorem e_X0_asksCauses (N : Nat) (l : Launch) (w : mW) (v0 : Int32) (σ : Mem) : Ev l w shC yX0_asksCauses cX0_asksCauses 1 (some .boolean) 1 0 [m_rf w.2.1 v0] σ (f_X0_asksCauses N v0 σ) := by
  refine Ev.of (by decide) (m_c1_q m_c1_nil) (Nat.le_of_ble_eq_true rfl) (fun p e s m args below meth c hg => ?_)
  have hdp := Nat.le_refl 0
  unfold f_X0_asksCauses
  show Vj (p, l, e, 0, s, m, args, below, meth, c) w shC 1 1 σ 0 [(0, m_rf w.2.1 v0)] [] _
  refine r_aloadq_n hg 0 dX0_asksCauses_0 rfl ?_
  refine q_getq (b := 8) hg shC_q rfl (by decide) iX0 kf_RX0_9 rfl dX0_asksCauses_1 (fun h1 => ?_)
  refine r_iconst hg 2 dX0_asksCauses_4 (by decide) ?_
  refine r_iaload (n := 10) hg (shC_w h1) dX0_asksCauses_5 ?_
  refine r_iconst hg 1 dX0_asksCauses_6 (by decide) ?_
  refine r_icmp_ne hg 14 dX0_asksCauses_7 (by decide) ?_ ?_
  · refine r_iconst hg 0 dX0_asksCauses_14 (by decide) ?_
    exact r_zret hg dX0_asksCauses_15 rfl rfl
  · refine r_iconst hg 1 dX0_asksCauses_10 (by decide) ?_
    refine r_goto hg 15 dX0_asksCauses_11 (by decide) ?_
    exact r_zret hg dX0_asksCauses_15 rfl rfl
set_option maxHeartbeats 4000000 in
set_option maxRecDepth 100000 in
theorem e_X1_isIn (N : Nat) (l : Launch) (w : mW) (v0 v1 : Int32) (σ : Mem) : Ev l w shC yX1_isIn cX1_isIn 2 (some .boolean) 1 0 [.int v0, .int v1] σ (f_X1_isIn N v0 v1 σ) := by
  refine Ev.of (by decide) (m_c1_i (m_c1_i m_c1_nil)) (Nat.le_of_ble_eq_true rfl) (fun p e s m args below meth c hg => ?_)
  have hdp := Nat.le_refl 0
  unfold f_X1_isIn
  show Vj (p, l, e, 0, s, m, args, below, meth, c) w shC 2 1 σ 0 [(0, .int v0), (1, .int v1)] [] _
  refine r_iload_n hg 1 dX1_isIn_0 rfl ?_
  refine r_iconst hg 1 dX1_isIn_1 (by decide) ?_
  refine r_iload_n hg 0 dX1_isIn_2 rfl ?_
  refine r_ishl hg dX1_isIn_3 ?_
  refine r_iand hg dX1_isIn_4 ?_
  refine r_if_eq hg 12 dX1_isIn_5 (by decide) ?_ ?_
  · refine r_iconst hg 0 dX1_isIn_12 (by decide) ?_
    exact r_zret hg dX1_isIn_13 rfl rfl
  · refine r_iconst hg 1 dX1_isIn_8 (by decide) ?_
    refine r_goto hg 13 dX1_isIn_9 (by decide) ?_
    exact r_zret hg dX1_isIn_13 rfl rfl
end CM0
