section RM0
variable {p : Program} {l : Launch} {e : Env} {d : Nat} {s : State} {m : MethodId} {args : Array Value} {below : List Frame} {meth : Method} {c : Code} {w : mW}
set_option maxHeartbeats 4000000 in
set_option maxRecDepth 100000 in
theorem vb_X7_bytesIn_5 {N : Nat} (hg : m_ok (p, l, e, d, s, m, args, below, meth, c) w shR cX7_bytesIn 3 RX7 (some .int)) (hdp : 0 ≤ d) {K5 : Int32 → Int32 → Int32 → Mem → Option (Int32 × Mem)} (hK5 : ∀ (x0 x1 x2 : Int32) (σ : Mem), Vj (p, l, e, d, s, m, args, below, meth, c) w shR 3 1 σ 5 [(0, .int x0), (1, .int x1), (2, .int x2)] [] (K5 x0 x1 x2 σ)) (x0 x1 x2 : Int32) (σ : Mem) : Vj (p, l, e, d, s, m, args, below, meth, c) w shR 3 1 σ 5 [(0, .int x0), (1, .int x1), (2, .int x2)] [] (b_X7_bytesIn_5 N K5 x0 x1 x2 σ) := by
  unfold b_X7_bytesIn_5
  refine r_iload_n hg 2 dX7_bytesIn_5 rfl ?_
  refine r_if_lt hg 33 dX7_bytesIn_6 (by decide) ?_ ?_
  · refine r_iload_n hg 1 dX7_bytesIn_33 rfl ?_
    exact r_iret hg dX7_bytesIn_34 rfl rfl
  · refine r_iload_n hg 1 dX7_bytesIn_9 rfl ?_
    refine r_iload_n hg 0 dX7_bytesIn_10 rfl ?_
    refine r_iload_n hg 2 dX7_bytesIn_11 rfl ?_
    refine r_ishr hg dX7_bytesIn_12 ?_
    refine r_sipush hg 255 dX7_bytesIn_13 (by decide) ?_
    refine r_iand hg dX7_bytesIn_16 ?_
    refine r_if_eq hg 24 dX7_bytesIn_17 (by decide) ?_ ?_
    · refine r_iconst hg 0 dX7_bytesIn_24 (by decide) ?_
      refine r_iadd hg dX7_bytesIn_25 ?_
      refine q_name (fun u1 => ?_)
      refine r_istore_n (lv' := [(1, .int u1), (0, .int x0), (2, .int x2)]) hg dX7_bytesIn_26 (by decide) rfl ?_
      refine r_iinc (lv' := [(2, .int (x2 + (-8))), (1, .int u1), (0, .int x0)]) hg 2 (x2 + (-8)) dX7_bytesIn_27 rfl rfl (by decide) rfl ?_
      refine r_goto hg 5 dX7_bytesIn_30 (by decide) ?_
      refine r_lv [2, 1, 0] rfl ?_
      exact hK5 x0 u1 (x2 + (-8)) σ
    · refine r_iconst hg 1 dX7_bytesIn_20 (by decide) ?_
      refine r_goto hg 25 dX7_bytesIn_21 (by decide) ?_
      refine r_iadd hg dX7_bytesIn_25 ?_
      refine q_name (fun u2 => ?_)
      refine r_istore_n (lv' := [(1, .int u2), (0, .int x0), (2, .int x2)]) hg dX7_bytesIn_26 (by decide) rfl ?_
      refine r_iinc (lv' := [(2, .int (x2 + (-8))), (1, .int u2), (0, .int x0)]) hg 2 (x2 + (-8)) dX7_bytesIn_27 rfl rfl (by decide) rfl ?_
      refine r_goto hg 5 dX7_bytesIn_30 (by decide) ?_
      refine r_lv [2, 1, 0] rfl ?_
      exact hK5 x0 u2 (x2 + (-8)) σ
set_option maxHeartbeats 4000000 in
set_option maxRecDepth 100000 in
theorem vl_X7_bytesIn_5 {N : Nat} (hg : m_ok (p, l, e, d, s, m, args, below, meth, c) w shR cX7_bytesIn 3 RX7 (some .int)) (hdp : 0 ≤ d) : ∀ (n : Nat) (x0 x1 x2 : Int32) (σ : Mem), Vj (p, l, e, d, s, m, args, below, meth, c) w shR 3 1 σ 5 [(0, .int x0), (1, .int x1), (2, .int x2)] [] (l_X7_bytesIn_5 N n x0 x1 x2 σ)
| 0, _, _, _, _ => Vj.none
| n + 1, x0, x1, x2, σ => vb_X7_bytesIn_5 hg hdp (fun x0 x1 x2 σ => vl_X7_bytesIn_5 hg hdp n x0 x1 x2 σ) x0 x1 x2 σ
set_option maxHeartbeats 4000000 in
set_option maxRecDepth 100000 in
theorem e_X7_bytesIn (N : Nat) (l : Launch) (w : mW) (v0 : Int32) (σ : Mem) : Ev l w shR yX7_bytesIn cX7_bytesIn 3 (some .int) 1 0 [.int v0] σ (f_X7_bytesIn N v0 σ) := by
  refine Ev.of (by decide) (m_c1_i m_c1_nil) (Nat.le_of_ble_eq_true rfl) (fun p e s m args below meth c hg => ?_)
  have hdp := Nat.le_refl 0
  unfold f_X7_bytesIn
  show Vj (p, l, e, 0, s, m, args, below, meth, c) w shR 3 1 σ 0 [(0, .int v0)] [] _
  refine r_iconst hg 0 dX7_bytesIn_0 (by decide) ?_
  refine r_istore_n (lv' := [(1, .int 0), (0, .int v0)]) hg dX7_bytesIn_1 (by decide) rfl ?_
  refine r_bipush hg 24 dX7_bytesIn_2 (by decide) ?_
  refine r_istore_n (lv' := [(2, .int 24), (1, .int 0), (0, .int v0)]) hg dX7_bytesIn_4 (by decide) rfl ?_
  refine r_lv [2, 1, 0] rfl ?_
  exact vl_X7_bytesIn_5 hg hdp N v0 0 24 σ
set_option maxHeartbeats 4000000 in
set_option maxRecDepth 100000 in
theorem vb_X7_put_3 {N : Nat} (hg : m_ok (p, l, e, d, s, m, args, below, meth, c) w shR cX7_put 3 RX7 none) (hdp : 0 ≤ d) {K3 : Int32 → Int32 → Mem → Option (Int32 × Mem)} (hK3 : ∀ (x1 x2 : Int32) (σ : Mem), Vj (p, l, e, d, s, m, args, below, meth, c) w shR 3 0 σ 3 [(0, .ref (w.2.1 0)), (1, .int x1), (2, .int x2)] [] (K3 x1 x2 σ)) (x1 x2 : Int32) (σ : Mem) : Vj (p, l, e, d, s, m, args, below, meth, c) w shR 3 0 σ 3 [(0, .ref (w.2.1 0)), (1, .int x1), (2, .int x2)] [] (b_X7_put_3 N K3 x1 x2 σ) := by
  unfold b_X7_put_3
  refine r_iload_n hg 2 dX7_put_3 rfl ?_
  refine r_if_lt hg 49 dX7_put_4 (by decide) ?_ ?_
  · exact r_ret hg dX7_put_49 rfl rfl
  · refine r_iload_n hg 1 dX7_put_7 rfl ?_
    refine r_iload_n hg 2 dX7_put_8 rfl ?_
    refine r_ishr hg dX7_put_9 ?_
    refine r_sipush hg 255 dX7_put_10 (by decide) ?_
    refine r_iand hg dX7_put_13 ?_
    refine r_if_ne hg 20 dX7_put_14 (by decide) ?_ ?_
    · refine r_aload_n hg 0 dX7_put_20 rfl ?_
      refine q_getr (j := 1) hg rfl rfl rfl (by decide) iX7 kf_RX7_9 rfl dX7_put_21 ?_
      refine r_aload_n hg 0 dX7_put_24 rfl ?_
      refine q_geti (j := 2) hg rfl rfl rfl (by decide) iX7 kf_RX7_72 rfl dX7_put_25 ?_
      refine r_iload_n hg 1 dX7_put_28 rfl ?_
      refine r_iload_n hg 2 dX7_put_29 rfl ?_
      refine r_ishr hg dX7_put_30 ?_
      refine r_i2b hg dX7_put_31 ?_
      refine q_bastore (n := 120) hg rfl dX7_put_32 (fun σ1 => ?_)
      refine r_aload_n hg 0 dX7_put_33 rfl ?_
      refine r_dupr hg dX7_put_34 ?_
      refine q_geti (j := 2) hg rfl rfl rfl (by decide) iX7 kf_RX7_72 rfl dX7_put_35 ?_
      refine r_iconst hg 1 dX7_put_38 (by decide) ?_
      refine r_iadd hg dX7_put_39 ?_
      refine q_put (j := 2) hg rfl rfl rfl (by decide) iX7 kf_RX7_72 rfl tyX7_ok nmX7 rfl rfl dX7_put_40 (fun σ2 => ?_)
      refine r_iinc (lv' := [(2, .int (x2 + (-8))), (0, .ref (w.2.1 0)), (1, .int x1)]) hg 2 (x2 + (-8)) dX7_put_43 rfl rfl (by decide) rfl ?_
      refine r_goto hg 3 dX7_put_46 (by decide) ?_
      refine r_lv [1, 2, 0] rfl ?_
      exact hK3 x1 (x2 + (-8)) σ2
    · refine r_goto hg 43 dX7_put_17 (by decide) ?_
      refine r_iinc (lv' := [(2, .int (x2 + (-8))), (0, .ref (w.2.1 0)), (1, .int x1)]) hg 2 (x2 + (-8)) dX7_put_43 rfl rfl (by decide) rfl ?_
      refine r_goto hg 3 dX7_put_46 (by decide) ?_
      refine r_lv [1, 2, 0] rfl ?_
      exact hK3 x1 (x2 + (-8)) σ
set_option maxHeartbeats 4000000 in
set_option maxRecDepth 100000 in
theorem vl_X7_put_3 {N : Nat} (hg : m_ok (p, l, e, d, s, m, args, below, meth, c) w shR cX7_put 3 RX7 none) (hdp : 0 ≤ d) : ∀ (n : Nat) (x1 x2 : Int32) (σ : Mem), Vj (p, l, e, d, s, m, args, below, meth, c) w shR 3 0 σ 3 [(0, .ref (w.2.1 0)), (1, .int x1), (2, .int x2)] [] (l_X7_put_3 N n x1 x2 σ)
| 0, _, _, _ => Vj.none
| n + 1, x1, x2, σ => vb_X7_put_3 hg hdp (fun x1 x2 σ => vl_X7_put_3 hg hdp n x1 x2 σ) x1 x2 σ
set_option maxHeartbeats 4000000 in
set_option maxRecDepth 100000 in
theorem e_X7_put (N : Nat) (l : Launch) (w : mW) (v1 : Int32) (σ : Mem) : Ev l w shR yX7_put cX7_put 3 none 0 0 [.ref (w.2.1 0), .int v1] σ (f_X7_put N v1 σ) := by
  refine Ev.of (by decide) (m_c1_r (m_c1_i m_c1_nil)) (Nat.le_of_ble_eq_true rfl) (fun p e s m args below meth c hg => ?_)
  have hdp := Nat.le_refl 0
  unfold f_X7_put
  show Vj (p, l, e, 0, s, m, args, below, meth, c) w shR 3 0 σ 0 [(0, .ref (w.2.1 0)), (1, .int v1)] [] _
  refine r_bipush hg 24 dX7_put_0 (by decide) ?_
  refine r_istore_n (lv' := [(2, .int 24), (0, .ref (w.2.1 0)), (1, .int v1)]) hg dX7_put_2 (by decide) rfl ?_
  refine r_lv [1, 2, 0] rfl ?_
  exact vl_X7_put_3 hg hdp N v1 24 σ
set_option maxHeartbeats 4000000 in
set_option maxRecDepth 100000 in
theorem e_X7_feed (N : Nat) (l : Launch) (w : mW) (v1 v2 v3 v4 v5 : Int32) (σ : Mem) : Ev l w shR yX7_feed cX7_feed 6 (some .int) 1 1 [.ref (w.2.1 0), .int v1, .int v2, .int v3, .int v4, .int v5] σ (f_X7_feed N v1 v2 v3 v4 v5 σ) := by
  refine Ev.of (by decide) (m_c1_r (m_c1_i (m_c1_i (m_c1_i (m_c1_i (m_c1_i m_c1_nil)))))) (Nat.le_of_ble_eq_true rfl) (fun p e s m args below meth c hg => ?_)
  have hdp := Nat.le_refl 1
  unfold f_X7_feed
  show Vj (p, l, e, 1, s, m, args, below, meth, c) w shR 6 1 σ 0 [(0, .ref (w.2.1 0)), (1, .int v1), (2, .int v2), (3, .int v3), (4, .int v4), (5, .int v5)] [] _
  refine r_aload_n hg 0 dX7_feed_0 rfl ?_
  refine r_iconst hg 0 dX7_feed_1 (by decide) ?_
  refine q_put (j := 0) hg rfl rfl rfl (by decide) iX7 kf_RX7_68 rfl tyX7_ok nmX7 rfl rfl dX7_feed_2 (fun σ1 => ?_)
  refine r_aload_n hg 0 dX7_feed_5 rfl ?_
  refine q_geti (j := 2) hg rfl rfl rfl (by decide) iX7 kf_RX7_72 rfl dX7_feed_6 ?_
  refine r_iload_n hg 1 dX7_feed_9 rfl ?_
  refine q_calls1 hg (e_X7_bytesIn N l w v1 σ1) kk_RX7_75 kt_X7_bytesIn np_X7_bytesIn (Nat.le_trans (by decide) hdp) rfl (m_c1_i m_c1_nil) (Nat.le_of_ble_eq_true rfl) dX7_feed_10 (fun r2 σ3 => ?_)
  refine r_iadd hg dX7_feed_13 ?_
  refine r_iload_n hg 2 dX7_feed_14 rfl ?_
  refine q_calls1 hg (e_X7_bytesIn N l w v2 σ3) kk_RX7_75 kt_X7_bytesIn np_X7_bytesIn (Nat.le_trans (by decide) hdp) rfl (m_c1_i m_c1_nil) (Nat.le_of_ble_eq_true rfl) dX7_feed_15 (fun r4 σ5 => ?_)
  refine r_iadd hg dX7_feed_18 ?_
  refine r_iload_n hg 3 dX7_feed_19 rfl ?_
  refine q_calls1 hg (e_X7_bytesIn N l w v3 σ5) kk_RX7_75 kt_X7_bytesIn np_X7_bytesIn (Nat.le_trans (by decide) hdp) rfl (m_c1_i m_c1_nil) (Nat.le_of_ble_eq_true rfl) dX7_feed_20 (fun r6 σ7 => ?_)
  refine r_iadd hg dX7_feed_23 ?_
  refine r_iload hg 4 dX7_feed_24 rfl ?_
  refine q_calls1 hg (e_X7_bytesIn N l w v4 σ7) kk_RX7_75 kt_X7_bytesIn np_X7_bytesIn (Nat.le_trans (by decide) hdp) rfl (m_c1_i m_c1_nil) (Nat.le_of_ble_eq_true rfl) dX7_feed_26 (fun r8 σ9 => ?_)
  refine r_iadd hg dX7_feed_29 ?_
  refine r_iload hg 5 dX7_feed_30 rfl ?_
  refine q_calls1 hg (e_X7_bytesIn N l w v5 σ9) kk_RX7_75 kt_X7_bytesIn np_X7_bytesIn (Nat.le_trans (by decide) hdp) rfl (m_c1_i m_c1_nil) (Nat.le_of_ble_eq_true rfl) dX7_feed_32 (fun r10 σ11 => ?_)
  refine r_iadd hg dX7_feed_35 ?_
  refine r_bipush hg 120 dX7_feed_36 (by decide) ?_
  refine r_icmp_le hg 43 dX7_feed_38 (by decide) ?_ ?_
  · refine r_aload_n hg 0 dX7_feed_43 rfl ?_
    refine r_iload_n hg 1 dX7_feed_44 rfl ?_
    refine q_callv0 hg (e_X7_put N l w v1 σ11) kk_RX7_79 ki_X7_put ks_RX7_X7_put rfl rfl np_X7_put (Nat.le_trans (by decide) hdp) rfl m_c1_nil (Nat.le_of_ble_eq_true rfl) dX7_feed_45 (fun r12 σ13 => ?_)
    refine r_aload_n hg 0 dX7_feed_48 rfl ?_
    refine r_iload_n hg 2 dX7_feed_49 rfl ?_
    refine q_callv0 hg (e_X7_put N l w v2 σ13) kk_RX7_79 ki_X7_put ks_RX7_X7_put rfl rfl np_X7_put (Nat.le_trans (by decide) hdp) rfl m_c1_nil (Nat.le_of_ble_eq_true rfl) dX7_feed_50 (fun r14 σ15 => ?_)
    refine r_aload_n hg 0 dX7_feed_53 rfl ?_
    refine r_iload_n hg 3 dX7_feed_54 rfl ?_
    refine q_callv0 hg (e_X7_put N l w v3 σ15) kk_RX7_79 ki_X7_put ks_RX7_X7_put rfl rfl np_X7_put (Nat.le_trans (by decide) hdp) rfl m_c1_nil (Nat.le_of_ble_eq_true rfl) dX7_feed_55 (fun r16 σ17 => ?_)
    refine r_aload_n hg 0 dX7_feed_58 rfl ?_
    refine r_iload hg 4 dX7_feed_59 rfl ?_
    refine q_callv0 hg (e_X7_put N l w v4 σ17) kk_RX7_79 ki_X7_put ks_RX7_X7_put rfl rfl np_X7_put (Nat.le_trans (by decide) hdp) rfl m_c1_nil (Nat.le_of_ble_eq_true rfl) dX7_feed_61 (fun r18 σ19 => ?_)
    refine r_aload_n hg 0 dX7_feed_64 rfl ?_
    refine r_iload hg 5 dX7_feed_65 rfl ?_
    refine q_callv0 hg (e_X7_put N l w v5 σ19) kk_RX7_79 ki_X7_put ks_RX7_X7_put rfl rfl np_X7_put (Nat.le_trans (by decide) hdp) rfl m_c1_nil (Nat.le_of_ble_eq_true rfl) dX7_feed_67 (fun r20 σ21 => ?_)
    refine r_aload_n hg 0 dX7_feed_70 rfl ?_
    refine q_geti (j := 2) hg rfl rfl rfl (by decide) iX7 kf_RX7_72 rfl dX7_feed_71 ?_
    exact r_iret hg dX7_feed_74 rfl rfl
  · refine r_iconst hg (-1) dX7_feed_41 (by decide) ?_
    exact r_iret hg dX7_feed_42 rfl rfl
set_option maxHeartbeats 4000000 in
set_option maxRecDepth 100000 in
theorem e_X7_end (N : Nat) (l : Launch) (w : mW) (v1 : Int32) (σ : Mem) : Ev l w shR yX7_end cX7_end 2 (some .boolean) 1 0 [.ref (w.2.1 0), .int v1] σ (f_X7_end N v1 σ) := by
  refine Ev.of (by decide) (m_c1_r (m_c1_i m_c1_nil)) (Nat.le_of_ble_eq_true rfl) (fun p e s m args below meth c hg => ?_)
  have hdp := Nat.le_refl 0
  unfold f_X7_end
  show Vj (p, l, e, 0, s, m, args, below, meth, c) w shR 2 1 σ 0 [(0, .ref (w.2.1 0)), (1, .int v1)] [] _
  refine r_aload_n hg 0 dX7_end_0 rfl ?_
  refine r_iconst hg 0 dX7_end_1 (by decide) ?_
  refine q_put (j := 0) hg rfl rfl rfl (by decide) iX7 kf_RX7_68 rfl tyX7_ok nmX7 rfl rfl dX7_end_2 (fun σ1 => ?_)
  refine r_iload_n hg 1 dX7_end_5 rfl ?_
  refine r_if_lt hg 17 dX7_end_6 (by decide) ?_ ?_
  · refine r_iconst hg 0 dX7_end_17 (by decide) ?_
    exact r_zret hg dX7_end_18 rfl rfl
  · refine r_iload_n hg 1 dX7_end_9 rfl ?_
    refine r_aload_n hg 0 dX7_end_10 rfl ?_
    refine q_geti (j := 2) hg rfl rfl rfl (by decide) iX7 kf_RX7_72 rfl dX7_end_11 ?_
    refine r_icmp_le hg 19 dX7_end_14 (by decide) ?_ ?_
    · refine r_aload_n hg 0 dX7_end_19 rfl ?_
      refine r_iload_n hg 1 dX7_end_20 rfl ?_
      refine q_put (j := 2) hg rfl rfl rfl (by decide) iX7 kf_RX7_72 rfl tyX7_ok nmX7 rfl rfl dX7_end_21 (fun σ2 => ?_)
      refine r_iconst hg 1 dX7_end_24 (by decide) ?_
      exact r_zret hg dX7_end_25 rfl rfl
    · refine r_iconst hg 0 dX7_end_17 (by decide) ?_
      exact r_zret hg dX7_end_18 rfl rfl
set_option maxHeartbeats 4000000 in
set_option maxRecDepth 100000 in
theorem e_X7_here (N : Nat) (l : Launch) (w : mW) (σ : Mem) : Ev l w shR yX7_here cX7_here 1 (some .int) 1 0 [.ref (w.2.1 0)] σ (f_X7_here N σ) := by
  refine Ev.of (by decide) (m_c1_r m_c1_nil) (Nat.le_of_ble_eq_true rfl) (fun p e s m args below meth c hg => ?_)
  have hdp := Nat.le_refl 0
  unfold f_X7_here
  show Vj (p, l, e, 0, s, m, args, below, meth, c) w shR 1 1 σ 0 [(0, .ref (w.2.1 0))] [] _
  refine r_aload_n hg 0 dX7_here_0 rfl ?_
  refine q_geti (j := 3) hg rfl rfl rfl (by decide) iX7 kf_RX7_83 rfl dX7_here_1 ?_
  refine r_aload_n hg 0 dX7_here_4 rfl ?_
  refine q_geti (j := 2) hg rfl rfl rfl (by decide) iX7 kf_RX7_72 rfl dX7_here_5 ?_
  refine r_icmp_ge hg 27 dX7_here_8 (by decide) ?_ ?_
  · refine r_iconst hg (-1) dX7_here_27 (by decide) ?_
    exact r_iret hg dX7_here_28 rfl rfl
  · refine r_aload_n hg 0 dX7_here_11 rfl ?_
    refine q_getr (j := 1) hg rfl rfl rfl (by decide) iX7 kf_RX7_9 rfl dX7_here_12 ?_
    refine r_aload_n hg 0 dX7_here_15 rfl ?_
    refine q_geti (j := 3) hg rfl rfl rfl (by decide) iX7 kf_RX7_83 rfl dX7_here_16 ?_
    refine r_baload (n := 120) hg rfl dX7_here_19 ?_
    refine r_sipush hg 255 dX7_here_20 (by decide) ?_
    refine r_iand hg dX7_here_23 ?_
    refine r_goto hg 28 dX7_here_24 (by decide) ?_
    exact r_iret hg dX7_here_28 rfl rfl
set_option maxHeartbeats 4000000 in
set_option maxRecDepth 100000 in
theorem vb_X7_look_0 {N : Nat} (hg : m_ok (p, l, e, d, s, m, args, below, meth, c) w shR cX7_look 1 RX7 (some .int)) (hdp : 1 ≤ d) {K0 : Mem → Option (Int32 × Mem)} (hK0 : ∀ (σ : Mem), Vj (p, l, e, d, s, m, args, below, meth, c) w shR 1 1 σ 0 [(0, .ref (w.2.1 0))] [] (K0 σ)) (σ : Mem) : Vj (p, l, e, d, s, m, args, below, meth, c) w shR 1 1 σ 0 [(0, .ref (w.2.1 0))] [] (b_X7_look_0 N K0 σ) := by
  unfold b_X7_look_0
  refine r_aload_n hg 0 dX7_look_0 rfl ?_
  refine q_callv1 hg (e_X7_here N l w σ) kk_RX7_86 ki_X7_here ks_RX7_X7_here rfl rfl np_X7_here (Nat.le_trans (by decide) hdp) rfl m_c1_nil (Nat.le_of_ble_eq_true rfl) dX7_look_1 (fun r1 σ2 => ?_)
  refine r_bipush hg 32 dX7_look_4 (by decide) ?_
  refine r_icmp_ne hg 22 dX7_look_6 (by decide) ?_ ?_
  · refine r_aload_n hg 0 dX7_look_22 rfl ?_
    refine q_callv1 hg (e_X7_here N l w σ2) kk_RX7_86 ki_X7_here ks_RX7_X7_here rfl rfl np_X7_here (Nat.le_trans (by decide) hdp) rfl m_c1_nil (Nat.le_of_ble_eq_true rfl) dX7_look_23 (fun r3 σ4 => ?_)
    exact r_iret hg dX7_look_26 rfl rfl
  · refine r_aload_n hg 0 dX7_look_9 rfl ?_
    refine r_dupr hg dX7_look_10 ?_
    refine q_geti (j := 3) hg rfl rfl rfl (by decide) iX7 kf_RX7_83 rfl dX7_look_11 ?_
    refine r_iconst hg 1 dX7_look_14 (by decide) ?_
    refine r_iadd hg dX7_look_15 ?_
    refine q_put (j := 3) hg rfl rfl rfl (by decide) iX7 kf_RX7_83 rfl tyX7_ok nmX7 rfl rfl dX7_look_16 (fun σ5 => ?_)
    refine r_goto hg 0 dX7_look_19 (by decide) ?_
    exact hK0 σ5
set_option maxHeartbeats 4000000 in
set_option maxRecDepth 100000 in
theorem vl_X7_look_0 {N : Nat} (hg : m_ok (p, l, e, d, s, m, args, below, meth, c) w shR cX7_look 1 RX7 (some .int)) (hdp : 1 ≤ d) : ∀ (n : Nat) (σ : Mem), Vj (p, l, e, d, s, m, args, below, meth, c) w shR 1 1 σ 0 [(0, .ref (w.2.1 0))] [] (l_X7_look_0 N n σ)
| 0, _ => Vj.none
| n + 1, σ => vb_X7_look_0 hg hdp (fun σ => vl_X7_look_0 hg hdp n σ) σ
set_option maxHeartbeats 4000000 in
set_option maxRecDepth 100000 in
theorem e_X7_look (N : Nat) (l : Launch) (w : mW) (σ : Mem) : Ev l w shR yX7_look cX7_look 1 (some .int) 1 1 [.ref (w.2.1 0)] σ (f_X7_look N σ) := by
  refine Ev.of (by decide) (m_c1_r m_c1_nil) (Nat.le_of_ble_eq_true rfl) (fun p e s m args below meth c hg => ?_)
  have hdp := Nat.le_refl 1
  unfold f_X7_look
  show Vj (p, l, e, 1, s, m, args, below, meth, c) w shR 1 1 σ 0 [(0, .ref (w.2.1 0))] [] _
  exact vl_X7_look_0 hg hdp N σ
set_option maxHeartbeats 4000000 in
set_option maxRecDepth 100000 in
theorem e_X7_leastOf (N : Nat) (l : Launch) (w : mW) (v0 : Int32) (σ : Mem) : Ev l w shR yX7_leastOf cX7_leastOf 1 (some .int) 1 0 [.int v0] σ (f_X7_leastOf N v0 σ) := by
  refine Ev.of (by decide) (m_c1_i m_c1_nil) (Nat.le_of_ble_eq_true rfl) (fun p e s m args below meth c hg => ?_)
  have hdp := Nat.le_refl 0
  unfold f_X7_leastOf
  show Vj (p, l, e, 0, s, m, args, below, meth, c) w shR 1 1 σ 0 [(0, .int v0)] [] _
  refine r_iload_n hg 0 dX7_leastOf_0 rfl ?_
  refine r_if_eq hg 16 dX7_leastOf_1 (by decide) ?_ ?_
  · refine r_iconst hg 1 dX7_leastOf_16 (by decide) ?_
    refine r_goto hg 21 dX7_leastOf_17 (by decide) ?_
    exact r_iret hg dX7_leastOf_21 rfl rfl
  · refine r_iload_n hg 0 dX7_leastOf_4 rfl ?_
    refine r_bipush hg 6 dX7_leastOf_5 (by decide) ?_
    refine r_icmp_eq hg 16 dX7_leastOf_7 (by decide) ?_ ?_
    · refine r_iconst hg 1 dX7_leastOf_16 (by decide) ?_
      refine r_goto hg 21 dX7_leastOf_17 (by decide) ?_
      exact r_iret hg dX7_leastOf_21 rfl rfl
    · refine r_iload_n hg 0 dX7_leastOf_10 rfl ?_
      refine r_bipush hg 7 dX7_leastOf_11 (by decide) ?_
      refine r_icmp_ne hg 20 dX7_leastOf_13 (by decide) ?_ ?_
      · refine r_iconst hg 0 dX7_leastOf_20 (by decide) ?_
        exact r_iret hg dX7_leastOf_21 rfl rfl
      · refine r_iconst hg 1 dX7_leastOf_16 (by decide) ?_
        refine r_goto hg 21 dX7_leastOf_17 (by decide) ?_
        exact r_iret hg dX7_leastOf_21 rfl rfl
set_option maxHeartbeats 4000000 in
set_option maxRecDepth 100000 in
theorem e_X7_mostOf (N : Nat) (l : Launch) (w : mW) (v0 : Int32) (σ : Mem) : Ev l w shR yX7_mostOf cX7_mostOf 1 (some .int) 1 0 [.int v0] σ (f_X7_mostOf N v0 σ) := by
  refine Ev.of (by decide) (m_c1_i m_c1_nil) (Nat.le_of_ble_eq_true rfl) (fun p e s m args below meth c hg => ?_)
  have hdp := Nat.le_refl 0
  unfold f_X7_mostOf
  show Vj (p, l, e, 0, s, m, args, below, meth, c) w shR 1 1 σ 0 [(0, .int v0)] [] _
  refine r_iload_n hg 0 dX7_mostOf_0 rfl ?_
  refine r_iconst hg 2 dX7_mostOf_1 (by decide) ?_
  refine r_icmp_eq hg 10 dX7_mostOf_2 (by decide) ?_ ?_
  · refine r_iconst hg 1 dX7_mostOf_10 (by decide) ?_
    refine r_goto hg 27 dX7_mostOf_11 (by decide) ?_
    exact r_iret hg dX7_mostOf_27 rfl rfl
  · refine r_iload_n hg 0 dX7_mostOf_5 rfl ?_
    refine r_iconst hg 3 dX7_mostOf_6 (by decide) ?_
    refine r_icmp_ne hg 14 dX7_mostOf_7 (by decide) ?_ ?_
    · refine r_iload_n hg 0 dX7_mostOf_14 rfl ?_
      refine r_bipush hg 7 dX7_mostOf_15 (by decide) ?_
      refine r_icmp_ne hg 25 dX7_mostOf_17 (by decide) ?_ ?_
      · refine r_bipush hg 99 dX7_mostOf_25 (by decide) ?_
        exact r_iret hg dX7_mostOf_27 rfl rfl
      · refine r_bipush hg 9 dX7_mostOf_20 (by decide) ?_
        refine r_goto hg 27 dX7_mostOf_22 (by decide) ?_
        exact r_iret hg dX7_mostOf_27 rfl rfl
    · refine r_iconst hg 1 dX7_mostOf_10 (by decide) ?_
      refine r_goto hg 27 dX7_mostOf_11 (by decide) ?_
      exact r_iret hg dX7_mostOf_27 rfl rfl
set_option maxHeartbeats 4000000 in
set_option maxRecDepth 100000 in
theorem e_X7_isDigit (N : Nat) (l : Launch) (w : mW) (σ : Mem) : Ev l w shR yX7_isDigit cX7_isDigit 1 (some .boolean) 1 1 [.ref (w.2.1 0)] σ (f_X7_isDigit N σ) := by
  refine Ev.of (by decide) (m_c1_r m_c1_nil) (Nat.le_of_ble_eq_true rfl) (fun p e s m args below meth c hg => ?_)
  have hdp := Nat.le_refl 1
  unfold f_X7_isDigit
  show Vj (p, l, e, 1, s, m, args, below, meth, c) w shR 1 1 σ 0 [(0, .ref (w.2.1 0))] [] _
  refine r_aload_n hg 0 dX7_isDigit_0 rfl ?_
  refine q_callv1 hg (e_X7_here N l w σ) kk_RX7_86 ki_X7_here ks_RX7_X7_here rfl rfl np_X7_here (Nat.le_trans (by decide) hdp) rfl m_c1_nil (Nat.le_of_ble_eq_true rfl) dX7_isDigit_1 (fun r1 σ2 => ?_)
  refine r_bipush hg 48 dX7_isDigit_4 (by decide) ?_
  refine r_icmp_lt hg 22 dX7_isDigit_6 (by decide) ?_ ?_
  · refine r_iconst hg 0 dX7_isDigit_22 (by decide) ?_
    exact r_zret hg dX7_isDigit_23 rfl rfl
  · refine r_aload_n hg 0 dX7_isDigit_9 rfl ?_
    refine q_callv1 hg (e_X7_here N l w σ2) kk_RX7_86 ki_X7_here ks_RX7_X7_here rfl rfl np_X7_here (Nat.le_trans (by decide) hdp) rfl m_c1_nil (Nat.le_of_ble_eq_true rfl) dX7_isDigit_10 (fun r3 σ4 => ?_)
    refine r_bipush hg 57 dX7_isDigit_13 (by decide) ?_
    refine r_icmp_gt hg 22 dX7_isDigit_15 (by decide) ?_ ?_
    · refine r_iconst hg 0 dX7_isDigit_22 (by decide) ?_
      exact r_zret hg dX7_isDigit_23 rfl rfl
    · refine r_iconst hg 1 dX7_isDigit_18 (by decide) ?_
      refine r_goto hg 23 dX7_isDigit_19 (by decide) ?_
      exact r_zret hg dX7_isDigit_23 rfl rfl
set_option maxHeartbeats 4000000 in
set_option maxRecDepth 100000 in
theorem e_X7_fails (N : Nat) (l : Launch) (w : mW) (v1 : Int32) (σ : Mem) : Ev l w shR yX7_fails cX7_fails 2 (some .boolean) 1 0 [.ref (w.2.1 0), .int v1] σ (f_X7_fails N v1 σ) := by
  refine Ev.of (by decide) (m_c1_r (m_c1_i m_c1_nil)) (Nat.le_of_ble_eq_true rfl) (fun p e s m args below meth c hg => ?_)
  have hdp := Nat.le_refl 0
  unfold f_X7_fails
  show Vj (p, l, e, 0, s, m, args, below, meth, c) w shR 2 1 σ 0 [(0, .ref (w.2.1 0)), (1, .int v1)] [] _
  refine r_aload_n hg 0 dX7_fails_0 rfl ?_
  refine q_geti (j := 4) hg rfl rfl rfl (by decide) iX7 kf_RX7_90 rfl dX7_fails_1 ?_
  refine r_iconst hg (-1) dX7_fails_4 (by decide) ?_
  refine r_icmp_ne hg 13 dX7_fails_5 (by decide) ?_ ?_
  · refine r_iconst hg 0 dX7_fails_13 (by decide) ?_
    exact r_zret hg dX7_fails_14 rfl rfl
  · refine r_aload_n hg 0 dX7_fails_8 rfl ?_
    refine r_iload_n hg 1 dX7_fails_9 rfl ?_
    refine q_put (j := 4) hg rfl rfl rfl (by decide) iX7 kf_RX7_90 rfl tyX7_ok nmX7 rfl rfl dX7_fails_10 (fun σ1 => ?_)
    refine r_iconst hg 0 dX7_fails_13 (by decide) ?_
    exact r_zret hg dX7_fails_14 rfl rfl
set_option maxHeartbeats 4000000 in
set_option maxRecDepth 100000 in
theorem e_X7_isIn (N : Nat) (l : Launch) (w : mW) (v0 v1 v2 : Int32) (σ : Mem) : Ev l w shR yX7_isIn cX7_isIn 3 (some .boolean) 1 0 [.int v0, .int v1, .int v2] σ (f_X7_isIn N v0 v1 v2 σ) := by
  refine Ev.of (by decide) (m_c1_i (m_c1_i (m_c1_i m_c1_nil))) (Nat.le_of_ble_eq_true rfl) (fun p e s m args below meth c hg => ?_)
  have hdp := Nat.le_refl 0
  unfold f_X7_isIn
  show Vj (p, l, e, 0, s, m, args, below, meth, c) w shR 3 1 σ 0 [(0, .int v0), (1, .int v1), (2, .int v2)] [] _
  refine r_iload_n hg 0 dX7_isIn_0 rfl ?_
  refine r_iload_n hg 1 dX7_isIn_1 rfl ?_
  refine r_icmp_lt hg 14 dX7_isIn_2 (by decide) ?_ ?_
  · refine r_iconst hg 0 dX7_isIn_14 (by decide) ?_
    exact r_zret hg dX7_isIn_15 rfl rfl
  · refine r_iload_n hg 0 dX7_isIn_5 rfl ?_
    refine r_iload_n hg 2 dX7_isIn_6 rfl ?_
    refine r_icmp_gt hg 14 dX7_isIn_7 (by decide) ?_ ?_
    · refine r_iconst hg 0 dX7_isIn_14 (by decide) ?_
      exact r_zret hg dX7_isIn_15 rfl rfl
    · refine r_iconst hg 1 dX7_isIn_10 (by decide) ?_
      refine r_goto hg 15 dX7_isIn_11 (by decide) ?_
      exact r_zret hg dX7_isIn_15 rfl rfl
set_option maxHeartbeats 4000000 in
set_option maxRecDepth 100000 in
theorem vj_X7_number_96 {N : Nat} (hg : m_ok (p, l, e, d, s, m, args, below, meth, c) w shR cX7_number 3 RX7 (some .boolean)) (hdp : 2 ≤ d) (x1 x2 : Int32) (σ : Mem) : Vj (p, l, e, d, s, m, args, below, meth, c) w shR 3 1 σ 96 [(0, .ref (w.2.1 0)), (1, .int x1), (2, .int x2)] [] (j_X7_number_96 N x1 x2 σ) := by
  unfold j_X7_number_96
  refine r_aload_n hg 0 dX7_number_96 rfl ?_
  refine q_geti (j := 5) hg rfl rfl rfl (by decide) iX7 kf_RX7_104 rfl dX7_number_97 ?_
  refine r_iload_n hg 1 dX7_number_100 rfl ?_
  refine r_iload_n hg 2 dX7_number_101 rfl ?_
  refine q_calls1 hg (e_X7_isIn N l w (σ 0 5) x1 x2 σ) kk_RX7_107 kt_X7_isIn np_X7_isIn (Nat.le_trans (by decide) hdp) rfl m_c1_nil (Nat.le_of_ble_eq_true rfl) dX7_number_102 (fun r1 σ2 => ?_)
  refine r_if_ne hg 119 dX7_number_105 (by decide) ?_ ?_
  · refine r_aload_n hg 0 dX7_number_119 rfl ?_
    refine q_callv1 hg (e_X7_isDigit N l w σ2) kk_RX7_100 ki_X7_isDigit ks_RX7_X7_isDigit rfl rfl np_X7_isDigit (Nat.le_trans (by decide) hdp) rfl m_c1_nil (Nat.le_of_ble_eq_true rfl) dX7_number_120 (fun r3 σ4 => ?_)
    refine r_if_eq hg 137 dX7_number_123 (by decide) ?_ ?_
    · refine r_iconst hg 1 dX7_number_137 (by decide) ?_
      refine r_goto hg 142 dX7_number_138 (by decide) ?_
      exact r_zret hg dX7_number_142 rfl rfl
    · refine r_aload_n hg 0 dX7_number_126 rfl ?_
      refine r_aload_n hg 0 dX7_number_127 rfl ?_
      refine q_geti (j := 3) hg rfl rfl rfl (by decide) iX7 kf_RX7_83 rfl dX7_number_128 ?_
      refine q_callv1 hg (e_X7_fails N l w (σ4 0 3) σ4) kk_RX7_93 ki_X7_fails ks_RX7_X7_fails rfl rfl np_X7_fails (Nat.le_trans (by decide) hdp) rfl m_c1_nil (Nat.le_of_ble_eq_true rfl) dX7_number_131 (fun r5 σ6 => ?_)
      refine r_if_eq hg 141 dX7_number_134 (by decide) ?_ ?_
      · refine r_iconst hg 0 dX7_number_141 (by decide) ?_
        exact r_zret hg dX7_number_142 rfl rfl
      · refine r_iconst hg 1 dX7_number_137 (by decide) ?_
        refine r_goto hg 142 dX7_number_138 (by decide) ?_
        exact r_zret hg dX7_number_142 rfl rfl
  · refine r_aload_n hg 0 dX7_number_108 rfl ?_
    refine r_aload_n hg 0 dX7_number_109 rfl ?_
    refine q_geti (j := 3) hg rfl rfl rfl (by decide) iX7 kf_RX7_83 rfl dX7_number_110 ?_
    refine r_iconst hg 1 dX7_number_113 (by decide) ?_
    refine r_isub hg dX7_number_114 ?_
    refine q_callv1 hg (e_X7_fails N l w ((σ2 0 3) - 1) σ2) kk_RX7_93 ki_X7_fails ks_RX7_X7_fails rfl rfl np_X7_fails (Nat.le_trans (by decide) hdp) rfl m_c1_nil (Nat.le_of_ble_eq_true rfl) dX7_number_115 (fun r7 σ8 => ?_)
    exact r_zret hg dX7_number_118 rfl rfl
set_option maxHeartbeats 4000000 in
set_option maxRecDepth 100000 in
theorem e_X7_number (N : Nat) (l : Launch) (w : mW) (v1 v2 : Int32) (σ : Mem) : Ev l w shR yX7_number cX7_number 3 (some .boolean) 1 2 [.ref (w.2.1 0), .int v1, .int v2] σ (f_X7_number N v1 v2 σ) := by
  refine Ev.of (by decide) (m_c1_r (m_c1_i (m_c1_i m_c1_nil))) (Nat.le_of_ble_eq_true rfl) (fun p e s m args below meth c hg => ?_)
  have hdp := Nat.le_refl 2
  unfold f_X7_number
  show Vj (p, l, e, 2, s, m, args, below, meth, c) w shR 3 1 σ 0 [(0, .ref (w.2.1 0)), (1, .int v1), (2, .int v2)] [] _
  refine r_aload_n hg 0 dX7_number_0 rfl ?_
  refine q_callv1 hg (e_X7_here N l w σ) kk_RX7_86 ki_X7_here ks_RX7_X7_here rfl rfl np_X7_here (Nat.le_trans (by decide) hdp) rfl m_c1_nil (Nat.le_of_ble_eq_true rfl) dX7_number_1 (fun r1 σ2 => ?_)
  refine r_bipush hg 32 dX7_number_4 (by decide) ?_
  refine r_icmp_eq hg 18 dX7_number_6 (by decide) ?_ ?_
  · refine r_aload_n hg 0 dX7_number_18 rfl ?_
    refine q_callv1 hg (e_X7_look N l w σ2) kk_RX7_97 ki_X7_look ks_RX7_X7_look rfl rfl np_X7_look (Nat.le_trans (by decide) hdp) rfl m_c1_nil (Nat.le_of_ble_eq_true rfl) dX7_number_19 (fun r3 σ4 => ?_)
    refine r_pop hg dX7_number_22 ?_
    refine r_aload_n hg 0 dX7_number_23 rfl ?_
    refine q_callv1 hg (e_X7_isDigit N l w σ4) kk_RX7_100 ki_X7_isDigit ks_RX7_X7_isDigit rfl rfl np_X7_isDigit (Nat.le_trans (by decide) hdp) rfl m_c1_nil (Nat.le_of_ble_eq_true rfl) dX7_number_24 (fun r5 σ6 => ?_)
    refine r_if_ne hg 39 dX7_number_27 (by decide) ?_ ?_
    · refine r_aload_n hg 0 dX7_number_39 rfl ?_
      refine r_aload_n hg 0 dX7_number_40 rfl ?_
      refine q_callv1 hg (e_X7_here N l w σ6) kk_RX7_86 ki_X7_here ks_RX7_X7_here rfl rfl np_X7_here (Nat.le_trans (by decide) hdp) rfl (m_c1_r m_c1_nil) (Nat.le_of_ble_eq_true rfl) dX7_number_41 (fun r7 σ8 => ?_)
      refine r_bipush hg 48 dX7_number_44 (by decide) ?_
      refine r_isub hg dX7_number_46 ?_
      refine q_put (j := 5) hg rfl rfl rfl (by decide) iX7 kf_RX7_104 rfl tyX7_ok nmX7 rfl rfl dX7_number_47 (fun σ9 => ?_)
      refine r_aload_n hg 0 dX7_number_50 rfl ?_
      refine r_dupr hg dX7_number_51 ?_
      refine q_geti (j := 3) hg rfl rfl rfl (by decide) iX7 kf_RX7_83 rfl dX7_number_52 ?_
      refine r_iconst hg 1 dX7_number_55 (by decide) ?_
      refine r_iadd hg dX7_number_56 ?_
      refine q_put (j := 3) hg rfl rfl rfl (by decide) iX7 kf_RX7_83 rfl tyX7_ok nmX7 rfl rfl dX7_number_57 (fun σ10 => ?_)
      refine r_aload_n hg 0 dX7_number_60 rfl ?_
      refine q_callv1 hg (e_X7_isDigit N l w σ10) kk_RX7_100 ki_X7_isDigit ks_RX7_X7_isDigit rfl rfl np_X7_isDigit (Nat.le_trans (by decide) hdp) rfl m_c1_nil (Nat.le_of_ble_eq_true rfl) dX7_number_61 (fun r11 σ12 => ?_)
      refine r_if_eq hg 96 dX7_number_64 (by decide) ?_ ?_
      · exact vj_X7_number_96 hg hdp v1 v2 σ12
      · refine r_aload_n hg 0 dX7_number_67 rfl ?_
        refine r_bipush hg 10 dX7_number_68 (by decide) ?_
        refine r_aload_n hg 0 dX7_number_70 rfl ?_
        refine q_geti (j := 5) hg rfl rfl rfl (by decide) iX7 kf_RX7_104 rfl dX7_number_71 ?_
        refine r_imul hg dX7_number_74 ?_
        refine r_aload_n hg 0 dX7_number_75 rfl ?_
        refine q_callv1 hg (e_X7_here N l w σ12) kk_RX7_86 ki_X7_here ks_RX7_X7_here rfl rfl np_X7_here (Nat.le_trans (by decide) hdp) rfl (m_c1_i (m_c1_r m_c1_nil)) (Nat.le_of_ble_eq_true rfl) dX7_number_76 (fun r13 σ14 => ?_)
        refine r_iadd hg dX7_number_79 ?_
        refine r_bipush hg 48 dX7_number_80 (by decide) ?_
        refine r_isub hg dX7_number_82 ?_
        refine q_put (j := 5) hg rfl rfl rfl (by decide) iX7 kf_RX7_104 rfl tyX7_ok nmX7 rfl rfl dX7_number_83 (fun σ15 => ?_)
        refine r_aload_n hg 0 dX7_number_86 rfl ?_
        refine r_dupr hg dX7_number_87 ?_
        refine q_geti (j := 3) hg rfl rfl rfl (by decide) iX7 kf_RX7_83 rfl dX7_number_88 ?_
        refine r_iconst hg 1 dX7_number_91 (by decide) ?_
        refine r_iadd hg dX7_number_92 ?_
        refine q_put (j := 3) hg rfl rfl rfl (by decide) iX7 kf_RX7_83 rfl tyX7_ok nmX7 rfl rfl dX7_number_93 (fun σ16 => ?_)
        exact vj_X7_number_96 hg hdp v1 v2 σ16
    · refine r_aload_n hg 0 dX7_number_30 rfl ?_
      refine r_aload_n hg 0 dX7_number_31 rfl ?_
      refine q_geti (j := 3) hg rfl rfl rfl (by decide) iX7 kf_RX7_83 rfl dX7_number_32 ?_
      refine q_callv1 hg (e_X7_fails N l w (σ6 0 3) σ6) kk_RX7_93 ki_X7_fails ks_RX7_X7_fails rfl rfl np_X7_fails (Nat.le_trans (by decide) hdp) rfl m_c1_nil (Nat.le_of_ble_eq_true rfl) dX7_number_35 (fun r17 σ18 => ?_)
      exact r_zret hg dX7_number_38 rfl rfl
  · refine r_aload_n hg 0 dX7_number_9 rfl ?_
    refine r_aload_n hg 0 dX7_number_10 rfl ?_
    refine q_geti (j := 3) hg rfl rfl rfl (by decide) iX7 kf_RX7_83 rfl dX7_number_11 ?_
    refine q_callv1 hg (e_X7_fails N l w (σ2 0 3) σ2) kk_RX7_93 ki_X7_fails ks_RX7_X7_fails rfl rfl np_X7_fails (Nat.le_trans (by decide) hdp) rfl m_c1_nil (Nat.le_of_ble_eq_true rfl) dX7_number_14 (fun r19 σ20 => ?_)
    exact r_zret hg dX7_number_17 rfl rfl
set_option maxHeartbeats 4000000 in
set_option maxRecDepth 100000 in
theorem e_X7_readWord (N : Nat) (l : Launch) (w : mW) (v1 : Int32) (σ : Mem) : Ev l w shR yX7_readWord cX7_readWord 2 (some .boolean) 1 3 [.ref (w.2.1 0), .int v1] σ (f_X7_readWord N v1 σ) := by
  refine Ev.of (by decide) (m_c1_r (m_c1_i m_c1_nil)) (Nat.le_of_ble_eq_true rfl) (fun p e s m args below meth c hg => ?_)
  have hdp := Nat.le_refl 3
  unfold f_X7_readWord
  show Vj (p, l, e, 3, s, m, args, below, meth, c) w shR 2 1 σ 0 [(0, .ref (w.2.1 0)), (1, .int v1)] [] _
  refine r_aload_n hg 0 dX7_readWord_0 rfl ?_
  refine r_dupr hg dX7_readWord_1 ?_
  refine q_geti (j := 3) hg rfl rfl rfl (by decide) iX7 kf_RX7_83 rfl dX7_readWord_2 ?_
  refine r_iconst hg 1 dX7_readWord_5 (by decide) ?_
  refine r_iadd hg dX7_readWord_6 ?_
  refine q_put (j := 3) hg rfl rfl rfl (by decide) iX7 kf_RX7_83 rfl tyX7_ok nmX7 rfl rfl dX7_readWord_7 (fun σ1 => ?_)
  refine r_aload_n hg 0 dX7_readWord_10 rfl ?_
  refine r_iload_n hg 1 dX7_readWord_11 rfl ?_
  refine q_calls1 hg (e_X7_leastOf N l w v1 σ1) kk_RX7_111 kt_X7_leastOf np_X7_leastOf (Nat.le_trans (by decide) hdp) rfl (m_c1_r m_c1_nil) (Nat.le_of_ble_eq_true rfl) dX7_readWord_12 (fun r2 σ3 => ?_)
  refine r_iload_n hg 1 dX7_readWord_15 rfl ?_
  refine q_calls1 hg (e_X7_mostOf N l w v1 σ3) kk_RX7_114 kt_X7_mostOf np_X7_mostOf (Nat.le_trans (by decide) hdp) rfl (m_c1_i (m_c1_r m_c1_nil)) (Nat.le_of_ble_eq_true rfl) dX7_readWord_16 (fun r4 σ5 => ?_)
  refine q_callv1 hg (e_X7_number N l w r2 r4 σ5) kk_RX7_117 ki_X7_number ks_RX7_X7_number rfl rfl np_X7_number (Nat.le_trans (by decide) hdp) rfl m_c1_nil (Nat.le_of_ble_eq_true rfl) dX7_readWord_19 (fun r6 σ7 => ?_)
  refine r_if_ne hg 27 dX7_readWord_22 (by decide) ?_ ?_
  · refine r_aload_n hg 0 dX7_readWord_27 rfl ?_
    refine q_getr (j := 6) hg rfl rfl rfl (by decide) iX7 kf_RX7_13 rfl dX7_readWord_28 ?_
    refine r_bipush hg 10 dX7_readWord_31 (by decide) ?_
    refine r_aload_n hg 0 dX7_readWord_33 rfl ?_
    refine q_geti (j := 7) hg rfl rfl rfl (by decide) iX7 kf_RX7_120 rfl dX7_readWord_34 ?_
    refine r_imul hg dX7_readWord_37 ?_
    refine r_iload_n hg 1 dX7_readWord_38 rfl ?_
    refine r_iadd hg dX7_readWord_39 ?_
    refine r_aload_n hg 0 dX7_readWord_40 rfl ?_
    refine q_geti (j := 5) hg rfl rfl rfl (by decide) iX7 kf_RX7_104 rfl dX7_readWord_41 ?_
    refine q_iastore (n := 70) hg rfl dX7_readWord_44 (fun σ8 => ?_)
    refine r_iconst hg 1 dX7_readWord_45 (by decide) ?_
    exact r_zret hg dX7_readWord_46 rfl rfl
  · refine r_iconst hg 0 dX7_readWord_25 (by decide) ?_
    exact r_zret hg dX7_readWord_26 rfl rfl
set_option maxHeartbeats 4000000 in
set_option maxRecDepth 100000 in
theorem e_X7_firstOf (N : Nat) (l : Launch) (w : mW) (v0 : Int32) (σ : Mem) : Ev l w shR yX7_firstOf cX7_firstOf 1 (some .int) 1 0 [.int v0] σ (f_X7_firstOf N v0 σ) := by
  refine Ev.of (by decide) (m_c1_i m_c1_nil) (Nat.le_of_ble_eq_true rfl) (fun p e s m args below meth c hg => ?_)
  have hdp := Nat.le_refl 0
  unfold f_X7_firstOf
  show Vj (p, l, e, 0, s, m, args, below, meth, c) w shR 1 1 σ 0 [(0, .int v0)] [] _
  refine r_iload_n hg 0 dX7_firstOf_0 rfl ?_
  refine r_iconst hg 1 dX7_firstOf_1 (by decide) ?_
  refine r_icmp_ne hg 9 dX7_firstOf_2 (by decide) ?_ ?_
  · refine r_iload_n hg 0 dX7_firstOf_9 rfl ?_
    refine r_bipush hg 6 dX7_firstOf_10 (by decide) ?_
    refine r_icmp_ne hg 20 dX7_firstOf_12 (by decide) ?_ ?_
    · refine r_iload_n hg 0 dX7_firstOf_20 rfl ?_
      refine r_bipush hg 7 dX7_firstOf_21 (by decide) ?_
      refine r_icmp_ne hg 31 dX7_firstOf_23 (by decide) ?_ ?_
      · refine r_iconst hg 0 dX7_firstOf_31 (by decide) ?_
        exact r_iret hg dX7_firstOf_32 rfl rfl
      · refine r_bipush hg 9 dX7_firstOf_26 (by decide) ?_
        refine r_goto hg 32 dX7_firstOf_28 (by decide) ?_
        exact r_iret hg dX7_firstOf_32 rfl rfl
    · refine r_bipush hg 99 dX7_firstOf_15 (by decide) ?_
      refine r_goto hg 32 dX7_firstOf_17 (by decide) ?_
      exact r_iret hg dX7_firstOf_32 rfl rfl
  · refine r_iconst hg (-1) dX7_firstOf_5 (by decide) ?_
    refine r_goto hg 32 dX7_firstOf_6 (by decide) ?_
    exact r_iret hg dX7_firstOf_32 rfl rfl
set_option maxHeartbeats 4000000 in
set_option maxRecDepth 100000 in
theorem e_J0_isLatin1_aae02 (N : Nat) {sh : mSh} (l : Launch) (w : mW) (σ : Mem) : Ev l w sh yJ0_isLatin1_aae02 cJ0_isLatin1_aae02 1 (some .boolean) 1 0 [.ref (w.2.2.2 3)] σ (f_J0_isLatin1_aae02 N σ) := by
  refine Ev.of (by decide) (m_c1_r m_c1_nil) (Nat.le_of_ble_eq_true rfl) (fun p e s m args below meth c hg => ?_)
  have hdp := Nat.le_refl 0
  unfold f_J0_isLatin1_aae02
  show Vj (p, l, e, 0, s, m, args, below, meth, c) w sh 1 1 σ 0 [(0, .ref (w.2.2.2 3))] [] _
  refine r_getsCS hg kf_RJ0_38 dJ0_isLatin1_aae02_0 ?_
  refine q_name (fun u1 => ?_)
  refine r_if_eq hg 17 dJ0_isLatin1_aae02_3 (by decide) ?_ ?_
  · refine r_iconst hg 0 dJ0_isLatin1_aae02_17 (by decide) ?_
    exact r_zret hg dJ0_isLatin1_aae02_18 rfl rfl
  · refine r_aload_n hg 0 dJ0_isLatin1_aae02_6 rfl ?_
    refine r_strcoder hg kf_RJ0_15 dJ0_isLatin1_aae02_7 ?_
    refine q_name (fun u2 => ?_)
    refine r_if_ne hg 17 dJ0_isLatin1_aae02_10 (by decide) ?_ ?_
    · refine r_iconst hg 0 dJ0_isLatin1_aae02_17 (by decide) ?_
      exact r_zret hg dJ0_isLatin1_aae02_18 rfl rfl
    · refine r_iconst hg 1 dJ0_isLatin1_aae02_13 (by decide) ?_
      refine r_goto hg 18 dJ0_isLatin1_aae02_14 (by decide) ?_
      exact r_zret hg dJ0_isLatin1_aae02_18 rfl rfl
set_option maxHeartbeats 4000000 in
set_option maxRecDepth 100000 in
theorem e_J0_coder_7d493 (N : Nat) {sh : mSh} (l : Launch) (w : mW) (σ : Mem) : Ev l w sh yJ0_coder_7d493 cJ0_coder_7d493 1 (some .byte) 1 0 [.ref (w.2.2.2 3)] σ (f_J0_coder_7d493 N σ) := by
  refine Ev.of (by decide) (m_c1_r m_c1_nil) (Nat.le_of_ble_eq_true rfl) (fun p e s m args below meth c hg => ?_)
  have hdp := Nat.le_refl 0
  unfold f_J0_coder_7d493
  show Vj (p, l, e, 0, s, m, args, below, meth, c) w sh 1 1 σ 0 [(0, .ref (w.2.2.2 3))] [] _
  refine r_getsCS hg kf_RJ0_38 dJ0_coder_7d493_0 ?_
  refine q_name (fun u1 => ?_)
  refine r_if_eq hg 13 dJ0_coder_7d493_3 (by decide) ?_ ?_
  · refine r_iconst hg 1 dJ0_coder_7d493_13 (by decide) ?_
    exact r_bret hg dJ0_coder_7d493_14 rfl rfl
  · refine r_aload_n hg 0 dJ0_coder_7d493_6 rfl ?_
    refine r_strcoder hg kf_RJ0_15 dJ0_coder_7d493_7 ?_
    refine r_goto hg 14 dJ0_coder_7d493_10 (by decide) ?_
    exact r_bret hg dJ0_coder_7d493_14 rfl rfl
set_option maxHeartbeats 4000000 in
set_option maxRecDepth 100000 in
theorem e_J0_length_8abf5 (N : Nat) {sh : mSh} (l : Launch) (w : mW) (σ : Mem) : Ev l w sh yJ0_length_8abf5 cJ0_length_8abf5 1 (some .int) 1 1 [.ref (w.2.2.2 3)] σ (f_J0_length_8abf5 N σ) := by
  refine Ev.of (by decide) (m_c1_r m_c1_nil) (Nat.le_of_ble_eq_true rfl) (fun p e s m args below meth c hg => ?_)
  have hdp := Nat.le_refl 1
  unfold f_J0_length_8abf5
  show Vj (p, l, e, 1, s, m, args, below, meth, c) w sh 1 1 σ 0 [(0, .ref (w.2.2.2 3))] [] _
  refine r_aload_n hg 0 dJ0_length_8abf5_0 rfl ?_
  refine r_strvalue hg kf_RJ0_9 dJ0_length_8abf5_1 ?_
  refine r_xlen hg dJ0_length_8abf5_4 ?_
  refine r_aload_n hg 0 dJ0_length_8abf5_5 rfl ?_
  refine q_callx1 hg (e_J0_coder_7d493 N l w σ) kk_RJ0_335 ki_J0_coder_7d493 ks_RJ0_J0_coder_7d493 np_J0_coder_7d493 (Nat.le_trans (by decide) hdp) rfl (m_c1_i m_c1_nil) (Nat.le_of_ble_eq_true rfl) dJ0_length_8abf5_6 (fun r1 σ2 => ?_)
  refine r_ishr hg dJ0_length_8abf5_9 ?_
  exact r_iret hg dJ0_length_8abf5_10 rfl rfl
set_option maxHeartbeats 4000000 in
set_option maxRecDepth 100000 in
theorem e_J1_canEncode_9a6ad (N : Nat) {sh : mSh} (l : Launch) (w : mW) (v0 : Int32) (σ : Mem) : Ev l w sh yJ1_canEncode_9a6ad cJ1_canEncode_9a6ad 1 (some .boolean) 1 0 [.int v0] σ (f_J1_canEncode_9a6ad N v0 σ) := by
  refine Ev.of (by decide) (m_c1_i m_c1_nil) (Nat.le_of_ble_eq_true rfl) (fun p e s m args below meth c hg => ?_)
  have hdp := Nat.le_refl 0
  unfold f_J1_canEncode_9a6ad
  show Vj (p, l, e, 0, s, m, args, below, meth, c) w sh 1 1 σ 0 [(0, .int v0)] [] _
  refine r_iload_n hg 0 dJ1_canEncode_9a6ad_0 rfl ?_
  refine r_if_lt hg 15 dJ1_canEncode_9a6ad_1 (by decide) ?_ ?_
  · refine r_iconst hg 0 dJ1_canEncode_9a6ad_15 (by decide) ?_
    exact r_zret hg dJ1_canEncode_9a6ad_16 rfl rfl
  · refine r_iload_n hg 0 dJ1_canEncode_9a6ad_4 rfl ?_
    refine r_sipush hg 255 dJ1_canEncode_9a6ad_5 (by decide) ?_
    refine r_icmp_gt hg 15 dJ1_canEncode_9a6ad_8 (by decide) ?_ ?_
    · refine r_iconst hg 0 dJ1_canEncode_9a6ad_15 (by decide) ?_
      exact r_zret hg dJ1_canEncode_9a6ad_16 rfl rfl
    · refine r_iconst hg 1 dJ1_canEncode_9a6ad_11 (by decide) ?_
      refine r_goto hg 16 dJ1_canEncode_9a6ad_12 (by decide) ?_
      exact r_zret hg dJ1_canEncode_9a6ad_16 rfl rfl
set_option maxHeartbeats 4000000 in
set_option maxRecDepth 100000 in
theorem vb_J1_indexOfChar_4cfef_7 {N : Nat} {sh : mSh} (hg : m_ok (p, l, e, d, s, m, args, below, meth, c) w sh cJ1_indexOfChar_4cfef 6 RJ1 (some .int)) (hdp : 0 ≤ d) {K7 : Int32 → Int32 → Int32 → Mem → Option (Int32 × Mem)} (hK7 : ∀ (x3 x4 x5 : Int32) (σ : Mem), Vj (p, l, e, d, s, m, args, below, meth, c) w sh 6 1 σ 7 [(0, .ref (w.2.2.2 4)), (3, .int x3), (4, .int x4), (5, .int x5)] [] (K7 x3 x4 x5 σ)) (x3 x4 x5 : Int32) (σ : Mem) : Vj (p, l, e, d, s, m, args, below, meth, c) w sh 6 1 σ 7 [(0, .ref (w.2.2.2 4)), (3, .int x3), (4, .int x4), (5, .int x5)] [] (b_J1_indexOfChar_4cfef_7 N K7 x3 x4 x5 σ) := by
  unfold b_J1_indexOfChar_4cfef_7
  refine r_iload hg 3 dJ1_indexOfChar_4cfef_7 rfl ?_
  refine r_iload_n hg 1 dJ1_indexOfChar_4cfef_9 rfl ?_
  refine r_icmp_ge hg 31 dJ1_indexOfChar_4cfef_10 (by decide) ?_ ?_
  · refine r_iconst hg (-1) dJ1_indexOfChar_4cfef_31 (by decide) ?_
    exact r_iret hg dJ1_indexOfChar_4cfef_32 rfl rfl
  · refine r_aload_n hg 0 dJ1_indexOfChar_4cfef_13 rfl ?_
    refine r_iload hg 3 dJ1_indexOfChar_4cfef_14 rfl ?_
    refine r_xbald hg dJ1_indexOfChar_4cfef_16 ?_
    refine r_iload hg 2 dJ1_indexOfChar_4cfef_17 rfl ?_
    refine r_icmp_ne hg 25 dJ1_indexOfChar_4cfef_19 (by decide) ?_ ?_
    · refine r_iinc (lv' := [(5, .int (x5 + 1)), (0, .ref (w.2.2.2 4)), (3, .int x3), (4, .int x4)]) hg 3 (x5 + 1) dJ1_indexOfChar_4cfef_25 rfl rfl (by decide) rfl ?_
      refine r_goto hg 7 dJ1_indexOfChar_4cfef_28 (by decide) ?_
      refine r_lv [1, 2, 3, 0] rfl ?_
      exact hK7 x3 x4 (x5 + 1) σ
    · refine r_iload hg 3 dJ1_indexOfChar_4cfef_22 rfl ?_
      exact r_iret hg dJ1_indexOfChar_4cfef_24 rfl rfl
set_option maxHeartbeats 4000000 in
set_option maxRecDepth 100000 in
theorem vl_J1_indexOfChar_4cfef_7 {N : Nat} {sh : mSh} (hg : m_ok (p, l, e, d, s, m, args, below, meth, c) w sh cJ1_indexOfChar_4cfef 6 RJ1 (some .int)) (hdp : 0 ≤ d) : ∀ (n : Nat) (x3 x4 x5 : Int32) (σ : Mem), Vj (p, l, e, d, s, m, args, below, meth, c) w sh 6 1 σ 7 [(0, .ref (w.2.2.2 4)), (3, .int x3), (4, .int x4), (5, .int x5)] [] (l_J1_indexOfChar_4cfef_7 N n x3 x4 x5 σ)
| 0, _, _, _, _ => Vj.none
| n + 1, x3, x4, x5, σ => vb_J1_indexOfChar_4cfef_7 hg hdp (fun x3 x4 x5 σ => vl_J1_indexOfChar_4cfef_7 hg hdp n x3 x4 x5 σ) x3 x4 x5 σ
set_option maxHeartbeats 4000000 in
set_option maxRecDepth 100000 in
theorem e_J1_indexOfChar_4cfef (N : Nat) {sh : mSh} (l : Launch) (w : mW) (v1 v2 v3 : Int32) (σ : Mem) : Ev l w sh yJ1_indexOfChar_4cfef cJ1_indexOfChar_4cfef 6 (some .int) 1 0 [.ref (w.2.2.2 4), .int v1, .int v2, .int v3] σ (f_J1_indexOfChar_4cfef N v1 v2 v3 σ) := by
  refine Ev.of (by decide) (m_c1_r (m_c1_i (m_c1_i (m_c1_i m_c1_nil)))) (Nat.le_of_ble_eq_true rfl) (fun p e s m args below meth c hg => ?_)
  have hdp := Nat.le_refl 0
  unfold f_J1_indexOfChar_4cfef
  show Vj (p, l, e, 0, s, m, args, below, meth, c) w sh 6 1 σ 0 [(0, .ref (w.2.2.2 4)), (1, .int v1), (2, .int v2), (3, .int v3)] [] _
  refine r_iload_n hg 1 dJ1_indexOfChar_4cfef_0 rfl ?_
  refine r_i2b hg dJ1_indexOfChar_4cfef_1 ?_
  refine q_name (fun u1 => ?_)
  refine r_istore (lv' := [(4, .int u1), (0, .ref (w.2.2.2 4)), (1, .int v1), (2, .int v2), (3, .int v3)]) hg dJ1_indexOfChar_4cfef_2 (by decide) rfl ?_
  refine r_iload_n hg 3 dJ1_indexOfChar_4cfef_4 rfl ?_
  refine r_istore (lv' := [(5, .int v2), (4, .int u1), (0, .ref (w.2.2.2 4)), (1, .int v1), (2, .int v2), (3, .int v3)]) hg dJ1_indexOfChar_4cfef_5 (by decide) rfl ?_
  refine r_lv [2, 5, 1, 0] rfl ?_
  exact vl_J1_indexOfChar_4cfef_7 hg hdp N v3 u1 v2 σ
set_option maxHeartbeats 4000000 in
set_option maxRecDepth 100000 in
theorem e_J1_indexOf_4cfef (N : Nat) {sh : mSh} (l : Launch) (w : mW) (v1 v2 v3 : Int32) (σ : Mem) : Ev l w sh yJ1_indexOf_4cfef cJ1_indexOf_4cfef 4 (some .int) 1 1 [.ref (w.2.2.2 4), .int v1, .int v2, .int v3] σ (f_J1_indexOf_4cfef N v1 v2 v3 σ) := by
  refine Ev.of (by decide) (m_c1_r (m_c1_i (m_c1_i (m_c1_i m_c1_nil)))) (Nat.le_of_ble_eq_true rfl) (fun p e s m args below meth c hg => ?_)
  have hdp := Nat.le_refl 1
  unfold f_J1_indexOf_4cfef
  show Vj (p, l, e, 1, s, m, args, below, meth, c) w sh 4 1 σ 0 [(0, .ref (w.2.2.2 4)), (1, .int v1), (2, .int v2), (3, .int v3)] [] _
  refine r_iload_n hg 1 dJ1_indexOf_4cfef_0 rfl ?_
  refine q_calls1 hg (e_J1_canEncode_9a6ad N l w v1 σ) kk_RJ1_88 kt_J1_canEncode_9a6ad np_J1_canEncode_9a6ad (Nat.le_trans (by decide) hdp) rfl m_c1_nil (Nat.le_of_ble_eq_true rfl) dJ1_indexOf_4cfef_1 (fun r1 σ2 => ?_)
  refine r_if_ne hg 9 dJ1_indexOf_4cfef_4 (by decide) ?_ ?_
  · refine r_iload_n hg 2 dJ1_indexOf_4cfef_9 rfl ?_
    refine r_iconst hg 0 dJ1_indexOf_4cfef_10 (by decide) ?_
    refine r_max hg km_RJ1_92 kt_J9_max_7cf53 kz_RJ9 kc_J9_max_7cf53 (Nat.le_trans (by decide) hdp) m_c1_nil (Nat.le_of_ble_eq_true rfl) dJ1_indexOf_4cfef_11 ?_
    refine q_name (fun u3 => ?_)
    refine r_istore_n (lv' := [(2, .int u3), (0, .ref (w.2.2.2 4)), (1, .int v1), (3, .int v3)]) hg dJ1_indexOf_4cfef_14 (by decide) rfl ?_
    refine r_iload_n hg 3 dJ1_indexOf_4cfef_15 rfl ?_
    refine r_aload_n hg 1 dJ1_indexOf_4cfef_16 rfl ?_
    refine r_xlen hg dJ1_indexOf_4cfef_17 ?_
    refine r_min hg km_RJ1_38 kt_J9_min_7cf53 kz_RJ9 kc_J9_min_7cf53 (Nat.le_trans (by decide) hdp) m_c1_nil (Nat.le_of_ble_eq_true rfl) dJ1_indexOf_4cfef_18 ?_
    refine q_name (fun u4 => ?_)
    refine r_istore_n (lv' := [(3, .int u4), (2, .int u3), (0, .ref (w.2.2.2 4)), (1, .int v1)]) hg dJ1_indexOf_4cfef_21 (by decide) rfl ?_
    refine r_iload_n hg 1 dJ1_indexOf_4cfef_22 rfl ?_
    refine r_iload_n hg 0 dJ1_indexOf_4cfef_23 rfl ?_
    refine r_icmp_lt hg 29 dJ1_indexOf_4cfef_24 (by decide) ?_ ?_
    · refine r_aload_n hg 2 dJ1_indexOf_4cfef_29 rfl ?_
      refine r_iload_n hg 3 dJ1_indexOf_4cfef_30 rfl ?_
      refine r_iload_n hg 1 dJ1_indexOf_4cfef_31 rfl ?_
      refine r_iload_n hg 0 dJ1_indexOf_4cfef_32 rfl ?_
      refine q_calls1 hg (e_J1_indexOfChar_4cfef N l w v1 u3 u4 σ2) kk_RJ1_95 kt_J1_indexOfChar_4cfef np_J1_indexOfChar_4cfef (Nat.le_trans (by decide) hdp) rfl m_c1_nil (Nat.le_of_ble_eq_true rfl) dJ1_indexOf_4cfef_33 (fun r5 σ6 => ?_)
      exact r_iret hg dJ1_indexOf_4cfef_36 rfl rfl
    · refine r_iconst hg (-1) dJ1_indexOf_4cfef_27 (by decide) ?_
      exact r_iret hg dJ1_indexOf_4cfef_28 rfl rfl
  · refine r_iconst hg (-1) dJ1_indexOf_4cfef_7 (by decide) ?_
    exact r_iret hg dJ1_indexOf_4cfef_8 rfl rfl
set_option maxHeartbeats 4000000 in
set_option maxRecDepth 100000 in
theorem e_J0_indexOf_7cf53 (N : Nat) {sh : mSh} (l : Launch) (w : mW) (v1 v2 : Int32) (σ : Mem) : Ev l w sh yJ0_indexOf_7cf53 cJ0_indexOf_7cf53 3 (some .int) 1 2 [.ref (w.2.2.2 3), .int v1, .int v2] σ (f_J0_indexOf_7cf53 N v1 v2 σ) := by
  refine Ev.of (by decide) (m_c1_r (m_c1_i (m_c1_i m_c1_nil))) (Nat.le_of_ble_eq_true rfl) (fun p e s m args below meth c hg => ?_)
  have hdp := Nat.le_refl 2
  unfold f_J0_indexOf_7cf53
  show Vj (p, l, e, 2, s, m, args, below, meth, c) w sh 3 1 σ 0 [(0, .ref (w.2.2.2 3)), (1, .int v1), (2, .int v2)] [] _
  refine r_aload_n hg 0 dJ0_indexOf_7cf53_0 rfl ?_
  refine q_callx1 hg (e_J0_isLatin1_aae02 N l w σ) kk_RJ0_492 ki_J0_isLatin1_aae02 ks_RJ0_J0_isLatin1_aae02 np_J0_isLatin1_aae02 (Nat.le_trans (by decide) hdp) rfl m_c1_nil (Nat.le_of_ble_eq_true rfl) dJ0_indexOf_7cf53_1 (fun r1 σ2 => ?_)
  refine r_if_eq hg 23 dJ0_indexOf_7cf53_4 (by decide) ?_ ?_
  · refine r_aload_n hg 0 dJ0_indexOf_7cf53_23 rfl ?_
    refine r_strvalue hg kf_RJ0_9 dJ0_indexOf_7cf53_24 ?_
    refine r_iload_n hg 1 dJ0_indexOf_7cf53_27 rfl ?_
    refine r_iload_n hg 2 dJ0_indexOf_7cf53_28 rfl ?_
    refine r_aload_n hg 0 dJ0_indexOf_7cf53_29 rfl ?_
    refine q_callx1 hg (e_J0_length_8abf5 N l w σ2) kk_RJ0_505 ki_J0_length_8abf5 ks_RJ0_J0_length_8abf5 np_J0_length_8abf5 (Nat.le_trans (by decide) hdp) rfl (m_c1_i (m_c1_i (m_c1_r m_c1_nil))) (Nat.le_of_ble_eq_true rfl) dJ0_indexOf_7cf53_30 (fun r3 σ4 => ?_)
    exact Vj.none
  · refine r_aload_n hg 0 dJ0_indexOf_7cf53_7 rfl ?_
    refine r_strvalue hg kf_RJ0_9 dJ0_indexOf_7cf53_8 ?_
    refine r_iload_n hg 1 dJ0_indexOf_7cf53_11 rfl ?_
    refine r_iload_n hg 2 dJ0_indexOf_7cf53_12 rfl ?_
    refine r_aload_n hg 0 dJ0_indexOf_7cf53_13 rfl ?_
    refine q_callx1 hg (e_J0_length_8abf5 N l w σ2) kk_RJ0_505 ki_J0_length_8abf5 ks_RJ0_J0_length_8abf5 np_J0_length_8abf5 (Nat.le_trans (by decide) hdp) rfl (m_c1_i (m_c1_i (m_c1_r m_c1_nil))) (Nat.le_of_ble_eq_true rfl) dJ0_indexOf_7cf53_14 (fun r5 σ6 => ?_)
    refine q_calls1 hg (e_J1_indexOf_4cfef N l w v1 v2 r5 σ6) kk_RJ0_637 kt_J1_indexOf_4cfef np_J1_indexOf_4cfef (Nat.le_trans (by decide) hdp) rfl m_c1_nil (Nat.le_of_ble_eq_true rfl) dJ0_indexOf_7cf53_17 (fun r7 σ8 => ?_)
    refine r_goto hg 36 dJ0_indexOf_7cf53_20 (by decide) ?_
    exact r_iret hg dJ0_indexOf_7cf53_36 rfl rfl
set_option maxHeartbeats 4000000 in
set_option maxRecDepth 100000 in
theorem e_J0_indexOf_0f7a4 (N : Nat) {sh : mSh} (l : Launch) (w : mW) (v1 : Int32) (σ : Mem) : Ev l w sh yJ0_indexOf_0f7a4 cJ0_indexOf_0f7a4 2 (some .int) 1 3 [.ref (w.2.2.2 3), .int v1] σ (f_J0_indexOf_0f7a4 N v1 σ) := by
  refine Ev.of (by decide) (m_c1_r (m_c1_i m_c1_nil)) (Nat.le_of_ble_eq_true rfl) (fun p e s m args below meth c hg => ?_)
  have hdp := Nat.le_refl 3
  unfold f_J0_indexOf_0f7a4
  show Vj (p, l, e, 3, s, m, args, below, meth, c) w sh 2 1 σ 0 [(0, .ref (w.2.2.2 3)), (1, .int v1)] [] _
  refine r_aload_n hg 0 dJ0_indexOf_0f7a4_0 rfl ?_
  refine r_iload_n hg 1 dJ0_indexOf_0f7a4_1 rfl ?_
  refine r_iconst hg 0 dJ0_indexOf_0f7a4_2 (by decide) ?_
  refine q_callx1 hg (e_J0_indexOf_7cf53 N l w v1 0 σ) kk_RJ0_633 ki_J0_indexOf_7cf53 ks_RJ0_J0_indexOf_7cf53 np_J0_indexOf_7cf53 (Nat.le_trans (by decide) hdp) rfl m_c1_nil (Nat.le_of_ble_eq_true rfl) dJ0_indexOf_0f7a4_3 (fun r1 σ2 => ?_)
  exact r_iret hg dJ0_indexOf_0f7a4_6 rfl rfl
set_option maxHeartbeats 4000000 in
set_option maxRecDepth 100000 in
theorem vj_X7_readCover_110 {N : Nat} (hg : m_ok (p, l, e, d, s, m, args, below, meth, c) w shR cX7_readCover 2 RX7 (some .boolean)) (hdp : 4 ≤ d) {K70 : Mem → Option (Int32 × Mem)} (hK70 : ∀ (σ : Mem), Vj (p, l, e, d, s, m, args, below, meth, c) w shR 2 1 σ 70 [(0, .ref (w.2.1 0))] [] (K70 σ)) (y0 : Int32) (σ : Mem) : Vj (p, l, e, d, s, m, args, below, meth, c) w shR 2 1 σ 110 [(0, .ref (w.2.1 0))] [.int y0] (j_X7_readCover_110 N K70 y0 σ) := by
  unfold j_X7_readCover_110
  refine r_istore_n (lv' := [(1, .int y0), (0, .ref (w.2.1 0))]) hg dX7_readCover_110 (by decide) rfl ?_
  refine r_iload_n hg 0 dX7_readCover_111 rfl ?_
  refine r_iconst hg 1 dX7_readCover_112 (by decide) ?_
  refine r_icmp_ge hg 125 dX7_readCover_113 (by decide) ?_ ?_
  · refine r_aload_n hg 1 dX7_readCover_125 rfl ?_
    refine r_iload_n hg 0 dX7_readCover_126 rfl ?_
    refine q_callv1 hg (e_X7_readWord N l w y0 σ) kk_RX7_126 ki_X7_readWord ks_RX7_X7_readWord rfl rfl np_X7_readWord (Nat.le_trans (by decide) hdp) rfl m_c1_nil (Nat.le_of_ble_eq_true rfl) dX7_readCover_127 (fun r1 σ2 => ?_)
    refine r_if_ne hg 135 dX7_readCover_130 (by decide) ?_ ?_
    · refine r_goto hg 70 dX7_readCover_135 (by decide) ?_
      refine r_lv [1] rfl ?_
      exact hK70 σ2
    · refine r_iconst hg 0 dX7_readCover_133 (by decide) ?_
      exact r_zret hg dX7_readCover_134 rfl rfl
  · refine r_aload_n hg 1 dX7_readCover_116 rfl ?_
    refine r_aload_n hg 1 dX7_readCover_117 rfl ?_
    refine q_geti (j := 3) hg rfl rfl rfl (by decide) iX7 kf_RX7_83 rfl dX7_readCover_118 ?_
    refine q_callv1 hg (e_X7_fails N l w (σ 0 3) σ) kk_RX7_93 ki_X7_fails ks_RX7_X7_fails rfl rfl np_X7_fails (Nat.le_trans (by decide) hdp) rfl m_c1_nil (Nat.le_of_ble_eq_true rfl) dX7_readCover_121 (fun r3 σ4 => ?_)
    exact r_zret hg dX7_readCover_124 rfl rfl
set_option maxHeartbeats 4000000 in
set_option maxRecDepth 100000 in
theorem vb_X7_readCover_70 {N : Nat} (hg : m_ok (p, l, e, d, s, m, args, below, meth, c) w shR cX7_readCover 2 RX7 (some .boolean)) (hdp : 4 ≤ d) {K70 : Mem → Option (Int32 × Mem)} (hK70 : ∀ (σ : Mem), Vj (p, l, e, d, s, m, args, below, meth, c) w shR 2 1 σ 70 [(0, .ref (w.2.1 0))] [] (K70 σ)) (σ : Mem) : Vj (p, l, e, d, s, m, args, below, meth, c) w shR 2 1 σ 70 [(0, .ref (w.2.1 0))] [] (b_X7_readCover_70 N K70 σ) := by
  unfold b_X7_readCover_70
  refine r_aload_n hg 0 dX7_readCover_70 rfl ?_
  refine q_callv1 hg (e_X7_look N l w σ) kk_RX7_97 ki_X7_look ks_RX7_X7_look rfl rfl np_X7_look (Nat.le_trans (by decide) hdp) rfl m_c1_nil (Nat.le_of_ble_eq_true rfl) dX7_readCover_71 (fun r1 σ2 => ?_)
  refine r_bipush hg 59 dX7_readCover_74 (by decide) ?_
  refine r_icmp_ne hg 138 dX7_readCover_76 (by decide) ?_ ?_
  · refine r_aload_n hg 0 dX7_readCover_138 rfl ?_
    refine q_geti (j := 3) hg rfl rfl rfl (by decide) iX7 kf_RX7_83 rfl dX7_readCover_139 ?_
    refine r_aload_n hg 0 dX7_readCover_142 rfl ?_
    refine q_geti (j := 2) hg rfl rfl rfl (by decide) iX7 kf_RX7_72 rfl dX7_readCover_143 ?_
    refine r_icmp_eq hg 160 dX7_readCover_146 (by decide) ?_ ?_
    · refine r_iconst hg 1 dX7_readCover_160 (by decide) ?_
      refine r_goto hg 165 dX7_readCover_161 (by decide) ?_
      exact r_zret hg dX7_readCover_165 rfl rfl
    · refine r_aload_n hg 0 dX7_readCover_149 rfl ?_
      refine r_aload_n hg 0 dX7_readCover_150 rfl ?_
      refine q_geti (j := 3) hg rfl rfl rfl (by decide) iX7 kf_RX7_83 rfl dX7_readCover_151 ?_
      refine q_callv1 hg (e_X7_fails N l w (σ2 0 3) σ2) kk_RX7_93 ki_X7_fails ks_RX7_X7_fails rfl rfl np_X7_fails (Nat.le_trans (by decide) hdp) rfl m_c1_nil (Nat.le_of_ble_eq_true rfl) dX7_readCover_154 (fun r3 σ4 => ?_)
      refine r_if_eq hg 164 dX7_readCover_157 (by decide) ?_ ?_
      · refine r_iconst hg 0 dX7_readCover_164 (by decide) ?_
        exact r_zret hg dX7_readCover_165 rfl rfl
      · refine r_iconst hg 1 dX7_readCover_160 (by decide) ?_
        refine r_goto hg 165 dX7_readCover_161 (by decide) ?_
        exact r_zret hg dX7_readCover_165 rfl rfl
  · refine r_aload_n hg 0 dX7_readCover_79 rfl ?_
    refine r_dupr hg dX7_readCover_80 ?_
    refine q_geti (j := 3) hg rfl rfl rfl (by decide) iX7 kf_RX7_83 rfl dX7_readCover_81 ?_
    refine r_iconst hg 1 dX7_readCover_84 (by decide) ?_
    refine r_iadd hg dX7_readCover_85 ?_
    refine q_put (j := 3) hg rfl rfl rfl (by decide) iX7 kf_RX7_83 rfl tyX7_ok nmX7 rfl rfl dX7_readCover_86 (fun σ5 => ?_)
    refine r_aload_n hg 0 dX7_readCover_89 rfl ?_
    refine q_callv1 hg (e_X7_look N l w σ5) kk_RX7_97 ki_X7_look ks_RX7_X7_look rfl rfl np_X7_look (Nat.le_trans (by decide) hdp) rfl m_c1_nil (Nat.le_of_ble_eq_true rfl) dX7_readCover_90 (fun r6 σ7 => ?_)
    refine r_iconst hg (-1) dX7_readCover_93 (by decide) ?_
    refine r_icmp_ne hg 101 dX7_readCover_94 (by decide) ?_ ?_
    · refine r_ldcS1 hg dX7_readCover_101 ?_
      refine r_aload_n hg 0 dX7_readCover_103 rfl ?_
      refine q_callv1 hg (e_X7_look N l w σ7) kk_RX7_97 ki_X7_look ks_RX7_X7_look rfl rfl np_X7_look (Nat.le_trans (by decide) hdp) rfl (m_c1_r m_c1_nil) (Nat.le_of_ble_eq_true rfl) dX7_readCover_104 (fun r8 σ9 => ?_)
      refine q_callx1 hg (e_J0_indexOf_0f7a4 N l w r8 σ9) kk_RX7_131 ki_J0_indexOf_0f7a4 ks_RJ0_J0_indexOf_0f7a4 np_J0_indexOf_0f7a4 (Nat.le_trans (by decide) hdp) rfl m_c1_nil (Nat.le_of_ble_eq_true rfl) dX7_readCover_107 (fun r10 σ11 => ?_)
      exact vj_X7_readCover_110 hg hdp hK70 r10 σ11
    · refine r_iconst hg (-1) dX7_readCover_97 (by decide) ?_
      refine r_goto hg 110 dX7_readCover_98 (by decide) ?_
      exact vj_X7_readCover_110 hg hdp hK70 (-1) σ7
set_option maxHeartbeats 4000000 in
set_option maxRecDepth 100000 in
theorem vl_X7_readCover_70 {N : Nat} (hg : m_ok (p, l, e, d, s, m, args, below, meth, c) w shR cX7_readCover 2 RX7 (some .boolean)) (hdp : 4 ≤ d) : ∀ (n : Nat) (σ : Mem), Vj (p, l, e, d, s, m, args, below, meth, c) w shR 2 1 σ 70 [(0, .ref (w.2.1 0))] [] (l_X7_readCover_70 N n σ)
| 0, _ => Vj.none
| n + 1, σ => vb_X7_readCover_70 hg hdp (fun σ => vl_X7_readCover_70 hg hdp n σ) σ
set_option maxHeartbeats 4000000 in
set_option maxRecDepth 100000 in
theorem vb_X7_readCover_12 {N : Nat} (hg : m_ok (p, l, e, d, s, m, args, below, meth, c) w shR cX7_readCover 2 RX7 (some .boolean)) (hdp : 4 ≤ d) {K12 : Int32 → Mem → Option (Int32 × Mem)} (hK12 : ∀ (x1 : Int32) (σ : Mem), Vj (p, l, e, d, s, m, args, below, meth, c) w shR 2 1 σ 12 [(0, .ref (w.2.1 0)), (1, .int x1)] [] (K12 x1 σ)) (x1 : Int32) (σ : Mem) : Vj (p, l, e, d, s, m, args, below, meth, c) w shR 2 1 σ 12 [(0, .ref (w.2.1 0)), (1, .int x1)] [] (b_X7_readCover_12 N K12 x1 σ) := by
  unfold b_X7_readCover_12
  refine r_iload_n hg 1 dX7_readCover_12 rfl ?_
  refine r_bipush hg 10 dX7_readCover_13 (by decide) ?_
  refine r_icmp_ge hg 42 dX7_readCover_15 (by decide) ?_ ?_
  · refine r_aload_n hg 0 dX7_readCover_42 rfl ?_
    refine q_callv1 hg (e_X7_look N l w σ) kk_RX7_97 ki_X7_look ks_RX7_X7_look rfl rfl np_X7_look (Nat.le_trans (by decide) hdp) rfl m_c1_nil (Nat.le_of_ble_eq_true rfl) dX7_readCover_43 (fun r1 σ2 => ?_)
    refine r_bipush hg 104 dX7_readCover_46 (by decide) ?_
    refine r_icmp_eq hg 60 dX7_readCover_48 (by decide) ?_ ?_
    · refine r_aload_n hg 0 dX7_readCover_60 rfl ?_
      refine r_iconst hg 0 dX7_readCover_61 (by decide) ?_
      refine q_callv1 hg (e_X7_readWord N l w 0 σ2) kk_RX7_126 ki_X7_readWord ks_RX7_X7_readWord rfl rfl np_X7_readWord (Nat.le_trans (by decide) hdp) rfl m_c1_nil (Nat.le_of_ble_eq_true rfl) dX7_readCover_62 (fun r3 σ4 => ?_)
      refine r_if_ne hg 70 dX7_readCover_65 (by decide) ?_ ?_
      · refine r_lv [0] rfl ?_
        exact vl_X7_readCover_70 hg hdp N σ4
      · refine r_iconst hg 0 dX7_readCover_68 (by decide) ?_
        exact r_zret hg dX7_readCover_69 rfl rfl
    · refine r_aload_n hg 0 dX7_readCover_51 rfl ?_
      refine r_aload_n hg 0 dX7_readCover_52 rfl ?_
      refine q_geti (j := 3) hg rfl rfl rfl (by decide) iX7 kf_RX7_83 rfl dX7_readCover_53 ?_
      refine q_callv1 hg (e_X7_fails N l w (σ2 0 3) σ2) kk_RX7_93 ki_X7_fails ks_RX7_X7_fails rfl rfl np_X7_fails (Nat.le_trans (by decide) hdp) rfl m_c1_nil (Nat.le_of_ble_eq_true rfl) dX7_readCover_56 (fun r5 σ6 => ?_)
      exact r_zret hg dX7_readCover_59 rfl rfl
  · refine r_aload_n hg 0 dX7_readCover_18 rfl ?_
    refine q_getr (j := 6) hg rfl rfl rfl (by decide) iX7 kf_RX7_13 rfl dX7_readCover_19 ?_
    refine r_bipush hg 10 dX7_readCover_22 (by decide) ?_
    refine r_aload_n hg 0 dX7_readCover_24 rfl ?_
    refine q_geti (j := 7) hg rfl rfl rfl (by decide) iX7 kf_RX7_120 rfl dX7_readCover_25 ?_
    refine r_imul hg dX7_readCover_28 ?_
    refine r_iload_n hg 1 dX7_readCover_29 rfl ?_
    refine r_iadd hg dX7_readCover_30 ?_
    refine r_iload_n hg 1 dX7_readCover_31 rfl ?_
    refine q_calls1 hg (e_X7_firstOf N l w x1 σ) kk_RX7_123 kt_X7_firstOf np_X7_firstOf (Nat.le_trans (by decide) hdp) rfl (m_c1_i (m_c1_r m_c1_nil)) (Nat.le_of_ble_eq_true rfl) dX7_readCover_32 (fun r7 σ8 => ?_)
    refine q_iastore (n := 70) hg rfl dX7_readCover_35 (fun σ9 => ?_)
    refine r_iinc (lv' := [(1, .int (x1 + 1)), (0, .ref (w.2.1 0))]) hg 1 (x1 + 1) dX7_readCover_36 rfl rfl (by decide) rfl ?_
    refine r_goto hg 12 dX7_readCover_39 (by decide) ?_
    refine r_lv [1, 0] rfl ?_
    exact hK12 (x1 + 1) σ9
set_option maxHeartbeats 4000000 in
set_option maxRecDepth 100000 in
theorem vl_X7_readCover_12 {N : Nat} (hg : m_ok (p, l, e, d, s, m, args, below, meth, c) w shR cX7_readCover 2 RX7 (some .boolean)) (hdp : 4 ≤ d) : ∀ (n : Nat) (x1 : Int32) (σ : Mem), Vj (p, l, e, d, s, m, args, below, meth, c) w shR 2 1 σ 12 [(0, .ref (w.2.1 0)), (1, .int x1)] [] (l_X7_readCover_12 N n x1 σ)
| 0, _, _ => Vj.none
| n + 1, x1, σ => vb_X7_readCover_12 hg hdp (fun x1 σ => vl_X7_readCover_12 hg hdp n x1 σ) x1 σ
set_option maxHeartbeats 4000000 in
set_option maxRecDepth 100000 in
theorem e_X7_readCover (N : Nat) (l : Launch) (w : mW) (σ : Mem) : Ev l w shR yX7_readCover cX7_readCover 2 (some .boolean) 1 4 [.ref (w.2.1 0)] σ (f_X7_readCover N σ) := by
  refine Ev.of (by decide) (m_c1_r m_c1_nil) (Nat.le_of_ble_eq_true rfl) (fun p e s m args below meth c hg => ?_)
  have hdp := Nat.le_refl 4
  unfold f_X7_readCover
  show Vj (p, l, e, 4, s, m, args, below, meth, c) w shR 2 1 σ 0 [(0, .ref (w.2.1 0))] [] _
  refine r_aload_n hg 0 dX7_readCover_0 rfl ?_
  refine r_iconst hg 0 dX7_readCover_1 (by decide) ?_
  refine q_put (j := 3) hg rfl rfl rfl (by decide) iX7 kf_RX7_83 rfl tyX7_ok nmX7 rfl rfl dX7_readCover_2 (fun σ1 => ?_)
  refine r_aload_n hg 0 dX7_readCover_5 rfl ?_
  refine r_iconst hg (-1) dX7_readCover_6 (by decide) ?_
  refine q_put (j := 4) hg rfl rfl rfl (by decide) iX7 kf_RX7_90 rfl tyX7_ok nmX7 rfl rfl dX7_readCover_7 (fun σ2 => ?_)
  refine r_iconst hg 0 dX7_readCover_10 (by decide) ?_
  refine r_istore_n (lv' := [(1, .int 0), (0, .ref (w.2.1 0))]) hg dX7_readCover_11 (by decide) rfl ?_
  refine r_lv [1, 0] rfl ?_
  exact vl_X7_readCover_12 hg hdp N 0 σ2
set_option maxHeartbeats 4000000 in
set_option maxRecDepth 100000 in
theorem e_X7_fault (N : Nat) (l : Launch) (w : mW) (σ : Mem) : Ev l w shR yX7_fault cX7_fault 2 (some .int) 1 5 [.ref (w.2.1 0)] σ (f_X7_fault N σ) := by
  refine Ev.of (by decide) (m_c1_r m_c1_nil) (Nat.le_of_ble_eq_true rfl) (fun p e s m args below meth c hg => ?_)
  have hdp := Nat.le_refl 5
  unfold f_X7_fault
  show Vj (p, l, e, 5, s, m, args, below, meth, c) w shR 2 1 σ 0 [(0, .ref (w.2.1 0))] [] _
  refine r_aload_n hg 0 dX7_fault_0 rfl ?_
  refine r_iconst hg 0 dX7_fault_1 (by decide) ?_
  refine q_put (j := 0) hg rfl rfl rfl (by decide) iX7 kf_RX7_68 rfl tyX7_ok nmX7 rfl rfl dX7_fault_2 (fun σ1 => ?_)
  refine r_aload_n hg 0 dX7_fault_5 rfl ?_
  refine q_callv1 hg (e_X7_readCover N l w σ1) kk_RX7_136 ki_X7_readCover ks_RX7_X7_readCover rfl rfl np_X7_readCover (Nat.le_trans (by decide) hdp) rfl m_c1_nil (Nat.le_of_ble_eq_true rfl) dX7_fault_6 (fun r2 σ3 => ?_)
  refine r_istore_n (lv' := [(1, .int r2), (0, .ref (w.2.1 0))]) hg dX7_fault_9 (by decide) rfl ?_
  refine r_aload_n hg 1 dX7_fault_10 rfl ?_
  refine q_geti (j := 4) hg rfl rfl rfl (by decide) iX7 kf_RX7_90 rfl dX7_fault_11 ?_
  exact r_iret hg dX7_fault_14 rfl rfl
set_option maxHeartbeats 4000000 in
set_option maxRecDepth 100000 in
theorem e_X7_cover (N : Nat) (l : Launch) (w : mW) (σ : Mem) : Ev l w shR yX7_cover cX7_cover 1 (some .int) 1 5 [.ref (w.2.1 0)] σ (f_X7_cover N σ) := by
  refine Ev.of (by decide) (m_c1_r m_c1_nil) (Nat.le_of_ble_eq_true rfl) (fun p e s m args below meth c hg => ?_)
  have hdp := Nat.le_refl 5
  unfold f_X7_cover
  show Vj (p, l, e, 5, s, m, args, below, meth, c) w shR 1 1 σ 0 [(0, .ref (w.2.1 0))] [] _
  refine r_aload_n hg 0 dX7_cover_0 rfl ?_
  refine r_iconst hg 0 dX7_cover_1 (by decide) ?_
  refine q_put (j := 0) hg rfl rfl rfl (by decide) iX7 kf_RX7_68 rfl tyX7_ok nmX7 rfl rfl dX7_cover_2 (fun σ1 => ?_)
  refine r_aload_n hg 0 dX7_cover_5 rfl ?_
  refine q_geti (j := 7) hg rfl rfl rfl (by decide) iX7 kf_RX7_120 rfl dX7_cover_6 ?_
  refine r_bipush hg 6 dX7_cover_9 (by decide) ?_
  refine r_icmp_eq hg 21 dX7_cover_11 (by decide) ?_ ?_
  · refine r_iconst hg (-1) dX7_cover_21 (by decide) ?_
    exact r_iret hg dX7_cover_22 rfl rfl
  · refine r_aload_n hg 0 dX7_cover_14 rfl ?_
    refine q_callv1 hg (e_X7_readCover N l w σ1) kk_RX7_136 ki_X7_readCover ks_RX7_X7_readCover rfl rfl np_X7_readCover (Nat.le_trans (by decide) hdp) rfl m_c1_nil (Nat.le_of_ble_eq_true rfl) dX7_cover_15 (fun r2 σ3 => ?_)
    refine r_if_ne hg 23 dX7_cover_18 (by decide) ?_ ?_
    · refine r_aload_n hg 0 dX7_cover_23 rfl ?_
      refine r_iconst hg 0 dX7_cover_24 (by decide) ?_
      refine q_put (j := 2) hg rfl rfl rfl (by decide) iX7 kf_RX7_72 rfl tyX7_ok nmX7 rfl rfl dX7_cover_25 (fun σ4 => ?_)
      refine r_aload_n hg 0 dX7_cover_28 rfl ?_
      refine r_dupr hg dX7_cover_29 ?_
      refine q_geti (j := 7) hg rfl rfl rfl (by decide) iX7 kf_RX7_120 rfl dX7_cover_30 ?_
      refine r_iconst hg 1 dX7_cover_33 (by decide) ?_
      refine r_iadd hg dX7_cover_34 ?_
      refine q_put (j := 7) hg rfl rfl rfl (by decide) iX7 kf_RX7_120 rfl tyX7_ok nmX7 rfl rfl dX7_cover_35 (fun σ5 => ?_)
      refine r_aload_n hg 0 dX7_cover_38 rfl ?_
      refine q_geti (j := 7) hg rfl rfl rfl (by decide) iX7 kf_RX7_120 rfl dX7_cover_39 ?_
      refine r_iconst hg 1 dX7_cover_42 (by decide) ?_
      refine r_isub hg dX7_cover_43 ?_
      exact r_iret hg dX7_cover_44 rfl rfl
    · refine r_iconst hg (-1) dX7_cover_21 (by decide) ?_
      exact r_iret hg dX7_cover_22 rfl rfl
set_option maxHeartbeats 4000000 in
set_option maxRecDepth 100000 in
theorem e_X7_isCover (N : Nat) (l : Launch) (w : mW) (v1 : Int32) (σ : Mem) : Ev l w shR yX7_isCover cX7_isCover 2 (some .boolean) 1 0 [.ref (w.2.1 0), .int v1] σ (f_X7_isCover N v1 σ) := by
  refine Ev.of (by decide) (m_c1_r (m_c1_i m_c1_nil)) (Nat.le_of_ble_eq_true rfl) (fun p e s m args below meth c hg => ?_)
  have hdp := Nat.le_refl 0
  unfold f_X7_isCover
  show Vj (p, l, e, 0, s, m, args, below, meth, c) w shR 2 1 σ 0 [(0, .ref (w.2.1 0)), (1, .int v1)] [] _
  refine r_iload_n hg 1 dX7_isCover_0 rfl ?_
  refine r_if_lt hg 16 dX7_isCover_1 (by decide) ?_ ?_
  · refine r_iconst hg 0 dX7_isCover_16 (by decide) ?_
    exact r_zret hg dX7_isCover_17 rfl rfl
  · refine r_iload_n hg 1 dX7_isCover_4 rfl ?_
    refine r_aload_n hg 0 dX7_isCover_5 rfl ?_
    refine q_geti (j := 7) hg rfl rfl rfl (by decide) iX7 kf_RX7_120 rfl dX7_isCover_6 ?_
    refine r_icmp_ge hg 16 dX7_isCover_9 (by decide) ?_ ?_
    · refine r_iconst hg 0 dX7_isCover_16 (by decide) ?_
      exact r_zret hg dX7_isCover_17 rfl rfl
    · refine r_iconst hg 1 dX7_isCover_12 (by decide) ?_
      refine r_goto hg 17 dX7_isCover_13 (by decide) ?_
      exact r_zret hg dX7_isCover_17 rfl rfl
set_option maxHeartbeats 4000000 in
set_option maxRecDepth 100000 in
theorem e_X7_wordOf (N : Nat) (l : Launch) (w : mW) (v1 v2 : Int32) (σ : Mem) : Ev l w shR yX7_wordOf cX7_wordOf 3 (some .int) 1 0 [.ref (w.2.1 0), .int v1, .int v2] σ (f_X7_wordOf N v1 v2 σ) := by
  refine Ev.of (by decide) (m_c1_r (m_c1_i (m_c1_i m_c1_nil))) (Nat.le_of_ble_eq_true rfl) (fun p e s m args below meth c hg => ?_)
  have hdp := Nat.le_refl 0
  unfold f_X7_wordOf
  show Vj (p, l, e, 0, s, m, args, below, meth, c) w shR 3 1 σ 0 [(0, .ref (w.2.1 0)), (1, .int v1), (2, .int v2)] [] _
  refine r_aload_n hg 0 dX7_wordOf_0 rfl ?_
  refine q_getr (j := 6) hg rfl rfl rfl (by decide) iX7 kf_RX7_13 rfl dX7_wordOf_1 ?_
  refine r_bipush hg 10 dX7_wordOf_4 (by decide) ?_
  refine r_iload_n hg 1 dX7_wordOf_6 rfl ?_
  refine r_imul hg dX7_wordOf_7 ?_
  refine r_iload_n hg 2 dX7_wordOf_8 rfl ?_
  refine r_iadd hg dX7_wordOf_9 ?_
  refine r_iaload (n := 70) hg rfl dX7_wordOf_10 ?_
  exact r_iret hg dX7_wordOf_11 rfl rfl
set_option maxHeartbeats 4000000 in
set_option maxRecDepth 100000 in
theorem vj_X7_word_24 {N : Nat} (hg : m_ok (p, l, e, d, s, m, args, below, meth, c) w shR cX7_word 3 RX7 (some .int)) (hdp : 1 ≤ d) (x1 x2 y0 : Int32) (σ : Mem) : Vj (p, l, e, d, s, m, args, below, meth, c) w shR 3 1 σ 24 [(0, .ref (w.2.1 0)), (1, .int x1), (2, .int x2)] [.int y0, .ref (w.2.1 0)] (j_X7_word_24 N x1 x2 y0 σ) := by
  unfold j_X7_word_24
  refine q_put (j := 0) hg rfl rfl rfl (by decide) iX7 kf_RX7_68 rfl tyX7_ok nmX7 rfl rfl dX7_word_24 (fun σ1 => ?_)
  refine r_aload_n hg 0 dX7_word_27 rfl ?_
  refine q_geti (j := 0) hg rfl rfl rfl (by decide) iX7 kf_RX7_68 rfl dX7_word_28 ?_
  refine r_if_le hg 38 dX7_word_31 (by decide) ?_ ?_
  · refine r_aload_n hg 0 dX7_word_38 rfl ?_
    refine r_iload_n hg 1 dX7_word_39 rfl ?_
    refine r_iload_n hg 2 dX7_word_40 rfl ?_
    refine q_callv1 hg (e_X7_wordOf N l w x1 x2 σ1) kk_RX7_142 ki_X7_wordOf ks_RX7_X7_wordOf rfl rfl np_X7_wordOf (Nat.le_trans (by decide) hdp) rfl m_c1_nil (Nat.le_of_ble_eq_true rfl) dX7_word_41 (fun r2 σ3 => ?_)
    exact r_iret hg dX7_word_44 rfl rfl
  · refine r_iconst hg 0 dX7_word_34 (by decide) ?_
    refine r_goto hg 44 dX7_word_35 (by decide) ?_
    exact r_iret hg dX7_word_44 rfl rfl
set_option maxHeartbeats 4000000 in
set_option maxRecDepth 100000 in
theorem vj_X7_word_23 {N : Nat} (hg : m_ok (p, l, e, d, s, m, args, below, meth, c) w shR cX7_word 3 RX7 (some .int)) (hdp : 1 ≤ d) (x1 x2 : Int32) (σ : Mem) : Vj (p, l, e, d, s, m, args, below, meth, c) w shR 3 1 σ 23 [(0, .ref (w.2.1 0)), (1, .int x1), (2, .int x2)] [.ref (w.2.1 0)] (j_X7_word_23 N x1 x2 σ) := by
  unfold j_X7_word_23
  refine r_iconst hg 1 dX7_word_23 (by decide) ?_
  exact vj_X7_word_24 hg hdp x1 x2 1 σ
set_option maxHeartbeats 4000000 in
set_option maxRecDepth 100000 in
theorem e_X7_word (N : Nat) (l : Launch) (w : mW) (v1 v2 : Int32) (σ : Mem) : Ev l w shR yX7_word cX7_word 3 (some .int) 1 1 [.ref (w.2.1 0), .int v1, .int v2] σ (f_X7_word N v1 v2 σ) := by
  refine Ev.of (by decide) (m_c1_r (m_c1_i (m_c1_i m_c1_nil))) (Nat.le_of_ble_eq_true rfl) (fun p e s m args below meth c hg => ?_)
  have hdp := Nat.le_refl 1
  unfold f_X7_word
  show Vj (p, l, e, 1, s, m, args, below, meth, c) w shR 3 1 σ 0 [(0, .ref (w.2.1 0)), (1, .int v1), (2, .int v2)] [] _
  refine r_aload_n hg 0 dX7_word_0 rfl ?_
  refine r_aload_n hg 0 dX7_word_1 rfl ?_
  refine r_iload_n hg 1 dX7_word_2 rfl ?_
  refine q_callv1 hg (e_X7_isCover N l w v1 σ) kk_RX7_139 ki_X7_isCover ks_RX7_X7_isCover rfl rfl np_X7_isCover (Nat.le_trans (by decide) hdp) rfl (m_c1_r m_c1_nil) (Nat.le_of_ble_eq_true rfl) dX7_word_3 (fun r1 σ2 => ?_)
  refine r_if_eq hg 23 dX7_word_6 (by decide) ?_ ?_
  · exact vj_X7_word_23 hg hdp v1 v2 σ2
  · refine r_iload_n hg 2 dX7_word_9 rfl ?_
    refine r_iconst hg 0 dX7_word_10 (by decide) ?_
    refine r_bipush hg 9 dX7_word_11 (by decide) ?_
    refine q_calls1 hg (e_X7_isIn N l w v2 0 9 σ2) kk_RX7_107 kt_X7_isIn np_X7_isIn (Nat.le_trans (by decide) hdp) rfl (m_c1_r m_c1_nil) (Nat.le_of_ble_eq_true rfl) dX7_word_13 (fun r3 σ4 => ?_)
    refine r_if_eq hg 23 dX7_word_16 (by decide) ?_ ?_
    · exact vj_X7_word_23 hg hdp v1 v2 σ4
    · refine r_iconst hg 0 dX7_word_19 (by decide) ?_
      refine r_goto hg 24 dX7_word_20 (by decide) ?_
      exact vj_X7_word_24 hg hdp v1 v2 0 σ4
end RM0
