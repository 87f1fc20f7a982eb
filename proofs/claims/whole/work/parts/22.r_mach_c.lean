section RM2
variable {p : Program} {l : Launch} {e : Env} {d : Nat} {s : State} {m : MethodId} {args : Array Value} {below : List Frame} {meth : Method} {c : Code} {w : mW}
set_option maxHeartbeats 4000000 in
set_option maxRecDepth 100000 in
theorem e_X7_areApart (N : Nat) (l : Launch) (w : mW) (v1 v2 v3 : Int32) (σ : Mem) : Ev l w shR yX7_areApart cX7_areApart 4 (some .boolean) 1 2 [.ref (w.2.1 0), .int v1, .int v2, .int v3] σ (f_X7_areApart N v1 v2 v3 σ) := by
  refine Ev.of (by decide) (m_c1_r (m_c1_i (m_c1_i (m_c1_i m_c1_nil)))) (Nat.le_of_ble_eq_true rfl) (fun p e s m args below meth c hg => ?_)
  have hdp := Nat.le_refl 2
  unfold f_X7_areApart
  show Vj (p, l, e, 2, s, m, args, below, meth, c) w shR 4 1 σ 0 [(0, .ref (w.2.1 0)), (1, .int v1), (2, .int v2), (3, .int v3)] [] _
  refine r_aload_n hg 0 dX7_areApart_0 rfl ?_
  refine r_iload_n hg 1 dX7_areApart_1 rfl ?_
  refine r_iconst hg 3 dX7_areApart_2 (by decide) ?_
  refine q_callv1 hg (e_X7_wordOf N l w v1 3 σ) kk_RX7_142 ki_X7_wordOf ks_RX7_X7_wordOf rfl rfl np_X7_wordOf (Nat.le_trans (by decide) hdp) rfl m_c1_nil (Nat.le_of_ble_eq_true rfl) dX7_areApart_3 (fun r1 σ2 => ?_)
  refine r_iconst hg 1 dX7_areApart_6 (by decide) ?_
  refine r_icmp_eq hg 50 dX7_areApart_7 (by decide) ?_ ?_
  · refine r_iconst hg 1 dX7_areApart_50 (by decide) ?_
    refine r_goto hg 55 dX7_areApart_51 (by decide) ?_
    exact r_zret hg dX7_areApart_55 rfl rfl
  · refine r_aload_n hg 0 dX7_areApart_10 rfl ?_
    refine r_iload_n hg 2 dX7_areApart_11 rfl ?_
    refine q_callv1 hg (e_X7_mostHour N l w v2 σ2) kk_RX7_163 ki_X7_mostHour ks_RX7_X7_mostHour rfl rfl np_X7_mostHour (Nat.le_trans (by decide) hdp) rfl m_c1_nil (Nat.le_of_ble_eq_true rfl) dX7_areApart_12 (fun r3 σ4 => ?_)
    refine r_aload_n hg 0 dX7_areApart_15 rfl ?_
    refine r_iload_n hg 1 dX7_areApart_16 rfl ?_
    refine r_iconst hg 4 dX7_areApart_17 (by decide) ?_
    refine q_callv1 hg (e_X7_wordOf N l w v1 4 σ4) kk_RX7_142 ki_X7_wordOf ks_RX7_X7_wordOf rfl rfl np_X7_wordOf (Nat.le_trans (by decide) hdp) rfl (m_c1_i m_c1_nil) (Nat.le_of_ble_eq_true rfl) dX7_areApart_18 (fun r5 σ6 => ?_)
    refine r_iadd hg dX7_areApart_21 ?_
    refine r_aload_n hg 0 dX7_areApart_22 rfl ?_
    refine r_iload_n hg 3 dX7_areApart_23 rfl ?_
    refine q_callv1 hg (e_X7_leastHour N l w v3 σ6) kk_RX7_166 ki_X7_leastHour ks_RX7_X7_leastHour rfl rfl np_X7_leastHour (Nat.le_trans (by decide) hdp) rfl (m_c1_i m_c1_nil) (Nat.le_of_ble_eq_true rfl) dX7_areApart_24 (fun r7 σ8 => ?_)
    refine r_icmp_lt hg 50 dX7_areApart_27 (by decide) ?_ ?_
    · refine r_iconst hg 1 dX7_areApart_50 (by decide) ?_
      refine r_goto hg 55 dX7_areApart_51 (by decide) ?_
      exact r_zret hg dX7_areApart_55 rfl rfl
    · refine r_aload_n hg 0 dX7_areApart_30 rfl ?_
      refine r_iload_n hg 3 dX7_areApart_31 rfl ?_
      refine q_callv1 hg (e_X7_mostHour N l w v3 σ8) kk_RX7_163 ki_X7_mostHour ks_RX7_X7_mostHour rfl rfl np_X7_mostHour (Nat.le_trans (by decide) hdp) rfl m_c1_nil (Nat.le_of_ble_eq_true rfl) dX7_areApart_32 (fun r9 σ10 => ?_)
      refine r_aload_n hg 0 dX7_areApart_35 rfl ?_
      refine r_iload_n hg 1 dX7_areApart_36 rfl ?_
      refine r_iconst hg 4 dX7_areApart_37 (by decide) ?_
      refine q_callv1 hg (e_X7_wordOf N l w v1 4 σ10) kk_RX7_142 ki_X7_wordOf ks_RX7_X7_wordOf rfl rfl np_X7_wordOf (Nat.le_trans (by decide) hdp) rfl (m_c1_i m_c1_nil) (Nat.le_of_ble_eq_true rfl) dX7_areApart_38 (fun r11 σ12 => ?_)
      refine r_iadd hg dX7_areApart_41 ?_
      refine r_aload_n hg 0 dX7_areApart_42 rfl ?_
      refine r_iload_n hg 2 dX7_areApart_43 rfl ?_
      refine q_callv1 hg (e_X7_leastHour N l w v2 σ12) kk_RX7_166 ki_X7_leastHour ks_RX7_X7_leastHour rfl rfl np_X7_leastHour (Nat.le_trans (by decide) hdp) rfl (m_c1_i m_c1_nil) (Nat.le_of_ble_eq_true rfl) dX7_areApart_44 (fun r13 σ14 => ?_)
      refine r_icmp_ge hg 54 dX7_areApart_47 (by decide) ?_ ?_
      · refine r_iconst hg 0 dX7_areApart_54 (by decide) ?_
        exact r_zret hg dX7_areApart_55 rfl rfl
      · refine r_iconst hg 1 dX7_areApart_50 (by decide) ?_
        refine r_goto hg 55 dX7_areApart_51 (by decide) ?_
        exact r_zret hg dX7_areApart_55 rfl rfl
set_option maxHeartbeats 4000000 in
set_option maxRecDepth 100000 in
theorem e_X7_bars (N : Nat) (l : Launch) (w : mW) (v1 v2 v3 : Int32) (σ : Mem) : Ev l w shR yX7_bars cX7_bars 4 (some .boolean) 1 3 [.ref (w.2.1 0), .int v1, .int v2, .int v3] σ (f_X7_bars N v1 v2 v3 σ) := by
  refine Ev.of (by decide) (m_c1_r (m_c1_i (m_c1_i (m_c1_i m_c1_nil)))) (Nat.le_of_ble_eq_true rfl) (fun p e s m args below meth c hg => ?_)
  have hdp := Nat.le_refl 3
  unfold f_X7_bars
  show Vj (p, l, e, 3, s, m, args, below, meth, c) w shR 4 1 σ 0 [(0, .ref (w.2.1 0)), (1, .int v1), (2, .int v2), (3, .int v3)] [] _
  refine r_aload_n hg 0 dX7_bars_0 rfl ?_
  refine q_getr (j := 14) hg rfl rfl rfl (by decide) iX7 kf_RX7_35 rfl dX7_bars_1 ?_
  refine r_iload_n hg 2 dX7_bars_4 rfl ?_
  refine r_iaload (n := 12) hg rfl dX7_bars_5 ?_
  refine r_aload_n hg 0 dX7_bars_6 rfl ?_
  refine q_getr (j := 14) hg rfl rfl rfl (by decide) iX7 kf_RX7_35 rfl dX7_bars_7 ?_
  refine r_iload_n hg 3 dX7_bars_10 rfl ?_
  refine r_iaload (n := 12) hg rfl dX7_bars_11 ?_
  refine r_icmp_ne hg 38 dX7_bars_12 (by decide) ?_ ?_
  · refine r_aload_n hg 0 dX7_bars_38 rfl ?_
    refine r_iload_n hg 1 dX7_bars_39 rfl ?_
    refine r_aload_n hg 0 dX7_bars_40 rfl ?_
    refine r_iload_n hg 2 dX7_bars_41 rfl ?_
    refine q_callv1 hg (e_X7_toldWith N l w v2 σ) kk_RX7_204 ki_X7_toldWith ks_RX7_X7_toldWith rfl rfl np_X7_toldWith (Nat.le_trans (by decide) hdp) rfl (m_c1_i (m_c1_r m_c1_nil)) (Nat.le_of_ble_eq_true rfl) dX7_bars_42 (fun r1 σ2 => ?_)
    refine r_aload_n hg 0 dX7_bars_45 rfl ?_
    refine r_iload_n hg 3 dX7_bars_46 rfl ?_
    refine q_callv1 hg (e_X7_toldWith N l w v3 σ2) kk_RX7_204 ki_X7_toldWith ks_RX7_X7_toldWith rfl rfl np_X7_toldWith (Nat.le_trans (by decide) hdp) rfl (m_c1_i (m_c1_i (m_c1_r m_c1_nil))) (Nat.le_of_ble_eq_true rfl) dX7_bars_47 (fun r3 σ4 => ?_)
    refine q_callv1 hg (e_X7_areApart N l w v1 r1 r3 σ4) kk_RX7_207 ki_X7_areApart ks_RX7_X7_areApart rfl rfl np_X7_areApart (Nat.le_trans (by decide) hdp) rfl m_c1_nil (Nat.le_of_ble_eq_true rfl) dX7_bars_50 (fun r5 σ6 => ?_)
    refine r_if_ne hg 60 dX7_bars_53 (by decide) ?_ ?_
    · refine r_iconst hg 0 dX7_bars_60 (by decide) ?_
      exact r_zret hg dX7_bars_61 rfl rfl
    · refine r_iconst hg 1 dX7_bars_56 (by decide) ?_
      refine r_goto hg 61 dX7_bars_57 (by decide) ?_
      exact r_zret hg dX7_bars_61 rfl rfl
  · refine r_aload_n hg 0 dX7_bars_15 rfl ?_
    refine r_iload_n hg 1 dX7_bars_16 rfl ?_
    refine r_iconst hg 1 dX7_bars_17 (by decide) ?_
    refine r_iload_n hg 2 dX7_bars_18 rfl ?_
    refine r_ishl hg dX7_bars_19 ?_
    refine r_iconst hg 1 dX7_bars_20 (by decide) ?_
    refine r_iload_n hg 3 dX7_bars_21 rfl ?_
    refine r_ishl hg dX7_bars_22 ?_
    refine r_ior hg dX7_bars_23 ?_
    refine q_callv1 hg (e_X7_mayBeOne N l w v1 ((1 <<< (v2 &&& 31)) ||| (1 <<< (v3 &&& 31))) σ) kk_RX7_175 ki_X7_mayBeOne ks_RX7_X7_mayBeOne rfl rfl np_X7_mayBeOne (Nat.le_trans (by decide) hdp) rfl m_c1_nil (Nat.le_of_ble_eq_true rfl) dX7_bars_24 (fun r7 σ8 => ?_)
    refine r_if_ne hg 34 dX7_bars_27 (by decide) ?_ ?_
    · refine r_iconst hg 0 dX7_bars_34 (by decide) ?_
      refine r_goto hg 61 dX7_bars_35 (by decide) ?_
      exact r_zret hg dX7_bars_61 rfl rfl
    · refine r_iconst hg 1 dX7_bars_30 (by decide) ?_
      refine r_goto hg 61 dX7_bars_31 (by decide) ?_
      exact r_zret hg dX7_bars_61 rfl rfl
set_option maxHeartbeats 4000000 in
set_option maxRecDepth 100000 in
theorem vb_X7_judged_53 {N : Nat} (hg : m_ok (p, l, e, d, s, m, args, below, meth, c) w shR cX7_judged 5 RX7 (some .int)) (hdp : 4 ≤ d) {K53 : Int32 → Int32 → Mem → Option (Int32 × Mem)} (hK53 : ∀ (x1 x2 : Int32) (σ : Mem), Vj (p, l, e, d, s, m, args, below, meth, c) w shR 5 1 σ 53 [(0, .ref (w.2.1 0)), (1, .int x1), (2, .int x2)] [] (K53 x1 x2 σ)) (x1 x2 : Int32) (σ : Mem) : Vj (p, l, e, d, s, m, args, below, meth, c) w shR 5 1 σ 53 [(0, .ref (w.2.1 0)), (1, .int x1), (2, .int x2)] [] (b_X7_judged_53 N K53 x1 x2 σ) := by
  unfold b_X7_judged_53
  refine r_iload_n hg 2 dX7_judged_53 rfl ?_
  refine r_aload_n hg 0 dX7_judged_54 rfl ?_
  refine q_geti (j := 15) hg rfl rfl rfl (by decide) iX7 kf_RX7_146 rfl dX7_judged_55 ?_
  refine r_icmp_ge hg 111 dX7_judged_58 (by decide) ?_ ?_
  · refine r_iconst hg (-1) dX7_judged_111 (by decide) ?_
    exact r_iret hg dX7_judged_112 rfl rfl
  · refine r_aload_n hg 0 dX7_judged_61 rfl ?_
    refine r_iload_n hg 2 dX7_judged_62 rfl ?_
    refine q_callv1 hg (e_X7_toldWith N l w x2 σ) kk_RX7_204 ki_X7_toldWith ks_RX7_X7_toldWith rfl rfl np_X7_toldWith (Nat.le_trans (by decide) hdp) rfl m_c1_nil (Nat.le_of_ble_eq_true rfl) dX7_judged_63 (fun r1 σ2 => ?_)
    refine r_istore_n (lv' := [(3, .int r1), (0, .ref (w.2.1 0)), (1, .int x1), (2, .int x2)]) hg dX7_judged_66 (by decide) rfl ?_
    refine r_iload_n hg 0 dX7_judged_67 rfl ?_
    refine q_calls1 hg (e_J6_numberOfTrailingZeros_0f7a4 N l w r1 σ2) kk_RX7_187 kt_J6_numberOfTrailingZeros_0f7a4 np_J6_numberOfTrailingZeros_0f7a4 (Nat.le_trans (by decide) hdp) rfl m_c1_nil (Nat.le_of_ble_eq_true rfl) dX7_judged_68 (fun r3 σ4 => ?_)
    refine r_iload_n hg 3 dX7_judged_71 rfl ?_
    refine r_icmp_ne hg 105 dX7_judged_72 (by decide) ?_ ?_
    · refine r_iinc (lv' := [(2, .int (x2 + 1)), (3, .int r1), (0, .ref (w.2.1 0)), (1, .int x1)]) hg 3 (x2 + 1) dX7_judged_105 rfl rfl (by decide) rfl ?_
      refine r_goto hg 53 dX7_judged_108 (by decide) ?_
      refine r_lv [2, 3, 0] rfl ?_
      exact hK53 x1 (x2 + 1) σ4
    · refine r_aload_n hg 1 dX7_judged_75 rfl ?_
      refine r_iload_n hg 2 dX7_judged_76 rfl ?_
      refine r_iload_n hg 0 dX7_judged_77 rfl ?_
      refine q_callv1 hg (e_X7_mayBeOne N l w x1 r1 σ4) kk_RX7_175 ki_X7_mayBeOne ks_RX7_X7_mayBeOne rfl rfl np_X7_mayBeOne (Nat.le_trans (by decide) hdp) rfl m_c1_nil (Nat.le_of_ble_eq_true rfl) dX7_judged_78 (fun r5 σ6 => ?_)
      refine r_if_eq hg 87 dX7_judged_81 (by decide) ?_ ?_
      · refine r_iload_n hg 0 dX7_judged_87 rfl ?_
        refine r_iload_n hg 0 dX7_judged_88 rfl ?_
        refine r_iconst hg 1 dX7_judged_89 (by decide) ?_
        refine r_isub hg dX7_judged_90 ?_
        refine r_iand hg dX7_judged_91 ?_
        refine q_name (fun u7 => ?_)
        refine r_istore (lv' := [(4, .int u7), (3, .int r1), (0, .ref (w.2.1 0)), (1, .int x1), (2, .int x2)]) hg dX7_judged_92 (by decide) rfl ?_
        refine r_bipush hg 16 dX7_judged_94 (by decide) ?_
        refine r_iload_n hg 4 dX7_judged_96 rfl ?_
        refine r_imul hg dX7_judged_97 ?_
        refine r_iload hg 0 dX7_judged_98 rfl ?_
        refine q_calls1 hg (e_J6_numberOfTrailingZeros_0f7a4 N l w u7 σ6) kk_RX7_187 kt_J6_numberOfTrailingZeros_0f7a4 np_J6_numberOfTrailingZeros_0f7a4 (Nat.le_trans (by decide) hdp) rfl (m_c1_i m_c1_nil) (Nat.le_of_ble_eq_true rfl) dX7_judged_100 (fun r8 σ9 => ?_)
        refine r_iadd hg dX7_judged_103 ?_
        exact r_iret hg dX7_judged_104 rfl rfl
      · refine r_goto hg 105 dX7_judged_84 (by decide) ?_
        refine r_iinc (lv' := [(2, .int (x2 + 1)), (3, .int r1), (0, .ref (w.2.1 0)), (1, .int x1)]) hg 3 (x2 + 1) dX7_judged_105 rfl rfl (by decide) rfl ?_
        refine r_goto hg 53 dX7_judged_108 (by decide) ?_
        refine r_lv [2, 3, 0] rfl ?_
        exact hK53 x1 (x2 + 1) σ6
set_option maxHeartbeats 4000000 in
set_option maxRecDepth 100000 in
theorem vl_X7_judged_53 {N : Nat} (hg : m_ok (p, l, e, d, s, m, args, below, meth, c) w shR cX7_judged 5 RX7 (some .int)) (hdp : 4 ≤ d) : ∀ (n : Nat) (x1 x2 : Int32) (σ : Mem), Vj (p, l, e, d, s, m, args, below, meth, c) w shR 5 1 σ 53 [(0, .ref (w.2.1 0)), (1, .int x1), (2, .int x2)] [] (l_X7_judged_53 N n x1 x2 σ)
| 0, _, _, _ => Vj.none
| n + 1, x1, x2, σ => vb_X7_judged_53 hg hdp (fun x1 x2 σ => vl_X7_judged_53 hg hdp n x1 x2 σ) x1 x2 σ
set_option maxHeartbeats 4000000 in
set_option maxRecDepth 100000 in
theorem vb_X7_judged_14 {N : Nat} (hg : m_ok (p, l, e, d, s, m, args, below, meth, c) w shR cX7_judged 5 RX7 (some .int)) (hdp : 4 ≤ d) {K2 : Int32 → Int32 → Mem → Option (Int32 × Mem)} (hK2 : ∀ (x1 x2 : Int32) (σ : Mem), Vj (p, l, e, d, s, m, args, below, meth, c) w shR 5 1 σ 2 [(0, .ref (w.2.1 0)), (1, .int x1), (2, .int x2)] [] (K2 x1 x2 σ)) {K14 : Int32 → Int32 → Int32 → Mem → Option (Int32 × Mem)} (hK14 : ∀ (x1 x2 x3 : Int32) (σ : Mem), Vj (p, l, e, d, s, m, args, below, meth, c) w shR 5 1 σ 14 [(0, .ref (w.2.1 0)), (1, .int x1), (2, .int x2), (3, .int x3)] [] (K14 x1 x2 x3 σ)) (x1 x2 x3 : Int32) (σ : Mem) : Vj (p, l, e, d, s, m, args, below, meth, c) w shR 5 1 σ 14 [(0, .ref (w.2.1 0)), (1, .int x1), (2, .int x2), (3, .int x3)] [] (b_X7_judged_14 N K2 K14 x1 x2 x3 σ) := by
  unfold b_X7_judged_14
  refine r_iload_n hg 3 dX7_judged_14 rfl ?_
  refine r_aload_n hg 0 dX7_judged_15 rfl ?_
  refine q_geti (j := 15) hg rfl rfl rfl (by decide) iX7 kf_RX7_146 rfl dX7_judged_16 ?_
  refine r_icmp_ge hg 45 dX7_judged_19 (by decide) ?_ ?_
  · refine r_iinc (lv' := [(2, .int (x2 + 1)), (0, .ref (w.2.1 0)), (1, .int x1), (3, .int x3)]) hg 2 (x2 + 1) dX7_judged_45 rfl rfl (by decide) rfl ?_
    refine r_goto hg 2 dX7_judged_48 (by decide) ?_
    refine r_lv [1, 2, 0] rfl ?_
    exact hK2 x1 (x2 + 1) σ
  · refine r_aload_n hg 0 dX7_judged_22 rfl ?_
    refine r_iload_n hg 1 dX7_judged_23 rfl ?_
    refine r_iload_n hg 2 dX7_judged_24 rfl ?_
    refine r_iload_n hg 3 dX7_judged_25 rfl ?_
    refine q_callv1 hg (e_X7_bars N l w x1 x2 x3 σ) kk_RX7_210 ki_X7_bars ks_RX7_X7_bars rfl rfl np_X7_bars (Nat.le_trans (by decide) hdp) rfl m_c1_nil (Nat.le_of_ble_eq_true rfl) dX7_judged_26 (fun r1 σ2 => ?_)
    refine r_if_eq hg 39 dX7_judged_29 (by decide) ?_ ?_
    · refine r_iinc (lv' := [(3, .int (x3 + 1)), (0, .ref (w.2.1 0)), (1, .int x1), (2, .int x2)]) hg 3 (x3 + 1) dX7_judged_39 rfl rfl (by decide) rfl ?_
      refine r_goto hg 14 dX7_judged_42 (by decide) ?_
      refine r_lv [1, 2, 3, 0] rfl ?_
      exact hK14 x1 x2 (x3 + 1) σ2
    · refine r_bipush hg 16 dX7_judged_32 (by decide) ?_
      refine r_iload_n hg 2 dX7_judged_34 rfl ?_
      refine r_imul hg dX7_judged_35 ?_
      refine r_iload_n hg 3 dX7_judged_36 rfl ?_
      refine r_iadd hg dX7_judged_37 ?_
      exact r_iret hg dX7_judged_38 rfl rfl
set_option maxHeartbeats 4000000 in
set_option maxRecDepth 100000 in
theorem vl_X7_judged_14 {N : Nat} (hg : m_ok (p, l, e, d, s, m, args, below, meth, c) w shR cX7_judged 5 RX7 (some .int)) (hdp : 4 ≤ d) {K2 : Int32 → Int32 → Mem → Option (Int32 × Mem)} (hK2 : ∀ (x1 x2 : Int32) (σ : Mem), Vj (p, l, e, d, s, m, args, below, meth, c) w shR 5 1 σ 2 [(0, .ref (w.2.1 0)), (1, .int x1), (2, .int x2)] [] (K2 x1 x2 σ)) : ∀ (n : Nat) (x1 x2 x3 : Int32) (σ : Mem), Vj (p, l, e, d, s, m, args, below, meth, c) w shR 5 1 σ 14 [(0, .ref (w.2.1 0)), (1, .int x1), (2, .int x2), (3, .int x3)] [] (l_X7_judged_14 N K2 n x1 x2 x3 σ)
| 0, _, _, _, _ => Vj.none
| n + 1, x1, x2, x3, σ => vb_X7_judged_14 hg hdp hK2 (fun x1 x2 x3 σ => vl_X7_judged_14 hg hdp hK2 n x1 x2 x3 σ) x1 x2 x3 σ
set_option maxHeartbeats 4000000 in
set_option maxRecDepth 100000 in
theorem vb_X7_judged_2 {N : Nat} (hg : m_ok (p, l, e, d, s, m, args, below, meth, c) w shR cX7_judged 5 RX7 (some .int)) (hdp : 4 ≤ d) {K2 : Int32 → Int32 → Mem → Option (Int32 × Mem)} (hK2 : ∀ (x1 x2 : Int32) (σ : Mem), Vj (p, l, e, d, s, m, args, below, meth, c) w shR 5 1 σ 2 [(0, .ref (w.2.1 0)), (1, .int x1), (2, .int x2)] [] (K2 x1 x2 σ)) (x1 x2 : Int32) (σ : Mem) : Vj (p, l, e, d, s, m, args, below, meth, c) w shR 5 1 σ 2 [(0, .ref (w.2.1 0)), (1, .int x1), (2, .int x2)] [] (b_X7_judged_2 N K2 x1 x2 σ) := by
  unfold b_X7_judged_2
  refine r_iload_n hg 2 dX7_judged_2 rfl ?_
  refine r_aload_n hg 0 dX7_judged_3 rfl ?_
  refine q_geti (j := 15) hg rfl rfl rfl (by decide) iX7 kf_RX7_146 rfl dX7_judged_4 ?_
  refine r_icmp_ge hg 51 dX7_judged_7 (by decide) ?_ ?_
  · refine r_iconst hg 0 dX7_judged_51 (by decide) ?_
    refine r_istore_n (lv' := [(2, .int 0), (0, .ref (w.2.1 0)), (1, .int x1)]) hg dX7_judged_52 (by decide) rfl ?_
    refine r_lv [1, 2, 0] rfl ?_
    exact vl_X7_judged_53 hg hdp N x1 0 σ
  · refine r_iload_n hg 2 dX7_judged_10 rfl ?_
    refine r_iconst hg 1 dX7_judged_11 (by decide) ?_
    refine r_iadd hg dX7_judged_12 ?_
    refine q_name (fun u1 => ?_)
    refine r_istore_n (lv' := [(3, .int u1), (0, .ref (w.2.1 0)), (1, .int x1), (2, .int x2)]) hg dX7_judged_13 (by decide) rfl ?_
    refine r_lv [1, 2, 3, 0] rfl ?_
    exact vl_X7_judged_14 hg hdp hK2 N x1 x2 u1 σ
set_option maxHeartbeats 4000000 in
set_option maxRecDepth 100000 in
theorem vl_X7_judged_2 {N : Nat} (hg : m_ok (p, l, e, d, s, m, args, below, meth, c) w shR cX7_judged 5 RX7 (some .int)) (hdp : 4 ≤ d) : ∀ (n : Nat) (x1 x2 : Int32) (σ : Mem), Vj (p, l, e, d, s, m, args, below, meth, c) w shR 5 1 σ 2 [(0, .ref (w.2.1 0)), (1, .int x1), (2, .int x2)] [] (l_X7_judged_2 N n x1 x2 σ)
| 0, _, _, _ => Vj.none
| n + 1, x1, x2, σ => vb_X7_judged_2 hg hdp (fun x1 x2 σ => vl_X7_judged_2 hg hdp n x1 x2 σ) x1 x2 σ
set_option maxHeartbeats 4000000 in
set_option maxRecDepth 100000 in
theorem e_X7_judged (N : Nat) (l : Launch) (w : mW) (v1 : Int32) (σ : Mem) : Ev l w shR yX7_judged cX7_judged 5 (some .int) 1 4 [.ref (w.2.1 0), .int v1] σ (f_X7_judged N v1 σ) := by
  refine Ev.of (by decide) (m_c1_r (m_c1_i m_c1_nil)) (Nat.le_of_ble_eq_true rfl) (fun p e s m args below meth c hg => ?_)
  have hdp := Nat.le_refl 4
  unfold f_X7_judged
  show Vj (p, l, e, 4, s, m, args, below, meth, c) w shR 5 1 σ 0 [(0, .ref (w.2.1 0)), (1, .int v1)] [] _
  refine r_iconst hg 0 dX7_judged_0 (by decide) ?_
  refine r_istore_n (lv' := [(2, .int 0), (0, .ref (w.2.1 0)), (1, .int v1)]) hg dX7_judged_1 (by decide) rfl ?_
  refine r_lv [1, 2, 0] rfl ?_
  exact vl_X7_judged_2 hg hdp N v1 0 σ
set_option maxHeartbeats 4000000 in
set_option maxRecDepth 100000 in
theorem e_X7_judge (N : Nat) (l : Launch) (w : mW) (v1 : Int32) (σ : Mem) : Ev l w shR yX7_judge cX7_judge 2 (some .int) 1 5 [.ref (w.2.1 0), .int v1] σ (f_X7_judge N v1 σ) := by
  refine Ev.of (by decide) (m_c1_r (m_c1_i m_c1_nil)) (Nat.le_of_ble_eq_true rfl) (fun p e s m args below meth c hg => ?_)
  have hdp := Nat.le_refl 5
  unfold f_X7_judge
  show Vj (p, l, e, 5, s, m, args, below, meth, c) w shR 2 1 σ 0 [(0, .ref (w.2.1 0)), (1, .int v1)] [] _
  refine r_aload_n hg 0 dX7_judge_0 rfl ?_
  refine r_iconst hg 0 dX7_judge_1 (by decide) ?_
  refine q_put (j := 0) hg rfl rfl rfl (by decide) iX7 kf_RX7_68 rfl tyX7_ok nmX7 rfl rfl dX7_judge_2 (fun σ1 => ?_)
  refine r_aload_n hg 0 dX7_judge_5 rfl ?_
  refine r_iload_n hg 1 dX7_judge_6 rfl ?_
  refine q_callv1 hg (e_X7_isCover N l w v1 σ1) kk_RX7_139 ki_X7_isCover ks_RX7_X7_isCover rfl rfl np_X7_isCover (Nat.le_trans (by decide) hdp) rfl m_c1_nil (Nat.le_of_ble_eq_true rfl) dX7_judge_7 (fun r2 σ3 => ?_)
  refine r_if_eq hg 21 dX7_judge_10 (by decide) ?_ ?_
  · refine r_iconst hg (-1) dX7_judge_21 (by decide) ?_
    exact r_iret hg dX7_judge_22 rfl rfl
  · refine r_aload_n hg 0 dX7_judge_13 rfl ?_
    refine r_iload_n hg 1 dX7_judge_14 rfl ?_
    refine q_callv1 hg (e_X7_judged N l w v1 σ3) kk_RX7_213 ki_X7_judged ks_RX7_X7_judged rfl rfl np_X7_judged (Nat.le_trans (by decide) hdp) rfl m_c1_nil (Nat.le_of_ble_eq_true rfl) dX7_judge_15 (fun r4 σ5 => ?_)
    refine r_goto hg 22 dX7_judge_18 (by decide) ?_
    exact r_iret hg dX7_judge_22 rfl rfl
set_option maxHeartbeats 4000000 in
set_option maxRecDepth 100000 in
theorem e_X7_isAhead (N : Nat) (l : Launch) (w : mW) (v1 v2 v3 : Int32) (σ : Mem) : Ev l w shR yX7_isAhead cX7_isAhead 4 (some .boolean) 1 0 [.ref (w.2.1 0), .int v1, .int v2, .int v3] σ (f_X7_isAhead N v1 v2 v3 σ) := by
  refine Ev.of (by decide) (m_c1_r (m_c1_i (m_c1_i (m_c1_i m_c1_nil)))) (Nat.le_of_ble_eq_true rfl) (fun p e s m args below meth c hg => ?_)
  have hdp := Nat.le_refl 0
  unfold f_X7_isAhead
  show Vj (p, l, e, 0, s, m, args, below, meth, c) w shR 4 1 σ 0 [(0, .ref (w.2.1 0)), (1, .int v1), (2, .int v2), (3, .int v3)] [] _
  refine r_iload_n hg 2 dX7_isAhead_0 rfl ?_
  refine r_aload_n hg 0 dX7_isAhead_1 rfl ?_
  refine q_getr (j := 19) hg rfl rfl rfl (by decide) iX7 kf_RX7_47 rfl dX7_isAhead_2 ?_
  refine r_iload_n hg 3 dX7_isAhead_5 rfl ?_
  refine r_iaload (n := 12) hg rfl dX7_isAhead_6 ?_
  refine r_icmp_eq hg 28 dX7_isAhead_7 (by decide) ?_ ?_
  · refine r_iload_n hg 1 dX7_isAhead_28 rfl ?_
    refine r_aload_n hg 0 dX7_isAhead_29 rfl ?_
    refine q_getr (j := 21) hg rfl rfl rfl (by decide) iX7 kf_RX7_53 rfl dX7_isAhead_30 ?_
    refine r_iload_n hg 3 dX7_isAhead_33 rfl ?_
    refine r_iaload (n := 12) hg rfl dX7_isAhead_34 ?_
    refine r_icmp_ge hg 42 dX7_isAhead_35 (by decide) ?_ ?_
    · refine r_iconst hg 0 dX7_isAhead_42 (by decide) ?_
      exact r_zret hg dX7_isAhead_43 rfl rfl
    · refine r_iconst hg 1 dX7_isAhead_38 (by decide) ?_
      refine r_goto hg 43 dX7_isAhead_39 (by decide) ?_
      exact r_zret hg dX7_isAhead_43 rfl rfl
  · refine r_iload_n hg 2 dX7_isAhead_10 rfl ?_
    refine r_aload_n hg 0 dX7_isAhead_11 rfl ?_
    refine q_getr (j := 19) hg rfl rfl rfl (by decide) iX7 kf_RX7_47 rfl dX7_isAhead_12 ?_
    refine r_iload_n hg 3 dX7_isAhead_15 rfl ?_
    refine r_iaload (n := 12) hg rfl dX7_isAhead_16 ?_
    refine r_icmp_ge hg 24 dX7_isAhead_17 (by decide) ?_ ?_
    · refine r_iconst hg 0 dX7_isAhead_24 (by decide) ?_
      refine r_goto hg 43 dX7_isAhead_25 (by decide) ?_
      exact r_zret hg dX7_isAhead_43 rfl rfl
    · refine r_iconst hg 1 dX7_isAhead_20 (by decide) ?_
      refine r_goto hg 43 dX7_isAhead_21 (by decide) ?_
      exact r_zret hg dX7_isAhead_43 rfl rfl
set_option maxHeartbeats 4000000 in
set_option maxRecDepth 100000 in
theorem vj_X7_layRow_229 {N : Nat} (hg : m_ok (p, l, e, d, s, m, args, below, meth, c) w shR cX7_layRow 7 RX7 none) (hdp : 1 ≤ d) {K2 : Int32 → Mem → Option (Int32 × Mem)} (hK2 : ∀ (x1 : Int32) (σ : Mem), Vj (p, l, e, d, s, m, args, below, meth, c) w shR 7 0 σ 2 [(0, .ref (w.2.1 0)), (1, .int x1)] [] (K2 x1 σ)) (x1 x2 x3 x4 x5 x6 : Int32) (σ : Mem) : Vj (p, l, e, d, s, m, args, below, meth, c) w shR 7 0 σ 229 [(0, .ref (w.2.1 0)), (1, .int x1), (2, .int x2), (3, .int x3), (4, .int x4), (5, .int x5), (6, .int x6)] [] (j_X7_layRow_229 N K2 x1 x2 x3 x4 x5 x6 σ) := by
  unfold j_X7_layRow_229
  refine r_aload_n hg 0 dX7_layRow_229 rfl ?_
  refine q_getr (j := 21) hg rfl rfl rfl (by decide) iX7 kf_RX7_53 rfl dX7_layRow_230 ?_
  refine r_iload hg 6 dX7_layRow_233 rfl ?_
  refine r_iload hg 5 dX7_layRow_235 rfl ?_
  refine q_iastore (n := 12) hg rfl dX7_layRow_237 (fun σ1 => ?_)
  refine r_aload_n hg 0 dX7_layRow_238 rfl ?_
  refine q_getr (j := 17) hg rfl rfl rfl (by decide) iX7 kf_RX7_41 rfl dX7_layRow_239 ?_
  refine r_iload hg 6 dX7_layRow_242 rfl ?_
  refine r_aload_n hg 0 dX7_layRow_244 rfl ?_
  refine q_getr (j := 16) hg rfl rfl rfl (by decide) iX7 kf_RX7_38 rfl dX7_layRow_245 ?_
  refine r_iload_n hg 1 dX7_layRow_248 rfl ?_
  refine r_iaload (n := 12) hg rfl dX7_layRow_249 ?_
  refine q_iastore (n := 12) hg rfl dX7_layRow_250 (fun σ2 => ?_)
  refine r_aload_n hg 0 dX7_layRow_251 rfl ?_
  refine q_getr (j := 18) hg rfl rfl rfl (by decide) iX7 kf_RX7_44 rfl dX7_layRow_252 ?_
  refine r_iload hg 6 dX7_layRow_255 rfl ?_
  refine r_iload hg 4 dX7_layRow_257 rfl ?_
  refine q_iastore (n := 12) hg rfl dX7_layRow_259 (fun σ3 => ?_)
  refine r_aload_n hg 0 dX7_layRow_260 rfl ?_
  refine q_getr (j := 19) hg rfl rfl rfl (by decide) iX7 kf_RX7_47 rfl dX7_layRow_261 ?_
  refine r_iload hg 6 dX7_layRow_264 rfl ?_
  refine r_iload_n hg 2 dX7_layRow_266 rfl ?_
  refine q_iastore (n := 12) hg rfl dX7_layRow_267 (fun σ4 => ?_)
  refine r_aload_n hg 0 dX7_layRow_268 rfl ?_
  refine q_getr (j := 20) hg rfl rfl rfl (by decide) iX7 kf_RX7_50 rfl dX7_layRow_269 ?_
  refine r_iload hg 6 dX7_layRow_272 rfl ?_
  refine r_iload_n hg 3 dX7_layRow_274 rfl ?_
  refine q_iastore (n := 12) hg rfl dX7_layRow_275 (fun σ5 => ?_)
  refine r_iinc (lv' := [(1, .int (x1 + 1)), (0, .ref (w.2.1 0)), (2, .int x2), (3, .int x3), (4, .int x4), (5, .int x5), (6, .int x6)]) hg 1 (x1 + 1) dX7_layRow_276 rfl rfl (by decide) rfl ?_
  refine r_goto hg 2 dX7_layRow_279 (by decide) ?_
  refine r_lv [1, 0] rfl ?_
  exact hK2 (x1 + 1) σ5
set_option maxHeartbeats 4000000 in
set_option maxRecDepth 100000 in
theorem vb_X7_layRow_124 {N : Nat} (hg : m_ok (p, l, e, d, s, m, args, below, meth, c) w shR cX7_layRow 7 RX7 none) (hdp : 1 ≤ d) {K2 : Int32 → Mem → Option (Int32 × Mem)} (hK2 : ∀ (x1 : Int32) (σ : Mem), Vj (p, l, e, d, s, m, args, below, meth, c) w shR 7 0 σ 2 [(0, .ref (w.2.1 0)), (1, .int x1)] [] (K2 x1 σ)) {K124 : Int32 → Int32 → Int32 → Int32 → Int32 → Int32 → Mem → Option (Int32 × Mem)} (hK124 : ∀ (x1 x2 x3 x4 x5 x6 : Int32) (σ : Mem), Vj (p, l, e, d, s, m, args, below, meth, c) w shR 7 0 σ 124 [(0, .ref (w.2.1 0)), (1, .int x1), (2, .int x2), (3, .int x3), (4, .int x4), (5, .int x5), (6, .int x6)] [] (K124 x1 x2 x3 x4 x5 x6 σ)) (x1 x2 x3 x4 x5 x6 : Int32) (σ : Mem) : Vj (p, l, e, d, s, m, args, below, meth, c) w shR 7 0 σ 124 [(0, .ref (w.2.1 0)), (1, .int x1), (2, .int x2), (3, .int x3), (4, .int x4), (5, .int x5), (6, .int x6)] [] (b_X7_layRow_124 N K2 K124 x1 x2 x3 x4 x5 x6 σ) := by
  unfold b_X7_layRow_124
  refine r_iload hg 6 dX7_layRow_124 rfl ?_
  refine r_if_le hg 229 dX7_layRow_126 (by decide) ?_ ?_
  · exact vj_X7_layRow_229 hg hdp hK2 x1 x2 x3 x4 x5 x6 σ
  · refine r_aload_n hg 0 dX7_layRow_129 rfl ?_
    refine r_iload hg 5 dX7_layRow_130 rfl ?_
    refine r_iload_n hg 2 dX7_layRow_132 rfl ?_
    refine r_iload hg 6 dX7_layRow_133 rfl ?_
    refine r_iconst hg 1 dX7_layRow_135 (by decide) ?_
    refine r_isub hg dX7_layRow_136 ?_
    refine q_callv1 hg (e_X7_isAhead N l w x5 x2 (x6 - 1) σ) kk_RX7_192 ki_X7_isAhead ks_RX7_X7_isAhead rfl rfl np_X7_isAhead (Nat.le_trans (by decide) hdp) rfl m_c1_nil (Nat.le_of_ble_eq_true rfl) dX7_layRow_137 (fun r1 σ2 => ?_)
    refine r_if_eq hg 229 dX7_layRow_140 (by decide) ?_ ?_
    · exact vj_X7_layRow_229 hg hdp hK2 x1 x2 x3 x4 x5 x6 σ2
    · refine r_aload_n hg 0 dX7_layRow_143 rfl ?_
      refine q_getr (j := 21) hg rfl rfl rfl (by decide) iX7 kf_RX7_53 rfl dX7_layRow_144 ?_
      refine r_iload hg 6 dX7_layRow_147 rfl ?_
      refine r_aload_n hg 0 dX7_layRow_149 rfl ?_
      refine q_getr (j := 21) hg rfl rfl rfl (by decide) iX7 kf_RX7_53 rfl dX7_layRow_150 ?_
      refine r_iload hg 6 dX7_layRow_153 rfl ?_
      refine r_iconst hg 1 dX7_layRow_155 (by decide) ?_
      refine r_isub hg dX7_layRow_156 ?_
      refine r_iaload (n := 12) hg rfl dX7_layRow_157 ?_
      refine q_iastore (n := 12) hg rfl dX7_layRow_158 (fun σ3 => ?_)
      refine r_aload_n hg 0 dX7_layRow_159 rfl ?_
      refine q_getr (j := 17) hg rfl rfl rfl (by decide) iX7 kf_RX7_41 rfl dX7_layRow_160 ?_
      refine r_iload hg 6 dX7_layRow_163 rfl ?_
      refine r_aload_n hg 0 dX7_layRow_165 rfl ?_
      refine q_getr (j := 17) hg rfl rfl rfl (by decide) iX7 kf_RX7_41 rfl dX7_layRow_166 ?_
      refine r_iload hg 6 dX7_layRow_169 rfl ?_
      refine r_iconst hg 1 dX7_layRow_171 (by decide) ?_
      refine r_isub hg dX7_layRow_172 ?_
      refine r_iaload (n := 12) hg rfl dX7_layRow_173 ?_
      refine q_iastore (n := 12) hg rfl dX7_layRow_174 (fun σ4 => ?_)
      refine r_aload_n hg 0 dX7_layRow_175 rfl ?_
      refine q_getr (j := 18) hg rfl rfl rfl (by decide) iX7 kf_RX7_44 rfl dX7_layRow_176 ?_
      refine r_iload hg 6 dX7_layRow_179 rfl ?_
      refine r_aload_n hg 0 dX7_layRow_181 rfl ?_
      refine q_getr (j := 18) hg rfl rfl rfl (by decide) iX7 kf_RX7_44 rfl dX7_layRow_182 ?_
      refine r_iload hg 6 dX7_layRow_185 rfl ?_
      refine r_iconst hg 1 dX7_layRow_187 (by decide) ?_
      refine r_isub hg dX7_layRow_188 ?_
      refine r_iaload (n := 12) hg rfl dX7_layRow_189 ?_
      refine q_iastore (n := 12) hg rfl dX7_layRow_190 (fun σ5 => ?_)
      refine r_aload_n hg 0 dX7_layRow_191 rfl ?_
      refine q_getr (j := 19) hg rfl rfl rfl (by decide) iX7 kf_RX7_47 rfl dX7_layRow_192 ?_
      refine r_iload hg 6 dX7_layRow_195 rfl ?_
      refine r_aload_n hg 0 dX7_layRow_197 rfl ?_
      refine q_getr (j := 19) hg rfl rfl rfl (by decide) iX7 kf_RX7_47 rfl dX7_layRow_198 ?_
      refine r_iload hg 6 dX7_layRow_201 rfl ?_
      refine r_iconst hg 1 dX7_layRow_203 (by decide) ?_
      refine r_isub hg dX7_layRow_204 ?_
      refine r_iaload (n := 12) hg rfl dX7_layRow_205 ?_
      refine q_iastore (n := 12) hg rfl dX7_layRow_206 (fun σ6 => ?_)
      refine r_aload_n hg 0 dX7_layRow_207 rfl ?_
      refine q_getr (j := 20) hg rfl rfl rfl (by decide) iX7 kf_RX7_50 rfl dX7_layRow_208 ?_
      refine r_iload hg 6 dX7_layRow_211 rfl ?_
      refine r_aload_n hg 0 dX7_layRow_213 rfl ?_
      refine q_getr (j := 20) hg rfl rfl rfl (by decide) iX7 kf_RX7_50 rfl dX7_layRow_214 ?_
      refine r_iload hg 6 dX7_layRow_217 rfl ?_
      refine r_iconst hg 1 dX7_layRow_219 (by decide) ?_
      refine r_isub hg dX7_layRow_220 ?_
      refine r_iaload (n := 12) hg rfl dX7_layRow_221 ?_
      refine q_iastore (n := 12) hg rfl dX7_layRow_222 (fun σ7 => ?_)
      refine r_iinc (lv' := [(6, .int (x6 + (-1))), (0, .ref (w.2.1 0)), (1, .int x1), (2, .int x2), (3, .int x3), (4, .int x4), (5, .int x5)]) hg 6 (x6 + (-1)) dX7_layRow_223 rfl rfl (by decide) rfl ?_
      refine r_goto hg 124 dX7_layRow_226 (by decide) ?_
      refine r_lv [1, 2, 3, 4, 5, 6, 0] rfl ?_
      exact hK124 x1 x2 x3 x4 x5 (x6 + (-1)) σ7
set_option maxHeartbeats 4000000 in
set_option maxRecDepth 100000 in
theorem vl_X7_layRow_124 {N : Nat} (hg : m_ok (p, l, e, d, s, m, args, below, meth, c) w shR cX7_layRow 7 RX7 none) (hdp : 1 ≤ d) {K2 : Int32 → Mem → Option (Int32 × Mem)} (hK2 : ∀ (x1 : Int32) (σ : Mem), Vj (p, l, e, d, s, m, args, below, meth, c) w shR 7 0 σ 2 [(0, .ref (w.2.1 0)), (1, .int x1)] [] (K2 x1 σ)) : ∀ (n : Nat) (x1 x2 x3 x4 x5 x6 : Int32) (σ : Mem), Vj (p, l, e, d, s, m, args, below, meth, c) w shR 7 0 σ 124 [(0, .ref (w.2.1 0)), (1, .int x1), (2, .int x2), (3, .int x3), (4, .int x4), (5, .int x5), (6, .int x6)] [] (l_X7_layRow_124 N K2 n x1 x2 x3 x4 x5 x6 σ)
| 0, _, _, _, _, _, _, _ => Vj.none
| n + 1, x1, x2, x3, x4, x5, x6, σ => vb_X7_layRow_124 hg hdp hK2 (fun x1 x2 x3 x4 x5 x6 σ => vl_X7_layRow_124 hg hdp hK2 n x1 x2 x3 x4 x5 x6 σ) x1 x2 x3 x4 x5 x6 σ
set_option maxHeartbeats 4000000 in
set_option maxRecDepth 100000 in
theorem vb_X7_layRow_90 {N : Nat} (hg : m_ok (p, l, e, d, s, m, args, below, meth, c) w shR cX7_layRow 7 RX7 none) (hdp : 1 ≤ d) {K2 : Int32 → Mem → Option (Int32 × Mem)} (hK2 : ∀ (x1 : Int32) (σ : Mem), Vj (p, l, e, d, s, m, args, below, meth, c) w shR 7 0 σ 2 [(0, .ref (w.2.1 0)), (1, .int x1)] [] (K2 x1 σ)) {K90 : Int32 → Int32 → Int32 → Int32 → Int32 → Mem → Option (Int32 × Mem)} (hK90 : ∀ (x1 x2 x3 x4 x5 : Int32) (σ : Mem), Vj (p, l, e, d, s, m, args, below, meth, c) w shR 7 0 σ 90 [(0, .ref (w.2.1 0)), (1, .int x1), (2, .int x2), (3, .int x3), (4, .int x4), (5, .int x5)] [] (K90 x1 x2 x3 x4 x5 σ)) (x1 x2 x3 x4 x5 : Int32) (σ : Mem) : Vj (p, l, e, d, s, m, args, below, meth, c) w shR 7 0 σ 90 [(0, .ref (w.2.1 0)), (1, .int x1), (2, .int x2), (3, .int x3), (4, .int x4), (5, .int x5)] [] (b_X7_layRow_90 N K2 K90 x1 x2 x3 x4 x5 σ) := by
  unfold b_X7_layRow_90
  refine r_aload_n hg 0 dX7_layRow_90 rfl ?_
  refine q_getr (j := 16) hg rfl rfl rfl (by decide) iX7 kf_RX7_38 rfl dX7_layRow_91 ?_
  refine r_iload_n hg 1 dX7_layRow_94 rfl ?_
  refine r_iaload (n := 12) hg rfl dX7_layRow_95 ?_
  refine r_iload hg 5 dX7_layRow_96 rfl ?_
  refine q_calls1 hg (e_X7_has N l w (σ 10 x1.toNatClampNeg) x5 σ) kk_RX7_157 kt_X7_has np_X7_has (Nat.le_trans (by decide) hdp) rfl m_c1_nil (Nat.le_of_ble_eq_true rfl) dX7_layRow_98 (fun r1 σ2 => ?_)
  refine r_if_eq hg 115 dX7_layRow_101 (by decide) ?_ ?_
  · refine r_iinc (lv' := [(5, .int (x5 + 1)), (0, .ref (w.2.1 0)), (1, .int x1), (2, .int x2), (3, .int x3), (4, .int x4)]) hg 5 (x5 + 1) dX7_layRow_115 rfl rfl (by decide) rfl ?_
    refine r_goto hg 90 dX7_layRow_118 (by decide) ?_
    refine r_lv [1, 2, 3, 4, 5, 0] rfl ?_
    exact hK90 x1 x2 x3 x4 (x5 + 1) σ2
  · refine r_aload_n hg 0 dX7_layRow_104 rfl ?_
    refine q_getr (j := 9) hg rfl rfl rfl (by decide) iX7 kf_RX7_20 rfl dX7_layRow_105 ?_
    refine r_iload hg 5 dX7_layRow_108 rfl ?_
    refine r_iaload (n := 12) hg rfl dX7_layRow_110 ?_
    refine r_iload_n hg 2 dX7_layRow_111 rfl ?_
    refine r_icmp_eq hg 121 dX7_layRow_112 (by decide) ?_ ?_
    · refine r_iload_n hg 1 dX7_layRow_121 rfl ?_
      refine r_istore (lv' := [(6, .int x1), (0, .ref (w.2.1 0)), (1, .int x1), (2, .int x2), (3, .int x3), (4, .int x4), (5, .int x5)]) hg dX7_layRow_122 (by decide) rfl ?_
      refine r_lv [1, 2, 3, 4, 5, 6, 0] rfl ?_
      exact vl_X7_layRow_124 hg hdp hK2 N x1 x2 x3 x4 x5 x1 σ2
    · refine r_iinc (lv' := [(5, .int (x5 + 1)), (0, .ref (w.2.1 0)), (1, .int x1), (2, .int x2), (3, .int x3), (4, .int x4)]) hg 5 (x5 + 1) dX7_layRow_115 rfl rfl (by decide) rfl ?_
      refine r_goto hg 90 dX7_layRow_118 (by decide) ?_
      refine r_lv [1, 2, 3, 4, 5, 0] rfl ?_
      exact hK90 x1 x2 x3 x4 (x5 + 1) σ2
set_option maxHeartbeats 4000000 in
set_option maxRecDepth 100000 in
theorem vl_X7_layRow_90 {N : Nat} (hg : m_ok (p, l, e, d, s, m, args, below, meth, c) w shR cX7_layRow 7 RX7 none) (hdp : 1 ≤ d) {K2 : Int32 → Mem → Option (Int32 × Mem)} (hK2 : ∀ (x1 : Int32) (σ : Mem), Vj (p, l, e, d, s, m, args, below, meth, c) w shR 7 0 σ 2 [(0, .ref (w.2.1 0)), (1, .int x1)] [] (K2 x1 σ)) : ∀ (n : Nat) (x1 x2 x3 x4 x5 : Int32) (σ : Mem), Vj (p, l, e, d, s, m, args, below, meth, c) w shR 7 0 σ 90 [(0, .ref (w.2.1 0)), (1, .int x1), (2, .int x2), (3, .int x3), (4, .int x4), (5, .int x5)] [] (l_X7_layRow_90 N K2 n x1 x2 x3 x4 x5 σ)
| 0, _, _, _, _, _, _ => Vj.none
| n + 1, x1, x2, x3, x4, x5, σ => vb_X7_layRow_90 hg hdp hK2 (fun x1 x2 x3 x4 x5 σ => vl_X7_layRow_90 hg hdp hK2 n x1 x2 x3 x4 x5 σ) x1 x2 x3 x4 x5 σ
set_option maxHeartbeats 4000000 in
set_option maxRecDepth 100000 in
theorem vb_X7_layRow_27 {N : Nat} (hg : m_ok (p, l, e, d, s, m, args, below, meth, c) w shR cX7_layRow 7 RX7 none) (hdp : 1 ≤ d) {K2 : Int32 → Mem → Option (Int32 × Mem)} (hK2 : ∀ (x1 : Int32) (σ : Mem), Vj (p, l, e, d, s, m, args, below, meth, c) w shR 7 0 σ 2 [(0, .ref (w.2.1 0)), (1, .int x1)] [] (K2 x1 σ)) {K27 : Int32 → Int32 → Int32 → Int32 → Int32 → Mem → Option (Int32 × Mem)} (hK27 : ∀ (x1 x2 x3 x4 x5 : Int32) (σ : Mem), Vj (p, l, e, d, s, m, args, below, meth, c) w shR 7 0 σ 27 [(0, .ref (w.2.1 0)), (1, .int x1), (2, .int x2), (3, .int x3), (4, .int x4), (5, .int x5)] [] (K27 x1 x2 x3 x4 x5 σ)) (x1 x2 x3 x4 x5 : Int32) (σ : Mem) : Vj (p, l, e, d, s, m, args, below, meth, c) w shR 7 0 σ 27 [(0, .ref (w.2.1 0)), (1, .int x1), (2, .int x2), (3, .int x3), (4, .int x4), (5, .int x5)] [] (b_X7_layRow_27 N K2 K27 x1 x2 x3 x4 x5 σ) := by
  unfold b_X7_layRow_27
  refine r_iload hg 5 dX7_layRow_27 rfl ?_
  refine r_if_eq hg 87 dX7_layRow_29 (by decide) ?_ ?_
  · refine r_iconst hg 0 dX7_layRow_87 (by decide) ?_
    refine r_istore (lv' := [(5, .int 0), (0, .ref (w.2.1 0)), (1, .int x1), (2, .int x2), (3, .int x3), (4, .int x4)]) hg dX7_layRow_88 (by decide) rfl ?_
    refine r_lv [1, 2, 3, 4, 5, 0] rfl ?_
    exact vl_X7_layRow_90 hg hdp hK2 N x1 x2 x3 x4 0 σ
  · refine r_iload hg 5 dX7_layRow_32 rfl ?_
    refine q_calls1 hg (e_J6_numberOfTrailingZeros_0f7a4 N l w x5 σ) kk_RX7_187 kt_J6_numberOfTrailingZeros_0f7a4 np_J6_numberOfTrailingZeros_0f7a4 (Nat.le_trans (by decide) hdp) rfl m_c1_nil (Nat.le_of_ble_eq_true rfl) dX7_layRow_34 (fun r1 σ2 => ?_)
    refine r_istore (lv' := [(6, .int r1), (0, .ref (w.2.1 0)), (1, .int x1), (2, .int x2), (3, .int x3), (4, .int x4), (5, .int x5)]) hg dX7_layRow_37 (by decide) rfl ?_
    refine r_iload_n hg 3 dX7_layRow_39 rfl ?_
    refine r_aload_n hg 1 dX7_layRow_40 rfl ?_
    refine q_getr (j := 9) hg rfl rfl rfl (by decide) iX7 kf_RX7_20 rfl dX7_layRow_41 ?_
    refine r_iload hg 0 dX7_layRow_44 rfl ?_
    refine r_iaload (n := 12) hg rfl dX7_layRow_46 ?_
    refine r_min hg km_RX7_160 kt_J9_min_7cf53 kz_RJ9 kc_J9_min_7cf53 (Nat.le_trans (by decide) hdp) m_c1_nil (Nat.le_of_ble_eq_true rfl) dX7_layRow_47 ?_
    refine q_name (fun u3 => ?_)
    refine r_istore_n (lv' := [(2, .int u3), (6, .int r1), (0, .ref (w.2.1 0)), (1, .int x1), (3, .int x3), (4, .int x4), (5, .int x5)]) hg dX7_layRow_50 (by decide) rfl ?_
    refine r_iload_n hg 4 dX7_layRow_51 rfl ?_
    refine r_aload_n hg 2 dX7_layRow_52 rfl ?_
    refine q_getr (j := 9) hg rfl rfl rfl (by decide) iX7 kf_RX7_20 rfl dX7_layRow_53 ?_
    refine r_iload hg 1 dX7_layRow_56 rfl ?_
    refine r_iaload (n := 12) hg rfl dX7_layRow_58 ?_
    refine r_max hg km_RX7_152 kt_J9_max_7cf53 kz_RJ9 kc_J9_max_7cf53 (Nat.le_trans (by decide) hdp) m_c1_nil (Nat.le_of_ble_eq_true rfl) dX7_layRow_59 ?_
    refine q_name (fun u4 => ?_)
    refine r_istore_n (lv' := [(3, .int u4), (2, .int u3), (6, .int r1), (0, .ref (w.2.1 0)), (1, .int x1), (4, .int x4), (5, .int x5)]) hg dX7_layRow_62 (by decide) rfl ?_
    refine r_iload hg 5 dX7_layRow_63 rfl ?_
    refine r_aload_n hg 3 dX7_layRow_65 rfl ?_
    refine q_getr (j := 8) hg rfl rfl rfl (by decide) iX7 kf_RX7_17 rfl dX7_layRow_66 ?_
    refine r_iload hg 2 dX7_layRow_69 rfl ?_
    refine r_iaload (n := 12) hg rfl dX7_layRow_71 ?_
    refine r_iadd hg dX7_layRow_72 ?_
    refine q_name (fun u5 => ?_)
    refine r_istore (lv' := [(4, .int u5), (3, .int u4), (2, .int u3), (6, .int r1), (0, .ref (w.2.1 0)), (1, .int x1), (5, .int x5)]) hg dX7_layRow_73 (by decide) rfl ?_
    refine r_iload hg 6 dX7_layRow_75 rfl ?_
    refine r_iload hg 6 dX7_layRow_77 rfl ?_
    refine r_iconst hg 1 dX7_layRow_79 (by decide) ?_
    refine r_isub hg dX7_layRow_80 ?_
    refine r_iand hg dX7_layRow_81 ?_
    refine q_name (fun u6 => ?_)
    refine r_istore (lv' := [(5, .int u6), (4, .int u5), (3, .int u4), (2, .int u3), (6, .int r1), (0, .ref (w.2.1 0)), (1, .int x1)]) hg dX7_layRow_82 (by decide) rfl ?_
    refine r_goto hg 27 dX7_layRow_84 (by decide) ?_
    refine r_lv [5, 6, 3, 2, 1, 0] rfl ?_
    exact hK27 x1 u3 u4 u5 u6 σ2
set_option maxHeartbeats 4000000 in
set_option maxRecDepth 100000 in
theorem vl_X7_layRow_27 {N : Nat} (hg : m_ok (p, l, e, d, s, m, args, below, meth, c) w shR cX7_layRow 7 RX7 none) (hdp : 1 ≤ d) {K2 : Int32 → Mem → Option (Int32 × Mem)} (hK2 : ∀ (x1 : Int32) (σ : Mem), Vj (p, l, e, d, s, m, args, below, meth, c) w shR 7 0 σ 2 [(0, .ref (w.2.1 0)), (1, .int x1)] [] (K2 x1 σ)) : ∀ (n : Nat) (x1 x2 x3 x4 x5 : Int32) (σ : Mem), Vj (p, l, e, d, s, m, args, below, meth, c) w shR 7 0 σ 27 [(0, .ref (w.2.1 0)), (1, .int x1), (2, .int x2), (3, .int x3), (4, .int x4), (5, .int x5)] [] (l_X7_layRow_27 N K2 n x1 x2 x3 x4 x5 σ)
| 0, _, _, _, _, _, _ => Vj.none
| n + 1, x1, x2, x3, x4, x5, σ => vb_X7_layRow_27 hg hdp hK2 (fun x1 x2 x3 x4 x5 σ => vl_X7_layRow_27 hg hdp hK2 n x1 x2 x3 x4 x5 σ) x1 x2 x3 x4 x5 σ
set_option maxHeartbeats 4000000 in
set_option maxRecDepth 100000 in
theorem vb_X7_layRow_2 {N : Nat} (hg : m_ok (p, l, e, d, s, m, args, below, meth, c) w shR cX7_layRow 7 RX7 none) (hdp : 1 ≤ d) {K2 : Int32 → Mem → Option (Int32 × Mem)} (hK2 : ∀ (x1 : Int32) (σ : Mem), Vj (p, l, e, d, s, m, args, below, meth, c) w shR 7 0 σ 2 [(0, .ref (w.2.1 0)), (1, .int x1)] [] (K2 x1 σ)) (x1 : Int32) (σ : Mem) : Vj (p, l, e, d, s, m, args, below, meth, c) w shR 7 0 σ 2 [(0, .ref (w.2.1 0)), (1, .int x1)] [] (b_X7_layRow_2 N K2 x1 σ) := by
  unfold b_X7_layRow_2
  refine r_iload_n hg 1 dX7_layRow_2 rfl ?_
  refine r_aload_n hg 0 dX7_layRow_3 rfl ?_
  refine q_geti (j := 22) hg rfl rfl rfl (by decide) iX7 kf_RX7_184 rfl dX7_layRow_4 ?_
  refine r_icmp_ge hg 282 dX7_layRow_7 (by decide) ?_ ?_
  · exact r_ret hg dX7_layRow_282 rfl rfl
  · refine r_sipush hg 1000 dX7_layRow_10 (by decide) ?_
    refine r_istore_n (lv' := [(2, .int 1000), (0, .ref (w.2.1 0)), (1, .int x1)]) hg dX7_layRow_13 (by decide) rfl ?_
    refine r_iconst hg (-1) dX7_layRow_14 (by decide) ?_
    refine q_name (fun u1 => ?_)
    refine r_istore_n (lv' := [(3, .int u1), (2, .int 1000), (0, .ref (w.2.1 0)), (1, .int x1)]) hg dX7_layRow_15 (by decide) rfl ?_
    refine r_iconst hg 0 dX7_layRow_16 (by decide) ?_
    refine r_istore (lv' := [(4, .int 0), (3, .int u1), (2, .int 1000), (0, .ref (w.2.1 0)), (1, .int x1)]) hg dX7_layRow_17 (by decide) rfl ?_
    refine r_aload_n hg 3 dX7_layRow_19 rfl ?_
    refine q_getr (j := 16) hg rfl rfl rfl (by decide) iX7 kf_RX7_38 rfl dX7_layRow_20 ?_
    refine r_iload_n hg 4 dX7_layRow_23 rfl ?_
    refine r_iaload (n := 12) hg rfl dX7_layRow_24 ?_
    refine q_name (fun u2 => ?_)
    refine r_istore (lv' := [(5, .int u2), (4, .int 0), (3, .int u1), (2, .int 1000), (0, .ref (w.2.1 0)), (1, .int x1)]) hg dX7_layRow_25 (by decide) rfl ?_
    refine r_lv [4, 5, 3, 2, 1, 0] rfl ?_
    exact vl_X7_layRow_27 hg hdp hK2 N x1 1000 u1 0 u2 σ
set_option maxHeartbeats 4000000 in
set_option maxRecDepth 100000 in
theorem vl_X7_layRow_2 {N : Nat} (hg : m_ok (p, l, e, d, s, m, args, below, meth, c) w shR cX7_layRow 7 RX7 none) (hdp : 1 ≤ d) : ∀ (n : Nat) (x1 : Int32) (σ : Mem), Vj (p, l, e, d, s, m, args, below, meth, c) w shR 7 0 σ 2 [(0, .ref (w.2.1 0)), (1, .int x1)] [] (l_X7_layRow_2 N n x1 σ)
| 0, _, _ => Vj.none
| n + 1, x1, σ => vb_X7_layRow_2 hg hdp (fun x1 σ => vl_X7_layRow_2 hg hdp n x1 σ) x1 σ
set_option maxHeartbeats 4000000 in
set_option maxRecDepth 100000 in
theorem e_X7_layRow (N : Nat) (l : Launch) (w : mW) (σ : Mem) : Ev l w shR yX7_layRow cX7_layRow 7 none 0 1 [.ref (w.2.1 0)] σ (f_X7_layRow N σ) := by
  refine Ev.of (by decide) (m_c1_r m_c1_nil) (Nat.le_of_ble_eq_true rfl) (fun p e s m args below meth c hg => ?_)
  have hdp := Nat.le_refl 1
  unfold f_X7_layRow
  show Vj (p, l, e, 1, s, m, args, below, meth, c) w shR 7 0 σ 0 [(0, .ref (w.2.1 0))] [] _
  refine r_iconst hg 0 dX7_layRow_0 (by decide) ?_
  refine r_istore_n (lv' := [(1, .int 0), (0, .ref (w.2.1 0))]) hg dX7_layRow_1 (by decide) rfl ?_
  refine r_lv [1, 0] rfl ?_
  exact vl_X7_layRow_2 hg hdp N 0 σ
set_option maxHeartbeats 4000000 in
set_option maxRecDepth 100000 in
theorem vb_X7_bringsBy_12 {N : Nat} (hg : m_ok (p, l, e, d, s, m, args, below, meth, c) w shR cX7_bringsBy 4 RX7 (some .int)) (hdp : 2 ≤ d) {K12 : Int32 → Int32 → Mem → Option (Int32 × Mem)} (hK12 : ∀ (x1 x2 : Int32) (σ : Mem), Vj (p, l, e, d, s, m, args, below, meth, c) w shR 4 1 σ 12 [(0, .ref (w.2.1 0)), (1, .int x1), (2, .int x2)] [] (K12 x1 x2 σ)) (x1 x2 : Int32) (σ : Mem) : Vj (p, l, e, d, s, m, args, below, meth, c) w shR 4 1 σ 12 [(0, .ref (w.2.1 0)), (1, .int x1), (2, .int x2)] [] (b_X7_bringsBy_12 N K12 x1 x2 σ) := by
  unfold b_X7_bringsBy_12
  refine r_iload_n hg 2 dX7_bringsBy_12 rfl ?_
  refine r_aload_n hg 0 dX7_bringsBy_13 rfl ?_
  refine q_geti (j := 22) hg rfl rfl rfl (by decide) iX7 kf_RX7_184 rfl dX7_bringsBy_14 ?_
  refine r_icmp_ge hg 79 dX7_bringsBy_17 (by decide) ?_ ?_
  · refine r_aload_n hg 0 dX7_bringsBy_79 rfl ?_
    refine q_geti (j := 24) hg rfl rfl rfl (by decide) iX7 kf_RX7_198 rfl dX7_bringsBy_80 ?_
    refine r_bipush hg 100 dX7_bringsBy_83 (by decide) ?_
    refine r_aload_n hg 0 dX7_bringsBy_85 rfl ?_
    refine r_iload_n hg 1 dX7_bringsBy_86 rfl ?_
    refine r_bipush hg 8 dX7_bringsBy_87 (by decide) ?_
    refine q_callv1 hg (e_X7_wordOf N l w x1 8 σ) kk_RX7_142 ki_X7_wordOf ks_RX7_X7_wordOf rfl rfl np_X7_wordOf (Nat.le_trans (by decide) hdp) rfl (m_c1_i (m_c1_i m_c1_nil)) (Nat.le_of_ble_eq_true rfl) dX7_bringsBy_89 (fun r1 σ2 => ?_)
    refine r_isub hg dX7_bringsBy_92 ?_
    refine r_imul hg dX7_bringsBy_93 ?_
    exact r_iret hg dX7_bringsBy_94 rfl rfl
  · refine r_aload_n hg 0 dX7_bringsBy_20 rfl ?_
    refine r_iload_n hg 1 dX7_bringsBy_21 rfl ?_
    refine r_aload_n hg 0 dX7_bringsBy_22 rfl ?_
    refine q_getr (j := 18) hg rfl rfl rfl (by decide) iX7 kf_RX7_44 rfl dX7_bringsBy_23 ?_
    refine r_iload_n hg 2 dX7_bringsBy_26 rfl ?_
    refine r_iaload (n := 12) hg rfl dX7_bringsBy_27 ?_
    refine q_callv1 hg (e_X7_paidOf N l w x1 (σ 12 x2.toNatClampNeg) σ) kk_RX7_181 ki_X7_paidOf ks_RX7_X7_paidOf rfl rfl np_X7_paidOf (Nat.le_trans (by decide) hdp) rfl m_c1_nil (Nat.le_of_ble_eq_true rfl) dX7_bringsBy_28 (fun r3 σ4 => ?_)
    refine r_istore_n (lv' := [(3, .int r3), (0, .ref (w.2.1 0)), (1, .int x1), (2, .int x2)]) hg dX7_bringsBy_31 (by decide) rfl ?_
    refine r_iload_n hg 0 dX7_bringsBy_32 rfl ?_
    refine r_if_eq hg 73 dX7_bringsBy_33 (by decide) ?_ ?_
    · refine r_iinc (lv' := [(2, .int (x2 + 1)), (3, .int r3), (0, .ref (w.2.1 0)), (1, .int x1)]) hg 3 (x2 + 1) dX7_bringsBy_73 rfl rfl (by decide) rfl ?_
      refine r_goto hg 12 dX7_bringsBy_76 (by decide) ?_
      refine r_lv [2, 3, 0] rfl ?_
      exact hK12 x1 (x2 + 1) σ4
    · refine r_aload_n hg 1 dX7_bringsBy_36 rfl ?_
      refine q_geti (j := 23) hg rfl rfl rfl (by decide) iX7 kf_RX7_195 rfl dX7_bringsBy_37 ?_
      refine r_aload_n hg 1 dX7_bringsBy_40 rfl ?_
      refine r_iload_n hg 2 dX7_bringsBy_41 rfl ?_
      refine r_bipush hg 7 dX7_bringsBy_42 (by decide) ?_
      refine q_callv1 hg (e_X7_wordOf N l w x1 7 σ4) kk_RX7_142 ki_X7_wordOf ks_RX7_X7_wordOf rfl rfl np_X7_wordOf (Nat.le_trans (by decide) hdp) rfl (m_c1_i m_c1_nil) (Nat.le_of_ble_eq_true rfl) dX7_bringsBy_44 (fun r5 σ6 => ?_)
      refine r_icmp_ne hg 53 dX7_bringsBy_47 (by decide) ?_ ?_
      · refine r_aload_n hg 1 dX7_bringsBy_53 rfl ?_
        refine r_dupr hg dX7_bringsBy_54 ?_
        refine q_geti (j := 23) hg rfl rfl rfl (by decide) iX7 kf_RX7_195 rfl dX7_bringsBy_55 ?_
        refine r_iconst hg 1 dX7_bringsBy_58 (by decide) ?_
        refine r_iadd hg dX7_bringsBy_59 ?_
        refine q_put (j := 23) hg rfl rfl rfl (by decide) iX7 kf_RX7_195 rfl tyX7_ok nmX7 rfl rfl dX7_bringsBy_60 (fun σ7 => ?_)
        refine r_aload_n hg 1 dX7_bringsBy_63 rfl ?_
        refine r_dupr hg dX7_bringsBy_64 ?_
        refine q_geti (j := 24) hg rfl rfl rfl (by decide) iX7 kf_RX7_198 rfl dX7_bringsBy_65 ?_
        refine r_iload_n hg 0 dX7_bringsBy_68 rfl ?_
        refine r_iadd hg dX7_bringsBy_69 ?_
        refine q_put (j := 24) hg rfl rfl rfl (by decide) iX7 kf_RX7_198 rfl tyX7_ok nmX7 rfl rfl dX7_bringsBy_70 (fun σ8 => ?_)
        refine r_iinc (lv' := [(2, .int (x2 + 1)), (3, .int r3), (0, .ref (w.2.1 0)), (1, .int x1)]) hg 3 (x2 + 1) dX7_bringsBy_73 rfl rfl (by decide) rfl ?_
        refine r_goto hg 12 dX7_bringsBy_76 (by decide) ?_
        refine r_lv [2, 3, 0] rfl ?_
        exact hK12 x1 (x2 + 1) σ8
      · refine r_goto hg 73 dX7_bringsBy_50 (by decide) ?_
        refine r_iinc (lv' := [(2, .int (x2 + 1)), (3, .int r3), (0, .ref (w.2.1 0)), (1, .int x1)]) hg 3 (x2 + 1) dX7_bringsBy_73 rfl rfl (by decide) rfl ?_
        refine r_goto hg 12 dX7_bringsBy_76 (by decide) ?_
        refine r_lv [2, 3, 0] rfl ?_
        exact hK12 x1 (x2 + 1) σ6
set_option maxHeartbeats 4000000 in
set_option maxRecDepth 100000 in
theorem vl_X7_bringsBy_12 {N : Nat} (hg : m_ok (p, l, e, d, s, m, args, below, meth, c) w shR cX7_bringsBy 4 RX7 (some .int)) (hdp : 2 ≤ d) : ∀ (n : Nat) (x1 x2 : Int32) (σ : Mem), Vj (p, l, e, d, s, m, args, below, meth, c) w shR 4 1 σ 12 [(0, .ref (w.2.1 0)), (1, .int x1), (2, .int x2)] [] (l_X7_bringsBy_12 N n x1 x2 σ)
| 0, _, _, _ => Vj.none
| n + 1, x1, x2, σ => vb_X7_bringsBy_12 hg hdp (fun x1 x2 σ => vl_X7_bringsBy_12 hg hdp n x1 x2 σ) x1 x2 σ
set_option maxHeartbeats 4000000 in
set_option maxRecDepth 100000 in
theorem e_X7_bringsBy (N : Nat) (l : Launch) (w : mW) (v1 : Int32) (σ : Mem) : Ev l w shR yX7_bringsBy cX7_bringsBy 4 (some .int) 1 2 [.ref (w.2.1 0), .int v1] σ (f_X7_bringsBy N v1 σ) := by
  refine Ev.of (by decide) (m_c1_r (m_c1_i m_c1_nil)) (Nat.le_of_ble_eq_true rfl) (fun p e s m args below meth c hg => ?_)
  have hdp := Nat.le_refl 2
  unfold f_X7_bringsBy
  show Vj (p, l, e, 2, s, m, args, below, meth, c) w shR 4 1 σ 0 [(0, .ref (w.2.1 0)), (1, .int v1)] [] _
  refine r_aload_n hg 0 dX7_bringsBy_0 rfl ?_
  refine r_iconst hg 0 dX7_bringsBy_1 (by decide) ?_
  refine q_put (j := 23) hg rfl rfl rfl (by decide) iX7 kf_RX7_195 rfl tyX7_ok nmX7 rfl rfl dX7_bringsBy_2 (fun σ1 => ?_)
  refine r_aload_n hg 0 dX7_bringsBy_5 rfl ?_
  refine r_iconst hg 0 dX7_bringsBy_6 (by decide) ?_
  refine q_put (j := 24) hg rfl rfl rfl (by decide) iX7 kf_RX7_198 rfl tyX7_ok nmX7 rfl rfl dX7_bringsBy_7 (fun σ2 => ?_)
  refine r_iconst hg 0 dX7_bringsBy_10 (by decide) ?_
  refine r_istore_n (lv' := [(2, .int 0), (0, .ref (w.2.1 0)), (1, .int v1)]) hg dX7_bringsBy_11 (by decide) rfl ?_
  refine r_lv [1, 2, 0] rfl ?_
  exact vl_X7_bringsBy_12 hg hdp N v1 0 σ2
set_option maxHeartbeats 4000000 in
set_option maxRecDepth 100000 in
theorem e_X7_netBy (N : Nat) (l : Launch) (w : mW) (v1 : Int32) (σ : Mem) : Ev l w shR yX7_netBy cX7_netBy 4 (some .int) 1 3 [.ref (w.2.1 0), .int v1] σ (f_X7_netBy N v1 σ) := by
  refine Ev.of (by decide) (m_c1_r (m_c1_i m_c1_nil)) (Nat.le_of_ble_eq_true rfl) (fun p e s m args below meth c hg => ?_)
  have hdp := Nat.le_refl 3
  unfold f_X7_netBy
  show Vj (p, l, e, 3, s, m, args, below, meth, c) w shR 4 1 σ 0 [(0, .ref (w.2.1 0)), (1, .int v1)] [] _
  refine r_aload_n hg 0 dX7_netBy_0 rfl ?_
  refine r_iload_n hg 1 dX7_netBy_1 rfl ?_
  refine q_callv1 hg (e_X7_bringsBy N l w v1 σ) kk_RX7_201 ki_X7_bringsBy ks_RX7_X7_bringsBy rfl rfl np_X7_bringsBy (Nat.le_trans (by decide) hdp) rfl m_c1_nil (Nat.le_of_ble_eq_true rfl) dX7_netBy_2 (fun r1 σ2 => ?_)
  refine r_istore_n (lv' := [(2, .int r1), (0, .ref (w.2.1 0)), (1, .int v1)]) hg dX7_netBy_5 (by decide) rfl ?_
  refine r_aload_n hg 1 dX7_netBy_6 rfl ?_
  refine q_geti (j := 24) hg rfl rfl rfl (by decide) iX7 kf_RX7_198 rfl dX7_netBy_7 ?_
  refine r_aload_n hg 1 dX7_netBy_10 rfl ?_
  refine r_iload_n hg 2 dX7_netBy_11 rfl ?_
  refine r_bipush hg 6 dX7_netBy_12 (by decide) ?_
  refine q_callv1 hg (e_X7_wordOf N l w v1 6 σ2) kk_RX7_142 ki_X7_wordOf ks_RX7_X7_wordOf rfl rfl np_X7_wordOf (Nat.le_trans (by decide) hdp) rfl (m_c1_i m_c1_nil) (Nat.le_of_ble_eq_true rfl) dX7_netBy_14 (fun r3 σ4 => ?_)
  refine r_aload_n hg 1 dX7_netBy_17 rfl ?_
  refine r_iload_n hg 2 dX7_netBy_18 rfl ?_
  refine r_bipush hg 7 dX7_netBy_19 (by decide) ?_
  refine q_callv1 hg (e_X7_wordOf N l w v1 7 σ4) kk_RX7_142 ki_X7_wordOf ks_RX7_X7_wordOf rfl rfl np_X7_wordOf (Nat.le_trans (by decide) hdp) rfl (m_c1_i (m_c1_i m_c1_nil)) (Nat.le_of_ble_eq_true rfl) dX7_netBy_21 (fun r5 σ6 => ?_)
  refine r_iconst hg 1 dX7_netBy_24 (by decide) ?_
  refine r_isub hg dX7_netBy_25 ?_
  refine r_imul hg dX7_netBy_26 ?_
  refine r_min hg km_RX7_160 kt_J9_min_7cf53 kz_RJ9 kc_J9_min_7cf53 (Nat.le_trans (by decide) hdp) m_c1_nil (Nat.le_of_ble_eq_true rfl) dX7_netBy_27 ?_
  refine q_name (fun u7 => ?_)
  refine r_istore_n (lv' := [(3, .int u7), (2, .int r1), (0, .ref (w.2.1 0)), (1, .int v1)]) hg dX7_netBy_30 (by decide) rfl ?_
  refine r_iload_n hg 1 dX7_netBy_31 rfl ?_
  refine r_aload_n hg 2 dX7_netBy_32 rfl ?_
  refine r_iload_n hg 3 dX7_netBy_33 rfl ?_
  refine r_bipush hg 6 dX7_netBy_34 (by decide) ?_
  refine q_callv1 hg (e_X7_wordOf N l w v1 6 σ6) kk_RX7_142 ki_X7_wordOf ks_RX7_X7_wordOf rfl rfl np_X7_wordOf (Nat.le_trans (by decide) hdp) rfl (m_c1_i m_c1_nil) (Nat.le_of_ble_eq_true rfl) dX7_netBy_36 (fun r8 σ9 => ?_)
  refine r_imul hg dX7_netBy_39 ?_
  refine r_bipush hg 100 dX7_netBy_40 (by decide) ?_
  refine r_aload_n hg 2 dX7_netBy_42 rfl ?_
  refine r_iload_n hg 3 dX7_netBy_43 rfl ?_
  refine r_bipush hg 9 dX7_netBy_44 (by decide) ?_
  refine q_callv1 hg (e_X7_wordOf N l w v1 9 σ9) kk_RX7_142 ki_X7_wordOf ks_RX7_X7_wordOf rfl rfl np_X7_wordOf (Nat.le_trans (by decide) hdp) rfl (m_c1_i (m_c1_i m_c1_nil)) (Nat.le_of_ble_eq_true rfl) dX7_netBy_46 (fun r10 σ11 => ?_)
  refine r_imul hg dX7_netBy_49 ?_
  refine r_iload_n hg 0 dX7_netBy_50 rfl ?_
  refine r_imul hg dX7_netBy_51 ?_
  refine r_isub hg dX7_netBy_52 ?_
  exact r_iret hg dX7_netBy_53 rfl rfl
set_option maxHeartbeats 4000000 in
set_option maxRecDepth 100000 in
theorem vb_X7_brings_41 {N : Nat} (hg : m_ok (p, l, e, d, s, m, args, below, meth, c) w shR cX7_brings 5 RX7 (some .int)) (hdp : 5 ≤ d) {K41 : Int32 → Int32 → Int32 → Mem → Option (Int32 × Mem)} (hK41 : ∀ (x1 x2 x3 : Int32) (σ : Mem), Vj (p, l, e, d, s, m, args, below, meth, c) w shR 5 1 σ 41 [(0, .ref (w.2.1 0)), (1, .int x1), (2, .int x2), (3, .int x3)] [] (K41 x1 x2 x3 σ)) (x1 x2 x3 : Int32) (σ : Mem) : Vj (p, l, e, d, s, m, args, below, meth, c) w shR 5 1 σ 41 [(0, .ref (w.2.1 0)), (1, .int x1), (2, .int x2), (3, .int x3)] [] (b_X7_brings_41 N K41 x1 x2 x3 σ) := by
  unfold b_X7_brings_41
  refine r_iload_n hg 3 dX7_brings_41 rfl ?_
  refine r_aload_n hg 0 dX7_brings_42 rfl ?_
  refine q_geti (j := 15) hg rfl rfl rfl (by decide) iX7 kf_RX7_146 rfl dX7_brings_43 ?_
  refine r_icmp_ge hg 95 dX7_brings_46 (by decide) ?_ ?_
  · refine r_aload_n hg 0 dX7_brings_95 rfl ?_
    refine q_callv0 hg (e_X7_layRow N l w σ) kk_RX7_217 ki_X7_layRow ks_RX7_X7_layRow rfl rfl np_X7_layRow (Nat.le_trans (by decide) hdp) rfl m_c1_nil (Nat.le_of_ble_eq_true rfl) dX7_brings_96 (fun r1 σ2 => ?_)
    refine r_aload_n hg 0 dX7_brings_99 rfl ?_
    refine r_iload_n hg 1 dX7_brings_100 rfl ?_
    refine q_callv1 hg (e_X7_bringsBy N l w x1 σ2) kk_RX7_201 ki_X7_bringsBy ks_RX7_X7_bringsBy rfl rfl np_X7_bringsBy (Nat.le_trans (by decide) hdp) rfl m_c1_nil (Nat.le_of_ble_eq_true rfl) dX7_brings_101 (fun r3 σ4 => ?_)
    refine r_istore_n (lv' := [(3, .int r3), (0, .ref (w.2.1 0)), (1, .int x1), (2, .int x2)]) hg dX7_brings_104 (by decide) rfl ?_
    refine r_iload_n hg 3 dX7_brings_105 rfl ?_
    refine r_if_ne hg 113 dX7_brings_106 (by decide) ?_ ?_
    · refine r_iload_n hg 3 dX7_brings_113 rfl ?_
      refine r_iconst hg 1 dX7_brings_114 (by decide) ?_
      refine r_icmp_ne hg 126 dX7_brings_115 (by decide) ?_ ?_
      · refine r_iload_n hg 3 dX7_brings_126 rfl ?_
        refine r_iconst hg 2 dX7_brings_127 (by decide) ?_
        refine r_icmp_ne hg 138 dX7_brings_128 (by decide) ?_ ?_
        · refine r_aload_n hg 1 dX7_brings_138 rfl ?_
          refine q_geti (j := 23) hg rfl rfl rfl (by decide) iX7 kf_RX7_195 rfl dX7_brings_139 ?_
          exact r_iret hg dX7_brings_142 rfl rfl
        · refine r_aload_n hg 1 dX7_brings_131 rfl ?_
          refine q_geti (j := 22) hg rfl rfl rfl (by decide) iX7 kf_RX7_184 rfl dX7_brings_132 ?_
          refine r_goto hg 142 dX7_brings_135 (by decide) ?_
          exact r_iret hg dX7_brings_142 rfl rfl
      · refine r_aload_n hg 1 dX7_brings_118 rfl ?_
        refine r_iload_n hg 2 dX7_brings_119 rfl ?_
        refine q_callv1 hg (e_X7_netBy N l w x1 σ4) kk_RX7_220 ki_X7_netBy ks_RX7_X7_netBy rfl rfl np_X7_netBy (Nat.le_trans (by decide) hdp) rfl m_c1_nil (Nat.le_of_ble_eq_true rfl) dX7_brings_120 (fun r5 σ6 => ?_)
        refine r_goto hg 142 dX7_brings_123 (by decide) ?_
        exact r_iret hg dX7_brings_142 rfl rfl
    · refine r_iload_n hg 0 dX7_brings_109 rfl ?_
      refine r_goto hg 142 dX7_brings_110 (by decide) ?_
      exact r_iret hg dX7_brings_142 rfl rfl
  · refine r_aload_n hg 0 dX7_brings_49 rfl ?_
    refine r_iload_n hg 3 dX7_brings_50 rfl ?_
    refine q_callv1 hg (e_X7_toldWith N l w x3 σ) kk_RX7_204 ki_X7_toldWith ks_RX7_X7_toldWith rfl rfl np_X7_toldWith (Nat.le_trans (by decide) hdp) rfl m_c1_nil (Nat.le_of_ble_eq_true rfl) dX7_brings_51 (fun r7 σ8 => ?_)
    refine r_istore (lv' := [(4, .int r7), (0, .ref (w.2.1 0)), (1, .int x1), (2, .int x2), (3, .int x3)]) hg dX7_brings_54 (by decide) rfl ?_
    refine r_iload hg 0 dX7_brings_56 rfl ?_
    refine q_calls1 hg (e_J6_numberOfTrailingZeros_0f7a4 N l w r7 σ8) kk_RX7_187 kt_J6_numberOfTrailingZeros_0f7a4 np_J6_numberOfTrailingZeros_0f7a4 (Nat.le_trans (by decide) hdp) rfl m_c1_nil (Nat.le_of_ble_eq_true rfl) dX7_brings_58 (fun r9 σ10 => ?_)
    refine r_iload_n hg 4 dX7_brings_61 rfl ?_
    refine r_icmp_eq hg 68 dX7_brings_62 (by decide) ?_ ?_
    · refine r_aload_n hg 1 dX7_brings_68 rfl ?_
      refine q_getr (j := 16) hg rfl rfl rfl (by decide) iX7 kf_RX7_38 rfl dX7_brings_69 ?_
      refine r_aload_n hg 1 dX7_brings_72 rfl ?_
      refine q_geti (j := 22) hg rfl rfl rfl (by decide) iX7 kf_RX7_184 rfl dX7_brings_73 ?_
      refine r_iload hg 0 dX7_brings_76 rfl ?_
      refine q_iastore (n := 12) hg rfl dX7_brings_78 (fun σ11 => ?_)
      refine r_aload_n hg 1 dX7_brings_79 rfl ?_
      refine r_dupr hg dX7_brings_80 ?_
      refine q_geti (j := 22) hg rfl rfl rfl (by decide) iX7 kf_RX7_184 rfl dX7_brings_81 ?_
      refine r_iconst hg 1 dX7_brings_84 (by decide) ?_
      refine r_iadd hg dX7_brings_85 ?_
      refine q_put (j := 22) hg rfl rfl rfl (by decide) iX7 kf_RX7_184 rfl tyX7_ok nmX7 rfl rfl dX7_brings_86 (fun σ12 => ?_)
      refine r_iinc (lv' := [(3, .int (x3 + 1)), (4, .int r7), (0, .ref (w.2.1 0)), (1, .int x1), (2, .int x2)]) hg 4 (x3 + 1) dX7_brings_89 rfl rfl (by decide) rfl ?_
      refine r_goto hg 41 dX7_brings_92 (by decide) ?_
      refine r_lv [2, 3, 4, 0] rfl ?_
      exact hK41 x1 x2 (x3 + 1) σ12
    · refine r_goto hg 89 dX7_brings_65 (by decide) ?_
      refine r_iinc (lv' := [(3, .int (x3 + 1)), (4, .int r7), (0, .ref (w.2.1 0)), (1, .int x1), (2, .int x2)]) hg 4 (x3 + 1) dX7_brings_89 rfl rfl (by decide) rfl ?_
      refine r_goto hg 41 dX7_brings_92 (by decide) ?_
      refine r_lv [2, 3, 4, 0] rfl ?_
      exact hK41 x1 x2 (x3 + 1) σ10
set_option maxHeartbeats 4000000 in
set_option maxRecDepth 100000 in
theorem vl_X7_brings_41 {N : Nat} (hg : m_ok (p, l, e, d, s, m, args, below, meth, c) w shR cX7_brings 5 RX7 (some .int)) (hdp : 5 ≤ d) : ∀ (n : Nat) (x1 x2 x3 : Int32) (σ : Mem), Vj (p, l, e, d, s, m, args, below, meth, c) w shR 5 1 σ 41 [(0, .ref (w.2.1 0)), (1, .int x1), (2, .int x2), (3, .int x3)] [] (l_X7_brings_41 N n x1 x2 x3 σ)
| 0, _, _, _, _ => Vj.none
| n + 1, x1, x2, x3, σ => vb_X7_brings_41 hg hdp (fun x1 x2 x3 σ => vl_X7_brings_41 hg hdp n x1 x2 x3 σ) x1 x2 x3 σ
set_option maxHeartbeats 4000000 in
set_option maxRecDepth 100000 in
theorem e_X7_brings (N : Nat) (l : Launch) (w : mW) (v1 v2 : Int32) (σ : Mem) : Ev l w shR yX7_brings cX7_brings 5 (some .int) 1 5 [.ref (w.2.1 0), .int v1, .int v2] σ (f_X7_brings N v1 v2 σ) := by
  refine Ev.of (by decide) (m_c1_r (m_c1_i (m_c1_i m_c1_nil))) (Nat.le_of_ble_eq_true rfl) (fun p e s m args below meth c hg => ?_)
  have hdp := Nat.le_refl 5
  unfold f_X7_brings
  show Vj (p, l, e, 5, s, m, args, below, meth, c) w shR 5 1 σ 0 [(0, .ref (w.2.1 0)), (1, .int v1), (2, .int v2)] [] _
  refine r_aload_n hg 0 dX7_brings_0 rfl ?_
  refine r_iconst hg 0 dX7_brings_1 (by decide) ?_
  refine q_put (j := 0) hg rfl rfl rfl (by decide) iX7 kf_RX7_68 rfl tyX7_ok nmX7 rfl rfl dX7_brings_2 (fun σ1 => ?_)
  refine r_aload_n hg 0 dX7_brings_5 rfl ?_
  refine r_iload_n hg 1 dX7_brings_6 rfl ?_
  refine q_callv1 hg (e_X7_isCover N l w v1 σ1) kk_RX7_139 ki_X7_isCover ks_RX7_X7_isCover rfl rfl np_X7_isCover (Nat.le_trans (by decide) hdp) rfl m_c1_nil (Nat.le_of_ble_eq_true rfl) dX7_brings_7 (fun r2 σ3 => ?_)
  refine r_if_eq hg 31 dX7_brings_10 (by decide) ?_ ?_
  · refine r_ldc hg kv_RX7_216 dX7_brings_31 ?_
    exact r_iret hg dX7_brings_33 rfl rfl
  · refine r_iload_n hg 2 dX7_brings_13 rfl ?_
    refine r_iconst hg 0 dX7_brings_14 (by decide) ?_
    refine r_iconst hg 3 dX7_brings_15 (by decide) ?_
    refine q_calls1 hg (e_X7_isIn N l w v2 0 3 σ3) kk_RX7_107 kt_X7_isIn np_X7_isIn (Nat.le_trans (by decide) hdp) rfl m_c1_nil (Nat.le_of_ble_eq_true rfl) dX7_brings_16 (fun r4 σ5 => ?_)
    refine r_if_eq hg 31 dX7_brings_19 (by decide) ?_ ?_
    · refine r_ldc hg kv_RX7_216 dX7_brings_31 ?_
      exact r_iret hg dX7_brings_33 rfl rfl
    · refine r_aload_n hg 0 dX7_brings_22 rfl ?_
      refine r_iload_n hg 1 dX7_brings_23 rfl ?_
      refine q_callv1 hg (e_X7_judged N l w v1 σ5) kk_RX7_213 ki_X7_judged ks_RX7_X7_judged rfl rfl np_X7_judged (Nat.le_trans (by decide) hdp) rfl m_c1_nil (Nat.le_of_ble_eq_true rfl) dX7_brings_24 (fun r6 σ7 => ?_)
      refine r_iconst hg (-1) dX7_brings_27 (by decide) ?_
      refine r_icmp_eq hg 34 dX7_brings_28 (by decide) ?_ ?_
      · refine r_aload_n hg 0 dX7_brings_34 rfl ?_
        refine r_iconst hg 0 dX7_brings_35 (by decide) ?_
        refine q_put (j := 22) hg rfl rfl rfl (by decide) iX7 kf_RX7_184 rfl tyX7_ok nmX7 rfl rfl dX7_brings_36 (fun σ8 => ?_)
        refine r_iconst hg 0 dX7_brings_39 (by decide) ?_
        refine r_istore_n (lv' := [(3, .int 0), (0, .ref (w.2.1 0)), (1, .int v1), (2, .int v2)]) hg dX7_brings_40 (by decide) rfl ?_
        refine r_lv [1, 2, 3, 0] rfl ?_
        exact vl_X7_brings_41 hg hdp N v1 v2 0 σ8
      · refine r_ldc hg kv_RX7_216 dX7_brings_31 ?_
        exact r_iret hg dX7_brings_33 rfl rfl
set_option maxHeartbeats 4000000 in
set_option maxRecDepth 100000 in
theorem vb_X7_year_59 {N : Nat} (hg : m_ok (p, l, e, d, s, m, args, below, meth, c) w shR cX7_year 7 RX7 (some .int)) (hdp : 2 ≤ d) {K59 : Int32 → Int32 → Int32 → Int32 → Mem → Option (Int32 × Mem)} (hK59 : ∀ (x2 x4 x5 x6 : Int32) (σ : Mem), Vj (p, l, e, d, s, m, args, below, meth, c) w shR 7 1 σ 59 [(0, .ref (w.2.1 0)), (2, .int x2), (4, .int x4), (5, .int x5), (6, .int x6)] [] (K59 x2 x4 x5 x6 σ)) (x2 x4 x5 x6 : Int32) (σ : Mem) : Vj (p, l, e, d, s, m, args, below, meth, c) w shR 7 1 σ 59 [(0, .ref (w.2.1 0)), (2, .int x2), (4, .int x4), (5, .int x5), (6, .int x6)] [] (b_X7_year_59 N K59 x2 x4 x5 x6 σ) := by
  unfold b_X7_year_59
  refine r_iload hg 4 dX7_year_59 rfl ?_
  refine r_aload_n hg 0 dX7_year_61 rfl ?_
  refine q_geti (j := 15) hg rfl rfl rfl (by decide) iX7 kf_RX7_146 rfl dX7_year_62 ?_
  refine r_icmp_ge hg 111 dX7_year_65 (by decide) ?_ ?_
  · refine r_iconst hg 2 dX7_year_111 (by decide) ?_
    refine r_iload hg 3 dX7_year_112 rfl ?_
    refine r_imul hg dX7_year_114 ?_
    refine r_aload_n hg 0 dX7_year_115 rfl ?_
    refine r_iload hg 2 dX7_year_116 rfl ?_
    refine q_callv1 hg (e_X7_sumOf N l w x4 σ) kk_RX7_178 ki_X7_sumOf ks_RX7_X7_sumOf rfl rfl np_X7_sumOf (Nat.le_trans (by decide) hdp) rfl (m_c1_i m_c1_nil) (Nat.le_of_ble_eq_true rfl) dX7_year_118 (fun r1 σ2 => ?_)
    refine r_icmp_lt hg 128 dX7_year_121 (by decide) ?_ ?_
    · refine r_iconst hg 1 dX7_year_128 (by decide) ?_
      exact r_iret hg dX7_year_129 rfl rfl
    · refine r_iconst hg 0 dX7_year_124 (by decide) ?_
      refine r_goto hg 129 dX7_year_125 (by decide) ?_
      exact r_iret hg dX7_year_129 rfl rfl
  · refine r_iload hg 3 dX7_year_68 rfl ?_
    refine r_iload hg 2 dX7_year_70 rfl ?_
    refine r_iload hg 4 dX7_year_72 rfl ?_
    refine q_calls1 hg (e_X7_has N l w x4 x6 σ) kk_RX7_157 kt_X7_has np_X7_has (Nat.le_trans (by decide) hdp) rfl (m_c1_i m_c1_nil) (Nat.le_of_ble_eq_true rfl) dX7_year_74 (fun r3 σ4 => ?_)
    refine r_if_eq hg 101 dX7_year_77 (by decide) ?_ ?_
    · refine r_iconst hg 0 dX7_year_101 (by decide) ?_
      refine r_iadd hg dX7_year_102 ?_
      refine q_name (fun u5 => ?_)
      refine r_istore (lv' := [(5, .int u5), (0, .ref (w.2.1 0)), (2, .int x2), (4, .int x4), (6, .int x6)]) hg dX7_year_103 (by decide) rfl ?_
      refine r_iinc (lv' := [(6, .int (x6 + 1)), (5, .int u5), (0, .ref (w.2.1 0)), (2, .int x2), (4, .int x4)]) hg 4 (x6 + 1) dX7_year_105 rfl rfl (by decide) rfl ?_
      refine r_goto hg 59 dX7_year_108 (by decide) ?_
      refine r_lv [2, 3, 4, 1, 0] rfl ?_
      exact hK59 x2 x4 u5 (x6 + 1) σ4
    · refine r_aload_n hg 0 dX7_year_80 rfl ?_
      refine q_getr (j := 9) hg rfl rfl rfl (by decide) iX7 kf_RX7_20 rfl dX7_year_81 ?_
      refine r_iload hg 4 dX7_year_84 rfl ?_
      refine r_iaload (n := 12) hg rfl dX7_year_86 ?_
      refine r_iload_n hg 1 dX7_year_87 rfl ?_
      refine r_icmp_ge hg 101 dX7_year_88 (by decide) ?_ ?_
      · refine r_iconst hg 0 dX7_year_101 (by decide) ?_
        refine r_iadd hg dX7_year_102 ?_
        refine q_name (fun u6 => ?_)
        refine r_istore (lv' := [(5, .int u6), (0, .ref (w.2.1 0)), (2, .int x2), (4, .int x4), (6, .int x6)]) hg dX7_year_103 (by decide) rfl ?_
        refine r_iinc (lv' := [(6, .int (x6 + 1)), (5, .int u6), (0, .ref (w.2.1 0)), (2, .int x2), (4, .int x4)]) hg 4 (x6 + 1) dX7_year_105 rfl rfl (by decide) rfl ?_
        refine r_goto hg 59 dX7_year_108 (by decide) ?_
        refine r_lv [2, 3, 4, 1, 0] rfl ?_
        exact hK59 x2 x4 u6 (x6 + 1) σ4
      · refine r_aload_n hg 0 dX7_year_91 rfl ?_
        refine q_getr (j := 8) hg rfl rfl rfl (by decide) iX7 kf_RX7_17 rfl dX7_year_92 ?_
        refine r_iload hg 4 dX7_year_95 rfl ?_
        refine r_iaload (n := 12) hg rfl dX7_year_97 ?_
        refine r_goto hg 102 dX7_year_98 (by decide) ?_
        refine r_iadd hg dX7_year_102 ?_
        refine q_name (fun u7 => ?_)
        refine r_istore (lv' := [(5, .int u7), (0, .ref (w.2.1 0)), (2, .int x2), (4, .int x4), (6, .int x6)]) hg dX7_year_103 (by decide) rfl ?_
        refine r_iinc (lv' := [(6, .int (x6 + 1)), (5, .int u7), (0, .ref (w.2.1 0)), (2, .int x2), (4, .int x4)]) hg 4 (x6 + 1) dX7_year_105 rfl rfl (by decide) rfl ?_
        refine r_goto hg 59 dX7_year_108 (by decide) ?_
        refine r_lv [2, 3, 4, 1, 0] rfl ?_
        exact hK59 x2 x4 u7 (x6 + 1) σ4
set_option maxHeartbeats 4000000 in
set_option maxRecDepth 100000 in
theorem vl_X7_year_59 {N : Nat} (hg : m_ok (p, l, e, d, s, m, args, below, meth, c) w shR cX7_year 7 RX7 (some .int)) (hdp : 2 ≤ d) : ∀ (n : Nat) (x2 x4 x5 x6 : Int32) (σ : Mem), Vj (p, l, e, d, s, m, args, below, meth, c) w shR 7 1 σ 59 [(0, .ref (w.2.1 0)), (2, .int x2), (4, .int x4), (5, .int x5), (6, .int x6)] [] (l_X7_year_59 N n x2 x4 x5 x6 σ)
| 0, _, _, _, _, _ => Vj.none
| n + 1, x2, x4, x5, x6, σ => vb_X7_year_59 hg hdp (fun x2 x4 x5 x6 σ => vl_X7_year_59 hg hdp n x2 x4 x5 x6 σ) x2 x4 x5 x6 σ
set_option maxHeartbeats 4000000 in
set_option maxRecDepth 100000 in
theorem e_X7_year (N : Nat) (l : Launch) (w : mW) (v1 v2 v3 : Int32) (σ : Mem) : Ev l w shR yX7_year cX7_year 7 (some .int) 1 2 [.ref (w.2.1 0), .int v1, .int v2, .int v3] σ (f_X7_year N v1 v2 v3 σ) := by
  refine Ev.of (by decide) (m_c1_r (m_c1_i (m_c1_i (m_c1_i m_c1_nil)))) (Nat.le_of_ble_eq_true rfl) (fun p e s m args below meth c hg => ?_)
  have hdp := Nat.le_refl 2
  unfold f_X7_year
  show Vj (p, l, e, 2, s, m, args, below, meth, c) w shR 7 1 σ 0 [(0, .ref (w.2.1 0)), (1, .int v1), (2, .int v2), (3, .int v3)] [] _
  refine r_aload_n hg 0 dX7_year_0 rfl ?_
  refine r_iconst hg 0 dX7_year_1 (by decide) ?_
  refine q_put (j := 0) hg rfl rfl rfl (by decide) iX7 kf_RX7_68 rfl tyX7_ok nmX7 rfl rfl dX7_year_2 (fun σ1 => ?_)
  refine r_aload_n hg 0 dX7_year_5 rfl ?_
  refine r_iload_n hg 1 dX7_year_6 rfl ?_
  refine q_callv1 hg (e_X7_isLoss N l w v1 σ1) kk_RX7_149 ki_X7_isLoss ks_RX7_X7_isLoss rfl rfl np_X7_isLoss (Nat.le_trans (by decide) hdp) rfl m_c1_nil (Nat.le_of_ble_eq_true rfl) dX7_year_7 (fun r2 σ3 => ?_)
  refine r_if_eq hg 24 dX7_year_10 (by decide) ?_ ?_
  · refine r_iconst hg (-1) dX7_year_24 (by decide) ?_
    exact r_iret hg dX7_year_25 rfl rfl
  · refine r_iload_n hg 2 dX7_year_13 rfl ?_
    refine r_iconst hg 0 dX7_year_14 (by decide) ?_
    refine r_sipush hg 999 dX7_year_15 (by decide) ?_
    refine q_calls1 hg (e_X7_isIn N l w v2 0 999 σ3) kk_RX7_107 kt_X7_isIn np_X7_isIn (Nat.le_trans (by decide) hdp) rfl m_c1_nil (Nat.le_of_ble_eq_true rfl) dX7_year_18 (fun r4 σ5 => ?_)
    refine r_if_ne hg 26 dX7_year_21 (by decide) ?_ ?_
    · refine r_aload_n hg 0 dX7_year_26 rfl ?_
      refine r_iload_n hg 1 dX7_year_27 rfl ?_
      refine q_callv1 hg (e_X7_toldWith N l w v1 σ5) kk_RX7_204 ki_X7_toldWith ks_RX7_X7_toldWith rfl rfl np_X7_toldWith (Nat.le_trans (by decide) hdp) rfl m_c1_nil (Nat.le_of_ble_eq_true rfl) dX7_year_28 (fun r6 σ7 => ?_)
      refine r_istore (lv' := [(4, .int r6), (0, .ref (w.2.1 0)), (1, .int v1), (2, .int v2), (3, .int v3)]) hg dX7_year_31 (by decide) rfl ?_
      refine r_iload_n hg 4 dX7_year_33 rfl ?_
      refine r_if_ne hg 53 dX7_year_34 (by decide) ?_ ?_
      · refine r_iconst hg 0 dX7_year_53 (by decide) ?_
        refine r_istore (lv' := [(5, .int 0), (4, .int r6), (0, .ref (w.2.1 0)), (1, .int v1), (2, .int v2), (3, .int v3)]) hg dX7_year_54 (by decide) rfl ?_
        refine r_iconst hg 0 dX7_year_56 (by decide) ?_
        refine r_istore (lv' := [(6, .int 0), (5, .int 0), (4, .int r6), (0, .ref (w.2.1 0)), (1, .int v1), (2, .int v2), (3, .int v3)]) hg dX7_year_57 (by decide) rfl ?_
        refine r_lv [3, 5, 2, 1, 0] rfl ?_
        exact vl_X7_year_59 hg hdp N v2 r6 0 0 σ7
      · refine r_aload_n hg 1 dX7_year_37 rfl ?_
        refine r_iload hg 0 dX7_year_38 rfl ?_
        refine q_callv1 hg (e_X7_leastHour N l w r6 σ7) kk_RX7_166 ki_X7_leastHour ks_RX7_X7_leastHour rfl rfl np_X7_leastHour (Nat.le_trans (by decide) hdp) rfl m_c1_nil (Nat.le_of_ble_eq_true rfl) dX7_year_40 (fun r8 σ9 => ?_)
        refine r_iload_n hg 3 dX7_year_43 rfl ?_
        refine r_icmp_ge hg 51 dX7_year_44 (by decide) ?_ ?_
        · refine r_iconst hg 1 dX7_year_51 (by decide) ?_
          exact r_iret hg dX7_year_52 rfl rfl
        · refine r_iconst hg 0 dX7_year_47 (by decide) ?_
          refine r_goto hg 52 dX7_year_48 (by decide) ?_
          exact r_iret hg dX7_year_52 rfl rfl
    · refine r_iconst hg (-1) dX7_year_24 (by decide) ?_
      exact r_iret hg dX7_year_25 rfl rfl
set_option maxHeartbeats 4000000 in
set_option maxRecDepth 100000 in
theorem e_J6_bitCount_0f7a4 (N : Nat) {sh : mSh} (l : Launch) (w : mW) (v0 : Int32) (σ : Mem) : Ev l w sh yJ6_bitCount_0f7a4 cJ6_bitCount_0f7a4 1 (some .int) 1 0 [.int v0] σ (f_J6_bitCount_0f7a4 N v0 σ) := by
  refine Ev.of (by decide) (m_c1_i m_c1_nil) (Nat.le_of_ble_eq_true rfl) (fun p e s m args below meth c hg => ?_)
  have hdp := Nat.le_refl 0
  unfold f_J6_bitCount_0f7a4
  show Vj (p, l, e, 0, s, m, args, below, meth, c) w sh 1 1 σ 0 [(0, .int v0)] [] _
  refine r_iload_n hg 0 dJ6_bitCount_0f7a4_0 rfl ?_
  refine r_iload_n hg 0 dJ6_bitCount_0f7a4_1 rfl ?_
  refine r_iconst hg 1 dJ6_bitCount_0f7a4_2 (by decide) ?_
  refine r_iushr hg dJ6_bitCount_0f7a4_3 ?_
  refine r_ldcw hg kv_RJ6_265 dJ6_bitCount_0f7a4_4 ?_
  refine r_iand hg dJ6_bitCount_0f7a4_7 ?_
  refine r_isub hg dJ6_bitCount_0f7a4_8 ?_
  refine q_name (fun u1 => ?_)
  refine r_istore_n (lv' := [(0, .int u1)]) hg dJ6_bitCount_0f7a4_9 (by decide) rfl ?_
  refine r_iload_n hg 0 dJ6_bitCount_0f7a4_10 rfl ?_
  refine r_ldcw hg kv_RJ6_266 dJ6_bitCount_0f7a4_11 ?_
  refine r_iand hg dJ6_bitCount_0f7a4_14 ?_
  refine r_iload_n hg 0 dJ6_bitCount_0f7a4_15 rfl ?_
  refine r_iconst hg 2 dJ6_bitCount_0f7a4_16 (by decide) ?_
  refine r_iushr hg dJ6_bitCount_0f7a4_17 ?_
  refine r_ldcw hg kv_RJ6_266 dJ6_bitCount_0f7a4_18 ?_
  refine r_iand hg dJ6_bitCount_0f7a4_21 ?_
  refine r_iadd hg dJ6_bitCount_0f7a4_22 ?_
  refine q_name (fun u2 => ?_)
  refine r_istore_n (lv' := [(0, .int u2)]) hg dJ6_bitCount_0f7a4_23 (by decide) rfl ?_
  refine r_iload_n hg 0 dJ6_bitCount_0f7a4_24 rfl ?_
  refine r_iload_n hg 0 dJ6_bitCount_0f7a4_25 rfl ?_
  refine r_iconst hg 4 dJ6_bitCount_0f7a4_26 (by decide) ?_
  refine r_iushr hg dJ6_bitCount_0f7a4_27 ?_
  refine r_iadd hg dJ6_bitCount_0f7a4_28 ?_
  refine r_ldcw hg kv_RJ6_267 dJ6_bitCount_0f7a4_29 ?_
  refine r_iand hg dJ6_bitCount_0f7a4_32 ?_
  refine q_name (fun u3 => ?_)
  refine r_istore_n (lv' := [(0, .int u3)]) hg dJ6_bitCount_0f7a4_33 (by decide) rfl ?_
  refine r_iload_n hg 0 dJ6_bitCount_0f7a4_34 rfl ?_
  refine r_iload_n hg 0 dJ6_bitCount_0f7a4_35 rfl ?_
  refine r_bipush hg 8 dJ6_bitCount_0f7a4_36 (by decide) ?_
  refine r_iushr hg dJ6_bitCount_0f7a4_38 ?_
  refine r_iadd hg dJ6_bitCount_0f7a4_39 ?_
  refine q_name (fun u4 => ?_)
  refine r_istore_n (lv' := [(0, .int u4)]) hg dJ6_bitCount_0f7a4_40 (by decide) rfl ?_
  refine r_iload_n hg 0 dJ6_bitCount_0f7a4_41 rfl ?_
  refine r_iload_n hg 0 dJ6_bitCount_0f7a4_42 rfl ?_
  refine r_bipush hg 16 dJ6_bitCount_0f7a4_43 (by decide) ?_
  refine r_iushr hg dJ6_bitCount_0f7a4_45 ?_
  refine r_iadd hg dJ6_bitCount_0f7a4_46 ?_
  refine q_name (fun u5 => ?_)
  refine r_istore_n (lv' := [(0, .int u5)]) hg dJ6_bitCount_0f7a4_47 (by decide) rfl ?_
  refine r_iload_n hg 0 dJ6_bitCount_0f7a4_48 rfl ?_
  refine r_bipush hg 63 dJ6_bitCount_0f7a4_49 (by decide) ?_
  refine r_iand hg dJ6_bitCount_0f7a4_51 ?_
  exact r_iret hg dJ6_bitCount_0f7a4_52 rfl rfl
set_option maxHeartbeats 4000000 in
set_option maxRecDepth 100000 in
theorem e_X7_isTold (N : Nat) (l : Launch) (w : mW) (v1 v2 : Int32) (σ : Mem) : Ev l w shR yX7_isTold cX7_isTold 3 (some .boolean) 1 1 [.ref (w.2.1 0), .int v1, .int v2] σ (f_X7_isTold N v1 v2 σ) := by
  refine Ev.of (by decide) (m_c1_r (m_c1_i (m_c1_i m_c1_nil))) (Nat.le_of_ble_eq_true rfl) (fun p e s m args below meth c hg => ?_)
  have hdp := Nat.le_refl 1
  unfold f_X7_isTold
  show Vj (p, l, e, 1, s, m, args, below, meth, c) w shR 3 1 σ 0 [(0, .ref (w.2.1 0)), (1, .int v1), (2, .int v2)] [] _
  refine r_iload_n hg 2 dX7_isTold_0 rfl ?_
  refine q_calls1 hg (e_J6_bitCount_0f7a4 N l w v2 σ) kk_RX7_223 kt_J6_bitCount_0f7a4 np_J6_bitCount_0f7a4 (Nat.le_trans (by decide) hdp) rfl m_c1_nil (Nat.le_of_ble_eq_true rfl) dX7_isTold_1 (fun r1 σ2 => ?_)
  refine r_bipush hg 8 dX7_isTold_4 (by decide) ?_
  refine r_icmp_le hg 18 dX7_isTold_6 (by decide) ?_ ?_
  · refine r_iconst hg 1 dX7_isTold_18 (by decide) ?_
    refine r_goto hg 23 dX7_isTold_19 (by decide) ?_
    exact r_zret hg dX7_isTold_23 rfl rfl
  · refine r_aload_n hg 0 dX7_isTold_9 rfl ?_
    refine r_iload_n hg 1 dX7_isTold_10 rfl ?_
    refine r_iconst hg 3 dX7_isTold_11 (by decide) ?_
    refine q_callv1 hg (e_X7_wordOf N l w v1 3 σ2) kk_RX7_142 ki_X7_wordOf ks_RX7_X7_wordOf rfl rfl np_X7_wordOf (Nat.le_trans (by decide) hdp) rfl m_c1_nil (Nat.le_of_ble_eq_true rfl) dX7_isTold_12 (fun r3 σ4 => ?_)
    refine r_if_ne hg 22 dX7_isTold_15 (by decide) ?_ ?_
    · refine r_iconst hg 0 dX7_isTold_22 (by decide) ?_
      exact r_zret hg dX7_isTold_23 rfl rfl
    · refine r_iconst hg 1 dX7_isTold_18 (by decide) ?_
      refine r_goto hg 23 dX7_isTold_19 (by decide) ?_
      exact r_zret hg dX7_isTold_23 rfl rfl
set_option maxHeartbeats 4000000 in
set_option maxRecDepth 100000 in
theorem e_X7_every (N : Nat) (l : Launch) (w : mW) (σ : Mem) : Ev l w shR yX7_every cX7_every 1 (some .int) 1 0 [.ref (w.2.1 0)] σ (f_X7_every N σ) := by
  refine Ev.of (by decide) (m_c1_r m_c1_nil) (Nat.le_of_ble_eq_true rfl) (fun p e s m args below meth c hg => ?_)
  have hdp := Nat.le_refl 0
  unfold f_X7_every
  show Vj (p, l, e, 0, s, m, args, below, meth, c) w shR 1 1 σ 0 [(0, .ref (w.2.1 0))] [] _
  refine r_iconst hg 1 dX7_every_0 (by decide) ?_
  refine r_aload_n hg 0 dX7_every_1 rfl ?_
  refine q_geti (j := 15) hg rfl rfl rfl (by decide) iX7 kf_RX7_146 rfl dX7_every_2 ?_
  refine r_ishl hg dX7_every_5 ?_
  refine r_iconst hg 1 dX7_every_6 (by decide) ?_
  refine r_isub hg dX7_every_7 ?_
  exact r_iret hg dX7_every_8 rfl rfl
set_option maxHeartbeats 4000000 in
set_option maxRecDepth 100000 in
theorem e_X7_isAsked (N : Nat) (l : Launch) (w : mW) (v1 : Int32) (σ : Mem) : Ev l w shR yX7_isAsked cX7_isAsked 2 (some .boolean) 1 1 [.ref (w.2.1 0), .int v1] σ (f_X7_isAsked N v1 σ) := by
  refine Ev.of (by decide) (m_c1_r (m_c1_i m_c1_nil)) (Nat.le_of_ble_eq_true rfl) (fun p e s m args below meth c hg => ?_)
  have hdp := Nat.le_refl 1
  unfold f_X7_isAsked
  show Vj (p, l, e, 1, s, m, args, below, meth, c) w shR 2 1 σ 0 [(0, .ref (w.2.1 0)), (1, .int v1)] [] _
  refine r_aload_n hg 0 dX7_isAsked_0 rfl ?_
  refine q_geti (j := 34) hg rfl rfl rfl (by decide) iX7 kf_RX7_226 rfl dX7_isAsked_1 ?_
  refine r_if_eq hg 18 dX7_isAsked_4 (by decide) ?_ ?_
  · refine r_iload_n hg 1 dX7_isAsked_18 rfl ?_
    refine r_aload_n hg 0 dX7_isAsked_19 rfl ?_
    refine q_geti (j := 25) hg rfl rfl rfl (by decide) iX7 kf_RX7_230 rfl dX7_isAsked_20 ?_
    refine r_icmp_ne hg 30 dX7_isAsked_23 (by decide) ?_ ?_
    · refine r_iconst hg 0 dX7_isAsked_30 (by decide) ?_
      exact r_zret hg dX7_isAsked_31 rfl rfl
    · refine r_iconst hg 1 dX7_isAsked_26 (by decide) ?_
      refine r_goto hg 31 dX7_isAsked_27 (by decide) ?_
      exact r_zret hg dX7_isAsked_31 rfl rfl
  · refine r_aload_n hg 0 dX7_isAsked_7 rfl ?_
    refine q_geti (j := 25) hg rfl rfl rfl (by decide) iX7 kf_RX7_230 rfl dX7_isAsked_8 ?_
    refine r_iload_n hg 1 dX7_isAsked_11 rfl ?_
    refine q_calls1 hg (e_X7_has N l w (σ 0 25) v1 σ) kk_RX7_157 kt_X7_has np_X7_has (Nat.le_trans (by decide) hdp) rfl m_c1_nil (Nat.le_of_ble_eq_true rfl) dX7_isAsked_12 (fun r1 σ2 => ?_)
    refine r_goto hg 31 dX7_isAsked_15 (by decide) ?_
    exact r_zret hg dX7_isAsked_31 rfl rfl
end RM2
