section RM4
variable {p : Program} {l : Launch} {e : Env} {d : Nat} {s : State} {m : MethodId} {args : Array Value} {below : List Frame} {meth : Method} {c : Code} {w : mW}
set_option maxHeartbeats 4000000 in
set_option maxRecDepth 100000 in
theorem e_X7_layAll (N : Nat) (l : Launch) (w : mW) (v1 v2 : Int32) (σ : Mem) : Ev l w shR yX7_layAll cX7_layAll 3 (some .boolean) 1 36 [.ref (w.2.1 0), .int v1, .int v2] σ (f_X7_layAll N v1 v2 σ) := by
  refine Ev.of (by decide) (m_c1_r (m_c1_i (m_c1_i m_c1_nil))) (Nat.le_of_ble_eq_true rfl) (fun p e s m args below meth c hg => ?_)
  have hdp := Nat.le_refl 36
  unfold f_X7_layAll
  show Vj (p, l, e, 36, s, m, args, below, meth, c) w shR 3 1 σ 0 [(0, .ref (w.2.1 0)), (1, .int v1), (2, .int v2)] [] _
  refine r_aload_n hg 0 dX7_layAll_0 rfl ?_
  refine r_iload_n hg 1 dX7_layAll_1 rfl ?_
  refine r_iload_n hg 2 dX7_layAll_2 rfl ?_
  refine q_callv1 hg (e_X7_isTold N l w v1 v2 σ) kk_RX7_281 ki_X7_isTold ks_RX7_X7_isTold rfl rfl np_X7_isTold (Nat.le_trans (by decide) hdp) rfl m_c1_nil (Nat.le_of_ble_eq_true rfl) dX7_layAll_3 (fun r1 σ2 => ?_)
  refine r_if_ne hg 11 dX7_layAll_6 (by decide) ?_ ?_
  · refine r_aload_n hg 0 dX7_layAll_11 rfl ?_
    refine r_iload_n hg 1 dX7_layAll_12 rfl ?_
    refine q_put (j := 25) hg rfl rfl rfl (by decide) iX7 kf_RX7_230 rfl tyX7_ok nmX7 rfl rfl dX7_layAll_13 (fun σ3 => ?_)
    refine r_aload_n hg 0 dX7_layAll_16 rfl ?_
    refine r_iconst hg 0 dX7_layAll_17 (by decide) ?_
    refine q_putz (j := 34) hg rfl rfl rfl (by decide) iX7 kf_RX7_226 rfl tyX7_ok nmX7 rfl rfl dX7_layAll_18 (fun σ4 => ?_)
    refine r_aload_n hg 0 dX7_layAll_21 rfl ?_
    refine r_iload_n hg 2 dX7_layAll_22 rfl ?_
    refine q_put (j := 26) hg rfl rfl rfl (by decide) iX7 kf_RX7_269 rfl tyX7_ok nmX7 rfl rfl dX7_layAll_23 (fun σ5 => ?_)
    refine r_aload_n hg 0 dX7_layAll_26 rfl ?_
    refine r_iconst hg 0 dX7_layAll_27 (by decide) ?_
    refine q_putz (j := 33) hg rfl rfl rfl (by decide) iX7 kf_RX7_245 rfl tyX7_ok nmX7 rfl rfl dX7_layAll_28 (fun σ6 => ?_)
    refine r_aload_n hg 0 dX7_layAll_31 rfl ?_
    refine r_iconst hg 0 dX7_layAll_32 (by decide) ?_
    refine q_put (j := 22) hg rfl rfl rfl (by decide) iX7 kf_RX7_184 rfl tyX7_ok nmX7 rfl rfl dX7_layAll_33 (fun σ7 => ?_)
    refine r_aload_n hg 0 dX7_layAll_36 rfl ?_
    refine q_callv0 hg (e_X7_layPairs N l w σ7) kk_RX7_284 ki_X7_layPairs ks_RX7_X7_layPairs rfl rfl np_X7_layPairs (Nat.le_trans (by decide) hdp) rfl m_c1_nil (Nat.le_of_ble_eq_true rfl) dX7_layAll_37 (fun r8 σ9 => ?_)
    refine r_aload_n hg 0 dX7_layAll_40 rfl ?_
    refine r_iload_n hg 1 dX7_layAll_41 rfl ?_
    refine r_iconst hg 3 dX7_layAll_42 (by decide) ?_
    refine q_callv1 hg (e_X7_wordOf N l w v1 3 σ9) kk_RX7_142 ki_X7_wordOf ks_RX7_X7_wordOf rfl rfl np_X7_wordOf (Nat.le_trans (by decide) hdp) rfl m_c1_nil (Nat.le_of_ble_eq_true rfl) dX7_layAll_43 (fun r10 σ11 => ?_)
    refine r_if_ne hg 57 dX7_layAll_46 (by decide) ?_ ?_
    · refine r_aload_n hg 0 dX7_layAll_57 rfl ?_
      refine r_iconst hg 0 dX7_layAll_58 (by decide) ?_
      refine q_callv0 hg (e_X7_part N 30 l w 0 σ11) kk_RX7_272 ki_X7_part ks_RX7_X7_part rfl rfl np_X7_part (Nat.le_trans (by decide) hdp) rfl m_c1_nil (Nat.le_of_ble_eq_true rfl) dX7_layAll_59 (fun r12 σ13 => ?_)
      refine r_aload_n hg 0 dX7_layAll_62 rfl ?_
      refine q_geti (j := 33) hg rfl rfl rfl (by decide) iX7 kf_RX7_245 rfl dX7_layAll_63 ?_
      exact r_zret hg dX7_layAll_66 rfl rfl
    · refine r_aload_n hg 0 dX7_layAll_49 rfl ?_
      refine r_iload_n hg 2 dX7_layAll_50 rfl ?_
      refine q_callv0 hg (e_X7_partByHours N 30 l w v2 σ11) kk_RX7_278 ki_X7_partByHours ks_RX7_X7_partByHours rfl rfl np_X7_partByHours (Nat.le_trans (by decide) hdp) rfl m_c1_nil (Nat.le_of_ble_eq_true rfl) dX7_layAll_51 (fun r14 σ15 => ?_)
      refine r_goto hg 62 dX7_layAll_54 (by decide) ?_
      refine r_aload_n hg 0 dX7_layAll_62 rfl ?_
      refine q_geti (j := 33) hg rfl rfl rfl (by decide) iX7 kf_RX7_245 rfl dX7_layAll_63 ?_
      exact r_zret hg dX7_layAll_66 rfl rfl
  · refine r_iconst hg 0 dX7_layAll_9 (by decide) ?_
    exact r_zret hg dX7_layAll_10 rfl rfl
set_option maxHeartbeats 4000000 in
set_option maxRecDepth 100000 in
theorem e_X7_most (N : Nat) (l : Launch) (w : mW) (v1 v2 v3 : Int32) (σ : Mem) : Ev l w shR yX7_most cX7_most 4 (some .int) 1 37 [.ref (w.2.1 0), .int v1, .int v2, .int v3] σ (f_X7_most N v1 v2 v3 σ) := by
  refine Ev.of (by decide) (m_c1_r (m_c1_i (m_c1_i (m_c1_i m_c1_nil)))) (Nat.le_of_ble_eq_true rfl) (fun p e s m args below meth c hg => ?_)
  have hdp := Nat.le_refl 37
  unfold f_X7_most
  show Vj (p, l, e, 37, s, m, args, below, meth, c) w shR 4 1 σ 0 [(0, .ref (w.2.1 0)), (1, .int v1), (2, .int v2), (3, .int v3)] [] _
  refine r_aload_n hg 0 dX7_most_0 rfl ?_
  refine r_iconst hg 0 dX7_most_1 (by decide) ?_
  refine q_put (j := 0) hg rfl rfl rfl (by decide) iX7 kf_RX7_68 rfl tyX7_ok nmX7 rfl rfl dX7_most_2 (fun σ1 => ?_)
  refine r_aload_n hg 0 dX7_most_5 rfl ?_
  refine r_iload_n hg 1 dX7_most_6 rfl ?_
  refine q_callv1 hg (e_X7_isCover N l w v1 σ1) kk_RX7_139 ki_X7_isCover ks_RX7_X7_isCover rfl rfl np_X7_isCover (Nat.le_trans (by decide) hdp) rfl m_c1_nil (Nat.le_of_ble_eq_true rfl) dX7_most_7 (fun r2 σ3 => ?_)
  refine r_if_eq hg 39 dX7_most_10 (by decide) ?_ ?_
  · refine r_ldc hg kv_RX7_216 dX7_most_39 ?_
    exact r_iret hg dX7_most_41 rfl rfl
  · refine r_aload_n hg 0 dX7_most_13 rfl ?_
    refine r_iload_n hg 2 dX7_most_14 rfl ?_
    refine q_callv1 hg (e_X7_isSet N l w v2 σ3) kk_RX7_172 ki_X7_isSet ks_RX7_X7_isSet rfl rfl np_X7_isSet (Nat.le_trans (by decide) hdp) rfl m_c1_nil (Nat.le_of_ble_eq_true rfl) dX7_most_15 (fun r4 σ5 => ?_)
    refine r_if_eq hg 39 dX7_most_18 (by decide) ?_ ?_
    · refine r_ldc hg kv_RX7_216 dX7_most_39 ?_
      exact r_iret hg dX7_most_41 rfl rfl
    · refine r_iload_n hg 3 dX7_most_21 rfl ?_
      refine r_iconst hg 0 dX7_most_22 (by decide) ?_
      refine r_iconst hg 3 dX7_most_23 (by decide) ?_
      refine q_calls1 hg (e_X7_isIn N l w v3 0 3 σ5) kk_RX7_107 kt_X7_isIn np_X7_isIn (Nat.le_trans (by decide) hdp) rfl m_c1_nil (Nat.le_of_ble_eq_true rfl) dX7_most_24 (fun r6 σ7 => ?_)
      refine r_if_eq hg 39 dX7_most_27 (by decide) ?_ ?_
      · refine r_ldc hg kv_RX7_216 dX7_most_39 ?_
        exact r_iret hg dX7_most_41 rfl rfl
      · refine r_aload_n hg 0 dX7_most_30 rfl ?_
        refine r_iload_n hg 1 dX7_most_31 rfl ?_
        refine r_iload_n hg 2 dX7_most_32 rfl ?_
        refine q_callv1 hg (e_X7_layAll N l w v1 v2 σ7) kk_RX7_287 ki_X7_layAll ks_RX7_X7_layAll rfl rfl np_X7_layAll (Nat.le_trans (by decide) hdp) rfl m_c1_nil (Nat.le_of_ble_eq_true rfl) dX7_most_33 (fun r8 σ9 => ?_)
        refine r_if_ne hg 42 dX7_most_36 (by decide) ?_ ?_
        · refine r_iload_n hg 3 dX7_most_42 rfl ?_
          refine r_if_ne hg 53 dX7_most_43 (by decide) ?_ ?_
          · refine r_iload_n hg 3 dX7_most_53 rfl ?_
            refine r_iconst hg 1 dX7_most_54 (by decide) ?_
            refine r_icmp_ne hg 65 dX7_most_55 (by decide) ?_ ?_
            · refine r_iload_n hg 3 dX7_most_65 rfl ?_
              refine r_iconst hg 2 dX7_most_66 (by decide) ?_
              refine r_icmp_ne hg 77 dX7_most_67 (by decide) ?_ ?_
              · refine r_aload_n hg 0 dX7_most_77 rfl ?_
                refine q_geti (j := 30) hg rfl rfl rfl (by decide) iX7 kf_RX7_257 rfl dX7_most_78 ?_
                exact r_iret hg dX7_most_81 rfl rfl
              · refine r_aload_n hg 0 dX7_most_70 rfl ?_
                refine q_geti (j := 29) hg rfl rfl rfl (by decide) iX7 kf_RX7_251 rfl dX7_most_71 ?_
                refine r_goto hg 81 dX7_most_74 (by decide) ?_
                exact r_iret hg dX7_most_81 rfl rfl
            · refine r_aload_n hg 0 dX7_most_58 rfl ?_
              refine q_geti (j := 28) hg rfl rfl rfl (by decide) iX7 kf_RX7_254 rfl dX7_most_59 ?_
              refine r_goto hg 81 dX7_most_62 (by decide) ?_
              exact r_iret hg dX7_most_81 rfl rfl
          · refine r_aload_n hg 0 dX7_most_46 rfl ?_
            refine q_geti (j := 27) hg rfl rfl rfl (by decide) iX7 kf_RX7_248 rfl dX7_most_47 ?_
            refine r_goto hg 81 dX7_most_50 (by decide) ?_
            exact r_iret hg dX7_most_81 rfl rfl
        · refine r_ldc hg kv_RX7_216 dX7_most_39 ?_
          exact r_iret hg dX7_most_41 rfl rfl
set_option maxHeartbeats 4000000 in
set_option maxRecDepth 100000 in
theorem e_X7_net (N : Nat) (l : Launch) (w : mW) (v1 v2 v3 : Int32) (σ : Mem) : Ev l w shR yX7_net cX7_net 4 (some .int) 1 37 [.ref (w.2.1 0), .int v1, .int v2, .int v3] σ (f_X7_net N v1 v2 v3 σ) := by
  refine Ev.of (by decide) (m_c1_r (m_c1_i (m_c1_i (m_c1_i m_c1_nil)))) (Nat.le_of_ble_eq_true rfl) (fun p e s m args below meth c hg => ?_)
  have hdp := Nat.le_refl 37
  unfold f_X7_net
  show Vj (p, l, e, 37, s, m, args, below, meth, c) w shR 4 1 σ 0 [(0, .ref (w.2.1 0)), (1, .int v1), (2, .int v2), (3, .int v3)] [] _
  refine r_aload_n hg 0 dX7_net_0 rfl ?_
  refine r_iconst hg 0 dX7_net_1 (by decide) ?_
  refine q_put (j := 0) hg rfl rfl rfl (by decide) iX7 kf_RX7_68 rfl tyX7_ok nmX7 rfl rfl dX7_net_2 (fun σ1 => ?_)
  refine r_aload_n hg 0 dX7_net_5 rfl ?_
  refine r_iload_n hg 1 dX7_net_6 rfl ?_
  refine q_callv1 hg (e_X7_isCover N l w v1 σ1) kk_RX7_139 ki_X7_isCover ks_RX7_X7_isCover rfl rfl np_X7_isCover (Nat.le_trans (by decide) hdp) rfl m_c1_nil (Nat.le_of_ble_eq_true rfl) dX7_net_7 (fun r2 σ3 => ?_)
  refine r_if_eq hg 39 dX7_net_10 (by decide) ?_ ?_
  · refine r_ldc hg kv_RX7_216 dX7_net_39 ?_
    exact r_iret hg dX7_net_41 rfl rfl
  · refine r_aload_n hg 0 dX7_net_13 rfl ?_
    refine r_iload_n hg 2 dX7_net_14 rfl ?_
    refine q_callv1 hg (e_X7_isSet N l w v2 σ3) kk_RX7_172 ki_X7_isSet ks_RX7_X7_isSet rfl rfl np_X7_isSet (Nat.le_trans (by decide) hdp) rfl m_c1_nil (Nat.le_of_ble_eq_true rfl) dX7_net_15 (fun r4 σ5 => ?_)
    refine r_if_eq hg 39 dX7_net_18 (by decide) ?_ ?_
    · refine r_ldc hg kv_RX7_216 dX7_net_39 ?_
      exact r_iret hg dX7_net_41 rfl rfl
    · refine r_iload_n hg 3 dX7_net_21 rfl ?_
      refine r_iconst hg 0 dX7_net_22 (by decide) ?_
      refine r_iconst hg 1 dX7_net_23 (by decide) ?_
      refine q_calls1 hg (e_X7_isIn N l w v3 0 1 σ5) kk_RX7_107 kt_X7_isIn np_X7_isIn (Nat.le_trans (by decide) hdp) rfl m_c1_nil (Nat.le_of_ble_eq_true rfl) dX7_net_24 (fun r6 σ7 => ?_)
      refine r_if_eq hg 39 dX7_net_27 (by decide) ?_ ?_
      · refine r_ldc hg kv_RX7_216 dX7_net_39 ?_
        exact r_iret hg dX7_net_41 rfl rfl
      · refine r_aload_n hg 0 dX7_net_30 rfl ?_
        refine r_iload_n hg 1 dX7_net_31 rfl ?_
        refine r_iload_n hg 2 dX7_net_32 rfl ?_
        refine q_callv1 hg (e_X7_layAll N l w v1 v2 σ7) kk_RX7_287 ki_X7_layAll ks_RX7_X7_layAll rfl rfl np_X7_layAll (Nat.le_trans (by decide) hdp) rfl m_c1_nil (Nat.le_of_ble_eq_true rfl) dX7_net_33 (fun r8 σ9 => ?_)
        refine r_if_ne hg 42 dX7_net_36 (by decide) ?_ ?_
        · refine r_iload_n hg 3 dX7_net_42 rfl ?_
          refine r_if_ne hg 53 dX7_net_43 (by decide) ?_ ?_
          · refine r_aload_n hg 0 dX7_net_53 rfl ?_
            refine q_geti (j := 32) hg rfl rfl rfl (by decide) iX7 kf_RX7_263 rfl dX7_net_54 ?_
            exact r_iret hg dX7_net_57 rfl rfl
          · refine r_aload_n hg 0 dX7_net_46 rfl ?_
            refine q_geti (j := 31) hg rfl rfl rfl (by decide) iX7 kf_RX7_260 rfl dX7_net_47 ?_
            refine r_goto hg 57 dX7_net_50 (by decide) ?_
            exact r_iret hg dX7_net_57 rfl rfl
        · refine r_ldc hg kv_RX7_216 dX7_net_39 ?_
          exact r_iret hg dX7_net_41 rfl rfl
set_option maxHeartbeats 4000000 in
set_option maxRecDepth 100000 in
theorem vj_X7_ends_110 {N : Nat} (hg : m_ok (p, l, e, d, s, m, args, below, meth, c) w shR cX7_ends 8 RX7 (some .int)) (hdp : 37 ≤ d) {K53 : Int32 → Int32 → Int32 → Int32 → Int32 → Int32 → Int32 → Mem → Option (Int32 × Mem)} (hK53 : ∀ (x1 x2 x3 x4 x5 x6 x7 : Int32) (σ : Mem), Vj (p, l, e, d, s, m, args, below, meth, c) w shR 8 1 σ 53 [(0, .ref (w.2.1 0)), (1, .int x1), (2, .int x2), (3, .int x3), (4, .int x4), (5, .int x5), (6, .int x6), (7, .int x7)] [] (K53 x1 x2 x3 x4 x5 x6 x7 σ)) (x1 x2 x3 x4 x6 x7 y0 : Int32) (σ : Mem) : Vj (p, l, e, d, s, m, args, below, meth, c) w shR 8 1 σ 110 [(0, .ref (w.2.1 0)), (1, .int x1), (2, .int x2), (3, .int x3), (4, .int x4), (6, .int x6), (7, .int x7)] [.int y0] (j_X7_ends_110 N K53 x1 x2 x3 x4 x6 x7 y0 σ) := by
  unfold j_X7_ends_110
  refine r_istore (lv' := [(5, .int y0), (0, .ref (w.2.1 0)), (1, .int x1), (2, .int x2), (3, .int x3), (4, .int x4), (6, .int x6), (7, .int x7)]) hg dX7_ends_110 (by decide) rfl ?_
  refine r_iload hg 6 dX7_ends_112 rfl ?_
  refine r_aload_n hg 1 dX7_ends_114 rfl ?_
  refine q_geti (j := 27) hg rfl rfl rfl (by decide) iX7 kf_RX7_248 rfl dX7_ends_115 ?_
  refine r_max hg km_RX7_152 kt_J9_max_7cf53 kz_RJ9 kc_J9_max_7cf53 (Nat.le_trans (by decide) hdp) m_c1_nil (Nat.le_of_ble_eq_true rfl) dX7_ends_118 ?_
  refine q_name (fun u1 => ?_)
  refine r_istore (lv' := [(6, .int u1), (5, .int y0), (0, .ref (w.2.1 0)), (1, .int x1), (2, .int x2), (3, .int x3), (4, .int x4), (7, .int x7)]) hg dX7_ends_121 (by decide) rfl ?_
  refine r_iinc (lv' := [(7, .int (x7 + 1)), (6, .int u1), (5, .int y0), (0, .ref (w.2.1 0)), (1, .int x1), (2, .int x2), (3, .int x3), (4, .int x4)]) hg 7 (x7 + 1) dX7_ends_123 rfl rfl (by decide) rfl ?_
  refine r_goto hg 53 dX7_ends_126 (by decide) ?_
  refine r_lv [3, 4, 5, 6, 7, 2, 1, 0] rfl ?_
  exact hK53 x1 x2 x3 x4 y0 u1 (x7 + 1) σ
set_option maxHeartbeats 4000000 in
set_option maxRecDepth 100000 in
theorem vb_X7_ends_53 {N : Nat} (hg : m_ok (p, l, e, d, s, m, args, below, meth, c) w shR cX7_ends 8 RX7 (some .int)) (hdp : 37 ≤ d) {K53 : Int32 → Int32 → Int32 → Int32 → Int32 → Int32 → Int32 → Mem → Option (Int32 × Mem)} (hK53 : ∀ (x1 x2 x3 x4 x5 x6 x7 : Int32) (σ : Mem), Vj (p, l, e, d, s, m, args, below, meth, c) w shR 8 1 σ 53 [(0, .ref (w.2.1 0)), (1, .int x1), (2, .int x2), (3, .int x3), (4, .int x4), (5, .int x5), (6, .int x6), (7, .int x7)] [] (K53 x1 x2 x3 x4 x5 x6 x7 σ)) (x1 x2 x3 x4 x5 x6 x7 : Int32) (σ : Mem) : Vj (p, l, e, d, s, m, args, below, meth, c) w shR 8 1 σ 53 [(0, .ref (w.2.1 0)), (1, .int x1), (2, .int x2), (3, .int x3), (4, .int x4), (5, .int x5), (6, .int x6), (7, .int x7)] [] (b_X7_ends_53 N K53 x1 x2 x3 x4 x5 x6 x7 σ) := by
  unfold b_X7_ends_53
  refine r_iload hg 7 dX7_ends_53 rfl ?_
  refine r_aload_n hg 0 dX7_ends_55 rfl ?_
  refine q_getr (j := 10) hg rfl rfl rfl (by decide) iX7 kf_RX7_23 rfl dX7_ends_56 ?_
  refine r_iload_n hg 2 dX7_ends_59 rfl ?_
  refine r_iaload (n := 12) hg rfl dX7_ends_60 ?_
  refine r_icmp_gt hg 129 dX7_ends_61 (by decide) ?_ ?_
  · refine r_aload_n hg 0 dX7_ends_129 rfl ?_
    refine q_getr (j := 9) hg rfl rfl rfl (by decide) iX7 kf_RX7_20 rfl dX7_ends_130 ?_
    refine r_iload_n hg 2 dX7_ends_133 rfl ?_
    refine r_iload hg 4 dX7_ends_134 rfl ?_
    refine q_iastore (n := 12) hg rfl dX7_ends_136 (fun σ1 => ?_)
    refine r_iload_n hg 3 dX7_ends_137 rfl ?_
    refine r_if_ne hg 146 dX7_ends_138 (by decide) ?_ ?_
    · refine r_iload hg 6 dX7_ends_146 rfl ?_
      exact r_iret hg dX7_ends_148 rfl rfl
    · refine r_iload hg 5 dX7_ends_141 rfl ?_
      refine r_goto hg 148 dX7_ends_143 (by decide) ?_
      exact r_iret hg dX7_ends_148 rfl rfl
  · refine r_aload_n hg 0 dX7_ends_64 rfl ?_
    refine q_getr (j := 9) hg rfl rfl rfl (by decide) iX7 kf_RX7_20 rfl dX7_ends_65 ?_
    refine r_iload_n hg 2 dX7_ends_68 rfl ?_
    refine r_iload hg 7 dX7_ends_69 rfl ?_
    refine q_iastore (n := 12) hg rfl dX7_ends_71 (fun σ2 => ?_)
    refine r_aload_n hg 0 dX7_ends_72 rfl ?_
    refine r_iload_n hg 1 dX7_ends_73 rfl ?_
    refine r_aload_n hg 0 dX7_ends_74 rfl ?_
    refine q_callv1 hg (e_X7_every N l w σ2) kk_RX7_236 ki_X7_every ks_RX7_X7_every rfl rfl np_X7_every (Nat.le_trans (by decide) hdp) rfl (m_c1_i (m_c1_r m_c1_nil)) (Nat.le_of_ble_eq_true rfl) dX7_ends_75 (fun r3 σ4 => ?_)
    refine q_callv1 hg (e_X7_layAll N l w x1 r3 σ4) kk_RX7_287 ki_X7_layAll ks_RX7_X7_layAll rfl rfl np_X7_layAll (Nat.le_trans (by decide) hdp) rfl m_c1_nil (Nat.le_of_ble_eq_true rfl) dX7_ends_78 (fun r5 σ6 => ?_)
    refine r_if_ne hg 87 dX7_ends_81 (by decide) ?_ ?_
    · refine r_iload hg 5 dX7_ends_87 rfl ?_
      refine r_ldc hg kv_RX7_216 dX7_ends_89 ?_
      refine r_icmp_ne hg 101 dX7_ends_91 (by decide) ?_ ?_
      · refine r_iload hg 5 dX7_ends_101 rfl ?_
        refine r_aload_n hg 0 dX7_ends_103 rfl ?_
        refine q_geti (j := 27) hg rfl rfl rfl (by decide) iX7 kf_RX7_248 rfl dX7_ends_104 ?_
        refine r_min hg km_RX7_160 kt_J9_min_7cf53 kz_RJ9 kc_J9_min_7cf53 (Nat.le_trans (by decide) hdp) m_c1_nil (Nat.le_of_ble_eq_true rfl) dX7_ends_107 ?_
        refine r_lv [0, 1, 2, 3, 4, 6, 7] rfl ?_
        exact vj_X7_ends_110 hg hdp hK53 x1 x2 x3 x4 x6 x7 (imin x5 (σ6 0 27)) σ6
      · refine r_aload_n hg 0 dX7_ends_94 rfl ?_
        refine q_geti (j := 27) hg rfl rfl rfl (by decide) iX7 kf_RX7_248 rfl dX7_ends_95 ?_
        refine r_goto hg 110 dX7_ends_98 (by decide) ?_
        refine r_lv [0, 1, 2, 3, 4, 6, 7] rfl ?_
        exact vj_X7_ends_110 hg hdp hK53 x1 x2 x3 x4 x6 x7 (σ6 0 27) σ6
    · refine r_goto hg 123 dX7_ends_84 (by decide) ?_
      refine r_iinc (lv' := [(7, .int (x7 + 1)), (0, .ref (w.2.1 0)), (1, .int x1), (2, .int x2), (3, .int x3), (4, .int x4), (5, .int x5), (6, .int x6)]) hg 7 (x7 + 1) dX7_ends_123 rfl rfl (by decide) rfl ?_
      refine r_goto hg 53 dX7_ends_126 (by decide) ?_
      refine r_lv [1, 2, 3, 4, 5, 6, 7, 0] rfl ?_
      exact hK53 x1 x2 x3 x4 x5 x6 (x7 + 1) σ6
set_option maxHeartbeats 4000000 in
set_option maxRecDepth 100000 in
theorem vl_X7_ends_53 {N : Nat} (hg : m_ok (p, l, e, d, s, m, args, below, meth, c) w shR cX7_ends 8 RX7 (some .int)) (hdp : 37 ≤ d) : ∀ (n : Nat) (x1 x2 x3 x4 x5 x6 x7 : Int32) (σ : Mem), Vj (p, l, e, d, s, m, args, below, meth, c) w shR 8 1 σ 53 [(0, .ref (w.2.1 0)), (1, .int x1), (2, .int x2), (3, .int x3), (4, .int x4), (5, .int x5), (6, .int x6), (7, .int x7)] [] (l_X7_ends_53 N n x1 x2 x3 x4 x5 x6 x7 σ)
| 0, _, _, _, _, _, _, _, _ => Vj.none
| n + 1, x1, x2, x3, x4, x5, x6, x7, σ => vb_X7_ends_53 hg hdp (fun x1 x2 x3 x4 x5 x6 x7 σ => vl_X7_ends_53 hg hdp n x1 x2 x3 x4 x5 x6 x7 σ) x1 x2 x3 x4 x5 x6 x7 σ
set_option maxHeartbeats 4000000 in
set_option maxRecDepth 100000 in
theorem e_X7_ends (N : Nat) (l : Launch) (w : mW) (v1 v2 v3 : Int32) (σ : Mem) : Ev l w shR yX7_ends cX7_ends 8 (some .int) 1 37 [.ref (w.2.1 0), .int v1, .int v2, .int v3] σ (f_X7_ends N v1 v2 v3 σ) := by
  refine Ev.of (by decide) (m_c1_r (m_c1_i (m_c1_i (m_c1_i m_c1_nil)))) (Nat.le_of_ble_eq_true rfl) (fun p e s m args below meth c hg => ?_)
  have hdp := Nat.le_refl 37
  unfold f_X7_ends
  show Vj (p, l, e, 37, s, m, args, below, meth, c) w shR 8 1 σ 0 [(0, .ref (w.2.1 0)), (1, .int v1), (2, .int v2), (3, .int v3)] [] _
  refine r_aload_n hg 0 dX7_ends_0 rfl ?_
  refine r_iconst hg 0 dX7_ends_1 (by decide) ?_
  refine q_put (j := 0) hg rfl rfl rfl (by decide) iX7 kf_RX7_68 rfl tyX7_ok nmX7 rfl rfl dX7_ends_2 (fun σ1 => ?_)
  refine r_aload_n hg 0 dX7_ends_5 rfl ?_
  refine r_iload_n hg 1 dX7_ends_6 rfl ?_
  refine q_callv1 hg (e_X7_isCover N l w v1 σ1) kk_RX7_139 ki_X7_isCover ks_RX7_X7_isCover rfl rfl np_X7_isCover (Nat.le_trans (by decide) hdp) rfl m_c1_nil (Nat.le_of_ble_eq_true rfl) dX7_ends_7 (fun r2 σ3 => ?_)
  refine r_if_eq hg 30 dX7_ends_10 (by decide) ?_ ?_
  · refine r_ldc hg kv_RX7_216 dX7_ends_30 ?_
    exact r_iret hg dX7_ends_32 rfl rfl
  · refine r_aload_n hg 0 dX7_ends_13 rfl ?_
    refine r_iload_n hg 2 dX7_ends_14 rfl ?_
    refine q_callv1 hg (e_X7_isLoss N l w v2 σ3) kk_RX7_149 ki_X7_isLoss ks_RX7_X7_isLoss rfl rfl np_X7_isLoss (Nat.le_trans (by decide) hdp) rfl m_c1_nil (Nat.le_of_ble_eq_true rfl) dX7_ends_15 (fun r4 σ5 => ?_)
    refine r_if_eq hg 30 dX7_ends_18 (by decide) ?_ ?_
    · refine r_ldc hg kv_RX7_216 dX7_ends_30 ?_
      exact r_iret hg dX7_ends_32 rfl rfl
    · refine r_iload_n hg 3 dX7_ends_21 rfl ?_
      refine r_iconst hg 0 dX7_ends_22 (by decide) ?_
      refine r_iconst hg 1 dX7_ends_23 (by decide) ?_
      refine q_calls1 hg (e_X7_isIn N l w v3 0 1 σ5) kk_RX7_107 kt_X7_isIn np_X7_isIn (Nat.le_trans (by decide) hdp) rfl m_c1_nil (Nat.le_of_ble_eq_true rfl) dX7_ends_24 (fun r6 σ7 => ?_)
      refine r_if_ne hg 33 dX7_ends_27 (by decide) ?_ ?_
      · refine r_aload_n hg 0 dX7_ends_33 rfl ?_
        refine q_getr (j := 9) hg rfl rfl rfl (by decide) iX7 kf_RX7_20 rfl dX7_ends_34 ?_
        refine r_iload_n hg 2 dX7_ends_37 rfl ?_
        refine r_iaload (n := 12) hg rfl dX7_ends_38 ?_
        refine q_name (fun u8 => ?_)
        refine r_istore (lv' := [(4, .int u8), (0, .ref (w.2.1 0)), (1, .int v1), (2, .int v2), (3, .int v3)]) hg dX7_ends_39 (by decide) rfl ?_
        refine r_ldc hg kv_RX7_216 dX7_ends_41 ?_
        refine q_name (fun u9 => ?_)
        refine r_istore (lv' := [(5, .int u9), (4, .int u8), (0, .ref (w.2.1 0)), (1, .int v1), (2, .int v2), (3, .int v3)]) hg dX7_ends_43 (by decide) rfl ?_
        refine r_ldc hg kv_RX7_216 dX7_ends_45 ?_
        refine q_name (fun u10 => ?_)
        refine r_istore (lv' := [(6, .int u10), (5, .int u9), (4, .int u8), (0, .ref (w.2.1 0)), (1, .int v1), (2, .int v2), (3, .int v3)]) hg dX7_ends_47 (by decide) rfl ?_
        refine r_iload hg 2 dX7_ends_49 rfl ?_
        refine r_istore (lv' := [(7, .int u8), (6, .int u10), (5, .int u9), (4, .int u8), (0, .ref (w.2.1 0)), (1, .int v1), (2, .int v2), (3, .int v3)]) hg dX7_ends_51 (by decide) rfl ?_
        refine r_lv [4, 5, 6, 7, 3, 2, 1, 0] rfl ?_
        exact vl_X7_ends_53 hg hdp N v1 v2 v3 u8 u9 u10 u8 σ7
      · refine r_ldc hg kv_RX7_216 dX7_ends_30 ?_
        exact r_iret hg dX7_ends_32 rfl rfl
set_option maxHeartbeats 4000000 in
set_option maxRecDepth 100000 in
theorem vj_X7_hangs_66 {N : Nat} (hg : m_ok (p, l, e, d, s, m, args, below, meth, c) w shR cX7_hangs 5 RX7 (some .int)) (hdp : 37 ≤ d) {K22 : Int32 → Int32 → Int32 → Int32 → Mem → Option (Int32 × Mem)} (hK22 : ∀ (x1 x2 x3 x4 : Int32) (σ : Mem), Vj (p, l, e, d, s, m, args, below, meth, c) w shR 5 1 σ 22 [(0, .ref (w.2.1 0)), (1, .int x1), (2, .int x2), (3, .int x3), (4, .int x4)] [] (K22 x1 x2 x3 x4 σ)) (x1 x4 : Int32) (σ : Mem) : Vj (p, l, e, d, s, m, args, below, meth, c) w shR 5 1 σ 66 [(0, .ref (w.2.1 0)), (1, .int x1), (4, .int x4)] [] (j_X7_hangs_66 N K22 x1 x4 σ) := by
  unfold j_X7_hangs_66
  refine r_iload hg 2 dX7_hangs_66 rfl ?_
  refine r_istore_n (lv' := [(2, .int x4), (0, .ref (w.2.1 0)), (1, .int x1), (4, .int x4)]) hg dX7_hangs_68 (by decide) rfl ?_
  refine r_aload_n hg 1 dX7_hangs_69 rfl ?_
  refine q_geti (j := 27) hg rfl rfl rfl (by decide) iX7 kf_RX7_248 rfl dX7_hangs_70 ?_
  refine q_name (fun u1 => ?_)
  refine r_istore_n (lv' := [(3, .int u1), (2, .int x4), (0, .ref (w.2.1 0)), (1, .int x1), (4, .int x4)]) hg dX7_hangs_73 (by decide) rfl ?_
  refine r_iinc (lv' := [(4, .int (x4 + 1)), (3, .int u1), (2, .int x4), (0, .ref (w.2.1 0)), (1, .int x1)]) hg 4 (x4 + 1) dX7_hangs_74 rfl rfl (by decide) rfl ?_
  refine r_goto hg 22 dX7_hangs_77 (by decide) ?_
  refine r_lv [3, 4, 2, 1, 0] rfl ?_
  exact hK22 x1 x4 u1 (x4 + 1) σ
set_option maxHeartbeats 4000000 in
set_option maxRecDepth 100000 in
theorem vb_X7_hangs_22 {N : Nat} (hg : m_ok (p, l, e, d, s, m, args, below, meth, c) w shR cX7_hangs 5 RX7 (some .int)) (hdp : 37 ≤ d) {K22 : Int32 → Int32 → Int32 → Int32 → Mem → Option (Int32 × Mem)} (hK22 : ∀ (x1 x2 x3 x4 : Int32) (σ : Mem), Vj (p, l, e, d, s, m, args, below, meth, c) w shR 5 1 σ 22 [(0, .ref (w.2.1 0)), (1, .int x1), (2, .int x2), (3, .int x3), (4, .int x4)] [] (K22 x1 x2 x3 x4 σ)) (x1 x2 x3 x4 : Int32) (σ : Mem) : Vj (p, l, e, d, s, m, args, below, meth, c) w shR 5 1 σ 22 [(0, .ref (w.2.1 0)), (1, .int x1), (2, .int x2), (3, .int x3), (4, .int x4)] [] (b_X7_hangs_22 N K22 x1 x2 x3 x4 σ) := by
  unfold b_X7_hangs_22
  refine r_iload hg 4 dX7_hangs_22 rfl ?_
  refine r_aload_n hg 0 dX7_hangs_24 rfl ?_
  refine q_geti (j := 15) hg rfl rfl rfl (by decide) iX7 kf_RX7_146 rfl dX7_hangs_25 ?_
  refine r_icmp_ge hg 80 dX7_hangs_28 (by decide) ?_ ?_
  · refine r_iload_n hg 2 dX7_hangs_80 rfl ?_
    exact r_iret hg dX7_hangs_81 rfl rfl
  · refine r_aload_n hg 0 dX7_hangs_31 rfl ?_
    refine r_iload_n hg 1 dX7_hangs_32 rfl ?_
    refine r_aload_n hg 0 dX7_hangs_33 rfl ?_
    refine q_callv1 hg (e_X7_every N l w σ) kk_RX7_236 ki_X7_every ks_RX7_X7_every rfl rfl np_X7_every (Nat.le_trans (by decide) hdp) rfl (m_c1_i (m_c1_r m_c1_nil)) (Nat.le_of_ble_eq_true rfl) dX7_hangs_34 (fun r1 σ2 => ?_)
    refine r_iconst hg 1 dX7_hangs_37 (by decide) ?_
    refine r_iload hg 4 dX7_hangs_38 rfl ?_
    refine r_ishl hg dX7_hangs_40 ?_
    refine r_iconst hg (-1) dX7_hangs_41 (by decide) ?_
    refine r_ixor hg dX7_hangs_42 ?_
    refine r_iand hg dX7_hangs_43 ?_
    refine q_callv1 hg (e_X7_layAll N l w x1 (r1 &&& ((1 <<< (x4 &&& 31)) ^^^ (-1))) σ2) kk_RX7_287 ki_X7_layAll ks_RX7_X7_layAll rfl rfl np_X7_layAll (Nat.le_trans (by decide) hdp) rfl m_c1_nil (Nat.le_of_ble_eq_true rfl) dX7_hangs_44 (fun r3 σ4 => ?_)
    refine r_if_eq hg 74 dX7_hangs_47 (by decide) ?_ ?_
    · refine r_iinc (lv' := [(4, .int (x4 + 1)), (0, .ref (w.2.1 0)), (1, .int x1), (2, .int x2), (3, .int x3)]) hg 4 (x4 + 1) dX7_hangs_74 rfl rfl (by decide) rfl ?_
      refine r_goto hg 22 dX7_hangs_77 (by decide) ?_
      refine r_lv [1, 2, 3, 4, 0] rfl ?_
      exact hK22 x1 x2 x3 (x4 + 1) σ4
    · refine r_iload_n hg 2 dX7_hangs_50 rfl ?_
      refine r_iconst hg (-1) dX7_hangs_51 (by decide) ?_
      refine r_icmp_eq hg 66 dX7_hangs_52 (by decide) ?_ ?_
      · refine r_lv [0, 1, 4] rfl ?_
        exact vj_X7_hangs_66 hg hdp hK22 x1 x4 σ4
      · refine r_aload_n hg 0 dX7_hangs_55 rfl ?_
        refine q_geti (j := 27) hg rfl rfl rfl (by decide) iX7 kf_RX7_248 rfl dX7_hangs_56 ?_
        refine r_iload_n hg 3 dX7_hangs_59 rfl ?_
        refine r_icmp_lt hg 66 dX7_hangs_60 (by decide) ?_ ?_
        · refine r_lv [0, 1, 4] rfl ?_
          exact vj_X7_hangs_66 hg hdp hK22 x1 x4 σ4
        · refine r_goto hg 74 dX7_hangs_63 (by decide) ?_
          refine r_iinc (lv' := [(4, .int (x4 + 1)), (0, .ref (w.2.1 0)), (1, .int x1), (2, .int x2), (3, .int x3)]) hg 4 (x4 + 1) dX7_hangs_74 rfl rfl (by decide) rfl ?_
          refine r_goto hg 22 dX7_hangs_77 (by decide) ?_
          refine r_lv [1, 2, 3, 4, 0] rfl ?_
          exact hK22 x1 x2 x3 (x4 + 1) σ4
set_option maxHeartbeats 4000000 in
set_option maxRecDepth 100000 in
theorem vl_X7_hangs_22 {N : Nat} (hg : m_ok (p, l, e, d, s, m, args, below, meth, c) w shR cX7_hangs 5 RX7 (some .int)) (hdp : 37 ≤ d) : ∀ (n : Nat) (x1 x2 x3 x4 : Int32) (σ : Mem), Vj (p, l, e, d, s, m, args, below, meth, c) w shR 5 1 σ 22 [(0, .ref (w.2.1 0)), (1, .int x1), (2, .int x2), (3, .int x3), (4, .int x4)] [] (l_X7_hangs_22 N n x1 x2 x3 x4 σ)
| 0, _, _, _, _, _ => Vj.none
| n + 1, x1, x2, x3, x4, σ => vb_X7_hangs_22 hg hdp (fun x1 x2 x3 x4 σ => vl_X7_hangs_22 hg hdp n x1 x2 x3 x4 σ) x1 x2 x3 x4 σ
set_option maxHeartbeats 4000000 in
set_option maxRecDepth 100000 in
theorem e_X7_hangs (N : Nat) (l : Launch) (w : mW) (v1 : Int32) (σ : Mem) : Ev l w shR yX7_hangs cX7_hangs 5 (some .int) 1 37 [.ref (w.2.1 0), .int v1] σ (f_X7_hangs N v1 σ) := by
  refine Ev.of (by decide) (m_c1_r (m_c1_i m_c1_nil)) (Nat.le_of_ble_eq_true rfl) (fun p e s m args below meth c hg => ?_)
  have hdp := Nat.le_refl 37
  unfold f_X7_hangs
  show Vj (p, l, e, 37, s, m, args, below, meth, c) w shR 5 1 σ 0 [(0, .ref (w.2.1 0)), (1, .int v1)] [] _
  refine r_aload_n hg 0 dX7_hangs_0 rfl ?_
  refine r_iconst hg 0 dX7_hangs_1 (by decide) ?_
  refine q_put (j := 0) hg rfl rfl rfl (by decide) iX7 kf_RX7_68 rfl tyX7_ok nmX7 rfl rfl dX7_hangs_2 (fun σ1 => ?_)
  refine r_aload_n hg 0 dX7_hangs_5 rfl ?_
  refine r_iload_n hg 1 dX7_hangs_6 rfl ?_
  refine q_callv1 hg (e_X7_isCover N l w v1 σ1) kk_RX7_139 ki_X7_isCover ks_RX7_X7_isCover rfl rfl np_X7_isCover (Nat.le_trans (by decide) hdp) rfl m_c1_nil (Nat.le_of_ble_eq_true rfl) dX7_hangs_7 (fun r2 σ3 => ?_)
  refine r_if_ne hg 15 dX7_hangs_10 (by decide) ?_ ?_
  · refine r_iconst hg (-1) dX7_hangs_15 (by decide) ?_
    refine q_name (fun u4 => ?_)
    refine r_istore_n (lv' := [(2, .int u4), (0, .ref (w.2.1 0)), (1, .int v1)]) hg dX7_hangs_16 (by decide) rfl ?_
    refine r_iconst hg 0 dX7_hangs_17 (by decide) ?_
    refine r_istore_n (lv' := [(3, .int 0), (2, .int u4), (0, .ref (w.2.1 0)), (1, .int v1)]) hg dX7_hangs_18 (by decide) rfl ?_
    refine r_iconst hg 0 dX7_hangs_19 (by decide) ?_
    refine r_istore (lv' := [(4, .int 0), (3, .int 0), (2, .int u4), (0, .ref (w.2.1 0)), (1, .int v1)]) hg dX7_hangs_20 (by decide) rfl ?_
    refine r_lv [3, 4, 2, 1, 0] rfl ?_
    exact vl_X7_hangs_22 hg hdp N v1 u4 0 0 σ3
  · refine r_iconst hg (-1) dX7_hangs_13 (by decide) ?_
    exact r_iret hg dX7_hangs_14 rfl rfl
set_option maxHeartbeats 4000000 in
set_option maxRecDepth 100000 in
theorem e_X7_told (N : Nat) (l : Launch) (w : mW) (v1 v2 v3 : Int32) (σ : Mem) : Ev l w shR yX7_told cX7_told 6 (some .int) 1 37 [.ref (w.2.1 0), .int v1, .int v2, .int v3] σ (f_X7_told N v1 v2 v3 σ) := by
  refine Ev.of (by decide) (m_c1_r (m_c1_i (m_c1_i (m_c1_i m_c1_nil)))) (Nat.le_of_ble_eq_true rfl) (fun p e s m args below meth c hg => ?_)
  have hdp := Nat.le_refl 37
  unfold f_X7_told
  show Vj (p, l, e, 37, s, m, args, below, meth, c) w shR 6 1 σ 0 [(0, .ref (w.2.1 0)), (1, .int v1), (2, .int v2), (3, .int v3)] [] _
  refine r_aload_n hg 0 dX7_told_0 rfl ?_
  refine r_iconst hg 0 dX7_told_1 (by decide) ?_
  refine q_put (j := 0) hg rfl rfl rfl (by decide) iX7 kf_RX7_68 rfl tyX7_ok nmX7 rfl rfl dX7_told_2 (fun σ1 => ?_)
  refine r_aload_n hg 0 dX7_told_5 rfl ?_
  refine r_iload_n hg 1 dX7_told_6 rfl ?_
  refine q_callv1 hg (e_X7_isCover N l w v1 σ1) kk_RX7_139 ki_X7_isCover ks_RX7_X7_isCover rfl rfl np_X7_isCover (Nat.le_trans (by decide) hdp) rfl m_c1_nil (Nat.le_of_ble_eq_true rfl) dX7_told_7 (fun r2 σ3 => ?_)
  refine r_if_eq hg 43 dX7_told_10 (by decide) ?_ ?_
  · refine r_ldc hg kv_RX7_216 dX7_told_43 ?_
    exact r_iret hg dX7_told_45 rfl rfl
  · refine r_aload_n hg 0 dX7_told_13 rfl ?_
    refine r_iload_n hg 2 dX7_told_14 rfl ?_
    refine q_callv1 hg (e_X7_isLoss N l w v2 σ3) kk_RX7_149 ki_X7_isLoss ks_RX7_X7_isLoss rfl rfl np_X7_isLoss (Nat.le_trans (by decide) hdp) rfl m_c1_nil (Nat.le_of_ble_eq_true rfl) dX7_told_15 (fun r4 σ5 => ?_)
    refine r_if_eq hg 43 dX7_told_18 (by decide) ?_ ?_
    · refine r_ldc hg kv_RX7_216 dX7_told_43 ?_
      exact r_iret hg dX7_told_45 rfl rfl
    · refine r_iload_n hg 3 dX7_told_21 rfl ?_
      refine r_iconst hg 0 dX7_told_22 (by decide) ?_
      refine r_iconst hg 5 dX7_told_23 (by decide) ?_
      refine q_calls1 hg (e_X7_isIn N l w v3 0 5 σ5) kk_RX7_107 kt_X7_isIn np_X7_isIn (Nat.le_trans (by decide) hdp) rfl m_c1_nil (Nat.le_of_ble_eq_true rfl) dX7_told_24 (fun r6 σ7 => ?_)
      refine r_if_eq hg 43 dX7_told_27 (by decide) ?_ ?_
      · refine r_ldc hg kv_RX7_216 dX7_told_43 ?_
        exact r_iret hg dX7_told_45 rfl rfl
      · refine r_aload_n hg 0 dX7_told_30 rfl ?_
        refine q_getr (j := 13) hg rfl rfl rfl (by decide) iX7 kf_RX7_32 rfl dX7_told_31 ?_
        refine r_iload_n hg 2 dX7_told_34 rfl ?_
        refine r_iaload (n := 12) hg rfl dX7_told_35 ?_
        refine r_iload_n hg 3 dX7_told_36 rfl ?_
        refine q_calls1 hg (e_X7_has N l w (σ7 8 v2.toNatClampNeg) v3 σ7) kk_RX7_157 kt_X7_has np_X7_has (Nat.le_trans (by decide) hdp) rfl m_c1_nil (Nat.le_of_ble_eq_true rfl) dX7_told_37 (fun r8 σ9 => ?_)
        refine r_if_ne hg 46 dX7_told_40 (by decide) ?_ ?_
        · refine r_aload_n hg 0 dX7_told_46 rfl ?_
          refine q_getr (j := 13) hg rfl rfl rfl (by decide) iX7 kf_RX7_32 rfl dX7_told_47 ?_
          refine r_iload_n hg 2 dX7_told_50 rfl ?_
          refine r_iaload (n := 12) hg rfl dX7_told_51 ?_
          refine q_name (fun u10 => ?_)
          refine r_istore (lv' := [(4, .int u10), (0, .ref (w.2.1 0)), (1, .int v1), (2, .int v2), (3, .int v3)]) hg dX7_told_52 (by decide) rfl ?_
          refine r_aload_n hg 1 dX7_told_54 rfl ?_
          refine q_getr (j := 13) hg rfl rfl rfl (by decide) iX7 kf_RX7_32 rfl dX7_told_55 ?_
          refine r_iload_n hg 3 dX7_told_58 rfl ?_
          refine r_iconst hg 1 dX7_told_59 (by decide) ?_
          refine r_iload_n hg 4 dX7_told_60 rfl ?_
          refine r_ishl hg dX7_told_61 ?_
          refine q_iastore (n := 12) hg rfl dX7_told_62 (fun σ11 => ?_)
          refine r_aload_n hg 1 dX7_told_63 rfl ?_
          refine r_iload_n hg 2 dX7_told_64 rfl ?_
          refine r_aload_n hg 1 dX7_told_65 rfl ?_
          refine q_callv1 hg (e_X7_every N l w σ11) kk_RX7_236 ki_X7_every ks_RX7_X7_every rfl rfl np_X7_every (Nat.le_trans (by decide) hdp) rfl (m_c1_i (m_c1_r m_c1_nil)) (Nat.le_of_ble_eq_true rfl) dX7_told_66 (fun r12 σ13 => ?_)
          refine q_callv1 hg (e_X7_layAll N l w v1 r12 σ13) kk_RX7_287 ki_X7_layAll ks_RX7_X7_layAll rfl rfl np_X7_layAll (Nat.le_trans (by decide) hdp) rfl m_c1_nil (Nat.le_of_ble_eq_true rfl) dX7_told_69 (fun r14 σ15 => ?_)
          refine r_istore (lv' := [(5, .int r14), (4, .int u10), (0, .ref (w.2.1 0)), (1, .int v1), (2, .int v2), (3, .int v3)]) hg dX7_told_72 (by decide) rfl ?_
          refine r_aload_n hg 2 dX7_told_74 rfl ?_
          refine q_getr (j := 13) hg rfl rfl rfl (by decide) iX7 kf_RX7_32 rfl dX7_told_75 ?_
          refine r_iload_n hg 4 dX7_told_78 rfl ?_
          refine r_iload hg 1 dX7_told_79 rfl ?_
          refine q_iastore (n := 12) hg rfl dX7_told_81 (fun σ16 => ?_)
          refine r_iload hg 0 dX7_told_82 rfl ?_
          refine r_if_eq hg 94 dX7_told_84 (by decide) ?_ ?_
          · refine r_ldc hg kv_RX7_216 dX7_told_94 ?_
            exact r_iret hg dX7_told_96 rfl rfl
          · refine r_aload_n hg 2 dX7_told_87 rfl ?_
            refine q_geti (j := 27) hg rfl rfl rfl (by decide) iX7 kf_RX7_248 rfl dX7_told_88 ?_
            refine r_goto hg 96 dX7_told_91 (by decide) ?_
            exact r_iret hg dX7_told_96 rfl rfl
        · refine r_ldc hg kv_RX7_216 dX7_told_43 ?_
          exact r_iret hg dX7_told_45 rfl rfl
set_option maxHeartbeats 4000000 in
set_option maxRecDepth 100000 in
theorem vj_X7_layers_92 {N : Nat} (hg : m_ok (p, l, e, d, s, m, args, below, meth, c) w shR cX7_layers 5 RX7 (some .int)) (hdp : 37 ≤ d) (x1 x3 : Int32) (σ : Mem) : Vj (p, l, e, d, s, m, args, below, meth, c) w shR 5 1 σ 92 [(0, .ref (w.2.1 0)), (1, .int x1), (3, .int x3)] [] (j_X7_layers_92 N x1 x3 σ) := by
  unfold j_X7_layers_92
  refine r_aload_n hg 0 dX7_layers_92 rfl ?_
  refine r_iload_n hg 1 dX7_layers_93 rfl ?_
  refine q_put (j := 25) hg rfl rfl rfl (by decide) iX7 kf_RX7_230 rfl tyX7_ok nmX7 rfl rfl dX7_layers_94 (fun σ1 => ?_)
  refine r_aload_n hg 0 dX7_layers_97 rfl ?_
  refine r_iconst hg 1 dX7_layers_98 (by decide) ?_
  refine q_putz (j := 34) hg rfl rfl rfl (by decide) iX7 kf_RX7_226 rfl tyX7_ok nmX7 rfl rfl dX7_layers_99 (fun σ2 => ?_)
  refine r_aload_n hg 0 dX7_layers_102 rfl ?_
  refine r_aload_n hg 0 dX7_layers_103 rfl ?_
  refine q_callv1 hg (e_X7_every N l w σ2) kk_RX7_236 ki_X7_every ks_RX7_X7_every rfl rfl np_X7_every (Nat.le_trans (by decide) hdp) rfl (m_c1_r m_c1_nil) (Nat.le_of_ble_eq_true rfl) dX7_layers_104 (fun r3 σ4 => ?_)
  refine q_put (j := 26) hg rfl rfl rfl (by decide) iX7 kf_RX7_269 rfl tyX7_ok nmX7 rfl rfl dX7_layers_107 (fun σ5 => ?_)
  refine r_aload_n hg 0 dX7_layers_110 rfl ?_
  refine r_iconst hg 0 dX7_layers_111 (by decide) ?_
  refine q_putz (j := 33) hg rfl rfl rfl (by decide) iX7 kf_RX7_245 rfl tyX7_ok nmX7 rfl rfl dX7_layers_112 (fun σ6 => ?_)
  refine r_aload_n hg 0 dX7_layers_115 rfl ?_
  refine r_iconst hg 0 dX7_layers_116 (by decide) ?_
  refine q_put (j := 22) hg rfl rfl rfl (by decide) iX7 kf_RX7_184 rfl tyX7_ok nmX7 rfl rfl dX7_layers_117 (fun σ7 => ?_)
  refine r_aload_n hg 0 dX7_layers_120 rfl ?_
  refine q_callv0 hg (e_X7_layPairs N l w σ7) kk_RX7_284 ki_X7_layPairs ks_RX7_X7_layPairs rfl rfl np_X7_layPairs (Nat.le_trans (by decide) hdp) rfl m_c1_nil (Nat.le_of_ble_eq_true rfl) dX7_layers_121 (fun r8 σ9 => ?_)
  refine r_iload_n hg 2 dX7_layers_124 rfl ?_
  refine r_if_eq hg 139 dX7_layers_125 (by decide) ?_ ?_
  · refine r_aload_n hg 0 dX7_layers_139 rfl ?_
    refine r_iconst hg 0 dX7_layers_140 (by decide) ?_
    refine q_callv0 hg (e_X7_part N 30 l w 0 σ9) kk_RX7_272 ki_X7_part ks_RX7_X7_part rfl rfl np_X7_part (Nat.le_trans (by decide) hdp) rfl m_c1_nil (Nat.le_of_ble_eq_true rfl) dX7_layers_141 (fun r10 σ11 => ?_)
    refine r_aload_n hg 0 dX7_layers_144 rfl ?_
    refine q_geti (j := 33) hg rfl rfl rfl (by decide) iX7 kf_RX7_245 rfl dX7_layers_145 ?_
    refine r_if_eq hg 158 dX7_layers_148 (by decide) ?_ ?_
    · refine r_ldc hg kv_RX7_216 dX7_layers_158 ?_
      exact r_iret hg dX7_layers_160 rfl rfl
    · refine r_aload_n hg 0 dX7_layers_151 rfl ?_
      refine q_geti (j := 27) hg rfl rfl rfl (by decide) iX7 kf_RX7_248 rfl dX7_layers_152 ?_
      refine r_goto hg 160 dX7_layers_155 (by decide) ?_
      exact r_iret hg dX7_layers_160 rfl rfl
  · refine r_aload_n hg 0 dX7_layers_128 rfl ?_
    refine r_aload_n hg 0 dX7_layers_129 rfl ?_
    refine q_callv1 hg (e_X7_every N l w σ9) kk_RX7_236 ki_X7_every ks_RX7_X7_every rfl rfl np_X7_every (Nat.le_trans (by decide) hdp) rfl (m_c1_r m_c1_nil) (Nat.le_of_ble_eq_true rfl) dX7_layers_130 (fun r12 σ13 => ?_)
    refine q_callv0 hg (e_X7_partByHours N 30 l w r12 σ13) kk_RX7_278 ki_X7_partByHours ks_RX7_X7_partByHours rfl rfl np_X7_partByHours (Nat.le_trans (by decide) hdp) rfl m_c1_nil (Nat.le_of_ble_eq_true rfl) dX7_layers_133 (fun r14 σ15 => ?_)
    refine r_goto hg 144 dX7_layers_136 (by decide) ?_
    refine r_aload_n hg 0 dX7_layers_144 rfl ?_
    refine q_geti (j := 33) hg rfl rfl rfl (by decide) iX7 kf_RX7_245 rfl dX7_layers_145 ?_
    refine r_if_eq hg 158 dX7_layers_148 (by decide) ?_ ?_
    · refine r_ldc hg kv_RX7_216 dX7_layers_158 ?_
      exact r_iret hg dX7_layers_160 rfl rfl
    · refine r_aload_n hg 0 dX7_layers_151 rfl ?_
      refine q_geti (j := 27) hg rfl rfl rfl (by decide) iX7 kf_RX7_248 rfl dX7_layers_152 ?_
      refine r_goto hg 160 dX7_layers_155 (by decide) ?_
      exact r_iret hg dX7_layers_160 rfl rfl
set_option maxHeartbeats 4000000 in
set_option maxRecDepth 100000 in
theorem vb_X7_layers_32 {N : Nat} (hg : m_ok (p, l, e, d, s, m, args, below, meth, c) w shR cX7_layers 5 RX7 (some .int)) (hdp : 37 ≤ d) {K32 : Int32 → Int32 → Int32 → Mem → Option (Int32 × Mem)} (hK32 : ∀ (x1 x3 x4 : Int32) (σ : Mem), Vj (p, l, e, d, s, m, args, below, meth, c) w shR 5 1 σ 32 [(0, .ref (w.2.1 0)), (1, .int x1), (3, .int x3), (4, .int x4)] [] (K32 x1 x3 x4 σ)) (x1 x3 x4 : Int32) (σ : Mem) : Vj (p, l, e, d, s, m, args, below, meth, c) w shR 5 1 σ 32 [(0, .ref (w.2.1 0)), (1, .int x1), (3, .int x3), (4, .int x4)] [] (b_X7_layers_32 N K32 x1 x3 x4 σ) := by
  unfold b_X7_layers_32
  refine r_iload hg 3 dX7_layers_32 rfl ?_
  refine r_aload_n hg 0 dX7_layers_34 rfl ?_
  refine q_geti (j := 7) hg rfl rfl rfl (by decide) iX7 kf_RX7_120 rfl dX7_layers_35 ?_
  refine r_icmp_ge hg 76 dX7_layers_38 (by decide) ?_ ?_
  · refine r_aload_n hg 0 dX7_layers_76 rfl ?_
    refine q_geti (j := 15) hg rfl rfl rfl (by decide) iX7 kf_RX7_146 rfl dX7_layers_77 ?_
    refine r_bipush hg 8 dX7_layers_80 (by decide) ?_
    refine r_icmp_le hg 92 dX7_layers_82 (by decide) ?_ ?_
    · refine r_lv [0, 1, 2] rfl ?_
      exact vj_X7_layers_92 hg hdp x1 x3 σ
    · refine r_iload_n hg 2 dX7_layers_85 rfl ?_
      refine r_if_ne hg 92 dX7_layers_86 (by decide) ?_ ?_
      · refine r_lv [0, 1, 2] rfl ?_
        exact vj_X7_layers_92 hg hdp x1 x3 σ
      · refine r_ldc hg kv_RX7_216 dX7_layers_89 ?_
        exact r_iret hg dX7_layers_91 rfl rfl
  · refine r_iload_n hg 2 dX7_layers_41 rfl ?_
    refine r_if_ne hg 64 dX7_layers_42 (by decide) ?_ ?_
    · refine r_iconst hg 1 dX7_layers_64 (by decide) ?_
      refine r_goto hg 69 dX7_layers_65 (by decide) ?_
      refine r_istore_n (lv' := [(3, .int 1), (0, .ref (w.2.1 0)), (1, .int x1), (4, .int x4)]) hg dX7_layers_69 (by decide) rfl ?_
      refine r_iinc (lv' := [(4, .int (x4 + 1)), (3, .int 1), (0, .ref (w.2.1 0)), (1, .int x1)]) hg 3 (x4 + 1) dX7_layers_70 rfl rfl (by decide) rfl ?_
      refine r_goto hg 32 dX7_layers_73 (by decide) ?_
      refine r_lv [2, 3, 1, 0] rfl ?_
      exact hK32 x1 1 (x4 + 1) σ
    · refine r_iload_n hg 1 dX7_layers_45 rfl ?_
      refine r_iload hg 3 dX7_layers_46 rfl ?_
      refine q_calls1 hg (e_X7_has N l w x1 x4 σ) kk_RX7_157 kt_X7_has np_X7_has (Nat.le_trans (by decide) hdp) rfl m_c1_nil (Nat.le_of_ble_eq_true rfl) dX7_layers_48 (fun r1 σ2 => ?_)
      refine r_if_eq hg 68 dX7_layers_51 (by decide) ?_ ?_
      · refine r_iconst hg 0 dX7_layers_68 (by decide) ?_
        refine r_istore_n (lv' := [(3, .int 0), (0, .ref (w.2.1 0)), (1, .int x1), (4, .int x4)]) hg dX7_layers_69 (by decide) rfl ?_
        refine r_iinc (lv' := [(4, .int (x4 + 1)), (3, .int 0), (0, .ref (w.2.1 0)), (1, .int x1)]) hg 3 (x4 + 1) dX7_layers_70 rfl rfl (by decide) rfl ?_
        refine r_goto hg 32 dX7_layers_73 (by decide) ?_
        refine r_lv [2, 3, 1, 0] rfl ?_
        exact hK32 x1 0 (x4 + 1) σ2
      · refine r_aload_n hg 0 dX7_layers_54 rfl ?_
        refine r_iload hg 3 dX7_layers_55 rfl ?_
        refine r_iconst hg 3 dX7_layers_57 (by decide) ?_
        refine q_callv1 hg (e_X7_wordOf N l w x4 3 σ2) kk_RX7_142 ki_X7_wordOf ks_RX7_X7_wordOf rfl rfl np_X7_wordOf (Nat.le_trans (by decide) hdp) rfl m_c1_nil (Nat.le_of_ble_eq_true rfl) dX7_layers_58 (fun r3 σ4 => ?_)
        refine r_if_ne hg 68 dX7_layers_61 (by decide) ?_ ?_
        · refine r_iconst hg 0 dX7_layers_68 (by decide) ?_
          refine r_istore_n (lv' := [(3, .int 0), (0, .ref (w.2.1 0)), (1, .int x1), (4, .int x4)]) hg dX7_layers_69 (by decide) rfl ?_
          refine r_iinc (lv' := [(4, .int (x4 + 1)), (3, .int 0), (0, .ref (w.2.1 0)), (1, .int x1)]) hg 3 (x4 + 1) dX7_layers_70 rfl rfl (by decide) rfl ?_
          refine r_goto hg 32 dX7_layers_73 (by decide) ?_
          refine r_lv [2, 3, 1, 0] rfl ?_
          exact hK32 x1 0 (x4 + 1) σ4
        · refine r_iconst hg 1 dX7_layers_64 (by decide) ?_
          refine r_goto hg 69 dX7_layers_65 (by decide) ?_
          refine r_istore_n (lv' := [(3, .int 1), (0, .ref (w.2.1 0)), (1, .int x1), (4, .int x4)]) hg dX7_layers_69 (by decide) rfl ?_
          refine r_iinc (lv' := [(4, .int (x4 + 1)), (3, .int 1), (0, .ref (w.2.1 0)), (1, .int x1)]) hg 3 (x4 + 1) dX7_layers_70 rfl rfl (by decide) rfl ?_
          refine r_goto hg 32 dX7_layers_73 (by decide) ?_
          refine r_lv [2, 3, 1, 0] rfl ?_
          exact hK32 x1 1 (x4 + 1) σ4
set_option maxHeartbeats 4000000 in
set_option maxRecDepth 100000 in
theorem vl_X7_layers_32 {N : Nat} (hg : m_ok (p, l, e, d, s, m, args, below, meth, c) w shR cX7_layers 5 RX7 (some .int)) (hdp : 37 ≤ d) : ∀ (n : Nat) (x1 x3 x4 : Int32) (σ : Mem), Vj (p, l, e, d, s, m, args, below, meth, c) w shR 5 1 σ 32 [(0, .ref (w.2.1 0)), (1, .int x1), (3, .int x3), (4, .int x4)] [] (l_X7_layers_32 N n x1 x3 x4 σ)
| 0, _, _, _, _ => Vj.none
| n + 1, x1, x3, x4, σ => vb_X7_layers_32 hg hdp (fun x1 x3 x4 σ => vl_X7_layers_32 hg hdp n x1 x3 x4 σ) x1 x3 x4 σ
set_option maxHeartbeats 4000000 in
set_option maxRecDepth 100000 in
theorem vb_X7_layers_166 {N : Nat} (hg : m_ok (p, l, e, d, s, m, args, below, meth, c) w shR cX7_layers 5 RX7 (some .int)) (hdp : 37 ≤ d) {K166 : Int32 → Int32 → Int32 → Mem → Option (Int32 × Mem)} (hK166 : ∀ (x1 x3 x4 : Int32) (σ : Mem), Vj (p, l, e, d, s, m, args, below, meth, c) w shR 5 1 σ 166 [(0, .ref (w.2.1 0)), (1, .int x1), (3, .int x3), (4, .int x4)] [] (K166 x1 x3 x4 σ)) (x1 x3 x4 : Int32) (σ : Mem) : Vj (p, l, e, d, s, m, args, below, meth, c) w shR 5 1 σ 166 [(0, .ref (w.2.1 0)), (1, .int x1), (3, .int x3), (4, .int x4)] [] (b_X7_layers_166 N K166 x1 x3 x4 σ) := by
  unfold b_X7_layers_166
  refine r_iload hg 3 dX7_layers_166 rfl ?_
  refine r_aload_n hg 0 dX7_layers_168 rfl ?_
  refine q_geti (j := 7) hg rfl rfl rfl (by decide) iX7 kf_RX7_120 rfl dX7_layers_169 ?_
  refine r_icmp_ge hg 216 dX7_layers_172 (by decide) ?_ ?_
  · refine r_iload_n hg 2 dX7_layers_216 rfl ?_
    exact r_iret hg dX7_layers_217 rfl rfl
  · refine r_iload_n hg 1 dX7_layers_175 rfl ?_
    refine r_iload hg 3 dX7_layers_176 rfl ?_
    refine q_calls1 hg (e_X7_has N l w x1 x4 σ) kk_RX7_157 kt_X7_has np_X7_has (Nat.le_trans (by decide) hdp) rfl m_c1_nil (Nat.le_of_ble_eq_true rfl) dX7_layers_178 (fun r1 σ2 => ?_)
    refine r_if_ne hg 187 dX7_layers_181 (by decide) ?_ ?_
    · refine r_aload_n hg 0 dX7_layers_187 rfl ?_
      refine r_iload hg 3 dX7_layers_188 rfl ?_
      refine r_aload_n hg 0 dX7_layers_190 rfl ?_
      refine q_callv1 hg (e_X7_every N l w σ2) kk_RX7_236 ki_X7_every ks_RX7_X7_every rfl rfl np_X7_every (Nat.le_trans (by decide) hdp) rfl (m_c1_i (m_c1_r m_c1_nil)) (Nat.le_of_ble_eq_true rfl) dX7_layers_191 (fun r3 σ4 => ?_)
      refine q_callv1 hg (e_X7_layAll N l w x4 r3 σ4) kk_RX7_287 ki_X7_layAll ks_RX7_X7_layAll rfl rfl np_X7_layAll (Nat.le_trans (by decide) hdp) rfl m_c1_nil (Nat.le_of_ble_eq_true rfl) dX7_layers_194 (fun r5 σ6 => ?_)
      refine r_if_ne hg 203 dX7_layers_197 (by decide) ?_ ?_
      · refine r_iload_n hg 2 dX7_layers_203 rfl ?_
        refine r_aload_n hg 0 dX7_layers_204 rfl ?_
        refine q_geti (j := 27) hg rfl rfl rfl (by decide) iX7 kf_RX7_248 rfl dX7_layers_205 ?_
        refine r_iadd hg dX7_layers_208 ?_
        refine q_name (fun u7 => ?_)
        refine r_istore_n (lv' := [(3, .int u7), (0, .ref (w.2.1 0)), (1, .int x1), (4, .int x4)]) hg dX7_layers_209 (by decide) rfl ?_
        refine r_iinc (lv' := [(4, .int (x4 + 1)), (3, .int u7), (0, .ref (w.2.1 0)), (1, .int x1)]) hg 3 (x4 + 1) dX7_layers_210 rfl rfl (by decide) rfl ?_
        refine r_goto hg 166 dX7_layers_213 (by decide) ?_
        refine r_lv [2, 3, 1, 0] rfl ?_
        exact hK166 x1 u7 (x4 + 1) σ6
      · refine r_ldc hg kv_RX7_216 dX7_layers_200 ?_
        exact r_iret hg dX7_layers_202 rfl rfl
    · refine r_goto hg 210 dX7_layers_184 (by decide) ?_
      refine r_iinc (lv' := [(4, .int (x4 + 1)), (0, .ref (w.2.1 0)), (1, .int x1), (3, .int x3)]) hg 3 (x4 + 1) dX7_layers_210 rfl rfl (by decide) rfl ?_
      refine r_goto hg 166 dX7_layers_213 (by decide) ?_
      refine r_lv [1, 2, 3, 0] rfl ?_
      exact hK166 x1 x3 (x4 + 1) σ2
set_option maxHeartbeats 4000000 in
set_option maxRecDepth 100000 in
theorem vl_X7_layers_166 {N : Nat} (hg : m_ok (p, l, e, d, s, m, args, below, meth, c) w shR cX7_layers 5 RX7 (some .int)) (hdp : 37 ≤ d) : ∀ (n : Nat) (x1 x3 x4 : Int32) (σ : Mem), Vj (p, l, e, d, s, m, args, below, meth, c) w shR 5 1 σ 166 [(0, .ref (w.2.1 0)), (1, .int x1), (3, .int x3), (4, .int x4)] [] (l_X7_layers_166 N n x1 x3 x4 σ)
| 0, _, _, _, _ => Vj.none
| n + 1, x1, x3, x4, σ => vb_X7_layers_166 hg hdp (fun x1 x3 x4 σ => vl_X7_layers_166 hg hdp n x1 x3 x4 σ) x1 x3 x4 σ
set_option maxHeartbeats 4000000 in
set_option maxRecDepth 100000 in
theorem e_X7_layers (N : Nat) (l : Launch) (w : mW) (v1 v2 : Int32) (σ : Mem) : Ev l w shR yX7_layers cX7_layers 5 (some .int) 1 37 [.ref (w.2.1 0), .int v1, .int v2] σ (f_X7_layers N v1 v2 σ) := by
  refine Ev.of (by decide) (m_c1_r (m_c1_i (m_c1_i m_c1_nil))) (Nat.le_of_ble_eq_true rfl) (fun p e s m args below meth c hg => ?_)
  have hdp := Nat.le_refl 37
  unfold f_X7_layers
  show Vj (p, l, e, 37, s, m, args, below, meth, c) w shR 5 1 σ 0 [(0, .ref (w.2.1 0)), (1, .int v1), (2, .int v2)] [] _
  refine r_aload_n hg 0 dX7_layers_0 rfl ?_
  refine r_iconst hg 0 dX7_layers_1 (by decide) ?_
  refine q_put (j := 0) hg rfl rfl rfl (by decide) iX7 kf_RX7_68 rfl tyX7_ok nmX7 rfl rfl dX7_layers_2 (fun σ1 => ?_)
  refine r_iload_n hg 1 dX7_layers_5 rfl ?_
  refine r_iconst hg 1 dX7_layers_6 (by decide) ?_
  refine r_icmp_lt hg 20 dX7_layers_7 (by decide) ?_ ?_
  · refine r_ldc hg kv_RX7_216 dX7_layers_20 ?_
    exact r_iret hg dX7_layers_22 rfl rfl
  · refine r_iload_n hg 1 dX7_layers_10 rfl ?_
    refine r_iconst hg 1 dX7_layers_11 (by decide) ?_
    refine r_aload_n hg 0 dX7_layers_12 rfl ?_
    refine q_geti (j := 7) hg rfl rfl rfl (by decide) iX7 kf_RX7_120 rfl dX7_layers_13 ?_
    refine r_ishl hg dX7_layers_16 ?_
    refine r_icmp_lt hg 23 dX7_layers_17 (by decide) ?_ ?_
    · refine r_iload_n hg 2 dX7_layers_23 rfl ?_
      refine r_if_eq hg 161 dX7_layers_24 (by decide) ?_ ?_
      · refine r_iconst hg 0 dX7_layers_161 (by decide) ?_
        refine r_istore_n (lv' := [(3, .int 0), (0, .ref (w.2.1 0)), (1, .int v1), (2, .int v2)]) hg dX7_layers_162 (by decide) rfl ?_
        refine r_iconst hg 0 dX7_layers_163 (by decide) ?_
        refine r_istore (lv' := [(4, .int 0), (3, .int 0), (0, .ref (w.2.1 0)), (1, .int v1), (2, .int v2)]) hg dX7_layers_164 (by decide) rfl ?_
        refine r_lv [2, 3, 1, 0] rfl ?_
        exact vl_X7_layers_166 hg hdp N v1 0 0 σ1
      · refine r_iconst hg 0 dX7_layers_27 (by decide) ?_
        refine r_istore_n (lv' := [(3, .int 0), (0, .ref (w.2.1 0)), (1, .int v1), (2, .int v2)]) hg dX7_layers_28 (by decide) rfl ?_
        refine r_iconst hg 0 dX7_layers_29 (by decide) ?_
        refine r_istore (lv' := [(4, .int 0), (3, .int 0), (0, .ref (w.2.1 0)), (1, .int v1), (2, .int v2)]) hg dX7_layers_30 (by decide) rfl ?_
        refine r_lv [2, 3, 1, 0] rfl ?_
        exact vl_X7_layers_32 hg hdp N v1 0 0 σ1
    · refine r_ldc hg kv_RX7_216 dX7_layers_20 ?_
      exact r_iret hg dX7_layers_22 rfl rfl
set_option maxHeartbeats 4000000 in
set_option maxRecDepth 100000 in
theorem vb_X7_isTurn_19 {N : Nat} (hg : m_ok (p, l, e, d, s, m, args, below, meth, c) w shR cX7_isTurn 4 RX7 (some .boolean)) (hdp : 0 ≤ d) {K9 : Int32 → Int32 → Mem → Option (Int32 × Mem)} (hK9 : ∀ (x1 x2 : Int32) (σ : Mem), Vj (p, l, e, d, s, m, args, below, meth, c) w shR 4 1 σ 9 [(0, .ref (w.2.1 0)), (1, .int x1), (2, .int x2)] [] (K9 x1 x2 σ)) {K19 : Int32 → Int32 → Int32 → Mem → Option (Int32 × Mem)} (hK19 : ∀ (x1 x2 x3 : Int32) (σ : Mem), Vj (p, l, e, d, s, m, args, below, meth, c) w shR 4 1 σ 19 [(0, .ref (w.2.1 0)), (1, .int x1), (2, .int x2), (3, .int x3)] [] (K19 x1 x2 x3 σ)) (x1 x2 x3 : Int32) (σ : Mem) : Vj (p, l, e, d, s, m, args, below, meth, c) w shR 4 1 σ 19 [(0, .ref (w.2.1 0)), (1, .int x1), (2, .int x2), (3, .int x3)] [] (b_X7_isTurn_19 N K9 K19 x1 x2 x3 σ) := by
  unfold b_X7_isTurn_19
  refine r_iload_n hg 3 dX7_isTurn_19 rfl ?_
  refine r_aload_n hg 0 dX7_isTurn_20 rfl ?_
  refine q_geti (j := 15) hg rfl rfl rfl (by decide) iX7 kf_RX7_146 rfl dX7_isTurn_21 ?_
  refine r_icmp_ge hg 54 dX7_isTurn_24 (by decide) ?_ ?_
  · refine r_iinc (lv' := [(2, .int (x2 + 1)), (0, .ref (w.2.1 0)), (1, .int x1), (3, .int x3)]) hg 2 (x2 + 1) dX7_isTurn_54 rfl rfl (by decide) rfl ?_
    refine r_goto hg 9 dX7_isTurn_57 (by decide) ?_
    refine r_lv [1, 2, 0] rfl ?_
    exact hK9 x1 (x2 + 1) σ
  · refine r_aload_n hg 0 dX7_isTurn_27 rfl ?_
    refine q_getr (j := 9) hg rfl rfl rfl (by decide) iX7 kf_RX7_20 rfl dX7_isTurn_28 ?_
    refine r_iload_n hg 2 dX7_isTurn_31 rfl ?_
    refine r_iaload (n := 12) hg rfl dX7_isTurn_32 ?_
    refine r_aload_n hg 0 dX7_isTurn_33 rfl ?_
    refine q_getr (j := 9) hg rfl rfl rfl (by decide) iX7 kf_RX7_20 rfl dX7_isTurn_34 ?_
    refine r_iload_n hg 3 dX7_isTurn_37 rfl ?_
    refine r_iaload (n := 12) hg rfl dX7_isTurn_38 ?_
    refine r_isub hg dX7_isTurn_39 ?_
    refine r_iload_n hg 1 dX7_isTurn_40 rfl ?_
    refine r_iconst hg 1 dX7_isTurn_41 (by decide) ?_
    refine r_isub hg dX7_isTurn_42 ?_
    refine r_icmp_ne hg 48 dX7_isTurn_43 (by decide) ?_ ?_
    · refine r_iinc (lv' := [(3, .int (x3 + 1)), (0, .ref (w.2.1 0)), (1, .int x1), (2, .int x2)]) hg 3 (x3 + 1) dX7_isTurn_48 rfl rfl (by decide) rfl ?_
      refine r_goto hg 19 dX7_isTurn_51 (by decide) ?_
      refine r_lv [1, 2, 3, 0] rfl ?_
      exact hK19 x1 x2 (x3 + 1) σ
    · refine r_iconst hg 1 dX7_isTurn_46 (by decide) ?_
      exact r_zret hg dX7_isTurn_47 rfl rfl
set_option maxHeartbeats 4000000 in
set_option maxRecDepth 100000 in
theorem vl_X7_isTurn_19 {N : Nat} (hg : m_ok (p, l, e, d, s, m, args, below, meth, c) w shR cX7_isTurn 4 RX7 (some .boolean)) (hdp : 0 ≤ d) {K9 : Int32 → Int32 → Mem → Option (Int32 × Mem)} (hK9 : ∀ (x1 x2 : Int32) (σ : Mem), Vj (p, l, e, d, s, m, args, below, meth, c) w shR 4 1 σ 9 [(0, .ref (w.2.1 0)), (1, .int x1), (2, .int x2)] [] (K9 x1 x2 σ)) : ∀ (n : Nat) (x1 x2 x3 : Int32) (σ : Mem), Vj (p, l, e, d, s, m, args, below, meth, c) w shR 4 1 σ 19 [(0, .ref (w.2.1 0)), (1, .int x1), (2, .int x2), (3, .int x3)] [] (l_X7_isTurn_19 N K9 n x1 x2 x3 σ)
| 0, _, _, _, _ => Vj.none
| n + 1, x1, x2, x3, σ => vb_X7_isTurn_19 hg hdp hK9 (fun x1 x2 x3 σ => vl_X7_isTurn_19 hg hdp hK9 n x1 x2 x3 σ) x1 x2 x3 σ
set_option maxHeartbeats 4000000 in
set_option maxRecDepth 100000 in
theorem vb_X7_isTurn_9 {N : Nat} (hg : m_ok (p, l, e, d, s, m, args, below, meth, c) w shR cX7_isTurn 4 RX7 (some .boolean)) (hdp : 0 ≤ d) {K9 : Int32 → Int32 → Mem → Option (Int32 × Mem)} (hK9 : ∀ (x1 x2 : Int32) (σ : Mem), Vj (p, l, e, d, s, m, args, below, meth, c) w shR 4 1 σ 9 [(0, .ref (w.2.1 0)), (1, .int x1), (2, .int x2)] [] (K9 x1 x2 σ)) (x1 x2 : Int32) (σ : Mem) : Vj (p, l, e, d, s, m, args, below, meth, c) w shR 4 1 σ 9 [(0, .ref (w.2.1 0)), (1, .int x1), (2, .int x2)] [] (b_X7_isTurn_9 N K9 x1 x2 σ) := by
  unfold b_X7_isTurn_9
  refine r_iload_n hg 2 dX7_isTurn_9 rfl ?_
  refine r_aload_n hg 0 dX7_isTurn_10 rfl ?_
  refine q_geti (j := 15) hg rfl rfl rfl (by decide) iX7 kf_RX7_146 rfl dX7_isTurn_11 ?_
  refine r_icmp_ge hg 60 dX7_isTurn_14 (by decide) ?_ ?_
  · refine r_iconst hg 0 dX7_isTurn_60 (by decide) ?_
    exact r_zret hg dX7_isTurn_61 rfl rfl
  · refine r_iconst hg 0 dX7_isTurn_17 (by decide) ?_
    refine r_istore_n (lv' := [(3, .int 0), (0, .ref (w.2.1 0)), (1, .int x1), (2, .int x2)]) hg dX7_isTurn_18 (by decide) rfl ?_
    refine r_lv [1, 2, 3, 0] rfl ?_
    exact vl_X7_isTurn_19 hg hdp hK9 N x1 x2 0 σ
set_option maxHeartbeats 4000000 in
set_option maxRecDepth 100000 in
theorem vl_X7_isTurn_9 {N : Nat} (hg : m_ok (p, l, e, d, s, m, args, below, meth, c) w shR cX7_isTurn 4 RX7 (some .boolean)) (hdp : 0 ≤ d) : ∀ (n : Nat) (x1 x2 : Int32) (σ : Mem), Vj (p, l, e, d, s, m, args, below, meth, c) w shR 4 1 σ 9 [(0, .ref (w.2.1 0)), (1, .int x1), (2, .int x2)] [] (l_X7_isTurn_9 N n x1 x2 σ)
| 0, _, _, _ => Vj.none
| n + 1, x1, x2, σ => vb_X7_isTurn_9 hg hdp (fun x1 x2 σ => vl_X7_isTurn_9 hg hdp n x1 x2 σ) x1 x2 σ
set_option maxHeartbeats 4000000 in
set_option maxRecDepth 100000 in
theorem e_X7_isTurn (N : Nat) (l : Launch) (w : mW) (v1 : Int32) (σ : Mem) : Ev l w shR yX7_isTurn cX7_isTurn 4 (some .boolean) 1 0 [.ref (w.2.1 0), .int v1] σ (f_X7_isTurn N v1 σ) := by
  refine Ev.of (by decide) (m_c1_r (m_c1_i m_c1_nil)) (Nat.le_of_ble_eq_true rfl) (fun p e s m args below meth c hg => ?_)
  have hdp := Nat.le_refl 0
  unfold f_X7_isTurn
  show Vj (p, l, e, 0, s, m, args, below, meth, c) w shR 4 1 σ 0 [(0, .ref (w.2.1 0)), (1, .int v1)] [] _
  refine r_iload_n hg 1 dX7_isTurn_0 rfl ?_
  refine r_iconst hg 1 dX7_isTurn_1 (by decide) ?_
  refine r_icmp_ne hg 7 dX7_isTurn_2 (by decide) ?_ ?_
  · refine r_iconst hg 0 dX7_isTurn_7 (by decide) ?_
    refine r_istore_n (lv' := [(2, .int 0), (0, .ref (w.2.1 0)), (1, .int v1)]) hg dX7_isTurn_8 (by decide) rfl ?_
    refine r_lv [1, 2, 0] rfl ?_
    exact vl_X7_isTurn_9 hg hdp N v1 0 σ
  · refine r_iconst hg 1 dX7_isTurn_5 (by decide) ?_
    exact r_zret hg dX7_isTurn_6 rfl rfl
set_option maxHeartbeats 4000000 in
set_option maxRecDepth 100000 in
theorem vj_X7_nearest_108 {N : Nat} (hg : m_ok (p, l, e, d, s, m, args, below, meth, c) w shR cX7_nearest 7 RX7 (some .int)) (hdp : 37 ≤ d) {K42 : Int32 → Int32 → Int32 → Int32 → Int32 → Int32 → Mem → Option (Int32 × Mem)} (hK42 : ∀ (x1 x2 x3 x4 x5 x6 : Int32) (σ : Mem), Vj (p, l, e, d, s, m, args, below, meth, c) w shR 7 1 σ 42 [(0, .ref (w.2.1 0)), (1, .int x1), (2, .int x2), (3, .int x3), (4, .int x4), (5, .int x5), (6, .int x6)] [] (K42 x1 x2 x3 x4 x5 x6 σ)) (x1 x2 x3 x6 : Int32) (σ : Mem) : Vj (p, l, e, d, s, m, args, below, meth, c) w shR 7 1 σ 108 [(0, .ref (w.2.1 0)), (1, .int x1), (2, .int x2), (3, .int x3), (6, .int x6)] [] (j_X7_nearest_108 N K42 x1 x2 x3 x6 σ) := by
  unfold j_X7_nearest_108
  refine r_iload hg 4 dX7_nearest_108 rfl ?_
  refine r_istore (lv' := [(4, .int x6), (0, .ref (w.2.1 0)), (1, .int x1), (2, .int x2), (3, .int x3), (6, .int x6)]) hg dX7_nearest_110 (by decide) rfl ?_
  refine r_aload_n hg 1 dX7_nearest_112 rfl ?_
  refine q_geti (j := 27) hg rfl rfl rfl (by decide) iX7 kf_RX7_248 rfl dX7_nearest_113 ?_
  refine r_aload_n hg 1 dX7_nearest_116 rfl ?_
  refine q_geti (j := 28) hg rfl rfl rfl (by decide) iX7 kf_RX7_254 rfl dX7_nearest_117 ?_
  refine r_isub hg dX7_nearest_120 ?_
  refine q_name (fun u1 => ?_)
  refine r_istore (lv' := [(5, .int u1), (4, .int x6), (0, .ref (w.2.1 0)), (1, .int x1), (2, .int x2), (3, .int x3), (6, .int x6)]) hg dX7_nearest_121 (by decide) rfl ?_
  refine r_iinc (lv' := [(6, .int (x6 + 1)), (5, .int u1), (4, .int x6), (0, .ref (w.2.1 0)), (1, .int x1), (2, .int x2), (3, .int x3)]) hg 6 (x6 + 1) dX7_nearest_123 rfl rfl (by decide) rfl ?_
  refine r_goto hg 42 dX7_nearest_126 (by decide) ?_
  refine r_lv [3, 4, 5, 6, 2, 1, 0] rfl ?_
  exact hK42 x1 x2 x3 x6 u1 (x6 + 1) σ
set_option maxHeartbeats 4000000 in
set_option maxRecDepth 100000 in
theorem vb_X7_nearest_42 {N : Nat} (hg : m_ok (p, l, e, d, s, m, args, below, meth, c) w shR cX7_nearest 7 RX7 (some .int)) (hdp : 37 ≤ d) {K42 : Int32 → Int32 → Int32 → Int32 → Int32 → Int32 → Mem → Option (Int32 × Mem)} (hK42 : ∀ (x1 x2 x3 x4 x5 x6 : Int32) (σ : Mem), Vj (p, l, e, d, s, m, args, below, meth, c) w shR 7 1 σ 42 [(0, .ref (w.2.1 0)), (1, .int x1), (2, .int x2), (3, .int x3), (4, .int x4), (5, .int x5), (6, .int x6)] [] (K42 x1 x2 x3 x4 x5 x6 σ)) (x1 x2 x3 x4 x5 x6 : Int32) (σ : Mem) : Vj (p, l, e, d, s, m, args, below, meth, c) w shR 7 1 σ 42 [(0, .ref (w.2.1 0)), (1, .int x1), (2, .int x2), (3, .int x3), (4, .int x4), (5, .int x5), (6, .int x6)] [] (b_X7_nearest_42 N K42 x1 x2 x3 x4 x5 x6 σ) := by
  unfold b_X7_nearest_42
  refine r_iload hg 6 dX7_nearest_42 rfl ?_
  refine r_bipush hg 99 dX7_nearest_44 (by decide) ?_
  refine r_icmp_gt hg 129 dX7_nearest_46 (by decide) ?_ ?_
  · refine r_aload_n hg 0 dX7_nearest_129 rfl ?_
    refine q_getr (j := 6) hg rfl rfl rfl (by decide) iX7 kf_RX7_13 rfl dX7_nearest_130 ?_
    refine r_bipush hg 10 dX7_nearest_133 (by decide) ?_
    refine r_iload_n hg 1 dX7_nearest_135 rfl ?_
    refine r_imul hg dX7_nearest_136 ?_
    refine r_iload_n hg 3 dX7_nearest_137 rfl ?_
    refine q_iastore (n := 70) hg rfl dX7_nearest_138 (fun σ1 => ?_)
    refine r_iload hg 4 dX7_nearest_139 rfl ?_
    refine r_ldc hg kv_RX7_216 dX7_nearest_141 ?_
    refine r_icmp_eq hg 150 dX7_nearest_143 (by decide) ?_ ?_
    · refine r_iload hg 4 dX7_nearest_150 rfl ?_
      refine r_goto hg 157 dX7_nearest_152 (by decide) ?_
      exact r_iret hg dX7_nearest_157 rfl rfl
    · refine r_iload_n hg 2 dX7_nearest_146 rfl ?_
      refine r_if_ne hg 155 dX7_nearest_147 (by decide) ?_ ?_
      · refine r_iload hg 5 dX7_nearest_155 rfl ?_
        exact r_iret hg dX7_nearest_157 rfl rfl
      · refine r_iload hg 4 dX7_nearest_150 rfl ?_
        refine r_goto hg 157 dX7_nearest_152 (by decide) ?_
        exact r_iret hg dX7_nearest_157 rfl rfl
  · refine r_aload_n hg 0 dX7_nearest_49 rfl ?_
    refine r_iload hg 6 dX7_nearest_50 rfl ?_
    refine q_callv1 hg (e_X7_isTurn N l w x6 σ) kk_RX7_290 ki_X7_isTurn ks_RX7_X7_isTurn rfl rfl np_X7_isTurn (Nat.le_trans (by decide) hdp) rfl m_c1_nil (Nat.le_of_ble_eq_true rfl) dX7_nearest_52 (fun r2 σ3 => ?_)
    refine r_if_ne hg 61 dX7_nearest_55 (by decide) ?_ ?_
    · refine r_aload_n hg 0 dX7_nearest_61 rfl ?_
      refine q_getr (j := 6) hg rfl rfl rfl (by decide) iX7 kf_RX7_13 rfl dX7_nearest_62 ?_
      refine r_bipush hg 10 dX7_nearest_65 (by decide) ?_
      refine r_iload_n hg 1 dX7_nearest_67 rfl ?_
      refine r_imul hg dX7_nearest_68 ?_
      refine r_iload hg 6 dX7_nearest_69 rfl ?_
      refine q_iastore (n := 70) hg rfl dX7_nearest_71 (fun σ4 => ?_)
      refine r_aload_n hg 0 dX7_nearest_72 rfl ?_
      refine r_iload_n hg 1 dX7_nearest_73 rfl ?_
      refine r_aload_n hg 0 dX7_nearest_74 rfl ?_
      refine q_callv1 hg (e_X7_every N l w σ4) kk_RX7_236 ki_X7_every ks_RX7_X7_every rfl rfl np_X7_every (Nat.le_trans (by decide) hdp) rfl (m_c1_i (m_c1_r m_c1_nil)) (Nat.le_of_ble_eq_true rfl) dX7_nearest_75 (fun r5 σ6 => ?_)
      refine q_callv1 hg (e_X7_layAll N l w x1 r5 σ6) kk_RX7_287 ki_X7_layAll ks_RX7_X7_layAll rfl rfl np_X7_layAll (Nat.le_trans (by decide) hdp) rfl m_c1_nil (Nat.le_of_ble_eq_true rfl) dX7_nearest_78 (fun r7 σ8 => ?_)
      refine r_if_eq hg 123 dX7_nearest_81 (by decide) ?_ ?_
      · refine r_iinc (lv' := [(6, .int (x6 + 1)), (0, .ref (w.2.1 0)), (1, .int x1), (2, .int x2), (3, .int x3), (4, .int x4), (5, .int x5)]) hg 6 (x6 + 1) dX7_nearest_123 rfl rfl (by decide) rfl ?_
        refine r_goto hg 42 dX7_nearest_126 (by decide) ?_
        refine r_lv [1, 2, 3, 4, 5, 6, 0] rfl ?_
        exact hK42 x1 x2 x3 x4 x5 (x6 + 1) σ8
      · refine r_iload hg 4 dX7_nearest_84 rfl ?_
        refine r_ldc hg kv_RX7_216 dX7_nearest_86 ?_
        refine r_icmp_eq hg 108 dX7_nearest_88 (by decide) ?_ ?_
        · refine r_lv [0, 1, 2, 3, 6] rfl ?_
          exact vj_X7_nearest_108 hg hdp hK42 x1 x2 x3 x6 σ8
        · refine r_aload_n hg 0 dX7_nearest_91 rfl ?_
          refine q_geti (j := 27) hg rfl rfl rfl (by decide) iX7 kf_RX7_248 rfl dX7_nearest_92 ?_
          refine r_aload_n hg 0 dX7_nearest_95 rfl ?_
          refine q_geti (j := 28) hg rfl rfl rfl (by decide) iX7 kf_RX7_254 rfl dX7_nearest_96 ?_
          refine r_isub hg dX7_nearest_99 ?_
          refine r_iload hg 5 dX7_nearest_100 rfl ?_
          refine r_icmp_lt hg 108 dX7_nearest_102 (by decide) ?_ ?_
          · refine r_lv [0, 1, 2, 3, 6] rfl ?_
            exact vj_X7_nearest_108 hg hdp hK42 x1 x2 x3 x6 σ8
          · refine r_goto hg 123 dX7_nearest_105 (by decide) ?_
            refine r_iinc (lv' := [(6, .int (x6 + 1)), (0, .ref (w.2.1 0)), (1, .int x1), (2, .int x2), (3, .int x3), (4, .int x4), (5, .int x5)]) hg 6 (x6 + 1) dX7_nearest_123 rfl rfl (by decide) rfl ?_
            refine r_goto hg 42 dX7_nearest_126 (by decide) ?_
            refine r_lv [1, 2, 3, 4, 5, 6, 0] rfl ?_
            exact hK42 x1 x2 x3 x4 x5 (x6 + 1) σ8
    · refine r_goto hg 123 dX7_nearest_58 (by decide) ?_
      refine r_iinc (lv' := [(6, .int (x6 + 1)), (0, .ref (w.2.1 0)), (1, .int x1), (2, .int x2), (3, .int x3), (4, .int x4), (5, .int x5)]) hg 6 (x6 + 1) dX7_nearest_123 rfl rfl (by decide) rfl ?_
      refine r_goto hg 42 dX7_nearest_126 (by decide) ?_
      refine r_lv [1, 2, 3, 4, 5, 6, 0] rfl ?_
      exact hK42 x1 x2 x3 x4 x5 (x6 + 1) σ3
set_option maxHeartbeats 4000000 in
set_option maxRecDepth 100000 in
theorem vl_X7_nearest_42 {N : Nat} (hg : m_ok (p, l, e, d, s, m, args, below, meth, c) w shR cX7_nearest 7 RX7 (some .int)) (hdp : 37 ≤ d) : ∀ (n : Nat) (x1 x2 x3 x4 x5 x6 : Int32) (σ : Mem), Vj (p, l, e, d, s, m, args, below, meth, c) w shR 7 1 σ 42 [(0, .ref (w.2.1 0)), (1, .int x1), (2, .int x2), (3, .int x3), (4, .int x4), (5, .int x5), (6, .int x6)] [] (l_X7_nearest_42 N n x1 x2 x3 x4 x5 x6 σ)
| 0, _, _, _, _, _, _, _ => Vj.none
| n + 1, x1, x2, x3, x4, x5, x6, σ => vb_X7_nearest_42 hg hdp (fun x1 x2 x3 x4 x5 x6 σ => vl_X7_nearest_42 hg hdp n x1 x2 x3 x4 x5 x6 σ) x1 x2 x3 x4 x5 x6 σ
set_option maxHeartbeats 4000000 in
set_option maxRecDepth 100000 in
theorem e_X7_nearest (N : Nat) (l : Launch) (w : mW) (v1 v2 : Int32) (σ : Mem) : Ev l w shR yX7_nearest cX7_nearest 7 (some .int) 1 37 [.ref (w.2.1 0), .int v1, .int v2] σ (f_X7_nearest N v1 v2 σ) := by
  refine Ev.of (by decide) (m_c1_r (m_c1_i (m_c1_i m_c1_nil))) (Nat.le_of_ble_eq_true rfl) (fun p e s m args below meth c hg => ?_)
  have hdp := Nat.le_refl 37
  unfold f_X7_nearest
  show Vj (p, l, e, 37, s, m, args, below, meth, c) w shR 7 1 σ 0 [(0, .ref (w.2.1 0)), (1, .int v1), (2, .int v2)] [] _
  refine r_aload_n hg 0 dX7_nearest_0 rfl ?_
  refine r_iconst hg 0 dX7_nearest_1 (by decide) ?_
  refine q_put (j := 0) hg rfl rfl rfl (by decide) iX7 kf_RX7_68 rfl tyX7_ok nmX7 rfl rfl dX7_nearest_2 (fun σ1 => ?_)
  refine r_aload_n hg 0 dX7_nearest_5 rfl ?_
  refine r_iload_n hg 1 dX7_nearest_6 rfl ?_
  refine q_callv1 hg (e_X7_isCover N l w v1 σ1) kk_RX7_139 ki_X7_isCover ks_RX7_X7_isCover rfl rfl np_X7_isCover (Nat.le_trans (by decide) hdp) rfl m_c1_nil (Nat.le_of_ble_eq_true rfl) dX7_nearest_7 (fun r2 σ3 => ?_)
  refine r_if_eq hg 22 dX7_nearest_10 (by decide) ?_ ?_
  · refine r_ldc hg kv_RX7_216 dX7_nearest_22 ?_
    exact r_iret hg dX7_nearest_24 rfl rfl
  · refine r_iload_n hg 2 dX7_nearest_13 rfl ?_
    refine r_iconst hg 0 dX7_nearest_14 (by decide) ?_
    refine r_iconst hg 1 dX7_nearest_15 (by decide) ?_
    refine q_calls1 hg (e_X7_isIn N l w v2 0 1 σ3) kk_RX7_107 kt_X7_isIn np_X7_isIn (Nat.le_trans (by decide) hdp) rfl m_c1_nil (Nat.le_of_ble_eq_true rfl) dX7_nearest_16 (fun r4 σ5 => ?_)
    refine r_if_ne hg 25 dX7_nearest_19 (by decide) ?_ ?_
    · refine r_aload_n hg 0 dX7_nearest_25 rfl ?_
      refine r_iload_n hg 1 dX7_nearest_26 rfl ?_
      refine r_iconst hg 0 dX7_nearest_27 (by decide) ?_
      refine q_callv1 hg (e_X7_wordOf N l w v1 0 σ5) kk_RX7_142 ki_X7_wordOf ks_RX7_X7_wordOf rfl rfl np_X7_wordOf (Nat.le_trans (by decide) hdp) rfl m_c1_nil (Nat.le_of_ble_eq_true rfl) dX7_nearest_28 (fun r6 σ7 => ?_)
      refine r_istore_n (lv' := [(3, .int r6), (0, .ref (w.2.1 0)), (1, .int v1), (2, .int v2)]) hg dX7_nearest_31 (by decide) rfl ?_
      refine r_ldc hg kv_RX7_216 dX7_nearest_32 ?_
      refine q_name (fun u8 => ?_)
      refine r_istore (lv' := [(4, .int u8), (3, .int r6), (0, .ref (w.2.1 0)), (1, .int v1), (2, .int v2)]) hg dX7_nearest_34 (by decide) rfl ?_
      refine r_iconst hg 0 dX7_nearest_36 (by decide) ?_
      refine r_istore (lv' := [(5, .int 0), (4, .int u8), (3, .int r6), (0, .ref (w.2.1 0)), (1, .int v1), (2, .int v2)]) hg dX7_nearest_37 (by decide) rfl ?_
      refine r_iconst hg 1 dX7_nearest_39 (by decide) ?_
      refine r_istore (lv' := [(6, .int 1), (5, .int 0), (4, .int u8), (3, .int r6), (0, .ref (w.2.1 0)), (1, .int v1), (2, .int v2)]) hg dX7_nearest_40 (by decide) rfl ?_
      refine r_lv [4, 5, 6, 3, 2, 1, 0] rfl ?_
      exact vl_X7_nearest_42 hg hdp N v1 v2 r6 u8 0 1 σ7
    · refine r_ldc hg kv_RX7_216 dX7_nearest_22 ?_
      exact r_iret hg dX7_nearest_24 rfl rfl
set_option maxHeartbeats 4000000 in
set_option maxRecDepth 100000 in
theorem e_X7_storm (N : Nat) (l : Launch) (w : mW) (v1 v2 : Int32) (σ : Mem) : Ev l w shR yX7_storm cX7_storm 3 (some .int) 1 1 [.ref (w.2.1 0), .int v1, .int v2] σ (f_X7_storm N v1 v2 σ) := by
  refine Ev.of (by decide) (m_c1_r (m_c1_i (m_c1_i m_c1_nil))) (Nat.le_of_ble_eq_true rfl) (fun p e s m args below meth c hg => ?_)
  have hdp := Nat.le_refl 1
  unfold f_X7_storm
  show Vj (p, l, e, 1, s, m, args, below, meth, c) w shR 3 1 σ 0 [(0, .ref (w.2.1 0)), (1, .int v1), (2, .int v2)] [] _
  refine r_aload_n hg 0 dX7_storm_0 rfl ?_
  refine r_iconst hg 0 dX7_storm_1 (by decide) ?_
  refine q_put (j := 0) hg rfl rfl rfl (by decide) iX7 kf_RX7_68 rfl tyX7_ok nmX7 rfl rfl dX7_storm_2 (fun σ1 => ?_)
  refine r_aload_n hg 0 dX7_storm_5 rfl ?_
  refine q_geti (j := 40) hg rfl rfl rfl (by decide) iX7 kf_RX7_293 rfl dX7_storm_6 ?_
  refine r_bipush hg 12 dX7_storm_9 (by decide) ?_
  refine r_icmp_eq hg 32 dX7_storm_11 (by decide) ?_ ?_
  · refine r_iconst hg (-1) dX7_storm_32 (by decide) ?_
    exact r_iret hg dX7_storm_33 rfl rfl
  · refine r_aload_n hg 0 dX7_storm_14 rfl ?_
    refine r_iload_n hg 1 dX7_storm_15 rfl ?_
    refine q_callv1 hg (e_X7_isSet N l w v1 σ1) kk_RX7_172 ki_X7_isSet ks_RX7_X7_isSet rfl rfl np_X7_isSet (Nat.le_trans (by decide) hdp) rfl m_c1_nil (Nat.le_of_ble_eq_true rfl) dX7_storm_16 (fun r2 σ3 => ?_)
    refine r_if_eq hg 32 dX7_storm_19 (by decide) ?_ ?_
    · refine r_iconst hg (-1) dX7_storm_32 (by decide) ?_
      exact r_iret hg dX7_storm_33 rfl rfl
    · refine r_iload_n hg 2 dX7_storm_22 rfl ?_
      refine r_iconst hg 1 dX7_storm_23 (by decide) ?_
      refine r_bipush hg 99 dX7_storm_24 (by decide) ?_
      refine q_calls1 hg (e_X7_isIn N l w v2 1 99 σ3) kk_RX7_107 kt_X7_isIn np_X7_isIn (Nat.le_trans (by decide) hdp) rfl m_c1_nil (Nat.le_of_ble_eq_true rfl) dX7_storm_26 (fun r4 σ5 => ?_)
      refine r_if_ne hg 34 dX7_storm_29 (by decide) ?_ ?_
      · refine r_aload_n hg 0 dX7_storm_34 rfl ?_
        refine q_getr (j := 38) hg rfl rfl rfl (by decide) iX7 kf_RX7_62 rfl dX7_storm_35 ?_
        refine r_aload_n hg 0 dX7_storm_38 rfl ?_
        refine q_geti (j := 40) hg rfl rfl rfl (by decide) iX7 kf_RX7_293 rfl dX7_storm_39 ?_
        refine r_iload_n hg 1 dX7_storm_42 rfl ?_
        refine q_iastore (n := 12) hg rfl dX7_storm_43 (fun σ6 => ?_)
        refine r_aload_n hg 0 dX7_storm_44 rfl ?_
        refine q_getr (j := 39) hg rfl rfl rfl (by decide) iX7 kf_RX7_65 rfl dX7_storm_45 ?_
        refine r_aload_n hg 0 dX7_storm_48 rfl ?_
        refine q_geti (j := 40) hg rfl rfl rfl (by decide) iX7 kf_RX7_293 rfl dX7_storm_49 ?_
        refine r_iload_n hg 2 dX7_storm_52 rfl ?_
        refine q_iastore (n := 12) hg rfl dX7_storm_53 (fun σ7 => ?_)
        refine r_aload_n hg 0 dX7_storm_54 rfl ?_
        refine r_dupr hg dX7_storm_55 ?_
        refine q_geti (j := 40) hg rfl rfl rfl (by decide) iX7 kf_RX7_293 rfl dX7_storm_56 ?_
        refine r_iconst hg 1 dX7_storm_59 (by decide) ?_
        refine r_iadd hg dX7_storm_60 ?_
        refine q_put (j := 40) hg rfl rfl rfl (by decide) iX7 kf_RX7_293 rfl tyX7_ok nmX7 rfl rfl dX7_storm_61 (fun σ8 => ?_)
        refine r_aload_n hg 0 dX7_storm_64 rfl ?_
        refine q_geti (j := 40) hg rfl rfl rfl (by decide) iX7 kf_RX7_293 rfl dX7_storm_65 ?_
        exact r_iret hg dX7_storm_68 rfl rfl
      · refine r_iconst hg (-1) dX7_storm_32 (by decide) ?_
        exact r_iret hg dX7_storm_33 rfl rfl
set_option maxHeartbeats 4000000 in
set_option maxRecDepth 100000 in
theorem vb_X7_mean_30 {N : Nat} (hg : m_ok (p, l, e, d, s, m, args, below, meth, c) w shR cX7_mean 6 RX7 (some .int)) (hdp : 37 ≤ d) {K30 : Int32 → Int32 → Int32 → Int32 → Mem → Option (Int32 × Mem)} (hK30 : ∀ (x1 x2 x3 x4 : Int32) (σ : Mem), Vj (p, l, e, d, s, m, args, below, meth, c) w shR 6 1 σ 30 [(0, .ref (w.2.1 0)), (1, .int x1), (2, .int x2), (3, .int x3), (4, .int x4)] [] (K30 x1 x2 x3 x4 σ)) (x1 x2 x3 x4 : Int32) (σ : Mem) : Vj (p, l, e, d, s, m, args, below, meth, c) w shR 6 1 σ 30 [(0, .ref (w.2.1 0)), (1, .int x1), (2, .int x2), (3, .int x3), (4, .int x4)] [] (b_X7_mean_30 N K30 x1 x2 x3 x4 σ) := by
  unfold b_X7_mean_30
  refine r_iload hg 4 dX7_mean_30 rfl ?_
  refine r_aload_n hg 0 dX7_mean_32 rfl ?_
  refine q_geti (j := 40) hg rfl rfl rfl (by decide) iX7 kf_RX7_293 rfl dX7_mean_33 ?_
  refine r_icmp_ge hg 121 dX7_mean_36 (by decide) ?_ ?_
  · refine r_iload_n hg 3 dX7_mean_121 rfl ?_
    exact r_iret hg dX7_mean_122 rfl rfl
  · refine r_aload_n hg 0 dX7_mean_39 rfl ?_
    refine r_iload_n hg 1 dX7_mean_40 rfl ?_
    refine r_aload_n hg 0 dX7_mean_41 rfl ?_
    refine q_getr (j := 38) hg rfl rfl rfl (by decide) iX7 kf_RX7_62 rfl dX7_mean_42 ?_
    refine r_iload hg 4 dX7_mean_45 rfl ?_
    refine r_iaload (n := 12) hg rfl dX7_mean_47 ?_
    refine q_callv1 hg (e_X7_isTold N l w x1 (σ 18 x4.toNatClampNeg) σ) kk_RX7_281 ki_X7_isTold ks_RX7_X7_isTold rfl rfl np_X7_isTold (Nat.le_trans (by decide) hdp) rfl m_c1_nil (Nat.le_of_ble_eq_true rfl) dX7_mean_48 (fun r1 σ2 => ?_)
    refine r_if_ne hg 57 dX7_mean_51 (by decide) ?_ ?_
    · refine r_aload_n hg 0 dX7_mean_57 rfl ?_
      refine r_iload_n hg 1 dX7_mean_58 rfl ?_
      refine r_aload_n hg 0 dX7_mean_59 rfl ?_
      refine q_getr (j := 38) hg rfl rfl rfl (by decide) iX7 kf_RX7_62 rfl dX7_mean_60 ?_
      refine r_iload hg 4 dX7_mean_63 rfl ?_
      refine r_iaload (n := 12) hg rfl dX7_mean_65 ?_
      refine q_callv1 hg (e_X7_layAll N l w x1 (σ2 18 x4.toNatClampNeg) σ2) kk_RX7_287 ki_X7_layAll ks_RX7_X7_layAll rfl rfl np_X7_layAll (Nat.le_trans (by decide) hdp) rfl m_c1_nil (Nat.le_of_ble_eq_true rfl) dX7_mean_66 (fun r3 σ4 => ?_)
      refine r_istore (lv' := [(5, .int r3), (0, .ref (w.2.1 0)), (1, .int x1), (2, .int x2), (3, .int x3), (4, .int x4)]) hg dX7_mean_69 (by decide) rfl ?_
      refine r_iload_n hg 4 dX7_mean_71 rfl ?_
      refine r_aload_n hg 1 dX7_mean_72 rfl ?_
      refine q_getr (j := 39) hg rfl rfl rfl (by decide) iX7 kf_RX7_65 rfl dX7_mean_73 ?_
      refine r_iload hg 5 dX7_mean_76 rfl ?_
      refine r_iaload (n := 12) hg rfl dX7_mean_78 ?_
      refine r_iload_n hg 3 dX7_mean_79 rfl ?_
      refine r_iconst hg 2 dX7_mean_80 (by decide) ?_
      refine r_icmp_ne hg 88 dX7_mean_81 (by decide) ?_ ?_
      · refine r_iload hg 0 dX7_mean_88 rfl ?_
        refine r_if_ne hg 97 dX7_mean_90 (by decide) ?_ ?_
        · refine r_iload_n hg 3 dX7_mean_97 rfl ?_
          refine r_if_ne hg 108 dX7_mean_98 (by decide) ?_ ?_
          · refine r_aload_n hg 1 dX7_mean_108 rfl ?_
            refine q_geti (j := 28) hg rfl rfl rfl (by decide) iX7 kf_RX7_254 rfl dX7_mean_109 ?_
            refine r_imul hg dX7_mean_112 ?_
            refine r_iadd hg dX7_mean_113 ?_
            refine q_name (fun u5 => ?_)
            refine r_istore_n (lv' := [(3, .int u5), (5, .int r3), (0, .ref (w.2.1 0)), (1, .int x1), (2, .int x2), (4, .int x4)]) hg dX7_mean_114 (by decide) rfl ?_
            refine r_iinc (lv' := [(4, .int (x4 + 1)), (3, .int u5), (5, .int r3), (0, .ref (w.2.1 0)), (1, .int x1), (2, .int x2)]) hg 5 (x4 + 1) dX7_mean_115 rfl rfl (by decide) rfl ?_
            refine r_goto hg 30 dX7_mean_118 (by decide) ?_
            refine r_lv [3, 4, 5, 1, 0] rfl ?_
            exact hK30 x1 x2 u5 (x4 + 1) σ4
          · refine r_aload_n hg 1 dX7_mean_101 rfl ?_
            refine q_geti (j := 27) hg rfl rfl rfl (by decide) iX7 kf_RX7_248 rfl dX7_mean_102 ?_
            refine r_goto hg 112 dX7_mean_105 (by decide) ?_
            refine r_imul hg dX7_mean_112 ?_
            refine r_iadd hg dX7_mean_113 ?_
            refine q_name (fun u6 => ?_)
            refine r_istore_n (lv' := [(3, .int u6), (5, .int r3), (0, .ref (w.2.1 0)), (1, .int x1), (2, .int x2), (4, .int x4)]) hg dX7_mean_114 (by decide) rfl ?_
            refine r_iinc (lv' := [(4, .int (x4 + 1)), (3, .int u6), (5, .int r3), (0, .ref (w.2.1 0)), (1, .int x1), (2, .int x2)]) hg 5 (x4 + 1) dX7_mean_115 rfl rfl (by decide) rfl ?_
            refine r_goto hg 30 dX7_mean_118 (by decide) ?_
            refine r_lv [3, 4, 5, 1, 0] rfl ?_
            exact hK30 x1 x2 u6 (x4 + 1) σ4
        · refine r_iconst hg 0 dX7_mean_93 (by decide) ?_
          refine r_goto hg 112 dX7_mean_94 (by decide) ?_
          refine r_imul hg dX7_mean_112 ?_
          refine r_iadd hg dX7_mean_113 ?_
          refine q_name (fun u7 => ?_)
          refine r_istore_n (lv' := [(3, .int u7), (5, .int r3), (0, .ref (w.2.1 0)), (1, .int x1), (2, .int x2), (4, .int x4)]) hg dX7_mean_114 (by decide) rfl ?_
          refine r_iinc (lv' := [(4, .int (x4 + 1)), (3, .int u7), (5, .int r3), (0, .ref (w.2.1 0)), (1, .int x1), (2, .int x2)]) hg 5 (x4 + 1) dX7_mean_115 rfl rfl (by decide) rfl ?_
          refine r_goto hg 30 dX7_mean_118 (by decide) ?_
          refine r_lv [3, 4, 5, 1, 0] rfl ?_
          exact hK30 x1 x2 u7 (x4 + 1) σ4
      · refine r_iconst hg 1 dX7_mean_84 (by decide) ?_
        refine r_goto hg 112 dX7_mean_85 (by decide) ?_
        refine r_imul hg dX7_mean_112 ?_
        refine r_iadd hg dX7_mean_113 ?_
        refine q_name (fun u8 => ?_)
        refine r_istore_n (lv' := [(3, .int u8), (5, .int r3), (0, .ref (w.2.1 0)), (1, .int x1), (2, .int x2), (4, .int x4)]) hg dX7_mean_114 (by decide) rfl ?_
        refine r_iinc (lv' := [(4, .int (x4 + 1)), (3, .int u8), (5, .int r3), (0, .ref (w.2.1 0)), (1, .int x1), (2, .int x2)]) hg 5 (x4 + 1) dX7_mean_115 rfl rfl (by decide) rfl ?_
        refine r_goto hg 30 dX7_mean_118 (by decide) ?_
        refine r_lv [3, 4, 5, 1, 0] rfl ?_
        exact hK30 x1 x2 u8 (x4 + 1) σ4
    · refine r_ldc hg kv_RX7_216 dX7_mean_54 ?_
      exact r_iret hg dX7_mean_56 rfl rfl
set_option maxHeartbeats 4000000 in
set_option maxRecDepth 100000 in
theorem vl_X7_mean_30 {N : Nat} (hg : m_ok (p, l, e, d, s, m, args, below, meth, c) w shR cX7_mean 6 RX7 (some .int)) (hdp : 37 ≤ d) : ∀ (n : Nat) (x1 x2 x3 x4 : Int32) (σ : Mem), Vj (p, l, e, d, s, m, args, below, meth, c) w shR 6 1 σ 30 [(0, .ref (w.2.1 0)), (1, .int x1), (2, .int x2), (3, .int x3), (4, .int x4)] [] (l_X7_mean_30 N n x1 x2 x3 x4 σ)
| 0, _, _, _, _, _ => Vj.none
| n + 1, x1, x2, x3, x4, σ => vb_X7_mean_30 hg hdp (fun x1 x2 x3 x4 σ => vl_X7_mean_30 hg hdp n x1 x2 x3 x4 σ) x1 x2 x3 x4 σ
set_option maxHeartbeats 4000000 in
set_option maxRecDepth 100000 in
theorem e_X7_mean (N : Nat) (l : Launch) (w : mW) (v1 v2 : Int32) (σ : Mem) : Ev l w shR yX7_mean cX7_mean 6 (some .int) 1 37 [.ref (w.2.1 0), .int v1, .int v2] σ (f_X7_mean N v1 v2 σ) := by
  refine Ev.of (by decide) (m_c1_r (m_c1_i (m_c1_i m_c1_nil))) (Nat.le_of_ble_eq_true rfl) (fun p e s m args below meth c hg => ?_)
  have hdp := Nat.le_refl 37
  unfold f_X7_mean
  show Vj (p, l, e, 37, s, m, args, below, meth, c) w shR 6 1 σ 0 [(0, .ref (w.2.1 0)), (1, .int v1), (2, .int v2)] [] _
  refine r_aload_n hg 0 dX7_mean_0 rfl ?_
  refine r_iconst hg 0 dX7_mean_1 (by decide) ?_
  refine q_put (j := 0) hg rfl rfl rfl (by decide) iX7 kf_RX7_68 rfl tyX7_ok nmX7 rfl rfl dX7_mean_2 (fun σ1 => ?_)
  refine r_aload_n hg 0 dX7_mean_5 rfl ?_
  refine r_iload_n hg 1 dX7_mean_6 rfl ?_
  refine q_callv1 hg (e_X7_isCover N l w v1 σ1) kk_RX7_139 ki_X7_isCover ks_RX7_X7_isCover rfl rfl np_X7_isCover (Nat.le_trans (by decide) hdp) rfl m_c1_nil (Nat.le_of_ble_eq_true rfl) dX7_mean_7 (fun r2 σ3 => ?_)
  refine r_if_eq hg 22 dX7_mean_10 (by decide) ?_ ?_
  · refine r_ldc hg kv_RX7_216 dX7_mean_22 ?_
    exact r_iret hg dX7_mean_24 rfl rfl
  · refine r_iload_n hg 2 dX7_mean_13 rfl ?_
    refine r_iconst hg 0 dX7_mean_14 (by decide) ?_
    refine r_iconst hg 2 dX7_mean_15 (by decide) ?_
    refine q_calls1 hg (e_X7_isIn N l w v2 0 2 σ3) kk_RX7_107 kt_X7_isIn np_X7_isIn (Nat.le_trans (by decide) hdp) rfl m_c1_nil (Nat.le_of_ble_eq_true rfl) dX7_mean_16 (fun r4 σ5 => ?_)
    refine r_if_ne hg 25 dX7_mean_19 (by decide) ?_ ?_
    · refine r_iconst hg 0 dX7_mean_25 (by decide) ?_
      refine r_istore_n (lv' := [(3, .int 0), (0, .ref (w.2.1 0)), (1, .int v1), (2, .int v2)]) hg dX7_mean_26 (by decide) rfl ?_
      refine r_iconst hg 0 dX7_mean_27 (by decide) ?_
      refine r_istore (lv' := [(4, .int 0), (3, .int 0), (0, .ref (w.2.1 0)), (1, .int v1), (2, .int v2)]) hg dX7_mean_28 (by decide) rfl ?_
      refine r_lv [2, 3, 4, 1, 0] rfl ?_
      exact vl_X7_mean_30 hg hdp N v1 v2 0 0 σ5
    · refine r_ldc hg kv_RX7_216 dX7_mean_22 ?_
      exact r_iret hg dX7_mean_24 rfl rfl
end RM4
