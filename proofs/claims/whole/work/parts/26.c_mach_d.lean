section CM3
variable {p : Program} {l : Launch} {e : Env} {d : Nat} {s : State} {m : MethodId} {args : Array Value} {below : List Frame} {meth : Method} {c : Code} {w : mW}
set_option maxHeartbeats 4000000 in
set_option maxRecDepth 100000 in
theorem vj_X3_note_72 {N : Nat} (hg : m_ok (p, l, e, d, s, m, args, below, meth, c) w shC cX3_note 3 RX3 none) (hdp : 0 ≤ d) (x1 x2 : Int32) (σ : Mem) : Vj (p, l, e, d, s, m, args, below, meth, c) w shC 3 0 σ 72 [(0, .ref (w.2.1 20)), (1, .int x1), (2, .int x2)] [] (j_X3_note_72 N x1 x2 σ) := by
  unfold j_X3_note_72
  refine r_aload_n hg 0 dX3_note_72 rfl ?_
  refine r_iload_n hg 1 dX3_note_73 rfl ?_
  refine q_put (j := 1) hg rfl rfl rfl (by decide) iX3 kf_RX3_162 rfl tyX3_ok nmX3 rfl rfl dX3_note_74 (fun σ1 => ?_)
  refine r_aload_n hg 0 dX3_note_77 rfl ?_
  refine r_iload_n hg 2 dX3_note_78 rfl ?_
  refine q_put (j := 3) hg rfl rfl rfl (by decide) iX3 kf_RX3_165 rfl tyX3_ok nmX3 rfl rfl dX3_note_79 (fun σ2 => ?_)
  refine r_aload_n hg 0 dX3_note_82 rfl ?_
  refine r_iconst hg 1 dX3_note_83 (by decide) ?_
  refine q_putz (j := 4) hg rfl rfl rfl (by decide) iX3 kf_RX3_76 rfl tyX3_ok nmX3 rfl rfl dX3_note_84 (fun σ3 => ?_)
  exact r_ret hg dX3_note_87 rfl rfl
set_option maxHeartbeats 4000000 in
set_option maxRecDepth 100000 in
theorem vj_X3_note_31 {N : Nat} (hg : m_ok (p, l, e, d, s, m, args, below, meth, c) w shC cX3_note 3 RX3 none) (hdp : 0 ≤ d) (x1 x2 : Int32) (σ : Mem) : Vj (p, l, e, d, s, m, args, below, meth, c) w shC 3 0 σ 31 [(0, .ref (w.2.1 20)), (1, .int x1), (2, .int x2)] [] (j_X3_note_31 N x1 x2 σ) := by
  unfold j_X3_note_31
  refine r_aload_n hg 0 dX3_note_31 rfl ?_
  refine r_iload_n hg 1 dX3_note_32 rfl ?_
  refine q_put (j := 0) hg rfl rfl rfl (by decide) iX3 kf_RX3_156 rfl tyX3_ok nmX3 rfl rfl dX3_note_33 (fun σ1 => ?_)
  refine r_aload_n hg 0 dX3_note_36 rfl ?_
  refine r_iload_n hg 2 dX3_note_37 rfl ?_
  refine q_put (j := 2) hg rfl rfl rfl (by decide) iX3 kf_RX3_159 rfl tyX3_ok nmX3 rfl rfl dX3_note_38 (fun σ2 => ?_)
  refine r_aload_n hg 0 dX3_note_41 rfl ?_
  refine q_geti (j := 4) hg rfl rfl rfl (by decide) iX3 kf_RX3_76 rfl dX3_note_42 ?_
  refine r_if_eq hg 72 dX3_note_45 (by decide) ?_ ?_
  · exact vj_X3_note_72 hg hdp x1 x2 σ2
  · refine r_iload_n hg 1 dX3_note_48 rfl ?_
    refine r_aload_n hg 0 dX3_note_49 rfl ?_
    refine q_geti (j := 1) hg rfl rfl rfl (by decide) iX3 kf_RX3_162 rfl dX3_note_50 ?_
    refine r_icmp_lt hg 72 dX3_note_53 (by decide) ?_ ?_
    · exact vj_X3_note_72 hg hdp x1 x2 σ2
    · refine r_iload_n hg 1 dX3_note_56 rfl ?_
      refine r_aload_n hg 0 dX3_note_57 rfl ?_
      refine q_geti (j := 1) hg rfl rfl rfl (by decide) iX3 kf_RX3_162 rfl dX3_note_58 ?_
      refine r_icmp_ne hg 82 dX3_note_61 (by decide) ?_ ?_
      · refine r_aload_n hg 0 dX3_note_82 rfl ?_
        refine r_iconst hg 1 dX3_note_83 (by decide) ?_
        refine q_putz (j := 4) hg rfl rfl rfl (by decide) iX3 kf_RX3_76 rfl tyX3_ok nmX3 rfl rfl dX3_note_84 (fun σ3 => ?_)
        exact r_ret hg dX3_note_87 rfl rfl
      · refine r_iload_n hg 2 dX3_note_64 rfl ?_
        refine r_aload_n hg 0 dX3_note_65 rfl ?_
        refine q_geti (j := 3) hg rfl rfl rfl (by decide) iX3 kf_RX3_165 rfl dX3_note_66 ?_
        refine r_icmp_ge hg 82 dX3_note_69 (by decide) ?_ ?_
        · refine r_aload_n hg 0 dX3_note_82 rfl ?_
          refine r_iconst hg 1 dX3_note_83 (by decide) ?_
          refine q_putz (j := 4) hg rfl rfl rfl (by decide) iX3 kf_RX3_76 rfl tyX3_ok nmX3 rfl rfl dX3_note_84 (fun σ4 => ?_)
          exact r_ret hg dX3_note_87 rfl rfl
        · exact vj_X3_note_72 hg hdp x1 x2 σ2
set_option maxHeartbeats 4000000 in
set_option maxRecDepth 100000 in
theorem e_X3_note (N : Nat) (l : Launch) (w : mW) (v1 v2 : Int32) (σ : Mem) : Ev l w shC yX3_note cX3_note 3 none 0 0 [.ref (w.2.1 20), .int v1, .int v2] σ (f_X3_note N v1 v2 σ) := by
  refine Ev.of (by decide) (m_c1_r (m_c1_i (m_c1_i m_c1_nil))) (Nat.le_of_ble_eq_true rfl) (fun p e s m args below meth c hg => ?_)
  have hdp := Nat.le_refl 0
  unfold f_X3_note
  show Vj (p, l, e, 0, s, m, args, below, meth, c) w shC 3 0 σ 0 [(0, .ref (w.2.1 20)), (1, .int v1), (2, .int v2)] [] _
  refine r_aload_n hg 0 dX3_note_0 rfl ?_
  refine q_geti (j := 4) hg rfl rfl rfl (by decide) iX3 kf_RX3_76 rfl dX3_note_1 ?_
  refine r_if_eq hg 31 dX3_note_4 (by decide) ?_ ?_
  · exact vj_X3_note_31 hg hdp v1 v2 σ
  · refine r_iload_n hg 1 dX3_note_7 rfl ?_
    refine r_aload_n hg 0 dX3_note_8 rfl ?_
    refine q_geti (j := 0) hg rfl rfl rfl (by decide) iX3 kf_RX3_156 rfl dX3_note_9 ?_
    refine r_icmp_gt hg 31 dX3_note_12 (by decide) ?_ ?_
    · exact vj_X3_note_31 hg hdp v1 v2 σ
    · refine r_iload_n hg 1 dX3_note_15 rfl ?_
      refine r_aload_n hg 0 dX3_note_16 rfl ?_
      refine q_geti (j := 0) hg rfl rfl rfl (by decide) iX3 kf_RX3_156 rfl dX3_note_17 ?_
      refine r_icmp_ne hg 41 dX3_note_20 (by decide) ?_ ?_
      · refine r_aload_n hg 0 dX3_note_41 rfl ?_
        refine q_geti (j := 4) hg rfl rfl rfl (by decide) iX3 kf_RX3_76 rfl dX3_note_42 ?_
        refine r_if_eq hg 72 dX3_note_45 (by decide) ?_ ?_
        · exact vj_X3_note_72 hg hdp v1 v2 σ
        · refine r_iload_n hg 1 dX3_note_48 rfl ?_
          refine r_aload_n hg 0 dX3_note_49 rfl ?_
          refine q_geti (j := 1) hg rfl rfl rfl (by decide) iX3 kf_RX3_162 rfl dX3_note_50 ?_
          refine r_icmp_lt hg 72 dX3_note_53 (by decide) ?_ ?_
          · exact vj_X3_note_72 hg hdp v1 v2 σ
          · refine r_iload_n hg 1 dX3_note_56 rfl ?_
            refine r_aload_n hg 0 dX3_note_57 rfl ?_
            refine q_geti (j := 1) hg rfl rfl rfl (by decide) iX3 kf_RX3_162 rfl dX3_note_58 ?_
            refine r_icmp_ne hg 82 dX3_note_61 (by decide) ?_ ?_
            · refine r_aload_n hg 0 dX3_note_82 rfl ?_
              refine r_iconst hg 1 dX3_note_83 (by decide) ?_
              refine q_putz (j := 4) hg rfl rfl rfl (by decide) iX3 kf_RX3_76 rfl tyX3_ok nmX3 rfl rfl dX3_note_84 (fun σ1 => ?_)
              exact r_ret hg dX3_note_87 rfl rfl
            · refine r_iload_n hg 2 dX3_note_64 rfl ?_
              refine r_aload_n hg 0 dX3_note_65 rfl ?_
              refine q_geti (j := 3) hg rfl rfl rfl (by decide) iX3 kf_RX3_165 rfl dX3_note_66 ?_
              refine r_icmp_ge hg 82 dX3_note_69 (by decide) ?_ ?_
              · refine r_aload_n hg 0 dX3_note_82 rfl ?_
                refine r_iconst hg 1 dX3_note_83 (by decide) ?_
                refine q_putz (j := 4) hg rfl rfl rfl (by decide) iX3 kf_RX3_76 rfl tyX3_ok nmX3 rfl rfl dX3_note_84 (fun σ2 => ?_)
                exact r_ret hg dX3_note_87 rfl rfl
              · exact vj_X3_note_72 hg hdp v1 v2 σ
      · refine r_iload_n hg 2 dX3_note_23 rfl ?_
        refine r_aload_n hg 0 dX3_note_24 rfl ?_
        refine q_geti (j := 2) hg rfl rfl rfl (by decide) iX3 kf_RX3_159 rfl dX3_note_25 ?_
        refine r_icmp_ge hg 41 dX3_note_28 (by decide) ?_ ?_
        · refine r_aload_n hg 0 dX3_note_41 rfl ?_
          refine q_geti (j := 4) hg rfl rfl rfl (by decide) iX3 kf_RX3_76 rfl dX3_note_42 ?_
          refine r_if_eq hg 72 dX3_note_45 (by decide) ?_ ?_
          · exact vj_X3_note_72 hg hdp v1 v2 σ
          · refine r_iload_n hg 1 dX3_note_48 rfl ?_
            refine r_aload_n hg 0 dX3_note_49 rfl ?_
            refine q_geti (j := 1) hg rfl rfl rfl (by decide) iX3 kf_RX3_162 rfl dX3_note_50 ?_
            refine r_icmp_lt hg 72 dX3_note_53 (by decide) ?_ ?_
            · exact vj_X3_note_72 hg hdp v1 v2 σ
            · refine r_iload_n hg 1 dX3_note_56 rfl ?_
              refine r_aload_n hg 0 dX3_note_57 rfl ?_
              refine q_geti (j := 1) hg rfl rfl rfl (by decide) iX3 kf_RX3_162 rfl dX3_note_58 ?_
              refine r_icmp_ne hg 82 dX3_note_61 (by decide) ?_ ?_
              · refine r_aload_n hg 0 dX3_note_82 rfl ?_
                refine r_iconst hg 1 dX3_note_83 (by decide) ?_
                refine q_putz (j := 4) hg rfl rfl rfl (by decide) iX3 kf_RX3_76 rfl tyX3_ok nmX3 rfl rfl dX3_note_84 (fun σ3 => ?_)
                exact r_ret hg dX3_note_87 rfl rfl
              · refine r_iload_n hg 2 dX3_note_64 rfl ?_
                refine r_aload_n hg 0 dX3_note_65 rfl ?_
                refine q_geti (j := 3) hg rfl rfl rfl (by decide) iX3 kf_RX3_165 rfl dX3_note_66 ?_
                refine r_icmp_ge hg 82 dX3_note_69 (by decide) ?_ ?_
                · refine r_aload_n hg 0 dX3_note_82 rfl ?_
                  refine r_iconst hg 1 dX3_note_83 (by decide) ?_
                  refine q_putz (j := 4) hg rfl rfl rfl (by decide) iX3 kf_RX3_76 rfl tyX3_ok nmX3 rfl rfl dX3_note_84 (fun σ4 => ?_)
                  exact r_ret hg dX3_note_87 rfl rfl
                · exact vj_X3_note_72 hg hdp v1 v2 σ
        · exact vj_X3_note_31 hg hdp v1 v2 σ
set_option maxHeartbeats 4000000 in
set_option maxRecDepth 100000 in
theorem vj_X2_bringFor_86 {N : Nat} (hg : m_ok (p, l, e, d, s, m, args, below, meth, c) w shC cX2_bringFor 7 RX2 (some .int)) (hdp : 0 ≤ d) {K5 : Int32 → Int32 → Int32 → Int32 → Mem → Option (Int32 × Mem)} (hK5 : ∀ (x1 x2 x3 x4 : Int32) (σ : Mem), Vj (p, l, e, d, s, m, args, below, meth, c) w shC 7 1 σ 5 [(0, .ref (w.2.1 21)), (1, .int x1), (2, .int x2), (3, .int x3), (4, .int x4)] [] (K5 x1 x2 x3 x4 σ)) (x1 x2 x3 x4 x6 y0 y1 : Int32) (σ : Mem) : Vj (p, l, e, d, s, m, args, below, meth, c) w shC 7 1 σ 86 [(0, .ref (w.2.1 21)), (1, .int x1), (2, .int x2), (3, .int x3), (4, .int x4), (6, .int x6)] [.int y0, .int y1, .ref (w.2.1 41)] (j_X2_bringFor_86 N K5 x1 x2 x3 x4 x6 y0 y1 σ) := by
  unfold j_X2_bringFor_86
  refine q_iastore (n := 78) hg rfl dX2_bringFor_86 (fun σ1 => ?_)
  refine r_iload_n hg 3 dX2_bringFor_87 rfl ?_
  refine r_iload hg 5 dX2_bringFor_88 rfl ?_
  refine r_aload_n hg 0 dX2_bringFor_90 rfl ?_
  refine q_getr (j := 2) hg rfl rfl rfl (by decide) iX2 kf_RX2_20 rfl dX2_bringFor_91 ?_
  refine r_iload hg 4 dX2_bringFor_94 rfl ?_
  refine r_iaload (n := 6) hg rfl dX2_bringFor_96 ?_
  refine r_imul hg dX2_bringFor_97 ?_
  refine r_iadd hg dX2_bringFor_98 ?_
  refine q_name (fun u2 => ?_)
  refine r_istore_n (lv' := [(3, .int u2), (0, .ref (w.2.1 21)), (1, .int x1), (2, .int x2), (4, .int x4), (6, .int x6)]) hg dX2_bringFor_99 (by decide) rfl ?_
  refine r_iinc (lv' := [(4, .int (x4 + 1)), (3, .int u2), (0, .ref (w.2.1 21)), (1, .int x1), (2, .int x2), (6, .int x6)]) hg 4 (x4 + 1) dX2_bringFor_100 rfl rfl (by decide) rfl ?_
  refine r_goto hg 5 dX2_bringFor_103 (by decide) ?_
  refine r_lv [2, 3, 4, 1, 0] rfl ?_
  exact hK5 x1 x2 u2 (x4 + 1) σ1
set_option maxHeartbeats 4000000 in
set_option maxRecDepth 100000 in
theorem vj_X2_bringFor_57 {N : Nat} (hg : m_ok (p, l, e, d, s, m, args, below, meth, c) w shC cX2_bringFor 7 RX2 (some .int)) (hdp : 0 ≤ d) {K5 : Int32 → Int32 → Int32 → Int32 → Mem → Option (Int32 × Mem)} (hK5 : ∀ (x1 x2 x3 x4 : Int32) (σ : Mem), Vj (p, l, e, d, s, m, args, below, meth, c) w shC 7 1 σ 5 [(0, .ref (w.2.1 21)), (1, .int x1), (2, .int x2), (3, .int x3), (4, .int x4)] [] (K5 x1 x2 x3 x4 σ)) (x1 x2 x3 x4 x5 y0 : Int32) (σ : Mem) : Vj (p, l, e, d, s, m, args, below, meth, c) w shC 7 1 σ 57 [(0, .ref (w.2.1 21)), (1, .int x1), (2, .int x2), (3, .int x3), (4, .int x4), (5, .int x5)] [.int y0] (j_X2_bringFor_57 N K5 x1 x2 x3 x4 x5 y0 σ) := by
  unfold j_X2_bringFor_57
  refine r_istore (lv' := [(6, .int y0), (0, .ref (w.2.1 21)), (1, .int x1), (2, .int x2), (3, .int x3), (4, .int x4), (5, .int x5)]) hg dX2_bringFor_57 (by decide) rfl ?_
  refine r_aload_n hg 1 dX2_bringFor_59 rfl ?_
  refine q_getr (j := 3) hg rfl rfl rfl (by decide) iX2 kf_RX2_23 rfl dX2_bringFor_60 ?_
  refine r_iload_n hg 3 dX2_bringFor_63 rfl ?_
  refine r_iconst hg 1 dX2_bringFor_64 (by decide) ?_
  refine r_iadd hg dX2_bringFor_65 ?_
  refine r_bipush hg 6 dX2_bringFor_66 (by decide) ?_
  refine r_imul hg dX2_bringFor_68 ?_
  refine r_iload hg 5 dX2_bringFor_69 rfl ?_
  refine r_iadd hg dX2_bringFor_71 ?_
  refine r_iload hg 0 dX2_bringFor_72 rfl ?_
  refine r_if_le hg 84 dX2_bringFor_74 (by decide) ?_ ?_
  · refine r_iload hg 6 dX2_bringFor_84 rfl ?_
    refine r_lv [1, 2, 3, 4, 5, 0] rfl ?_
    exact vj_X2_bringFor_86 hg hdp hK5 x1 x2 x3 x4 y0 x5 (((x2 + 1) * 6) + x4) σ
  · refine r_iload hg 6 dX2_bringFor_77 rfl ?_
    refine r_iconst hg 1 dX2_bringFor_79 (by decide) ?_
    refine r_iadd hg dX2_bringFor_80 ?_
    refine r_goto hg 86 dX2_bringFor_81 (by decide) ?_
    refine r_lv [1, 2, 3, 4, 5, 0] rfl ?_
    exact vj_X2_bringFor_86 hg hdp hK5 x1 x2 x3 x4 y0 (x5 + 1) (((x2 + 1) * 6) + x4) σ
set_option maxHeartbeats 4000000 in
set_option maxRecDepth 100000 in
theorem vb_X2_bringFor_5 {N : Nat} (hg : m_ok (p, l, e, d, s, m, args, below, meth, c) w shC cX2_bringFor 7 RX2 (some .int)) (hdp : 0 ≤ d) {K5 : Int32 → Int32 → Int32 → Int32 → Mem → Option (Int32 × Mem)} (hK5 : ∀ (x1 x2 x3 x4 : Int32) (σ : Mem), Vj (p, l, e, d, s, m, args, below, meth, c) w shC 7 1 σ 5 [(0, .ref (w.2.1 21)), (1, .int x1), (2, .int x2), (3, .int x3), (4, .int x4)] [] (K5 x1 x2 x3 x4 σ)) (x1 x2 x3 x4 : Int32) (σ : Mem) : Vj (p, l, e, d, s, m, args, below, meth, c) w shC 7 1 σ 5 [(0, .ref (w.2.1 21)), (1, .int x1), (2, .int x2), (3, .int x3), (4, .int x4)] [] (b_X2_bringFor_5 N K5 x1 x2 x3 x4 σ) := by
  unfold b_X2_bringFor_5
  refine r_iload hg 4 dX2_bringFor_5 rfl ?_
  refine r_aload_n hg 0 dX2_bringFor_7 rfl ?_
  refine q_geti (j := 5) hg rfl rfl rfl (by decide) iX2 kf_RX2_32 rfl dX2_bringFor_8 ?_
  refine r_icmp_ge hg 106 dX2_bringFor_11 (by decide) ?_ ?_
  · refine r_iload_n hg 3 dX2_bringFor_106 rfl ?_
    exact r_iret hg dX2_bringFor_107 rfl rfl
  · refine r_aload_n hg 0 dX2_bringFor_14 rfl ?_
    refine q_getr (j := 3) hg rfl rfl rfl (by decide) iX2 kf_RX2_23 rfl dX2_bringFor_15 ?_
    refine r_iload_n hg 2 dX2_bringFor_18 rfl ?_
    refine r_bipush hg 6 dX2_bringFor_19 (by decide) ?_
    refine r_imul hg dX2_bringFor_21 ?_
    refine r_iload hg 4 dX2_bringFor_22 rfl ?_
    refine r_iadd hg dX2_bringFor_24 ?_
    refine r_iaload (n := 78) hg rfl dX2_bringFor_25 ?_
    refine q_name (fun u1 => ?_)
    refine r_istore (lv' := [(5, .int u1), (0, .ref (w.2.1 21)), (1, .int x1), (2, .int x2), (3, .int x3), (4, .int x4)]) hg dX2_bringFor_26 (by decide) rfl ?_
    refine r_iload hg 0 dX2_bringFor_28 rfl ?_
    refine r_aload_n hg 1 dX2_bringFor_30 rfl ?_
    refine q_getr (j := 1) hg rfl rfl rfl (by decide) iX2 kf_RX2_17 rfl dX2_bringFor_31 ?_
    refine r_iload hg 5 dX2_bringFor_34 rfl ?_
    refine r_iaload (n := 6) hg rfl dX2_bringFor_36 ?_
    refine r_icmp_ge hg 56 dX2_bringFor_37 (by decide) ?_ ?_
    · refine r_iconst hg 0 dX2_bringFor_56 (by decide) ?_
      refine r_lv [1, 2, 3, 4, 5, 0] rfl ?_
      exact vj_X2_bringFor_57 hg hdp hK5 x1 x2 x3 x4 u1 0 σ
    · refine r_aload_n hg 1 dX2_bringFor_40 rfl ?_
      refine q_getr (j := 0) hg rfl rfl rfl (by decide) iX2 kf_RX2_11 rfl dX2_bringFor_41 ?_
      refine r_iload hg 5 dX2_bringFor_44 rfl ?_
      refine r_sipush hg 256 dX2_bringFor_46 (by decide) ?_
      refine r_imul hg dX2_bringFor_49 ?_
      refine r_iload_n hg 2 dX2_bringFor_50 rfl ?_
      refine r_iadd hg dX2_bringFor_51 ?_
      refine r_iaload (n := 1536) hg rfl dX2_bringFor_52 ?_
      refine r_goto hg 57 dX2_bringFor_53 (by decide) ?_
      refine r_lv [1, 2, 3, 4, 5, 0] rfl ?_
      exact vj_X2_bringFor_57 hg hdp hK5 x1 x2 x3 x4 u1 (σ 38 ((x4 * 256) + x1).toNatClampNeg) σ
set_option maxHeartbeats 4000000 in
set_option maxRecDepth 100000 in
theorem vl_X2_bringFor_5 {N : Nat} (hg : m_ok (p, l, e, d, s, m, args, below, meth, c) w shC cX2_bringFor 7 RX2 (some .int)) (hdp : 0 ≤ d) : ∀ (n : Nat) (x1 x2 x3 x4 : Int32) (σ : Mem), Vj (p, l, e, d, s, m, args, below, meth, c) w shC 7 1 σ 5 [(0, .ref (w.2.1 21)), (1, .int x1), (2, .int x2), (3, .int x3), (4, .int x4)] [] (l_X2_bringFor_5 N n x1 x2 x3 x4 σ)
| 0, _, _, _, _, _ => Vj.none
| n + 1, x1, x2, x3, x4, σ => vb_X2_bringFor_5 hg hdp (fun x1 x2 x3 x4 σ => vl_X2_bringFor_5 hg hdp n x1 x2 x3 x4 σ) x1 x2 x3 x4 σ
set_option maxHeartbeats 4000000 in
set_option maxRecDepth 100000 in
theorem e_X2_bringFor (N : Nat) (l : Launch) (w : mW) (v1 v2 : Int32) (σ : Mem) : Ev l w shC yX2_bringFor cX2_bringFor 7 (some .int) 1 0 [.ref (w.2.1 21), .int v1, .int v2] σ (f_X2_bringFor N v1 v2 σ) := by
  refine Ev.of (by decide) (m_c1_r (m_c1_i (m_c1_i m_c1_nil))) (Nat.le_of_ble_eq_true rfl) (fun p e s m args below meth c hg => ?_)
  have hdp := Nat.le_refl 0
  unfold f_X2_bringFor
  show Vj (p, l, e, 0, s, m, args, below, meth, c) w shC 7 1 σ 0 [(0, .ref (w.2.1 21)), (1, .int v1), (2, .int v2)] [] _
  refine r_iconst hg 0 dX2_bringFor_0 (by decide) ?_
  refine r_istore_n (lv' := [(3, .int 0), (0, .ref (w.2.1 21)), (1, .int v1), (2, .int v2)]) hg dX2_bringFor_1 (by decide) rfl ?_
  refine r_iconst hg 0 dX2_bringFor_2 (by decide) ?_
  refine r_istore (lv' := [(4, .int 0), (3, .int 0), (0, .ref (w.2.1 21)), (1, .int v1), (2, .int v2)]) hg dX2_bringFor_3 (by decide) rfl ?_
  refine r_lv [2, 3, 4, 1, 0] rfl ?_
  exact vl_X2_bringFor_5 hg hdp N v1 v2 0 0 σ
set_option maxHeartbeats 4000000 in
set_option maxRecDepth 100000 in
theorem vb_X3_part_53 {N : Nat} (hg : m_ok (p, l, e, d, s, m, args, below, meth, c) w shC cX3_part 8 RX3 none) (hdp : 1 ≤ d) {dr : Nat} (hdr : dr + 1 ≤ d) {rec : Int32 → Int32 → Int32 → Mem → Option (Int32 × Mem)} (hrec : ∀ (v1 v2 v3 : Int32) (σ : Mem), Ev l w shC yX3_part cX3_part 8 none 0 dr [.ref (w.2.1 20), .int v1, .int v2, .int v3] σ (rec v1 v2 v3 σ)) {K53 : Int32 → Int32 → Int32 → Int32 → Int32 → Mem → Option (Int32 × Mem)} (hK53 : ∀ (x1 x2 x3 x5 x6 : Int32) (σ : Mem), Vj (p, l, e, d, s, m, args, below, meth, c) w shC 8 0 σ 53 [(0, .ref (w.2.1 20)), (1, .int x1), (2, .int x2), (3, .int x3), (5, .int x5), (6, .int x6)] [] (K53 x1 x2 x3 x5 x6 σ)) (x1 x2 x3 x5 x6 : Int32) (σ : Mem) : Vj (p, l, e, d, s, m, args, below, meth, c) w shC 8 0 σ 53 [(0, .ref (w.2.1 20)), (1, .int x1), (2, .int x2), (3, .int x3), (5, .int x5), (6, .int x6)] [] (b_X3_part_53 N rec K53 x1 x2 x3 x5 x6 σ) := by
  unfold b_X3_part_53
  refine r_iload hg 5 dX3_part_53 rfl ?_
  refine r_iload hg 4 dX3_part_55 rfl ?_
  refine r_icmp_ge hg 107 dX3_part_57 (by decide) ?_ ?_
  · exact r_ret hg dX3_part_107 rfl rfl
  · refine r_aload_n hg 0 dX3_part_60 rfl ?_
    refine q_getr (j := 10) hg rfl rfl rfl (by decide) iX3 kf_RX3_36 rfl dX3_part_61 ?_
    refine r_iload hg 5 dX3_part_64 rfl ?_
    refine r_iaload (n := 256) hg rfl dX3_part_66 ?_
    refine q_name (fun u1 => ?_)
    refine r_istore (lv' := [(7, .int u1), (0, .ref (w.2.1 20)), (1, .int x1), (2, .int x2), (3, .int x3), (5, .int x5), (6, .int x6)]) hg dX3_part_67 (by decide) rfl ?_
    refine r_iload hg 0 dX3_part_69 rfl ?_
    refine r_iload_n hg 2 dX3_part_71 rfl ?_
    refine r_iconst hg (-1) dX3_part_72 (by decide) ?_
    refine r_ixor hg dX3_part_73 ?_
    refine r_iand hg dX3_part_74 ?_
    refine r_if_ne hg 101 dX3_part_75 (by decide) ?_ ?_
    · refine r_iinc (lv' := [(6, .int (x6 + 1)), (7, .int u1), (0, .ref (w.2.1 20)), (1, .int x1), (2, .int x2), (3, .int x3), (5, .int x5)]) hg 6 (x6 + 1) dX3_part_101 rfl rfl (by decide) rfl ?_
      refine r_goto hg 53 dX3_part_104 (by decide) ?_
      refine r_lv [2, 3, 4, 5, 6, 0] rfl ?_
      exact hK53 x1 x2 x3 x5 (x6 + 1) σ
    · refine r_aload_n hg 1 dX3_part_78 rfl ?_
      refine r_iload_n hg 2 dX3_part_79 rfl ?_
      refine r_iload hg 0 dX3_part_80 rfl ?_
      refine r_ixor hg dX3_part_82 ?_
      refine r_iload_n hg 3 dX3_part_83 rfl ?_
      refine r_iconst hg 1 dX3_part_84 (by decide) ?_
      refine r_iadd hg dX3_part_85 ?_
      refine r_iload_n hg 4 dX3_part_86 rfl ?_
      refine r_aload_n hg 1 dX3_part_87 rfl ?_
      refine q_getr (j := 7) hg rfl rfl rfl (by decide) iX3 kf_RX3_25 rfl dX3_part_88 ?_
      refine r_iload hg 6 dX3_part_91 rfl ?_
      refine r_iload_n hg 3 dX3_part_93 rfl ?_
      refine q_callv1 hg (e_X2_bringFor N l w x6 x2 σ) kk_RX3_152 ki_X2_bringFor ks_RX2_X2_bringFor rfl rfl np_X2_bringFor (Nat.le_trans (by decide) hdp) rfl (m_c1_i (m_c1_i (m_c1_i (m_c1_r m_c1_nil)))) (Nat.le_of_ble_eq_true rfl) dX3_part_94 (fun r2 σ3 => ?_)
      refine r_iadd hg dX3_part_97 ?_
      refine q_callv0 hg (hrec (x1 ^^^ u1) (x2 + 1) (x3 + r2) σ3) kk_RX3_113 ki_X3_part ks_RX3_X3_part rfl rfl np_X3_part hdr rfl m_c1_nil (Nat.le_of_ble_eq_true rfl) dX3_part_98 (fun r4 σ5 => ?_)
      refine r_iinc (lv' := [(6, .int (x6 + 1)), (7, .int u1), (0, .ref (w.2.1 20)), (1, .int x1), (2, .int x2), (3, .int x3), (5, .int x5)]) hg 6 (x6 + 1) dX3_part_101 rfl rfl (by decide) rfl ?_
      refine r_goto hg 53 dX3_part_104 (by decide) ?_
      refine r_lv [2, 3, 4, 5, 6, 0] rfl ?_
      exact hK53 x1 x2 x3 x5 (x6 + 1) σ5
set_option maxHeartbeats 4000000 in
set_option maxRecDepth 100000 in
theorem vl_X3_part_53 {N : Nat} (hg : m_ok (p, l, e, d, s, m, args, below, meth, c) w shC cX3_part 8 RX3 none) (hdp : 1 ≤ d) {dr : Nat} (hdr : dr + 1 ≤ d) {rec : Int32 → Int32 → Int32 → Mem → Option (Int32 × Mem)} (hrec : ∀ (v1 v2 v3 : Int32) (σ : Mem), Ev l w shC yX3_part cX3_part 8 none 0 dr [.ref (w.2.1 20), .int v1, .int v2, .int v3] σ (rec v1 v2 v3 σ)) : ∀ (n : Nat) (x1 x2 x3 x5 x6 : Int32) (σ : Mem), Vj (p, l, e, d, s, m, args, below, meth, c) w shC 8 0 σ 53 [(0, .ref (w.2.1 20)), (1, .int x1), (2, .int x2), (3, .int x3), (5, .int x5), (6, .int x6)] [] (l_X3_part_53 N rec n x1 x2 x3 x5 x6 σ)
| 0, _, _, _, _, _, _ => Vj.none
| n + 1, x1, x2, x3, x5, x6, σ => vb_X3_part_53 hg hdp hdr hrec (fun x1 x2 x3 x5 x6 σ => vl_X3_part_53 hg hdp hdr hrec n x1 x2 x3 x5 x6 σ) x1 x2 x3 x5 x6 σ
set_option maxHeartbeats 4000000 in
set_option maxRecDepth 100000 in
theorem vf_X3_part {N : Nat} (hg : m_ok (p, l, e, d, s, m, args, below, meth, c) w shC cX3_part 8 RX3 none) (hdp : 1 ≤ d) {dr : Nat} (hdr : dr + 1 ≤ d) {rec : Int32 → Int32 → Int32 → Mem → Option (Int32 × Mem)} (hrec : ∀ (v1 v2 v3 : Int32) (σ : Mem), Ev l w shC yX3_part cX3_part 8 none 0 dr [.ref (w.2.1 20), .int v1, .int v2, .int v3] σ (rec v1 v2 v3 σ)) (v1 v2 v3 : Int32) (σ : Mem) : Vj (p, l, e, d, s, m, args, below, meth, c) w shC 8 0 σ 0 [(0, .ref (w.2.1 20)), (1, .int v1), (2, .int v2), (3, .int v3)] [] (fb_X3_part N rec v1 v2 v3 σ) := by
  unfold fb_X3_part
  refine r_iload_n hg 1 dX3_part_0 rfl ?_
  refine r_if_ne hg 11 dX3_part_1 (by decide) ?_ ?_
  · refine r_iload_n hg 1 dX3_part_11 rfl ?_
    refine q_calls1 hg (e_J6_numberOfTrailingZeros_0f7a4 N l w v1 σ) kk_RX3_149 kt_J6_numberOfTrailingZeros_0f7a4 np_J6_numberOfTrailingZeros_0f7a4 (Nat.le_trans (by decide) hdp) rfl m_c1_nil (Nat.le_of_ble_eq_true rfl) dX3_part_12 (fun r1 σ2 => ?_)
    refine r_istore (lv' := [(4, .int r1), (0, .ref (w.2.1 20)), (1, .int v1), (2, .int v2), (3, .int v3)]) hg dX3_part_15 (by decide) rfl ?_
    refine r_iload_n hg 3 dX3_part_17 rfl ?_
    refine r_bipush hg 12 dX3_part_18 (by decide) ?_
    refine r_icmp_ge hg 32 dX3_part_20 (by decide) ?_ ?_
    · exact r_ret hg dX3_part_32 rfl rfl
    · refine r_iload hg 0 dX3_part_23 rfl ?_
      refine r_aload_n hg 1 dX3_part_25 rfl ?_
      refine q_geti (j := 12) hg rfl rfl rfl (by decide) iX3 kf_RX3_93 rfl dX3_part_26 ?_
      refine r_icmp_lt hg 33 dX3_part_29 (by decide) ?_ ?_
      · refine r_aload_n hg 1 dX3_part_33 rfl ?_
        refine q_getr (j := 11) hg rfl rfl rfl (by decide) iX3 kf_RX3_39 rfl dX3_part_34 ?_
        refine r_iload hg 0 dX3_part_37 rfl ?_
        refine r_iconst hg 1 dX3_part_39 (by decide) ?_
        refine r_iadd hg dX3_part_40 ?_
        refine r_iaload (n := 13) hg rfl dX3_part_41 ?_
        refine q_name (fun u3 => ?_)
        refine r_istore (lv' := [(5, .int u3), (4, .int r1), (0, .ref (w.2.1 20)), (1, .int v1), (2, .int v2), (3, .int v3)]) hg dX3_part_42 (by decide) rfl ?_
        refine r_aload_n hg 2 dX3_part_44 rfl ?_
        refine q_getr (j := 11) hg rfl rfl rfl (by decide) iX3 kf_RX3_39 rfl dX3_part_45 ?_
        refine r_iload hg 1 dX3_part_48 rfl ?_
        refine r_iaload (n := 13) hg rfl dX3_part_50 ?_
        refine q_name (fun u4 => ?_)
        refine r_istore (lv' := [(6, .int u4), (5, .int u3), (4, .int r1), (0, .ref (w.2.1 20)), (1, .int v1), (2, .int v2), (3, .int v3)]) hg dX3_part_51 (by decide) rfl ?_
        refine r_lv [3, 4, 5, 6, 1, 0] rfl ?_
        exact vl_X3_part_53 hg hdp hdr hrec N v1 v2 v3 u3 u4 σ2
      · exact r_ret hg dX3_part_32 rfl rfl
  · refine r_aload_n hg 0 dX3_part_4 rfl ?_
    refine r_iload_n hg 3 dX3_part_5 rfl ?_
    refine r_iload_n hg 2 dX3_part_6 rfl ?_
    refine q_callv0 hg (e_X3_note N l w v3 v2 σ) kk_RX3_146 ki_X3_note ks_RX3_X3_note rfl rfl np_X3_note (Nat.le_trans (by decide) hdp) rfl m_c1_nil (Nat.le_of_ble_eq_true rfl) dX3_part_7 (fun r5 σ6 => ?_)
    exact r_ret hg dX3_part_10 rfl rfl
set_option maxHeartbeats 4000000 in
set_option maxRecDepth 100000 in
theorem e_X3_part (N : Nat) : ∀ (n : Nat) (l : Launch) (w : mW) (v1 v2 v3 : Int32) (σ : Mem), Ev l w shC yX3_part cX3_part 8 none 0 (1 + n) [.ref (w.2.1 20), .int v1, .int v2, .int v3] σ (f_X3_part N n v1 v2 v3 σ)
| 0, _, _, _, _, _, _ => fun _ _ ho => nomatch ho
| n + 1, l, w, v1, v2, v3, σ => Ev.of (by decide) (m_c1_r (m_c1_i (m_c1_i (m_c1_i m_c1_nil)))) (Nat.le_of_ble_eq_true rfl) (fun p e s m args below meth c hg => vf_X3_part hg (Nat.le_add_right _ _) (dr := 1 + n) (Nat.le_refl _) (fun v1 v2 v3 σ => e_X3_part N n l w v1 v2 v3 σ) v1 v2 v3 σ)
set_option maxHeartbeats 4000000 in
set_option maxRecDepth 100000 in
theorem vb_X3_areOne_4 {N : Nat} (hg : m_ok (p, l, e, d, s, m, args, below, meth, c) w shC cX3_areOne 4 RX3 (some .boolean)) (hdp : 1 ≤ d) {K4 : Int32 → Int32 → Int32 → Mem → Option (Int32 × Mem)} (hK4 : ∀ (x1 x2 x3 : Int32) (σ : Mem), Vj (p, l, e, d, s, m, args, below, meth, c) w shC 4 1 σ 4 [(0, .ref (w.2.1 20)), (1, .int x1), (2, .int x2), (3, .int x3)] [] (K4 x1 x2 x3 σ)) (x1 x2 x3 : Int32) (σ : Mem) : Vj (p, l, e, d, s, m, args, below, meth, c) w shC 4 1 σ 4 [(0, .ref (w.2.1 20)), (1, .int x1), (2, .int x2), (3, .int x3)] [] (b_X3_areOne_4 N K4 x1 x2 x3 σ) := by
  unfold b_X3_areOne_4
  refine r_iload_n hg 3 dX3_areOne_4 rfl ?_
  refine r_aload_n hg 0 dX3_areOne_5 rfl ?_
  refine q_geti (j := 12) hg rfl rfl rfl (by decide) iX3 kf_RX3_93 rfl dX3_areOne_6 ?_
  refine r_icmp_ge hg 58 dX3_areOne_9 (by decide) ?_ ?_
  · refine r_iload_n hg 2 dX3_areOne_58 rfl ?_
    refine r_if_ne hg 72 dX3_areOne_59 (by decide) ?_ ?_
    · refine r_iconst hg 1 dX3_areOne_72 (by decide) ?_
      refine r_goto hg 77 dX3_areOne_73 (by decide) ?_
      exact r_zret hg dX3_areOne_77 rfl rfl
    · refine r_aload_n hg 0 dX3_areOne_62 rfl ?_
      refine q_getd (j := 6) hg rfl rfl rfl (by decide) iX3 kf_RX3_18 rfl dX3_areOne_63 ?_
      refine q_callq1 hg (e_X0_asksCauses N l w (σ 20 6) σ) kk_RX3_124 ki_X0_asksCauses ks_RX0_X0_asksCauses shC_q2 np_X0_asksCauses (Nat.le_trans (by decide) hdp) rfl m_c1_nil (Nat.le_of_ble_eq_true rfl) dX3_areOne_66 (fun r1 σ2 => ?_)
      refine r_if_ne hg 76 dX3_areOne_69 (by decide) ?_ ?_
      · refine r_iconst hg 0 dX3_areOne_76 (by decide) ?_
        exact r_zret hg dX3_areOne_77 rfl rfl
      · refine r_iconst hg 1 dX3_areOne_72 (by decide) ?_
        refine r_goto hg 77 dX3_areOne_73 (by decide) ?_
        exact r_zret hg dX3_areOne_77 rfl rfl
  · refine r_iload_n hg 1 dX3_areOne_12 rfl ?_
    refine r_iconst hg 1 dX3_areOne_13 (by decide) ?_
    refine r_iload_n hg 3 dX3_areOne_14 rfl ?_
    refine r_ishl hg dX3_areOne_15 ?_
    refine r_iand hg dX3_areOne_16 ?_
    refine r_if_eq hg 52 dX3_areOne_17 (by decide) ?_ ?_
    · refine r_iinc (lv' := [(3, .int (x3 + 1)), (0, .ref (w.2.1 20)), (1, .int x1), (2, .int x2)]) hg 3 (x3 + 1) dX3_areOne_52 rfl rfl (by decide) rfl ?_
      refine r_goto hg 4 dX3_areOne_55 (by decide) ?_
      refine r_lv [1, 2, 3, 0] rfl ?_
      exact hK4 x1 x2 (x3 + 1) σ
    · refine r_iload_n hg 1 dX3_areOne_20 rfl ?_
      refine r_aload_n hg 0 dX3_areOne_21 rfl ?_
      refine q_getr (j := 9) hg rfl rfl rfl (by decide) iX3 kf_RX3_33 rfl dX3_areOne_22 ?_
      refine r_iload_n hg 3 dX3_areOne_25 rfl ?_
      refine r_iaload (n := 12) hg rfl dX3_areOne_26 ?_
      refine r_iconst hg (-1) dX3_areOne_27 (by decide) ?_
      refine r_ixor hg dX3_areOne_28 ?_
      refine r_iand hg dX3_areOne_29 ?_
      refine r_if_eq hg 35 dX3_areOne_30 (by decide) ?_ ?_
      · refine r_iload_n hg 2 dX3_areOne_35 rfl ?_
        refine r_aload_n hg 0 dX3_areOne_36 rfl ?_
        refine q_getr (j := 5) hg rfl rfl rfl (by decide) iX3 kf_RX3_9 rfl dX3_areOne_37 ?_
        refine q_getr (j := 5) hg rfl rfl rfl (by decide) iX1 kf_RX3_121 rfl dX3_areOne_40 ?_
        refine r_aload_n hg 0 dX3_areOne_43 rfl ?_
        refine q_getr (j := 8) hg rfl rfl rfl (by decide) iX3 kf_RX3_29 rfl dX3_areOne_44 ?_
        refine r_iload_n hg 3 dX3_areOne_47 rfl ?_
        refine r_iaload (n := 12) hg rfl dX3_areOne_48 ?_
        refine r_iaload (n := 12) hg rfl dX3_areOne_49 ?_
        refine r_iand hg dX3_areOne_50 ?_
        refine q_name (fun u3 => ?_)
        refine r_istore_n (lv' := [(2, .int u3), (0, .ref (w.2.1 20)), (1, .int x1), (3, .int x3)]) hg dX3_areOne_51 (by decide) rfl ?_
        refine r_iinc (lv' := [(3, .int (x3 + 1)), (2, .int u3), (0, .ref (w.2.1 20)), (1, .int x1)]) hg 3 (x3 + 1) dX3_areOne_52 rfl rfl (by decide) rfl ?_
        refine r_goto hg 4 dX3_areOne_55 (by decide) ?_
        refine r_lv [2, 3, 1, 0] rfl ?_
        exact hK4 x1 u3 (x3 + 1) σ
      · refine r_iconst hg 0 dX3_areOne_33 (by decide) ?_
        exact r_zret hg dX3_areOne_34 rfl rfl
set_option maxHeartbeats 4000000 in
set_option maxRecDepth 100000 in
theorem vl_X3_areOne_4 {N : Nat} (hg : m_ok (p, l, e, d, s, m, args, below, meth, c) w shC cX3_areOne 4 RX3 (some .boolean)) (hdp : 1 ≤ d) : ∀ (n : Nat) (x1 x2 x3 : Int32) (σ : Mem), Vj (p, l, e, d, s, m, args, below, meth, c) w shC 4 1 σ 4 [(0, .ref (w.2.1 20)), (1, .int x1), (2, .int x2), (3, .int x3)] [] (l_X3_areOne_4 N n x1 x2 x3 σ)
| 0, _, _, _, _ => Vj.none
| n + 1, x1, x2, x3, σ => vb_X3_areOne_4 hg hdp (fun x1 x2 x3 σ => vl_X3_areOne_4 hg hdp n x1 x2 x3 σ) x1 x2 x3 σ
set_option maxHeartbeats 4000000 in
set_option maxRecDepth 100000 in
theorem e_X3_areOne (N : Nat) (l : Launch) (w : mW) (v1 : Int32) (σ : Mem) : Ev l w shC yX3_areOne cX3_areOne 4 (some .boolean) 1 1 [.ref (w.2.1 20), .int v1] σ (f_X3_areOne N v1 σ) := by
  refine Ev.of (by decide) (m_c1_r (m_c1_i m_c1_nil)) (Nat.le_of_ble_eq_true rfl) (fun p e s m args below meth c hg => ?_)
  have hdp := Nat.le_refl 1
  unfold f_X3_areOne
  show Vj (p, l, e, 1, s, m, args, below, meth, c) w shC 4 1 σ 0 [(0, .ref (w.2.1 20)), (1, .int v1)] [] _
  refine r_iconst hg (-1) dX3_areOne_0 (by decide) ?_
  refine q_name (fun u1 => ?_)
  refine r_istore_n (lv' := [(2, .int u1), (0, .ref (w.2.1 20)), (1, .int v1)]) hg dX3_areOne_1 (by decide) rfl ?_
  refine r_iconst hg 0 dX3_areOne_2 (by decide) ?_
  refine r_istore_n (lv' := [(3, .int 0), (2, .int u1), (0, .ref (w.2.1 20)), (1, .int v1)]) hg dX3_areOne_3 (by decide) rfl ?_
  refine r_lv [2, 3, 1, 0] rfl ?_
  exact vl_X3_areOne_4 hg hdp N v1 u1 0 σ
set_option maxHeartbeats 4000000 in
set_option maxRecDepth 100000 in
theorem e_X3_list (N : Nat) (l : Launch) (w : mW) (v1 : Int32) (σ : Mem) : Ev l w shC yX3_list cX3_list 2 none 0 0 [.ref (w.2.1 20), .int v1] σ (f_X3_list N v1 σ) := by
  refine Ev.of (by decide) (m_c1_r (m_c1_i m_c1_nil)) (Nat.le_of_ble_eq_true rfl) (fun p e s m args below meth c hg => ?_)
  have hdp := Nat.le_refl 0
  unfold f_X3_list
  show Vj (p, l, e, 0, s, m, args, below, meth, c) w shC 2 0 σ 0 [(0, .ref (w.2.1 20)), (1, .int v1)] [] _
  refine r_aload_n hg 0 dX3_list_0 rfl ?_
  refine q_geti (j := 13) hg rfl rfl rfl (by decide) iX3 kf_RX3_100 rfl dX3_list_1 ?_
  refine r_sipush hg 256 dX3_list_4 (by decide) ?_
  refine r_icmp_ge hg 30 dX3_list_7 (by decide) ?_ ?_
  · exact r_ret hg dX3_list_30 rfl rfl
  · refine r_aload_n hg 0 dX3_list_10 rfl ?_
    refine q_getr (j := 10) hg rfl rfl rfl (by decide) iX3 kf_RX3_36 rfl dX3_list_11 ?_
    refine r_aload_n hg 0 dX3_list_14 rfl ?_
    refine q_geti (j := 13) hg rfl rfl rfl (by decide) iX3 kf_RX3_100 rfl dX3_list_15 ?_
    refine r_iload_n hg 1 dX3_list_18 rfl ?_
    refine q_iastore (n := 256) hg rfl dX3_list_19 (fun σ1 => ?_)
    refine r_aload_n hg 0 dX3_list_20 rfl ?_
    refine r_dupr hg dX3_list_21 ?_
    refine q_geti (j := 13) hg rfl rfl rfl (by decide) iX3 kf_RX3_100 rfl dX3_list_22 ?_
    refine r_iconst hg 1 dX3_list_25 (by decide) ?_
    refine r_iadd hg dX3_list_26 ?_
    refine q_put (j := 13) hg rfl rfl rfl (by decide) iX3 kf_RX3_100 rfl tyX3_ok nmX3 rfl rfl dX3_list_27 (fun σ2 => ?_)
    exact r_ret hg dX3_list_30 rfl rfl
set_option maxHeartbeats 4000000 in
set_option maxRecDepth 100000 in
theorem vj_X3_listRunsFrom_92 {N : Nat} (hg : m_ok (p, l, e, d, s, m, args, below, meth, c) w shC cX3_listRunsFrom 5 RX3 none) (hdp : 2 ≤ d) {K4 : Int32 → Int32 → Mem → Option (Int32 × Mem)} (hK4 : ∀ (x2 x3 : Int32) (σ : Mem), Vj (p, l, e, d, s, m, args, below, meth, c) w shC 5 0 σ 4 [(0, .ref (w.2.1 20)), (2, .int x2), (3, .int x3)] [] (K4 x2 x3 σ)) (x2 x3 : Int32) (σ : Mem) : Vj (p, l, e, d, s, m, args, below, meth, c) w shC 5 0 σ 92 [(0, .ref (w.2.1 20)), (2, .int x2), (3, .int x3)] [] (j_X3_listRunsFrom_92 N K4 x2 x3 σ) := by
  unfold j_X3_listRunsFrom_92
  refine r_aload_n hg 0 dX3_listRunsFrom_92 rfl ?_
  refine r_iload_n hg 1 dX3_listRunsFrom_93 rfl ?_
  refine q_callv0 hg (e_X3_list N l w x2 σ) kk_RX3_130 ki_X3_list ks_RX3_X3_list rfl rfl np_X3_list (Nat.le_trans (by decide) hdp) rfl m_c1_nil (Nat.le_of_ble_eq_true rfl) dX3_listRunsFrom_94 (fun r1 σ2 => ?_)
  refine r_iinc (lv' := [(3, .int (x3 + 1)), (0, .ref (w.2.1 20)), (2, .int x2)]) hg 2 (x3 + 1) dX3_listRunsFrom_97 rfl rfl (by decide) rfl ?_
  refine r_goto hg 4 dX3_listRunsFrom_100 (by decide) ?_
  refine r_lv [1, 2, 0] rfl ?_
  exact hK4 x2 (x3 + 1) σ2
set_option maxHeartbeats 4000000 in
set_option maxRecDepth 100000 in
theorem vb_X3_listRunsFrom_4 {N : Nat} (hg : m_ok (p, l, e, d, s, m, args, below, meth, c) w shC cX3_listRunsFrom 5 RX3 none) (hdp : 2 ≤ d) {K4 : Int32 → Int32 → Mem → Option (Int32 × Mem)} (hK4 : ∀ (x2 x3 : Int32) (σ : Mem), Vj (p, l, e, d, s, m, args, below, meth, c) w shC 5 0 σ 4 [(0, .ref (w.2.1 20)), (2, .int x2), (3, .int x3)] [] (K4 x2 x3 σ)) (x2 x3 : Int32) (σ : Mem) : Vj (p, l, e, d, s, m, args, below, meth, c) w shC 5 0 σ 4 [(0, .ref (w.2.1 20)), (2, .int x2), (3, .int x3)] [] (b_X3_listRunsFrom_4 N K4 x2 x3 σ) := by
  unfold b_X3_listRunsFrom_4
  refine r_iload_n hg 2 dX3_listRunsFrom_4 rfl ?_
  refine r_aload_n hg 0 dX3_listRunsFrom_5 rfl ?_
  refine q_geti (j := 12) hg rfl rfl rfl (by decide) iX3 kf_RX3_93 rfl dX3_listRunsFrom_6 ?_
  refine r_icmp_ge hg 103 dX3_listRunsFrom_9 (by decide) ?_ ?_
  · exact r_ret hg dX3_listRunsFrom_103 rfl rfl
  · refine r_iload_n hg 1 dX3_listRunsFrom_12 rfl ?_
    refine r_iconst hg 1 dX3_listRunsFrom_13 (by decide) ?_
    refine r_iload_n hg 2 dX3_listRunsFrom_14 rfl ?_
    refine r_ishl hg dX3_listRunsFrom_15 ?_
    refine r_ior hg dX3_listRunsFrom_16 ?_
    refine q_name (fun u1 => ?_)
    refine r_istore_n (lv' := [(2, .int u1), (0, .ref (w.2.1 20)), (3, .int x3)]) hg dX3_listRunsFrom_17 (by decide) rfl ?_
    refine r_aload_n hg 1 dX3_listRunsFrom_18 rfl ?_
    refine r_iload_n hg 0 dX3_listRunsFrom_19 rfl ?_
    refine q_callv1 hg (e_X3_areOne N l w u1 σ) kk_RX3_127 ki_X3_areOne ks_RX3_X3_areOne rfl rfl np_X3_areOne (Nat.le_trans (by decide) hdp) rfl m_c1_nil (Nat.le_of_ble_eq_true rfl) dX3_listRunsFrom_20 (fun r2 σ3 => ?_)
    refine r_if_ne hg 27 dX3_listRunsFrom_23 (by decide) ?_ ?_
    · refine r_iload_n hg 2 dX3_listRunsFrom_27 rfl ?_
      refine r_iconst hg 1 dX3_listRunsFrom_28 (by decide) ?_
      refine r_iadd hg dX3_listRunsFrom_29 ?_
      refine r_aload_n hg 1 dX3_listRunsFrom_30 rfl ?_
      refine q_geti (j := 12) hg rfl rfl rfl (by decide) iX3 kf_RX3_93 rfl dX3_listRunsFrom_31 ?_
      refine r_icmp_ne hg 41 dX3_listRunsFrom_34 (by decide) ?_ ?_
      · refine r_iconst hg 0 dX3_listRunsFrom_41 (by decide) ?_
        refine r_istore (lv' := [(4, .int 0), (2, .int u1), (0, .ref (w.2.1 20)), (3, .int x3)]) hg dX3_listRunsFrom_42 (by decide) rfl ?_
        refine r_iload hg 0 dX3_listRunsFrom_44 rfl ?_
        refine q_name (fun u4 => ?_)
        refine r_if_ne hg 92 dX3_listRunsFrom_46 (by decide) ?_ ?_
        · refine r_lv [2, 1, 3] rfl ?_
          exact vj_X3_listRunsFrom_92 hg hdp hK4 u1 x3 σ3
        · refine r_aload_n hg 2 dX3_listRunsFrom_49 rfl ?_
          refine q_getr (j := 5) hg rfl rfl rfl (by decide) iX3 kf_RX3_9 rfl dX3_listRunsFrom_50 ?_
          refine q_getr (j := 1) hg rfl rfl rfl (by decide) iX1 kf_RX3_133 rfl dX3_listRunsFrom_53 ?_
          refine r_aload_n hg 2 dX3_listRunsFrom_56 rfl ?_
          refine q_getr (j := 8) hg rfl rfl rfl (by decide) iX3 kf_RX3_29 rfl dX3_listRunsFrom_57 ?_
          refine r_iload_n hg 3 dX3_listRunsFrom_60 rfl ?_
          refine r_iaload (n := 12) hg rfl dX3_listRunsFrom_61 ?_
          refine r_iaload (n := 12) hg rfl dX3_listRunsFrom_62 ?_
          refine r_aload_n hg 2 dX3_listRunsFrom_63 rfl ?_
          refine q_getd (j := 6) hg rfl rfl rfl (by decide) iX3 kf_RX3_18 rfl dX3_listRunsFrom_64 ?_
          refine q_getq (b := 8) hg shC_q rfl (by decide) iX0 kf_RX3_136 rfl dX3_listRunsFrom_67 (fun h5 => ?_)
          refine r_iconst hg 4 dX3_listRunsFrom_70 (by decide) ?_
          refine r_iaload (n := 10) hg (shC_w h5) dX3_listRunsFrom_71 ?_
          refine r_iadd hg dX3_listRunsFrom_72 ?_
          refine r_aload_n hg 2 dX3_listRunsFrom_73 rfl ?_
          refine q_getr (j := 5) hg rfl rfl rfl (by decide) iX3 kf_RX3_9 rfl dX3_listRunsFrom_74 ?_
          refine q_getr (j := 1) hg rfl rfl rfl (by decide) iX1 kf_RX3_133 rfl dX3_listRunsFrom_77 ?_
          refine r_aload_n hg 2 dX3_listRunsFrom_80 rfl ?_
          refine q_getr (j := 8) hg rfl rfl rfl (by decide) iX3 kf_RX3_29 rfl dX3_listRunsFrom_81 ?_
          refine r_iload_n hg 3 dX3_listRunsFrom_84 rfl ?_
          refine r_iconst hg 1 dX3_listRunsFrom_85 (by decide) ?_
          refine r_iadd hg dX3_listRunsFrom_86 ?_
          refine r_iaload (n := 12) hg rfl dX3_listRunsFrom_87 ?_
          refine r_iaload (n := 12) hg rfl dX3_listRunsFrom_88 ?_
          refine r_icmp_ge hg 97 dX3_listRunsFrom_89 (by decide) ?_ ?_
          · refine r_iinc (lv' := [(3, .int (x3 + 1)), (4, .int 0), (2, .int u1), (0, .ref (w.2.1 20))]) hg 3 (x3 + 1) dX3_listRunsFrom_97 rfl rfl (by decide) rfl ?_
            refine r_goto hg 4 dX3_listRunsFrom_100 (by decide) ?_
            refine r_lv [3, 2, 0] rfl ?_
            exact hK4 u1 (x3 + 1) σ3
          · refine r_lv [2, 1, 3] rfl ?_
            exact vj_X3_listRunsFrom_92 hg hdp hK4 u1 x3 σ3
      · refine r_iconst hg 1 dX3_listRunsFrom_37 (by decide) ?_
        refine r_goto hg 42 dX3_listRunsFrom_38 (by decide) ?_
        refine r_istore (lv' := [(4, .int 1), (2, .int u1), (0, .ref (w.2.1 20)), (3, .int x3)]) hg dX3_listRunsFrom_42 (by decide) rfl ?_
        refine r_iload hg 0 dX3_listRunsFrom_44 rfl ?_
        refine q_name (fun u6 => ?_)
        refine r_if_ne hg 92 dX3_listRunsFrom_46 (by decide) ?_ ?_
        · refine r_lv [2, 1, 3] rfl ?_
          exact vj_X3_listRunsFrom_92 hg hdp hK4 u1 x3 σ3
        · refine r_aload_n hg 2 dX3_listRunsFrom_49 rfl ?_
          refine q_getr (j := 5) hg rfl rfl rfl (by decide) iX3 kf_RX3_9 rfl dX3_listRunsFrom_50 ?_
          refine q_getr (j := 1) hg rfl rfl rfl (by decide) iX1 kf_RX3_133 rfl dX3_listRunsFrom_53 ?_
          refine r_aload_n hg 2 dX3_listRunsFrom_56 rfl ?_
          refine q_getr (j := 8) hg rfl rfl rfl (by decide) iX3 kf_RX3_29 rfl dX3_listRunsFrom_57 ?_
          refine r_iload_n hg 3 dX3_listRunsFrom_60 rfl ?_
          refine r_iaload (n := 12) hg rfl dX3_listRunsFrom_61 ?_
          refine r_iaload (n := 12) hg rfl dX3_listRunsFrom_62 ?_
          refine r_aload_n hg 2 dX3_listRunsFrom_63 rfl ?_
          refine q_getd (j := 6) hg rfl rfl rfl (by decide) iX3 kf_RX3_18 rfl dX3_listRunsFrom_64 ?_
          refine q_getq (b := 8) hg shC_q rfl (by decide) iX0 kf_RX3_136 rfl dX3_listRunsFrom_67 (fun h7 => ?_)
          refine r_iconst hg 4 dX3_listRunsFrom_70 (by decide) ?_
          refine r_iaload (n := 10) hg (shC_w h7) dX3_listRunsFrom_71 ?_
          refine r_iadd hg dX3_listRunsFrom_72 ?_
          refine r_aload_n hg 2 dX3_listRunsFrom_73 rfl ?_
          refine q_getr (j := 5) hg rfl rfl rfl (by decide) iX3 kf_RX3_9 rfl dX3_listRunsFrom_74 ?_
          refine q_getr (j := 1) hg rfl rfl rfl (by decide) iX1 kf_RX3_133 rfl dX3_listRunsFrom_77 ?_
          refine r_aload_n hg 2 dX3_listRunsFrom_80 rfl ?_
          refine q_getr (j := 8) hg rfl rfl rfl (by decide) iX3 kf_RX3_29 rfl dX3_listRunsFrom_81 ?_
          refine r_iload_n hg 3 dX3_listRunsFrom_84 rfl ?_
          refine r_iconst hg 1 dX3_listRunsFrom_85 (by decide) ?_
          refine r_iadd hg dX3_listRunsFrom_86 ?_
          refine r_iaload (n := 12) hg rfl dX3_listRunsFrom_87 ?_
          refine r_iaload (n := 12) hg rfl dX3_listRunsFrom_88 ?_
          refine r_icmp_ge hg 97 dX3_listRunsFrom_89 (by decide) ?_ ?_
          · refine r_iinc (lv' := [(3, .int (x3 + 1)), (4, .int 1), (2, .int u1), (0, .ref (w.2.1 20))]) hg 3 (x3 + 1) dX3_listRunsFrom_97 rfl rfl (by decide) rfl ?_
            refine r_goto hg 4 dX3_listRunsFrom_100 (by decide) ?_
            refine r_lv [3, 2, 0] rfl ?_
            exact hK4 u1 (x3 + 1) σ3
          · refine r_lv [2, 1, 3] rfl ?_
            exact vj_X3_listRunsFrom_92 hg hdp hK4 u1 x3 σ3
    · exact r_ret hg dX3_listRunsFrom_26 rfl rfl
set_option maxHeartbeats 4000000 in
set_option maxRecDepth 100000 in
theorem vl_X3_listRunsFrom_4 {N : Nat} (hg : m_ok (p, l, e, d, s, m, args, below, meth, c) w shC cX3_listRunsFrom 5 RX3 none) (hdp : 2 ≤ d) : ∀ (n : Nat) (x2 x3 : Int32) (σ : Mem), Vj (p, l, e, d, s, m, args, below, meth, c) w shC 5 0 σ 4 [(0, .ref (w.2.1 20)), (2, .int x2), (3, .int x3)] [] (l_X3_listRunsFrom_4 N n x2 x3 σ)
| 0, _, _, _ => Vj.none
| n + 1, x2, x3, σ => vb_X3_listRunsFrom_4 hg hdp (fun x2 x3 σ => vl_X3_listRunsFrom_4 hg hdp n x2 x3 σ) x2 x3 σ
set_option maxHeartbeats 4000000 in
set_option maxRecDepth 100000 in
theorem e_X3_listRunsFrom (N : Nat) (l : Launch) (w : mW) (v1 : Int32) (σ : Mem) : Ev l w shC yX3_listRunsFrom cX3_listRunsFrom 5 none 0 2 [.ref (w.2.1 20), .int v1] σ (f_X3_listRunsFrom N v1 σ) := by
  refine Ev.of (by decide) (m_c1_r (m_c1_i m_c1_nil)) (Nat.le_of_ble_eq_true rfl) (fun p e s m args below meth c hg => ?_)
  have hdp := Nat.le_refl 2
  unfold f_X3_listRunsFrom
  show Vj (p, l, e, 2, s, m, args, below, meth, c) w shC 5 0 σ 0 [(0, .ref (w.2.1 20)), (1, .int v1)] [] _
  refine r_iconst hg 0 dX3_listRunsFrom_0 (by decide) ?_
  refine r_istore_n (lv' := [(2, .int 0), (0, .ref (w.2.1 20)), (1, .int v1)]) hg dX3_listRunsFrom_1 (by decide) rfl ?_
  refine r_iload_n hg 2 dX3_listRunsFrom_2 rfl ?_
  refine r_istore_n (lv' := [(3, .int v1), (2, .int 0), (0, .ref (w.2.1 20)), (1, .int v1)]) hg dX3_listRunsFrom_3 (by decide) rfl ?_
  refine r_lv [2, 1, 0] rfl ?_
  exact vl_X3_listRunsFrom_4 hg hdp N 0 v1 σ
set_option maxHeartbeats 4000000 in
set_option maxRecDepth 100000 in
theorem vb_X3_listSetsFrom_13 {N : Nat} (hg : m_ok (p, l, e, d, s, m, args, below, meth, c) w shC cX3_listSetsFrom 5 RX3 none) (hdp : 2 ≤ d) {K13 : Int32 → Int32 → Int32 → Mem → Option (Int32 × Mem)} (hK13 : ∀ (x1 x2 x3 : Int32) (σ : Mem), Vj (p, l, e, d, s, m, args, below, meth, c) w shC 5 0 σ 13 [(0, .ref (w.2.1 20)), (1, .int x1), (2, .int x2), (3, .int x3)] [] (K13 x1 x2 x3 σ)) (x1 x2 x3 : Int32) (σ : Mem) : Vj (p, l, e, d, s, m, args, below, meth, c) w shC 5 0 σ 13 [(0, .ref (w.2.1 20)), (1, .int x1), (2, .int x2), (3, .int x3)] [] (b_X3_listSetsFrom_13 N K13 x1 x2 x3 σ) := by
  unfold b_X3_listSetsFrom_13
  refine r_iload_n hg 3 dX3_listSetsFrom_13 rfl ?_
  refine r_iload_n hg 2 dX3_listSetsFrom_14 rfl ?_
  refine r_icmp_ge hg 48 dX3_listSetsFrom_15 (by decide) ?_ ?_
  · exact r_ret hg dX3_listSetsFrom_48 rfl rfl
  · refine r_iconst hg 2 dX3_listSetsFrom_18 (by decide) ?_
    refine r_iload_n hg 3 dX3_listSetsFrom_19 rfl ?_
    refine r_imul hg dX3_listSetsFrom_20 ?_
    refine r_iconst hg 1 dX3_listSetsFrom_21 (by decide) ?_
    refine r_iadd hg dX3_listSetsFrom_22 ?_
    refine r_iload_n hg 1 dX3_listSetsFrom_23 rfl ?_
    refine r_ishl hg dX3_listSetsFrom_24 ?_
    refine q_name (fun u1 => ?_)
    refine r_istore (lv' := [(4, .int u1), (0, .ref (w.2.1 20)), (1, .int x1), (2, .int x2), (3, .int x3)]) hg dX3_listSetsFrom_25 (by decide) rfl ?_
    refine r_aload_n hg 1 dX3_listSetsFrom_27 rfl ?_
    refine r_iload hg 0 dX3_listSetsFrom_28 rfl ?_
    refine q_callv1 hg (e_X3_areOne N l w u1 σ) kk_RX3_127 ki_X3_areOne ks_RX3_X3_areOne rfl rfl np_X3_areOne (Nat.le_trans (by decide) hdp) rfl m_c1_nil (Nat.le_of_ble_eq_true rfl) dX3_listSetsFrom_30 (fun r2 σ3 => ?_)
    refine r_if_eq hg 42 dX3_listSetsFrom_33 (by decide) ?_ ?_
    · refine r_iinc (lv' := [(3, .int (x3 + 1)), (4, .int u1), (0, .ref (w.2.1 20)), (1, .int x1), (2, .int x2)]) hg 4 (x3 + 1) dX3_listSetsFrom_42 rfl rfl (by decide) rfl ?_
      refine r_goto hg 13 dX3_listSetsFrom_45 (by decide) ?_
      refine r_lv [2, 3, 4, 0] rfl ?_
      exact hK13 x1 x2 (x3 + 1) σ3
    · refine r_aload_n hg 1 dX3_listSetsFrom_36 rfl ?_
      refine r_iload hg 0 dX3_listSetsFrom_37 rfl ?_
      refine q_callv0 hg (e_X3_list N l w u1 σ3) kk_RX3_130 ki_X3_list ks_RX3_X3_list rfl rfl np_X3_list (Nat.le_trans (by decide) hdp) rfl m_c1_nil (Nat.le_of_ble_eq_true rfl) dX3_listSetsFrom_39 (fun r4 σ5 => ?_)
      refine r_iinc (lv' := [(3, .int (x3 + 1)), (4, .int u1), (0, .ref (w.2.1 20)), (1, .int x1), (2, .int x2)]) hg 4 (x3 + 1) dX3_listSetsFrom_42 rfl rfl (by decide) rfl ?_
      refine r_goto hg 13 dX3_listSetsFrom_45 (by decide) ?_
      refine r_lv [2, 3, 4, 0] rfl ?_
      exact hK13 x1 x2 (x3 + 1) σ5
set_option maxHeartbeats 4000000 in
set_option maxRecDepth 100000 in
theorem vl_X3_listSetsFrom_13 {N : Nat} (hg : m_ok (p, l, e, d, s, m, args, below, meth, c) w shC cX3_listSetsFrom 5 RX3 none) (hdp : 2 ≤ d) : ∀ (n : Nat) (x1 x2 x3 : Int32) (σ : Mem), Vj (p, l, e, d, s, m, args, below, meth, c) w shC 5 0 σ 13 [(0, .ref (w.2.1 20)), (1, .int x1), (2, .int x2), (3, .int x3)] [] (l_X3_listSetsFrom_13 N n x1 x2 x3 σ)
| 0, _, _, _, _ => Vj.none
| n + 1, x1, x2, x3, σ => vb_X3_listSetsFrom_13 hg hdp (fun x1 x2 x3 σ => vl_X3_listSetsFrom_13 hg hdp n x1 x2 x3 σ) x1 x2 x3 σ
set_option maxHeartbeats 4000000 in
set_option maxRecDepth 100000 in
theorem e_X3_listSetsFrom (N : Nat) (l : Launch) (w : mW) (v1 : Int32) (σ : Mem) : Ev l w shC yX3_listSetsFrom cX3_listSetsFrom 5 none 0 2 [.ref (w.2.1 20), .int v1] σ (f_X3_listSetsFrom N v1 σ) := by
  refine Ev.of (by decide) (m_c1_r (m_c1_i m_c1_nil)) (Nat.le_of_ble_eq_true rfl) (fun p e s m args below meth c hg => ?_)
  have hdp := Nat.le_refl 2
  unfold f_X3_listSetsFrom
  show Vj (p, l, e, 2, s, m, args, below, meth, c) w shC 5 0 σ 0 [(0, .ref (w.2.1 20)), (1, .int v1)] [] _
  refine r_iconst hg 1 dX3_listSetsFrom_0 (by decide) ?_
  refine r_aload_n hg 0 dX3_listSetsFrom_1 rfl ?_
  refine q_geti (j := 12) hg rfl rfl rfl (by decide) iX3 kf_RX3_93 rfl dX3_listSetsFrom_2 ?_
  refine r_iconst hg 1 dX3_listSetsFrom_5 (by decide) ?_
  refine r_isub hg dX3_listSetsFrom_6 ?_
  refine r_iload_n hg 1 dX3_listSetsFrom_7 rfl ?_
  refine r_isub hg dX3_listSetsFrom_8 ?_
  refine r_ishl hg dX3_listSetsFrom_9 ?_
  refine q_name (fun u1 => ?_)
  refine r_istore_n (lv' := [(2, .int u1), (0, .ref (w.2.1 20)), (1, .int v1)]) hg dX3_listSetsFrom_10 (by decide) rfl ?_
  refine r_iconst hg 0 dX3_listSetsFrom_11 (by decide) ?_
  refine r_istore_n (lv' := [(3, .int 0), (2, .int u1), (0, .ref (w.2.1 20)), (1, .int v1)]) hg dX3_listSetsFrom_12 (by decide) rfl ?_
  refine r_lv [2, 3, 1, 0] rfl ?_
  exact vl_X3_listSetsFrom_13 hg hdp N v1 u1 0 σ
set_option maxHeartbeats 4000000 in
set_option maxRecDepth 100000 in
theorem vb_X3_findForJoined_66 {N : Nat} (hg : m_ok (p, l, e, d, s, m, args, below, meth, c) w shC cX3_findForJoined 3 RX3 (some .boolean)) (hdp : 32 ≤ d) {K66 : Int32 → Mem → Option (Int32 × Mem)} (hK66 : ∀ (x2 : Int32) (σ : Mem), Vj (p, l, e, d, s, m, args, below, meth, c) w shC 3 1 σ 66 [(0, .ref (w.2.1 20)), (2, .int x2)] [] (K66 x2 σ)) (x2 : Int32) (σ : Mem) : Vj (p, l, e, d, s, m, args, below, meth, c) w shC 3 1 σ 66 [(0, .ref (w.2.1 20)), (2, .int x2)] [] (b_X3_findForJoined_66 N K66 x2 σ) := by
  unfold b_X3_findForJoined_66
  refine r_iload_n hg 1 dX3_findForJoined_66 rfl ?_
  refine r_aload_n hg 0 dX3_findForJoined_67 rfl ?_
  refine q_geti (j := 12) hg rfl rfl rfl (by decide) iX3 kf_RX3_93 rfl dX3_findForJoined_68 ?_
  refine r_icmp_ge hg 113 dX3_findForJoined_71 (by decide) ?_ ?_
  · refine r_aload_n hg 0 dX3_findForJoined_113 rfl ?_
    refine q_getr (j := 11) hg rfl rfl rfl (by decide) iX3 kf_RX3_39 rfl dX3_findForJoined_114 ?_
    refine r_aload_n hg 0 dX3_findForJoined_117 rfl ?_
    refine q_geti (j := 12) hg rfl rfl rfl (by decide) iX3 kf_RX3_93 rfl dX3_findForJoined_118 ?_
    refine r_aload_n hg 0 dX3_findForJoined_121 rfl ?_
    refine q_geti (j := 13) hg rfl rfl rfl (by decide) iX3 kf_RX3_100 rfl dX3_findForJoined_122 ?_
    refine q_iastore (n := 13) hg rfl dX3_findForJoined_125 (fun σ1 => ?_)
    refine r_aload_n hg 0 dX3_findForJoined_126 rfl ?_
    refine q_callv0 hg (e_X3_priceHappenings N l w σ1) kk_RX3_110 ki_X3_priceHappenings ks_RX3_X3_priceHappenings rfl rfl np_X3_priceHappenings (Nat.le_trans (by decide) hdp) rfl m_c1_nil (Nat.le_of_ble_eq_true rfl) dX3_findForJoined_127 (fun r2 σ3 => ?_)
    refine r_aload_n hg 0 dX3_findForJoined_130 rfl ?_
    refine r_iconst hg 1 dX3_findForJoined_131 (by decide) ?_
    refine r_aload_n hg 0 dX3_findForJoined_132 rfl ?_
    refine q_geti (j := 12) hg rfl rfl rfl (by decide) iX3 kf_RX3_93 rfl dX3_findForJoined_133 ?_
    refine r_ishl hg dX3_findForJoined_136 ?_
    refine r_iconst hg 1 dX3_findForJoined_137 (by decide) ?_
    refine r_isub hg dX3_findForJoined_138 ?_
    refine r_iconst hg 0 dX3_findForJoined_139 (by decide) ?_
    refine r_iconst hg 0 dX3_findForJoined_140 (by decide) ?_
    refine q_callv0 hg (e_X3_part N 30 l w ((1 <<< ((σ3 20 12) &&& 31)) - 1) 0 0 σ3) kk_RX3_113 ki_X3_part ks_RX3_X3_part rfl rfl np_X3_part (Nat.le_trans (by decide) hdp) rfl m_c1_nil (Nat.le_of_ble_eq_true rfl) dX3_findForJoined_141 (fun r4 σ5 => ?_)
    refine r_aload_n hg 0 dX3_findForJoined_144 rfl ?_
    refine q_geti (j := 4) hg rfl rfl rfl (by decide) iX3 kf_RX3_76 rfl dX3_findForJoined_145 ?_
    exact r_zret hg dX3_findForJoined_148 rfl rfl
  · refine r_aload_n hg 0 dX3_findForJoined_74 rfl ?_
    refine q_getr (j := 11) hg rfl rfl rfl (by decide) iX3 kf_RX3_39 rfl dX3_findForJoined_75 ?_
    refine r_iload_n hg 1 dX3_findForJoined_78 rfl ?_
    refine r_aload_n hg 0 dX3_findForJoined_79 rfl ?_
    refine q_geti (j := 13) hg rfl rfl rfl (by decide) iX3 kf_RX3_100 rfl dX3_findForJoined_80 ?_
    refine q_iastore (n := 13) hg rfl dX3_findForJoined_83 (fun σ6 => ?_)
    refine r_aload_n hg 0 dX3_findForJoined_84 rfl ?_
    refine q_getd (j := 6) hg rfl rfl rfl (by decide) iX3 kf_RX3_18 rfl dX3_findForJoined_85 ?_
    refine q_callq1 hg (e_X0_overlaps N l w (σ6 20 6) σ6) kk_RX3_42 ki_X0_overlaps ks_RX0_X0_overlaps shC_q2 np_X0_overlaps (Nat.le_trans (by decide) hdp) rfl m_c1_nil (Nat.le_of_ble_eq_true rfl) dX3_findForJoined_88 (fun r7 σ8 => ?_)
    refine r_if_eq hg 102 dX3_findForJoined_91 (by decide) ?_ ?_
    · refine r_aload_n hg 0 dX3_findForJoined_102 rfl ?_
      refine r_iload_n hg 1 dX3_findForJoined_103 rfl ?_
      refine q_callv0 hg (e_X3_listRunsFrom N l w x2 σ8) kk_RX3_107 ki_X3_listRunsFrom ks_RX3_X3_listRunsFrom rfl rfl np_X3_listRunsFrom (Nat.le_trans (by decide) hdp) rfl m_c1_nil (Nat.le_of_ble_eq_true rfl) dX3_findForJoined_104 (fun r9 σ10 => ?_)
      refine r_iinc (lv' := [(2, .int (x2 + 1)), (0, .ref (w.2.1 20))]) hg 1 (x2 + 1) dX3_findForJoined_107 rfl rfl (by decide) rfl ?_
      refine r_goto hg 66 dX3_findForJoined_110 (by decide) ?_
      refine r_lv [1, 0] rfl ?_
      exact hK66 (x2 + 1) σ10
    · refine r_aload_n hg 0 dX3_findForJoined_94 rfl ?_
      refine r_iload_n hg 1 dX3_findForJoined_95 rfl ?_
      refine q_callv0 hg (e_X3_listSetsFrom N l w x2 σ8) kk_RX3_103 ki_X3_listSetsFrom ks_RX3_X3_listSetsFrom rfl rfl np_X3_listSetsFrom (Nat.le_trans (by decide) hdp) rfl m_c1_nil (Nat.le_of_ble_eq_true rfl) dX3_findForJoined_96 (fun r11 σ12 => ?_)
      refine r_goto hg 107 dX3_findForJoined_99 (by decide) ?_
      refine r_iinc (lv' := [(2, .int (x2 + 1)), (0, .ref (w.2.1 20))]) hg 1 (x2 + 1) dX3_findForJoined_107 rfl rfl (by decide) rfl ?_
      refine r_goto hg 66 dX3_findForJoined_110 (by decide) ?_
      refine r_lv [1, 0] rfl ?_
      exact hK66 (x2 + 1) σ12
set_option maxHeartbeats 4000000 in
set_option maxRecDepth 100000 in
theorem vl_X3_findForJoined_66 {N : Nat} (hg : m_ok (p, l, e, d, s, m, args, below, meth, c) w shC cX3_findForJoined 3 RX3 (some .boolean)) (hdp : 32 ≤ d) : ∀ (n : Nat) (x2 : Int32) (σ : Mem), Vj (p, l, e, d, s, m, args, below, meth, c) w shC 3 1 σ 66 [(0, .ref (w.2.1 20)), (2, .int x2)] [] (l_X3_findForJoined_66 N n x2 σ)
| 0, _, _ => Vj.none
| n + 1, x2, σ => vb_X3_findForJoined_66 hg hdp (fun x2 σ => vl_X3_findForJoined_66 hg hdp n x2 σ) x2 σ
set_option maxHeartbeats 4000000 in
set_option maxRecDepth 100000 in
theorem e_X3_findForJoined (N : Nat) (l : Launch) (w : mW) (v1 : Int32) (σ : Mem) : Ev l w shC yX3_findForJoined cX3_findForJoined 3 (some .boolean) 1 32 [.ref (w.2.1 20), .int v1] σ (f_X3_findForJoined N v1 σ) := by
  refine Ev.of (by decide) (m_c1_r (m_c1_i m_c1_nil)) (Nat.le_of_ble_eq_true rfl) (fun p e s m args below meth c hg => ?_)
  have hdp := Nat.le_refl 32
  unfold f_X3_findForJoined
  show Vj (p, l, e, 32, s, m, args, below, meth, c) w shC 3 1 σ 0 [(0, .ref (w.2.1 20)), (1, .int v1)] [] _
  refine r_aload_n hg 0 dX3_findForJoined_0 rfl ?_
  refine r_iconst hg 0 dX3_findForJoined_1 (by decide) ?_
  refine q_putz (j := 4) hg rfl rfl rfl (by decide) iX3 kf_RX3_76 rfl tyX3_ok nmX3 rfl rfl dX3_findForJoined_2 (fun σ1 => ?_)
  refine r_aload_n hg 0 dX3_findForJoined_5 rfl ?_
  refine q_getr (j := 7) hg rfl rfl rfl (by decide) iX3 kf_RX3_25 rfl dX3_findForJoined_6 ?_
  refine q_callv1 hg (e_X2_isEmpty N l w σ1) kk_RX3_66 ki_X2_isEmpty ks_RX2_X2_isEmpty rfl rfl np_X2_isEmpty (Nat.le_trans (by decide) hdp) rfl m_c1_nil (Nat.le_of_ble_eq_true rfl) dX3_findForJoined_9 (fun r2 σ3 => ?_)
  refine r_if_ne hg 37 dX3_findForJoined_12 (by decide) ?_ ?_
  · refine r_iconst hg 0 dX3_findForJoined_37 (by decide) ?_
    exact r_zret hg dX3_findForJoined_38 rfl rfl
  · refine r_aload_n hg 0 dX3_findForJoined_15 rfl ?_
    refine q_getr (j := 5) hg rfl rfl rfl (by decide) iX3 kf_RX3_9 rfl dX3_findForJoined_16 ?_
    refine r_iload_n hg 1 dX3_findForJoined_19 rfl ?_
    refine q_callv1 hg (e_X1_hasAll N l w v1 σ3) kk_RX3_80 ki_X1_hasAll ks_RX1_X1_hasAll rfl rfl np_X1_hasAll (Nat.le_trans (by decide) hdp) rfl m_c1_nil (Nat.le_of_ble_eq_true rfl) dX3_findForJoined_20 (fun r4 σ5 => ?_)
    refine r_if_eq hg 37 dX3_findForJoined_23 (by decide) ?_ ?_
    · refine r_iconst hg 0 dX3_findForJoined_37 (by decide) ?_
      exact r_zret hg dX3_findForJoined_38 rfl rfl
    · refine r_aload_n hg 0 dX3_findForJoined_26 rfl ?_
      refine q_getd (j := 6) hg rfl rfl rfl (by decide) iX3 kf_RX3_18 rfl dX3_findForJoined_27 ?_
      refine r_iload_n hg 1 dX3_findForJoined_30 rfl ?_
      refine q_calls1 hg (e_X3_isToldFor N l w (σ5 20 6) v1 σ5) kk_RX3_85 kt_X3_isToldFor np_X3_isToldFor (Nat.le_trans (by decide) hdp) rfl m_c1_nil (Nat.le_of_ble_eq_true rfl) dX3_findForJoined_31 (fun r6 σ7 => ?_)
      refine r_if_ne hg 39 dX3_findForJoined_34 (by decide) ?_ ?_
      · refine r_aload_n hg 0 dX3_findForJoined_39 rfl ?_
        refine r_aload_n hg 0 dX3_findForJoined_40 rfl ?_
        refine q_getr (j := 5) hg rfl rfl rfl (by decide) iX3 kf_RX3_9 rfl dX3_findForJoined_41 ?_
        refine r_iload_n hg 1 dX3_findForJoined_44 rfl ?_
        refine r_aload_n hg 0 dX3_findForJoined_45 rfl ?_
        refine q_getr (j := 8) hg rfl rfl rfl (by decide) iX3 kf_RX3_29 rfl dX3_findForJoined_46 ?_
        refine q_callv1 hg (e_X1_putInRow_34 N l w v1 σ7) kk_RX3_89 ki_X1_putInRow ks_RX1_X1_putInRow rfl rfl np_X1_putInRow (Nat.le_trans (by decide) hdp) rfl (m_c1_r m_c1_nil) (Nat.le_of_ble_eq_true rfl) dX3_findForJoined_49 (fun r8 σ9 => ?_)
        refine q_put (j := 12) hg rfl rfl rfl (by decide) iX3 kf_RX3_93 rfl tyX3_ok nmX3 rfl rfl dX3_findForJoined_52 (fun σ10 => ?_)
        refine r_aload_n hg 0 dX3_findForJoined_55 rfl ?_
        refine q_callv0 hg (e_X3_seeWhoIsNear N l w σ10) kk_RX3_97 ki_X3_seeWhoIsNear ks_RX3_X3_seeWhoIsNear rfl rfl np_X3_seeWhoIsNear (Nat.le_trans (by decide) hdp) rfl m_c1_nil (Nat.le_of_ble_eq_true rfl) dX3_findForJoined_56 (fun r11 σ12 => ?_)
        refine r_aload_n hg 0 dX3_findForJoined_59 rfl ?_
        refine r_iconst hg 0 dX3_findForJoined_60 (by decide) ?_
        refine q_put (j := 13) hg rfl rfl rfl (by decide) iX3 kf_RX3_100 rfl tyX3_ok nmX3 rfl rfl dX3_findForJoined_61 (fun σ13 => ?_)
        refine r_iconst hg 0 dX3_findForJoined_64 (by decide) ?_
        refine r_istore_n (lv' := [(2, .int 0), (0, .ref (w.2.1 20)), (1, .int v1)]) hg dX3_findForJoined_65 (by decide) rfl ?_
        refine r_lv [1, 0] rfl ?_
        exact vl_X3_findForJoined_66 hg hdp N 0 σ13
      · refine r_iconst hg 0 dX3_findForJoined_37 (by decide) ?_
        exact r_zret hg dX3_findForJoined_38 rfl rfl
set_option maxHeartbeats 4000000 in
set_option maxRecDepth 100000 in
theorem e_X3_findFor (N : Nat) (l : Launch) (w : mW) (v1 v2 : Int32) (σ : Mem) : Ev l w shC yX3_findFor cX3_findFor 3 (some .boolean) 1 33 [.ref (w.2.1 20), m_rf w.2.1 v1, .int v2] σ (f_X3_findFor N v1 v2 σ) := by
  refine Ev.of (by decide) (m_c1_r (m_c1_q (m_c1_i m_c1_nil))) (Nat.le_of_ble_eq_true rfl) (fun p e s m args below meth c hg => ?_)
  have hdp := Nat.le_refl 33
  unfold f_X3_findFor
  show Vj (p, l, e, 33, s, m, args, below, meth, c) w shC 3 1 σ 0 [(0, .ref (w.2.1 20)), (1, m_rf w.2.1 v1), (2, .int v2)] [] _
  refine r_aload_n hg 0 dX3_findFor_0 rfl ?_
  refine q_callv0 hg (e_X3_startJoining N l w σ) kk_RX3_52 ki_X3_startJoining ks_RX3_X3_startJoining rfl rfl np_X3_startJoining (Nat.le_trans (by decide) hdp) rfl m_c1_nil (Nat.le_of_ble_eq_true rfl) dX3_findFor_1 (fun r1 σ2 => ?_)
  refine r_aload_n hg 0 dX3_findFor_4 rfl ?_
  refine r_aloadq_n hg 1 dX3_findFor_5 rfl ?_
  refine q_callv0 hg (e_X3_join N l w v1 σ2) kk_RX3_55 ki_X3_join ks_RX3_X3_join rfl rfl np_X3_join (Nat.le_trans (by decide) hdp) rfl m_c1_nil (Nat.le_of_ble_eq_true rfl) dX3_findFor_6 (fun r3 σ4 => ?_)
  refine r_aload_n hg 0 dX3_findFor_9 rfl ?_
  refine r_iload_n hg 2 dX3_findFor_10 rfl ?_
  refine q_callv1 hg (e_X3_findForJoined N l w v2 σ4) kk_RX3_59 ki_X3_findForJoined ks_RX3_X3_findForJoined rfl rfl np_X3_findForJoined (Nat.le_trans (by decide) hdp) rfl m_c1_nil (Nat.le_of_ble_eq_true rfl) dX3_findFor_11 (fun r5 σ6 => ?_)
  exact r_zret hg dX3_findFor_14 rfl rfl
set_option maxHeartbeats 4000000 in
set_option maxRecDepth 100000 in
theorem e_X6_most (N : Nat) (l : Launch) (w : mW) (v1 v2 v3 : Int32) (σ : Mem) : Ev l w shC yX6_most cX6_most 5 (some .int) 1 34 [.ref (w.2.1 16), .int v1, .int v2, .int v3] σ (f_X6_most N v1 v2 v3 σ) := by
  refine Ev.of (by decide) (m_c1_r (m_c1_i (m_c1_i (m_c1_i m_c1_nil)))) (Nat.le_of_ble_eq_true rfl) (fun p e s m args below meth c hg => ?_)
  have hdp := Nat.le_refl 34
  unfold f_X6_most
  show Vj (p, l, e, 34, s, m, args, below, meth, c) w shC 5 1 σ 0 [(0, .ref (w.2.1 16)), (1, .int v1), (2, .int v2), (3, .int v3)] [] _
  refine r_aload_n hg 0 dX6_most_0 rfl ?_
  refine r_iload_n hg 1 dX6_most_1 rfl ?_
  refine q_callv2 hg (e_X6_coverAt N l w v1 σ) kk_RX6_83 ki_X6_coverAt ks_RX6_X6_coverAt rfl rfl np_X6_coverAt (Nat.le_trans (by decide) hdp) rfl m_c1_nil (Nat.le_of_ble_eq_true rfl) dX6_most_2 (fun r1 σ2 => ?_)
  refine r_astoreq (lv' := [(4, m_rf w.2.1 r1), (0, .ref (w.2.1 16)), (1, .int v1), (2, .int v2), (3, .int v3)]) hg dX6_most_5 (by decide) rfl ?_
  refine r_aloadq hg 0 dX6_most_7 rfl ?_
  refine r_ifnull hg 34 dX6_most_9 (by decide) ?_ ?_
  · refine r_ldc hg kv_RX6_141 dX6_most_34 ?_
    exact r_iret hg dX6_most_36 rfl rfl
  · refine r_iload_n hg 4 dX6_most_12 rfl ?_
    refine r_iconst hg 0 dX6_most_13 (by decide) ?_
    refine r_iconst hg 3 dX6_most_14 (by decide) ?_
    refine q_calls1 hg (e_X6_isWithin N l w v3 0 3 σ2) kk_RX6_87 kt_X6_isWithin np_X6_isWithin (Nat.le_trans (by decide) hdp) rfl m_c1_nil (Nat.le_of_ble_eq_true rfl) dX6_most_15 (fun r3 σ4 => ?_)
    refine r_if_eq hg 34 dX6_most_18 (by decide) ?_ ?_
    · refine r_ldc hg kv_RX6_141 dX6_most_34 ?_
      exact r_iret hg dX6_most_36 rfl rfl
    · refine r_aload_n hg 1 dX6_most_21 rfl ?_
      refine q_getr (j := 5) hg rfl rfl rfl (by decide) iX6 kf_RX6_46 rfl dX6_most_22 ?_
      refine r_aloadq hg 0 dX6_most_25 rfl ?_
      refine r_iload_n hg 3 dX6_most_27 rfl ?_
      refine q_callv1 hg (e_X3_findFor N l w r1 v2 σ4) kk_RX6_170 ki_X3_findFor ks_RX3_X3_findFor rfl rfl np_X3_findFor (Nat.le_trans (by decide) hdp) rfl m_c1_nil (Nat.le_of_ble_eq_true rfl) dX6_most_28 (fun r5 σ6 => ?_)
      refine r_if_ne hg 37 dX6_most_31 (by decide) ?_ ?_
      · refine r_iload_n hg 4 dX6_most_37 rfl ?_
        refine r_if_ne hg 49 dX6_most_38 (by decide) ?_ ?_
        · refine r_iload_n hg 4 dX6_most_49 rfl ?_
          refine r_iconst hg 1 dX6_most_50 (by decide) ?_
          refine r_icmp_ne hg 62 dX6_most_51 (by decide) ?_ ?_
          · refine r_iload_n hg 4 dX6_most_62 rfl ?_
            refine r_iconst hg 2 dX6_most_63 (by decide) ?_
            refine r_icmp_ne hg 77 dX6_most_64 (by decide) ?_ ?_
            · refine r_aload_n hg 1 dX6_most_77 rfl ?_
              refine q_getr (j := 5) hg rfl rfl rfl (by decide) iX6 kf_RX6_46 rfl dX6_most_78 ?_
              refine q_geti (j := 3) hg rfl rfl rfl (by decide) iX3 kf_RX6_182 rfl dX6_most_81 ?_
              exact r_iret hg dX6_most_84 rfl rfl
            · refine r_aload_n hg 1 dX6_most_67 rfl ?_
              refine q_getr (j := 5) hg rfl rfl rfl (by decide) iX6 kf_RX6_46 rfl dX6_most_68 ?_
              refine q_geti (j := 2) hg rfl rfl rfl (by decide) iX3 kf_RX6_179 rfl dX6_most_71 ?_
              refine r_goto hg 84 dX6_most_74 (by decide) ?_
              exact r_iret hg dX6_most_84 rfl rfl
          · refine r_aload_n hg 1 dX6_most_54 rfl ?_
            refine q_getr (j := 5) hg rfl rfl rfl (by decide) iX6 kf_RX6_46 rfl dX6_most_55 ?_
            refine q_geti (j := 1) hg rfl rfl rfl (by decide) iX3 kf_RX6_176 rfl dX6_most_58 ?_
            exact r_iret hg dX6_most_61 rfl rfl
        · refine r_aload_n hg 1 dX6_most_41 rfl ?_
          refine q_getr (j := 5) hg rfl rfl rfl (by decide) iX6 kf_RX6_46 rfl dX6_most_42 ?_
          refine q_geti (j := 0) hg rfl rfl rfl (by decide) iX3 kf_RX6_173 rfl dX6_most_45 ?_
          exact r_iret hg dX6_most_48 rfl rfl
      · refine r_ldc hg kv_RX6_141 dX6_most_34 ?_
        exact r_iret hg dX6_most_36 rfl rfl
set_option maxHeartbeats 4000000 in
set_option maxRecDepth 100000 in
theorem e_X6_net (N : Nat) (l : Launch) (w : mW) (v1 v2 v3 : Int32) (σ : Mem) : Ev l w shC yX6_net cX6_net 7 (some .int) 1 34 [.ref (w.2.1 16), .int v1, .int v2, .int v3] σ (f_X6_net N v1 v2 v3 σ) := by
  refine Ev.of (by decide) (m_c1_r (m_c1_i (m_c1_i (m_c1_i m_c1_nil)))) (Nat.le_of_ble_eq_true rfl) (fun p e s m args below meth c hg => ?_)
  have hdp := Nat.le_refl 34
  unfold f_X6_net
  show Vj (p, l, e, 34, s, m, args, below, meth, c) w shC 7 1 σ 0 [(0, .ref (w.2.1 16)), (1, .int v1), (2, .int v2), (3, .int v3)] [] _
  refine r_aload_n hg 0 dX6_net_0 rfl ?_
  refine r_iload_n hg 1 dX6_net_1 rfl ?_
  refine q_callv2 hg (e_X6_coverAt N l w v1 σ) kk_RX6_83 ki_X6_coverAt ks_RX6_X6_coverAt rfl rfl np_X6_coverAt (Nat.le_trans (by decide) hdp) rfl m_c1_nil (Nat.le_of_ble_eq_true rfl) dX6_net_2 (fun r1 σ2 => ?_)
  refine r_astoreq (lv' := [(4, m_rf w.2.1 r1), (0, .ref (w.2.1 16)), (1, .int v1), (2, .int v2), (3, .int v3)]) hg dX6_net_5 (by decide) rfl ?_
  refine r_aloadq hg 0 dX6_net_7 rfl ?_
  refine r_ifnull hg 34 dX6_net_9 (by decide) ?_ ?_
  · refine r_ldc hg kv_RX6_141 dX6_net_34 ?_
    exact r_iret hg dX6_net_36 rfl rfl
  · refine r_iload_n hg 4 dX6_net_12 rfl ?_
    refine r_iconst hg 0 dX6_net_13 (by decide) ?_
    refine r_iconst hg 1 dX6_net_14 (by decide) ?_
    refine q_calls1 hg (e_X6_isWithin N l w v3 0 1 σ2) kk_RX6_87 kt_X6_isWithin np_X6_isWithin (Nat.le_trans (by decide) hdp) rfl m_c1_nil (Nat.le_of_ble_eq_true rfl) dX6_net_15 (fun r3 σ4 => ?_)
    refine r_if_eq hg 34 dX6_net_18 (by decide) ?_ ?_
    · refine r_ldc hg kv_RX6_141 dX6_net_34 ?_
      exact r_iret hg dX6_net_36 rfl rfl
    · refine r_aload_n hg 1 dX6_net_21 rfl ?_
      refine q_getr (j := 5) hg rfl rfl rfl (by decide) iX6 kf_RX6_46 rfl dX6_net_22 ?_
      refine r_aloadq hg 0 dX6_net_25 rfl ?_
      refine r_iload_n hg 3 dX6_net_27 rfl ?_
      refine q_callv1 hg (e_X3_findFor N l w r1 v2 σ4) kk_RX6_170 ki_X3_findFor ks_RX3_X3_findFor rfl rfl np_X3_findFor (Nat.le_trans (by decide) hdp) rfl m_c1_nil (Nat.le_of_ble_eq_true rfl) dX6_net_28 (fun r5 σ6 => ?_)
      refine r_if_ne hg 37 dX6_net_31 (by decide) ?_ ?_
      · refine r_aloadq hg 0 dX6_net_37 rfl ?_
        refine r_aload_n hg 1 dX6_net_39 rfl ?_
        refine q_getr (j := 5) hg rfl rfl rfl (by decide) iX6 kf_RX6_46 rfl dX6_net_40 ?_
        refine q_geti (j := 0) hg rfl rfl rfl (by decide) iX3 kf_RX6_173 rfl dX6_net_43 ?_
        refine q_callq1 hg (e_X0_netOf N l w r1 (σ6 20 0) σ6) kk_RX6_157 ki_X0_netOf ks_RX0_X0_netOf shC_q2 np_X0_netOf (Nat.le_trans (by decide) hdp) rfl m_c1_nil (Nat.le_of_ble_eq_true rfl) dX6_net_46 (fun r7 σ8 => ?_)
        refine r_istore (lv' := [(5, .int r7), (4, m_rf w.2.1 r1), (0, .ref (w.2.1 16)), (1, .int v1), (2, .int v2), (3, .int v3)]) hg dX6_net_49 (by decide) rfl ?_
        refine r_aloadq hg 1 dX6_net_51 rfl ?_
        refine r_aload_n hg 2 dX6_net_53 rfl ?_
        refine q_getr (j := 5) hg rfl rfl rfl (by decide) iX6 kf_RX6_46 rfl dX6_net_54 ?_
        refine q_geti (j := 1) hg rfl rfl rfl (by decide) iX3 kf_RX6_176 rfl dX6_net_57 ?_
        refine q_callq1 hg (e_X0_netOf N l w r1 (σ8 20 1) σ8) kk_RX6_157 ki_X0_netOf ks_RX0_X0_netOf shC_q2 np_X0_netOf (Nat.le_trans (by decide) hdp) rfl m_c1_nil (Nat.le_of_ble_eq_true rfl) dX6_net_60 (fun r9 σ10 => ?_)
        refine r_istore (lv' := [(6, .int r9), (5, .int r7), (4, m_rf w.2.1 r1), (0, .ref (w.2.1 16)), (1, .int v1), (2, .int v2), (3, .int v3)]) hg dX6_net_63 (by decide) rfl ?_
        refine r_iload hg 0 dX6_net_65 rfl ?_
        refine r_iload hg 1 dX6_net_67 rfl ?_
        refine r_icmp_le hg 89 dX6_net_69 (by decide) ?_ ?_
        · refine r_iload_n hg 6 dX6_net_89 rfl ?_
          refine r_if_ne hg 98 dX6_net_90 (by decide) ?_ ?_
          · refine r_aload_n hg 3 dX6_net_98 rfl ?_
            refine q_getr (j := 5) hg rfl rfl rfl (by decide) iX6 kf_RX6_46 rfl dX6_net_99 ?_
            refine q_geti (j := 0) hg rfl rfl rfl (by decide) iX3 kf_RX6_173 rfl dX6_net_102 ?_
            exact r_iret hg dX6_net_105 rfl rfl
          · refine r_iload hg 1 dX6_net_93 rfl ?_
            refine r_goto hg 105 dX6_net_95 (by decide) ?_
            exact r_iret hg dX6_net_105 rfl rfl
        · refine r_iload_n hg 6 dX6_net_72 rfl ?_
          refine r_if_ne hg 81 dX6_net_73 (by decide) ?_ ?_
          · refine r_aload_n hg 3 dX6_net_81 rfl ?_
            refine q_getr (j := 5) hg rfl rfl rfl (by decide) iX6 kf_RX6_46 rfl dX6_net_82 ?_
            refine q_geti (j := 1) hg rfl rfl rfl (by decide) iX3 kf_RX6_176 rfl dX6_net_85 ?_
            exact r_iret hg dX6_net_88 rfl rfl
          · refine r_iload hg 0 dX6_net_76 rfl ?_
            refine r_goto hg 88 dX6_net_78 (by decide) ?_
            exact r_iret hg dX6_net_88 rfl rfl
      · refine r_ldc hg kv_RX6_141 dX6_net_34 ?_
        exact r_iret hg dX6_net_36 rfl rfl
set_option maxHeartbeats 4000000 in
set_option maxRecDepth 100000 in
theorem vj_X1_standsAnewAt_102 {N : Nat} (hg : m_ok (p, l, e, d, s, m, args, below, meth, c) w shC cX1_standsAnewAt 11 RX1 (some .boolean)) (hdp : 0 ≤ d) {K19 : Int32 → Int32 → Int32 → Int32 → Int32 → Mem → Option (Int32 × Mem)} (hK19 : ∀ (x1 x2 x4 x5 x6 : Int32) (σ : Mem), Vj (p, l, e, d, s, m, args, below, meth, c) w shC 11 1 σ 19 [(0, .ref (w.2.1 18)), (1, .int x1), (2, .int x2), (4, .int x4), (5, .int x5), (6, .int x6)] [] (K19 x1 x2 x4 x5 x6 σ)) (x1 x2 x4 x5 x6 x8 x9 y0 : Int32) (σ : Mem) : Vj (p, l, e, d, s, m, args, below, meth, c) w shC 11 1 σ 102 [(0, .ref (w.2.1 18)), (1, .int x1), (2, .int x2), (4, .int x4), (5, .int x5), (6, .int x6), (8, .int x8), (9, .int x9)] [.int y0] (j_X1_standsAnewAt_102 N K19 x1 x2 x4 x5 x6 x8 x9 y0 σ) := by
  unfold j_X1_standsAnewAt_102
  refine r_istore (lv' := [(10, .int y0), (0, .ref (w.2.1 18)), (1, .int x1), (2, .int x2), (4, .int x4), (5, .int x5), (6, .int x6), (8, .int x8), (9, .int x9)]) hg dX1_standsAnewAt_102 (by decide) rfl ?_
  refine r_iload hg 6 dX1_standsAnewAt_104 rfl ?_
  refine r_iload_n hg 3 dX1_standsAnewAt_106 rfl ?_
  refine r_icmp_eq hg 127 dX1_standsAnewAt_107 (by decide) ?_ ?_
  · refine r_iinc (lv' := [(6, .int (x6 + 1)), (10, .int y0), (0, .ref (w.2.1 18)), (1, .int x1), (2, .int x2), (4, .int x4), (5, .int x5), (8, .int x8), (9, .int x9)]) hg 6 (x6 + 1) dX1_standsAnewAt_127 rfl rfl (by decide) rfl ?_
    refine r_goto hg 19 dX1_standsAnewAt_130 (by decide) ?_
    refine r_lv [2, 3, 4, 5, 6, 0] rfl ?_
    exact hK19 x1 x2 x4 x5 (x6 + 1) σ
  · refine r_iload hg 7 dX1_standsAnewAt_110 rfl ?_
    refine r_if_ne hg 125 dX1_standsAnewAt_112 (by decide) ?_ ?_
    · refine r_iconst hg 1 dX1_standsAnewAt_125 (by decide) ?_
      exact r_zret hg dX1_standsAnewAt_126 rfl rfl
    · refine r_iload hg 8 dX1_standsAnewAt_115 rfl ?_
      refine r_if_ne hg 125 dX1_standsAnewAt_117 (by decide) ?_ ?_
      · refine r_iconst hg 1 dX1_standsAnewAt_125 (by decide) ?_
        exact r_zret hg dX1_standsAnewAt_126 rfl rfl
      · refine r_iload hg 0 dX1_standsAnewAt_120 rfl ?_
        refine r_if_eq hg 127 dX1_standsAnewAt_122 (by decide) ?_ ?_
        · refine r_iinc (lv' := [(6, .int (x6 + 1)), (10, .int y0), (0, .ref (w.2.1 18)), (1, .int x1), (2, .int x2), (4, .int x4), (5, .int x5), (8, .int x8), (9, .int x9)]) hg 6 (x6 + 1) dX1_standsAnewAt_127 rfl rfl (by decide) rfl ?_
          refine r_goto hg 19 dX1_standsAnewAt_130 (by decide) ?_
          refine r_lv [2, 3, 4, 5, 6, 0] rfl ?_
          exact hK19 x1 x2 x4 x5 (x6 + 1) σ
        · refine r_iconst hg 1 dX1_standsAnewAt_125 (by decide) ?_
          exact r_zret hg dX1_standsAnewAt_126 rfl rfl
set_option maxHeartbeats 4000000 in
set_option maxRecDepth 100000 in
theorem vj_X1_standsAnewAt_78 {N : Nat} (hg : m_ok (p, l, e, d, s, m, args, below, meth, c) w shC cX1_standsAnewAt 11 RX1 (some .boolean)) (hdp : 0 ≤ d) {K19 : Int32 → Int32 → Int32 → Int32 → Int32 → Mem → Option (Int32 × Mem)} (hK19 : ∀ (x1 x2 x4 x5 x6 : Int32) (σ : Mem), Vj (p, l, e, d, s, m, args, below, meth, c) w shC 11 1 σ 19 [(0, .ref (w.2.1 18)), (1, .int x1), (2, .int x2), (4, .int x4), (5, .int x5), (6, .int x6)] [] (K19 x1 x2 x4 x5 x6 σ)) (x1 x2 x4 x5 x6 x7 x8 y0 : Int32) (σ : Mem) : Vj (p, l, e, d, s, m, args, below, meth, c) w shC 11 1 σ 78 [(0, .ref (w.2.1 18)), (1, .int x1), (2, .int x2), (4, .int x4), (5, .int x5), (6, .int x6), (7, .int x7), (8, .int x8)] [.int y0] (j_X1_standsAnewAt_78 N K19 x1 x2 x4 x5 x6 x7 x8 y0 σ) := by
  unfold j_X1_standsAnewAt_78
  refine r_istore (lv' := [(9, .int y0), (0, .ref (w.2.1 18)), (1, .int x1), (2, .int x2), (4, .int x4), (5, .int x5), (6, .int x6), (7, .int x7), (8, .int x8)]) hg dX1_standsAnewAt_78 (by decide) rfl ?_
  refine r_iload hg 7 dX1_standsAnewAt_80 rfl ?_
  refine r_iload hg 5 dX1_standsAnewAt_82 rfl ?_
  refine r_ineg hg dX1_standsAnewAt_84 ?_
  refine r_icmp_eq hg 97 dX1_standsAnewAt_85 (by decide) ?_ ?_
  · refine r_iconst hg 1 dX1_standsAnewAt_97 (by decide) ?_
    refine r_goto hg 102 dX1_standsAnewAt_98 (by decide) ?_
    refine r_lv [1, 2, 3, 4, 5, 6, 8, 0] rfl ?_
    exact vj_X1_standsAnewAt_102 hg hdp hK19 x1 x2 x4 x5 x6 x8 y0 1 σ
  · refine r_iload hg 7 dX1_standsAnewAt_88 rfl ?_
    refine r_iload hg 5 dX1_standsAnewAt_90 rfl ?_
    refine r_iconst hg 1 dX1_standsAnewAt_92 (by decide) ?_
    refine r_iadd hg dX1_standsAnewAt_93 ?_
    refine r_icmp_ne hg 101 dX1_standsAnewAt_94 (by decide) ?_ ?_
    · refine r_iconst hg 0 dX1_standsAnewAt_101 (by decide) ?_
      refine r_lv [1, 2, 3, 4, 5, 6, 8, 0] rfl ?_
      exact vj_X1_standsAnewAt_102 hg hdp hK19 x1 x2 x4 x5 x6 x8 y0 0 σ
    · refine r_iconst hg 1 dX1_standsAnewAt_97 (by decide) ?_
      refine r_goto hg 102 dX1_standsAnewAt_98 (by decide) ?_
      refine r_lv [1, 2, 3, 4, 5, 6, 8, 0] rfl ?_
      exact vj_X1_standsAnewAt_102 hg hdp hK19 x1 x2 x4 x5 x6 x8 y0 1 σ
set_option maxHeartbeats 4000000 in
set_option maxRecDepth 100000 in
theorem vj_X1_standsAnewAt_55 {N : Nat} (hg : m_ok (p, l, e, d, s, m, args, below, meth, c) w shC cX1_standsAnewAt 11 RX1 (some .boolean)) (hdp : 0 ≤ d) {K19 : Int32 → Int32 → Int32 → Int32 → Int32 → Mem → Option (Int32 × Mem)} (hK19 : ∀ (x1 x2 x4 x5 x6 : Int32) (σ : Mem), Vj (p, l, e, d, s, m, args, below, meth, c) w shC 11 1 σ 19 [(0, .ref (w.2.1 18)), (1, .int x1), (2, .int x2), (4, .int x4), (5, .int x5), (6, .int x6)] [] (K19 x1 x2 x4 x5 x6 σ)) (x1 x2 x4 x5 x6 x7 y0 : Int32) (σ : Mem) : Vj (p, l, e, d, s, m, args, below, meth, c) w shC 11 1 σ 55 [(0, .ref (w.2.1 18)), (1, .int x1), (2, .int x2), (4, .int x4), (5, .int x5), (6, .int x6), (7, .int x7)] [.int y0] (j_X1_standsAnewAt_55 N K19 x1 x2 x4 x5 x6 x7 y0 σ) := by
  unfold j_X1_standsAnewAt_55
  refine r_istore (lv' := [(8, .int y0), (0, .ref (w.2.1 18)), (1, .int x1), (2, .int x2), (4, .int x4), (5, .int x5), (6, .int x6), (7, .int x7)]) hg dX1_standsAnewAt_55 (by decide) rfl ?_
  refine r_iload hg 7 dX1_standsAnewAt_57 rfl ?_
  refine r_iconst hg 1 dX1_standsAnewAt_59 (by decide) ?_
  refine r_iload hg 4 dX1_standsAnewAt_60 rfl ?_
  refine r_isub hg dX1_standsAnewAt_62 ?_
  refine r_icmp_eq hg 73 dX1_standsAnewAt_63 (by decide) ?_ ?_
  · refine r_iconst hg 1 dX1_standsAnewAt_73 (by decide) ?_
    refine r_goto hg 78 dX1_standsAnewAt_74 (by decide) ?_
    refine r_lv [1, 2, 3, 4, 5, 6, 7, 0] rfl ?_
    exact vj_X1_standsAnewAt_78 hg hdp hK19 x1 x2 x4 x5 x6 x7 y0 1 σ
  · refine r_iload hg 7 dX1_standsAnewAt_66 rfl ?_
    refine r_iload hg 4 dX1_standsAnewAt_68 rfl ?_
    refine r_icmp_ne hg 77 dX1_standsAnewAt_70 (by decide) ?_ ?_
    · refine r_iconst hg 0 dX1_standsAnewAt_77 (by decide) ?_
      refine r_lv [1, 2, 3, 4, 5, 6, 7, 0] rfl ?_
      exact vj_X1_standsAnewAt_78 hg hdp hK19 x1 x2 x4 x5 x6 x7 y0 0 σ
    · refine r_iconst hg 1 dX1_standsAnewAt_73 (by decide) ?_
      refine r_goto hg 78 dX1_standsAnewAt_74 (by decide) ?_
      refine r_lv [1, 2, 3, 4, 5, 6, 7, 0] rfl ?_
      exact vj_X1_standsAnewAt_78 hg hdp hK19 x1 x2 x4 x5 x6 x7 y0 1 σ
set_option maxHeartbeats 4000000 in
set_option maxRecDepth 100000 in
theorem vb_X1_standsAnewAt_19 {N : Nat} (hg : m_ok (p, l, e, d, s, m, args, below, meth, c) w shC cX1_standsAnewAt 11 RX1 (some .boolean)) (hdp : 0 ≤ d) {K19 : Int32 → Int32 → Int32 → Int32 → Int32 → Mem → Option (Int32 × Mem)} (hK19 : ∀ (x1 x2 x4 x5 x6 : Int32) (σ : Mem), Vj (p, l, e, d, s, m, args, below, meth, c) w shC 11 1 σ 19 [(0, .ref (w.2.1 18)), (1, .int x1), (2, .int x2), (4, .int x4), (5, .int x5), (6, .int x6)] [] (K19 x1 x2 x4 x5 x6 σ)) (x1 x2 x4 x5 x6 : Int32) (σ : Mem) : Vj (p, l, e, d, s, m, args, below, meth, c) w shC 11 1 σ 19 [(0, .ref (w.2.1 18)), (1, .int x1), (2, .int x2), (4, .int x4), (5, .int x5), (6, .int x6)] [] (b_X1_standsAnewAt_19 N K19 x1 x2 x4 x5 x6 σ) := by
  unfold b_X1_standsAnewAt_19
  refine r_iload hg 5 dX1_standsAnewAt_19 rfl ?_
  refine r_aload_n hg 0 dX1_standsAnewAt_21 rfl ?_
  refine q_geti (j := 6) hg rfl rfl rfl (by decide) iX1 kf_RX1_30 rfl dX1_standsAnewAt_22 ?_
  refine r_icmp_ge hg 133 dX1_standsAnewAt_25 (by decide) ?_ ?_
  · refine r_iconst hg 0 dX1_standsAnewAt_133 (by decide) ?_
    exact r_zret hg dX1_standsAnewAt_134 rfl rfl
  · refine r_iload_n hg 1 dX1_standsAnewAt_28 rfl ?_
    refine r_aload_n hg 0 dX1_standsAnewAt_29 rfl ?_
    refine q_getr (j := 1) hg rfl rfl rfl (by decide) iX1 kf_RX1_15 rfl dX1_standsAnewAt_30 ?_
    refine r_iload hg 5 dX1_standsAnewAt_33 rfl ?_
    refine r_iaload (n := 12) hg rfl dX1_standsAnewAt_35 ?_
    refine r_isub hg dX1_standsAnewAt_36 ?_
    refine q_name (fun u1 => ?_)
    refine r_istore (lv' := [(7, .int u1), (0, .ref (w.2.1 18)), (1, .int x1), (2, .int x2), (4, .int x4), (5, .int x5), (6, .int x6)]) hg dX1_standsAnewAt_37 (by decide) rfl ?_
    refine r_iload hg 0 dX1_standsAnewAt_39 rfl ?_
    refine r_if_eq hg 50 dX1_standsAnewAt_41 (by decide) ?_ ?_
    · refine r_iconst hg 1 dX1_standsAnewAt_50 (by decide) ?_
      refine r_goto hg 55 dX1_standsAnewAt_51 (by decide) ?_
      refine r_lv [1, 2, 3, 4, 5, 6, 0] rfl ?_
      exact vj_X1_standsAnewAt_55 hg hdp hK19 x1 x2 x4 x5 x6 u1 1 σ
    · refine r_iload hg 0 dX1_standsAnewAt_44 rfl ?_
      refine r_iconst hg 1 dX1_standsAnewAt_46 (by decide) ?_
      refine r_icmp_ne hg 54 dX1_standsAnewAt_47 (by decide) ?_ ?_
      · refine r_iconst hg 0 dX1_standsAnewAt_54 (by decide) ?_
        refine r_lv [1, 2, 3, 4, 5, 6, 0] rfl ?_
        exact vj_X1_standsAnewAt_55 hg hdp hK19 x1 x2 x4 x5 x6 u1 0 σ
      · refine r_iconst hg 1 dX1_standsAnewAt_50 (by decide) ?_
        refine r_goto hg 55 dX1_standsAnewAt_51 (by decide) ?_
        refine r_lv [1, 2, 3, 4, 5, 6, 0] rfl ?_
        exact vj_X1_standsAnewAt_55 hg hdp hK19 x1 x2 x4 x5 x6 u1 1 σ
set_option maxHeartbeats 4000000 in
set_option maxRecDepth 100000 in
theorem vl_X1_standsAnewAt_19 {N : Nat} (hg : m_ok (p, l, e, d, s, m, args, below, meth, c) w shC cX1_standsAnewAt 11 RX1 (some .boolean)) (hdp : 0 ≤ d) : ∀ (n : Nat) (x1 x2 x4 x5 x6 : Int32) (σ : Mem), Vj (p, l, e, d, s, m, args, below, meth, c) w shC 11 1 σ 19 [(0, .ref (w.2.1 18)), (1, .int x1), (2, .int x2), (4, .int x4), (5, .int x5), (6, .int x6)] [] (l_X1_standsAnewAt_19 N n x1 x2 x4 x5 x6 σ)
| 0, _, _, _, _, _, _ => Vj.none
| n + 1, x1, x2, x4, x5, x6, σ => vb_X1_standsAnewAt_19 hg hdp (fun x1 x2 x4 x5 x6 σ => vl_X1_standsAnewAt_19 hg hdp n x1 x2 x4 x5 x6 σ) x1 x2 x4 x5 x6 σ
set_option maxHeartbeats 4000000 in
set_option maxRecDepth 100000 in
theorem e_X1_standsAnewAt (N : Nat) (l : Launch) (w : mW) (v1 v2 v3 : Int32) (σ : Mem) : Ev l w shC yX1_standsAnewAt cX1_standsAnewAt 11 (some .boolean) 1 0 [.ref (w.2.1 18), .int v1, .int v2, m_rf w.2.1 v3] σ (f_X1_standsAnewAt N v1 v2 v3 σ) := by
  refine Ev.of (by decide) (m_c1_r (m_c1_i (m_c1_i (m_c1_q m_c1_nil)))) (Nat.le_of_ble_eq_true rfl) (fun p e s m args below meth c hg => ?_)
  have hdp := Nat.le_refl 0
  unfold f_X1_standsAnewAt
  show Vj (p, l, e, 0, s, m, args, below, meth, c) w shC 11 1 σ 0 [(0, .ref (w.2.1 18)), (1, .int v1), (2, .int v2), (3, m_rf w.2.1 v3)] [] _
  refine r_aloadq_n hg 3 dX1_standsAnewAt_0 rfl ?_
  refine q_getq (b := 8) hg shC_q rfl (by decide) iX0 kf_RX1_54 rfl dX1_standsAnewAt_1 (fun h1 => ?_)
  refine r_iconst hg 0 dX1_standsAnewAt_4 (by decide) ?_
  refine r_iaload (n := 10) hg (shC_w h1) dX1_standsAnewAt_5 ?_
  refine q_name (fun u2 => ?_)
  refine r_istore (lv' := [(4, .int u2), (0, .ref (w.2.1 18)), (1, .int v1), (2, .int v2), (3, m_rf w.2.1 v3)]) hg dX1_standsAnewAt_6 (by decide) rfl ?_
  refine r_aloadq_n hg 4 dX1_standsAnewAt_8 rfl ?_
  refine q_getq (b := 8) hg shC_q rfl (by decide) iX0 kf_RX1_54 rfl dX1_standsAnewAt_9 (fun h3 => ?_)
  refine r_iconst hg 4 dX1_standsAnewAt_12 (by decide) ?_
  refine r_iaload (n := 10) hg (shC_w h3) dX1_standsAnewAt_13 ?_
  refine q_name (fun u4 => ?_)
  refine r_istore (lv' := [(5, .int u4), (4, .int u2), (0, .ref (w.2.1 18)), (1, .int v1), (2, .int v2), (3, m_rf w.2.1 v3)]) hg dX1_standsAnewAt_14 (by decide) rfl ?_
  refine r_iconst hg 0 dX1_standsAnewAt_16 (by decide) ?_
  refine r_istore (lv' := [(6, .int 0), (5, .int u4), (4, .int u2), (0, .ref (w.2.1 18)), (1, .int v1), (2, .int v2), (3, m_rf w.2.1 v3)]) hg dX1_standsAnewAt_17 (by decide) rfl ?_
  refine r_lv [3, 4, 5, 2, 1, 0] rfl ?_
  exact vl_X1_standsAnewAt_19 hg hdp N v1 v2 u2 u4 0 σ
end CM3
