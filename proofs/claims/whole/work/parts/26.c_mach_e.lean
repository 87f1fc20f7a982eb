section CM4
variable {p : Program} {l : Launch} {e : Env} {d : Nat} {s : State} {m : MethodId} {args : Array Value} {below : List Frame} {meth : Method} {c : Code} {w : mW}
set_option maxHeartbeats 4000000 in
set_option maxRecDepth 100000 in
theorem e_X6_greatestFor (N : Nat) (l : Launch) (w : mW) (v1 v2 : Int32) (σ : Mem) : Ev l w shC yX6_greatestFor cX6_greatestFor 3 (some .int) 1 34 [.ref (w.2.1 16), m_rf w.2.1 v1, .int v2] σ (f_X6_greatestFor N v1 v2 σ) := by
  refine Ev.of (by decide) (m_c1_r (m_c1_q (m_c1_i m_c1_nil))) (Nat.le_of_ble_eq_true rfl) (fun p e s m args below meth c hg => ?_)
  have hdp := Nat.le_refl 34
  unfold f_X6_greatestFor
  show Vj (p, l, e, 34, s, m, args, below, meth, c) w shC 3 1 σ 0 [(0, .ref (w.2.1 16)), (1, m_rf w.2.1 v1), (2, .int v2)] [] _
  refine r_aload_n hg 0 dX6_greatestFor_0 rfl ?_
  refine q_getr (j := 5) hg rfl rfl rfl (by decide) iX6 kf_RX6_46 rfl dX6_greatestFor_1 ?_
  refine r_aloadq_n hg 1 dX6_greatestFor_4 rfl ?_
  refine r_iload_n hg 2 dX6_greatestFor_5 rfl ?_
  refine q_callv1 hg (e_X3_findFor N l w v1 v2 σ) kk_RX6_170 ki_X3_findFor ks_RX3_X3_findFor rfl rfl np_X3_findFor (Nat.le_trans (by decide) hdp) rfl m_c1_nil (Nat.le_of_ble_eq_true rfl) dX6_greatestFor_6 (fun r1 σ2 => ?_)
  refine r_if_eq hg 22 dX6_greatestFor_9 (by decide) ?_ ?_
  · refine r_ldc hg kv_RX6_141 dX6_greatestFor_22 ?_
    exact r_iret hg dX6_greatestFor_24 rfl rfl
  · refine r_aload_n hg 0 dX6_greatestFor_12 rfl ?_
    refine q_getr (j := 5) hg rfl rfl rfl (by decide) iX6 kf_RX6_46 rfl dX6_greatestFor_13 ?_
    refine q_geti (j := 0) hg rfl rfl rfl (by decide) iX3 kf_RX6_173 rfl dX6_greatestFor_16 ?_
    refine r_goto hg 24 dX6_greatestFor_19 (by decide) ?_
    exact r_iret hg dX6_greatestFor_24 rfl rfl
set_option maxHeartbeats 4000000 in
set_option maxRecDepth 100000 in
theorem vj_X6_ends_154 {N : Nat} (hg : m_ok (p, l, e, d, s, m, args, below, meth, c) w shC cX6_ends 11 RX6 (some .int)) (hdp : 35 ≤ d) {K65 : Int32 → Int32 → Int32 → Int32 → Int32 → Int32 → Int32 → Mem → Option (Int32 × Mem)} (hK65 : ∀ (x2 x3 x4 x5 x6 x7 x8 : Int32) (σ : Mem), Vj (p, l, e, d, s, m, args, below, meth, c) w shC 11 1 σ 65 [(0, .ref (w.2.1 16)), (2, .int x2), (3, .int x3), (4, m_rf w.2.1 x4), (5, .int x5), (6, .int x6), (7, .int x7), (8, .int x8)] [] (K65 x2 x3 x4 x5 x6 x7 x8 σ)) (x2 x3 x4 x5 x6 x7 x8 x9 y0 : Int32) (σ : Mem) : Vj (p, l, e, d, s, m, args, below, meth, c) w shC 11 1 σ 154 [(0, .ref (w.2.1 16)), (2, .int x2), (3, .int x3), (4, m_rf w.2.1 x4), (5, .int x5), (6, .int x6), (7, .int x7), (8, .int x8), (9, .int x9)] [.int y0] (j_X6_ends_154 N K65 x2 x3 x4 x5 x6 x7 x8 x9 y0 σ) := by
  unfold j_X6_ends_154
  refine r_istore (lv' := [(10, .int y0), (0, .ref (w.2.1 16)), (2, .int x2), (3, .int x3), (4, m_rf w.2.1 x4), (5, .int x5), (6, .int x6), (7, .int x7), (8, .int x8), (9, .int x9)]) hg dX6_ends_154 (by decide) rfl ?_
  refine r_iload hg 9 dX6_ends_156 rfl ?_
  refine r_ldc hg kv_RX6_141 dX6_ends_158 ?_
  refine r_icmp_eq hg 179 dX6_ends_160 (by decide) ?_ ?_
  · refine r_iinc (lv' := [(8, .int (x8 + 1)), (10, .int y0), (0, .ref (w.2.1 16)), (2, .int x2), (3, .int x3), (4, m_rf w.2.1 x4), (5, .int x5), (6, .int x6), (7, .int x7), (9, .int x9)]) hg 8 (x8 + 1) dX6_ends_179 rfl rfl (by decide) rfl ?_
    refine r_goto hg 65 dX6_ends_182 (by decide) ?_
    refine r_lv [2, 3, 4, 5, 6, 7, 8, 0] rfl ?_
    exact hK65 x2 x3 x4 x5 x6 x7 (x8 + 1) σ
  · refine r_iload hg 7 dX6_ends_163 rfl ?_
    refine r_ldc hg kv_RX6_141 dX6_ends_165 ?_
    refine r_icmp_eq hg 175 dX6_ends_167 (by decide) ?_ ?_
    · refine r_iload hg 9 dX6_ends_175 rfl ?_
      refine r_istore (lv' := [(7, .int x9), (10, .int y0), (0, .ref (w.2.1 16)), (2, .int x2), (3, .int x3), (4, m_rf w.2.1 x4), (5, .int x5), (6, .int x6), (8, .int x8), (9, .int x9)]) hg dX6_ends_177 (by decide) rfl ?_
      refine r_iinc (lv' := [(8, .int (x8 + 1)), (7, .int x9), (10, .int y0), (0, .ref (w.2.1 16)), (2, .int x2), (3, .int x3), (4, m_rf w.2.1 x4), (5, .int x5), (6, .int x6), (9, .int x9)]) hg 8 (x8 + 1) dX6_ends_179 rfl rfl (by decide) rfl ?_
      refine r_goto hg 65 dX6_ends_182 (by decide) ?_
      refine r_lv [3, 4, 5, 6, 7, 8, 1, 0] rfl ?_
      exact hK65 x2 x3 x4 x5 x6 x9 (x8 + 1) σ
    · refine r_iload hg 0 dX6_ends_170 rfl ?_
      refine r_if_eq hg 179 dX6_ends_172 (by decide) ?_ ?_
      · refine r_iinc (lv' := [(8, .int (x8 + 1)), (10, .int y0), (0, .ref (w.2.1 16)), (2, .int x2), (3, .int x3), (4, m_rf w.2.1 x4), (5, .int x5), (6, .int x6), (7, .int x7), (9, .int x9)]) hg 8 (x8 + 1) dX6_ends_179 rfl rfl (by decide) rfl ?_
        refine r_goto hg 65 dX6_ends_182 (by decide) ?_
        refine r_lv [2, 3, 4, 5, 6, 7, 8, 0] rfl ?_
        exact hK65 x2 x3 x4 x5 x6 x7 (x8 + 1) σ
      · refine r_iload hg 9 dX6_ends_175 rfl ?_
        refine r_istore (lv' := [(7, .int x9), (10, .int y0), (0, .ref (w.2.1 16)), (2, .int x2), (3, .int x3), (4, m_rf w.2.1 x4), (5, .int x5), (6, .int x6), (8, .int x8), (9, .int x9)]) hg dX6_ends_177 (by decide) rfl ?_
        refine r_iinc (lv' := [(8, .int (x8 + 1)), (7, .int x9), (10, .int y0), (0, .ref (w.2.1 16)), (2, .int x2), (3, .int x3), (4, m_rf w.2.1 x4), (5, .int x5), (6, .int x6), (9, .int x9)]) hg 8 (x8 + 1) dX6_ends_179 rfl rfl (by decide) rfl ?_
        refine r_goto hg 65 dX6_ends_182 (by decide) ?_
        refine r_lv [3, 4, 5, 6, 7, 8, 1, 0] rfl ?_
        exact hK65 x2 x3 x4 x5 x6 x9 (x8 + 1) σ
set_option maxHeartbeats 4000000 in
set_option maxRecDepth 100000 in
theorem vj_X6_ends_97 {N : Nat} (hg : m_ok (p, l, e, d, s, m, args, below, meth, c) w shC cX6_ends 11 RX6 (some .int)) (hdp : 35 ≤ d) {K65 : Int32 → Int32 → Int32 → Int32 → Int32 → Int32 → Int32 → Mem → Option (Int32 × Mem)} (hK65 : ∀ (x2 x3 x4 x5 x6 x7 x8 : Int32) (σ : Mem), Vj (p, l, e, d, s, m, args, below, meth, c) w shC 11 1 σ 65 [(0, .ref (w.2.1 16)), (2, .int x2), (3, .int x3), (4, m_rf w.2.1 x4), (5, .int x5), (6, .int x6), (7, .int x7), (8, .int x8)] [] (K65 x2 x3 x4 x5 x6 x7 x8 σ)) (x2 x3 x4 x5 x6 x7 x8 : Int32) (σ : Mem) : Vj (p, l, e, d, s, m, args, below, meth, c) w shC 11 1 σ 97 [(0, .ref (w.2.1 16)), (2, .int x2), (3, .int x3), (4, m_rf w.2.1 x4), (5, .int x5), (6, .int x6), (7, .int x7), (8, .int x8)] [] (j_X6_ends_97 N K65 x2 x3 x4 x5 x6 x7 x8 σ) := by
  unfold j_X6_ends_97
  refine r_aload_n hg 0 dX6_ends_97 rfl ?_
  refine q_getr (j := 3) hg rfl rfl rfl (by decide) iX6 kf_RX6_30 rfl dX6_ends_98 ?_
  refine q_getr (j := 1) hg rfl rfl rfl (by decide) iX1 kf_RX6_103 rfl dX6_ends_101 ?_
  refine r_iload_n hg 1 dX6_ends_104 rfl ?_
  refine r_iload hg 7 dX6_ends_105 rfl ?_
  refine q_iastore (n := 12) hg rfl dX6_ends_107 (fun σ1 => ?_)
  refine r_aload_n hg 0 dX6_ends_108 rfl ?_
  refine r_aloadq hg 3 dX6_ends_109 rfl ?_
  refine r_aload_n hg 0 dX6_ends_111 rfl ?_
  refine q_getr (j := 3) hg rfl rfl rfl (by decide) iX6 kf_RX6_30 rfl dX6_ends_112 ?_
  refine q_callv1 hg (e_X1_all N l w σ1) kk_RX6_189 ki_X1_all ks_RX1_X1_all rfl rfl np_X1_all (Nat.le_trans (by decide) hdp) rfl (m_c1_q (m_c1_r m_c1_nil)) (Nat.le_of_ble_eq_true rfl) dX6_ends_115 (fun r2 σ3 => ?_)
  refine q_callv1 hg (e_X6_greatestFor N l w x4 r2 σ3) kk_RX6_193 ki_X6_greatestFor ks_RX6_X6_greatestFor rfl rfl np_X6_greatestFor (Nat.le_trans (by decide) hdp) rfl m_c1_nil (Nat.le_of_ble_eq_true rfl) dX6_ends_118 (fun r4 σ5 => ?_)
  refine r_istore (lv' := [(9, .int r4), (0, .ref (w.2.1 16)), (2, .int x2), (3, .int x3), (4, m_rf w.2.1 x4), (5, .int x5), (6, .int x6), (7, .int x7), (8, .int x8)]) hg dX6_ends_121 (by decide) rfl ?_
  refine r_iload_n hg 3 dX6_ends_123 rfl ?_
  refine r_if_ne hg 142 dX6_ends_124 (by decide) ?_ ?_
  · refine r_iload hg 0 dX6_ends_142 rfl ?_
    refine r_iload hg 7 dX6_ends_144 rfl ?_
    refine r_icmp_le hg 153 dX6_ends_146 (by decide) ?_ ?_
    · refine r_iconst hg 0 dX6_ends_153 (by decide) ?_
      refine r_lv [1, 2, 3, 4, 5, 6, 7, 8, 0] rfl ?_
      exact vj_X6_ends_154 hg hdp hK65 x2 x3 x4 x5 x6 x7 x8 r4 0 σ5
    · refine r_iconst hg 1 dX6_ends_149 (by decide) ?_
      refine r_goto hg 154 dX6_ends_150 (by decide) ?_
      refine r_lv [1, 2, 3, 4, 5, 6, 7, 8, 0] rfl ?_
      exact vj_X6_ends_154 hg hdp hK65 x2 x3 x4 x5 x6 x7 x8 r4 1 σ5
  · refine r_iload hg 0 dX6_ends_127 rfl ?_
    refine r_iload hg 7 dX6_ends_129 rfl ?_
    refine r_icmp_ge hg 138 dX6_ends_131 (by decide) ?_ ?_
    · refine r_iconst hg 0 dX6_ends_138 (by decide) ?_
      refine r_goto hg 154 dX6_ends_139 (by decide) ?_
      refine r_lv [1, 2, 3, 4, 5, 6, 7, 8, 0] rfl ?_
      exact vj_X6_ends_154 hg hdp hK65 x2 x3 x4 x5 x6 x7 x8 r4 0 σ5
    · refine r_iconst hg 1 dX6_ends_134 (by decide) ?_
      refine r_goto hg 154 dX6_ends_135 (by decide) ?_
      refine r_lv [1, 2, 3, 4, 5, 6, 7, 8, 0] rfl ?_
      exact vj_X6_ends_154 hg hdp hK65 x2 x3 x4 x5 x6 x7 x8 r4 1 σ5
set_option maxHeartbeats 4000000 in
set_option maxRecDepth 100000 in
theorem vb_X6_ends_65 {N : Nat} (hg : m_ok (p, l, e, d, s, m, args, below, meth, c) w shC cX6_ends 11 RX6 (some .int)) (hdp : 35 ≤ d) {K65 : Int32 → Int32 → Int32 → Int32 → Int32 → Int32 → Int32 → Mem → Option (Int32 × Mem)} (hK65 : ∀ (x2 x3 x4 x5 x6 x7 x8 : Int32) (σ : Mem), Vj (p, l, e, d, s, m, args, below, meth, c) w shC 11 1 σ 65 [(0, .ref (w.2.1 16)), (2, .int x2), (3, .int x3), (4, m_rf w.2.1 x4), (5, .int x5), (6, .int x6), (7, .int x7), (8, .int x8)] [] (K65 x2 x3 x4 x5 x6 x7 x8 σ)) (x2 x3 x4 x5 x6 x7 x8 : Int32) (σ : Mem) : Vj (p, l, e, d, s, m, args, below, meth, c) w shC 11 1 σ 65 [(0, .ref (w.2.1 16)), (2, .int x2), (3, .int x3), (4, m_rf w.2.1 x4), (5, .int x5), (6, .int x6), (7, .int x7), (8, .int x8)] [] (b_X6_ends_65 N K65 x2 x3 x4 x5 x6 x7 x8 σ) := by
  unfold b_X6_ends_65
  refine r_iload hg 7 dX6_ends_65 rfl ?_
  refine r_iload hg 5 dX6_ends_67 rfl ?_
  refine r_icmp_gt hg 185 dX6_ends_69 (by decide) ?_ ?_
  · refine r_aload_n hg 0 dX6_ends_185 rfl ?_
    refine q_getr (j := 3) hg rfl rfl rfl (by decide) iX6 kf_RX6_30 rfl dX6_ends_186 ?_
    refine q_getr (j := 1) hg rfl rfl rfl (by decide) iX1 kf_RX6_103 rfl dX6_ends_189 ?_
    refine r_iload_n hg 1 dX6_ends_192 rfl ?_
    refine r_iload hg 4 dX6_ends_193 rfl ?_
    refine q_iastore (n := 12) hg rfl dX6_ends_195 (fun σ1 => ?_)
    refine r_iload hg 6 dX6_ends_196 rfl ?_
    exact r_iret hg dX6_ends_198 rfl rfl
  · refine r_iload hg 7 dX6_ends_72 rfl ?_
    refine r_iload hg 4 dX6_ends_74 rfl ?_
    refine r_icmp_le hg 97 dX6_ends_76 (by decide) ?_ ?_
    · exact vj_X6_ends_97 hg hdp hK65 x2 x3 x4 x5 x6 x7 x8 σ
    · refine r_aload_n hg 0 dX6_ends_79 rfl ?_
      refine q_getr (j := 3) hg rfl rfl rfl (by decide) iX6 kf_RX6_30 rfl dX6_ends_80 ?_
      refine r_iload hg 7 dX6_ends_83 rfl ?_
      refine r_iload_n hg 1 dX6_ends_85 rfl ?_
      refine r_aloadq hg 3 dX6_ends_86 rfl ?_
      refine q_callv1 hg (e_X1_standsAnewAt N l w x8 x2 x4 σ) kk_RX6_185 ki_X1_standsAnewAt ks_RX1_X1_standsAnewAt rfl rfl np_X1_standsAnewAt (Nat.le_trans (by decide) hdp) rfl m_c1_nil (Nat.le_of_ble_eq_true rfl) dX6_ends_88 (fun r2 σ3 => ?_)
      refine r_if_ne hg 97 dX6_ends_91 (by decide) ?_ ?_
      · exact vj_X6_ends_97 hg hdp hK65 x2 x3 x4 x5 x6 x7 x8 σ3
      · refine r_goto hg 179 dX6_ends_94 (by decide) ?_
        refine r_iinc (lv' := [(8, .int (x8 + 1)), (0, .ref (w.2.1 16)), (2, .int x2), (3, .int x3), (4, m_rf w.2.1 x4), (5, .int x5), (6, .int x6), (7, .int x7)]) hg 7 (x8 + 1) dX6_ends_179 rfl rfl (by decide) rfl ?_
        refine r_goto hg 65 dX6_ends_182 (by decide) ?_
        refine r_lv [1, 2, 3, 4, 5, 6, 7, 0] rfl ?_
        exact hK65 x2 x3 x4 x5 x6 x7 (x8 + 1) σ3
set_option maxHeartbeats 4000000 in
set_option maxRecDepth 100000 in
theorem vl_X6_ends_65 {N : Nat} (hg : m_ok (p, l, e, d, s, m, args, below, meth, c) w shC cX6_ends 11 RX6 (some .int)) (hdp : 35 ≤ d) : ∀ (n : Nat) (x2 x3 x4 x5 x6 x7 x8 : Int32) (σ : Mem), Vj (p, l, e, d, s, m, args, below, meth, c) w shC 11 1 σ 65 [(0, .ref (w.2.1 16)), (2, .int x2), (3, .int x3), (4, m_rf w.2.1 x4), (5, .int x5), (6, .int x6), (7, .int x7), (8, .int x8)] [] (l_X6_ends_65 N n x2 x3 x4 x5 x6 x7 x8 σ)
| 0, _, _, _, _, _, _, _, _ => Vj.none
| n + 1, x2, x3, x4, x5, x6, x7, x8, σ => vb_X6_ends_65 hg hdp (fun x2 x3 x4 x5 x6 x7 x8 σ => vl_X6_ends_65 hg hdp n x2 x3 x4 x5 x6 x7 x8 σ) x2 x3 x4 x5 x6 x7 x8 σ
set_option maxHeartbeats 4000000 in
set_option maxRecDepth 100000 in
theorem e_X6_ends (N : Nat) (l : Launch) (w : mW) (v1 v2 v3 : Int32) (σ : Mem) : Ev l w shC yX6_ends cX6_ends 11 (some .int) 1 35 [.ref (w.2.1 16), .int v1, .int v2, .int v3] σ (f_X6_ends N v1 v2 v3 σ) := by
  refine Ev.of (by decide) (m_c1_r (m_c1_i (m_c1_i (m_c1_i m_c1_nil)))) (Nat.le_of_ble_eq_true rfl) (fun p e s m args below meth c hg => ?_)
  have hdp := Nat.le_refl 35
  unfold f_X6_ends
  show Vj (p, l, e, 35, s, m, args, below, meth, c) w shC 11 1 σ 0 [(0, .ref (w.2.1 16)), (1, .int v1), (2, .int v2), (3, .int v3)] [] _
  refine r_aload_n hg 0 dX6_ends_0 rfl ?_
  refine r_iload_n hg 1 dX6_ends_1 rfl ?_
  refine q_callv2 hg (e_X6_coverAt N l w v1 σ) kk_RX6_83 ki_X6_coverAt ks_RX6_X6_coverAt rfl rfl np_X6_coverAt (Nat.le_trans (by decide) hdp) rfl m_c1_nil (Nat.le_of_ble_eq_true rfl) dX6_ends_2 (fun r1 σ2 => ?_)
  refine r_astoreq (lv' := [(4, m_rf w.2.1 r1), (0, .ref (w.2.1 16)), (1, .int v1), (2, .int v2), (3, .int v3)]) hg dX6_ends_5 (by decide) rfl ?_
  refine r_aloadq hg 0 dX6_ends_7 rfl ?_
  refine r_ifnull hg 32 dX6_ends_9 (by decide) ?_ ?_
  · refine r_ldc hg kv_RX6_141 dX6_ends_32 ?_
    exact r_iret hg dX6_ends_34 rfl rfl
  · refine r_aload_n hg 1 dX6_ends_12 rfl ?_
    refine q_getr (j := 3) hg rfl rfl rfl (by decide) iX6 kf_RX6_30 rfl dX6_ends_13 ?_
    refine r_iload_n hg 3 dX6_ends_16 rfl ?_
    refine q_callv1 hg (e_X1_has N l w v2 σ2) kk_RX6_132 ki_X1_has ks_RX1_X1_has rfl rfl np_X1_has (Nat.le_trans (by decide) hdp) rfl m_c1_nil (Nat.le_of_ble_eq_true rfl) dX6_ends_17 (fun r3 σ4 => ?_)
    refine r_if_eq hg 32 dX6_ends_20 (by decide) ?_ ?_
    · refine r_ldc hg kv_RX6_141 dX6_ends_32 ?_
      exact r_iret hg dX6_ends_34 rfl rfl
    · refine r_iload_n hg 4 dX6_ends_23 rfl ?_
      refine r_iconst hg 0 dX6_ends_24 (by decide) ?_
      refine r_iconst hg 1 dX6_ends_25 (by decide) ?_
      refine q_calls1 hg (e_X6_isWithin N l w v3 0 1 σ4) kk_RX6_87 kt_X6_isWithin np_X6_isWithin (Nat.le_trans (by decide) hdp) rfl m_c1_nil (Nat.le_of_ble_eq_true rfl) dX6_ends_26 (fun r5 σ6 => ?_)
      refine r_if_ne hg 35 dX6_ends_29 (by decide) ?_ ?_
      · refine r_aload_n hg 1 dX6_ends_35 rfl ?_
        refine q_getr (j := 3) hg rfl rfl rfl (by decide) iX6 kf_RX6_30 rfl dX6_ends_36 ?_
        refine q_getr (j := 1) hg rfl rfl rfl (by decide) iX1 kf_RX6_103 rfl dX6_ends_39 ?_
        refine r_iload_n hg 3 dX6_ends_42 rfl ?_
        refine r_iaload (n := 12) hg rfl dX6_ends_43 ?_
        refine q_name (fun u7 => ?_)
        refine r_istore (lv' := [(5, .int u7), (4, m_rf w.2.1 r1), (0, .ref (w.2.1 16)), (1, .int v1), (2, .int v2), (3, .int v3)]) hg dX6_ends_44 (by decide) rfl ?_
        refine r_aload_n hg 2 dX6_ends_46 rfl ?_
        refine q_getr (j := 3) hg rfl rfl rfl (by decide) iX6 kf_RX6_30 rfl dX6_ends_47 ?_
        refine q_getr (j := 2) hg rfl rfl rfl (by decide) iX1 kf_RX6_106 rfl dX6_ends_50 ?_
        refine r_iload_n hg 4 dX6_ends_53 rfl ?_
        refine r_iaload (n := 12) hg rfl dX6_ends_54 ?_
        refine q_name (fun u8 => ?_)
        refine r_istore (lv' := [(6, .int u8), (5, .int u7), (4, m_rf w.2.1 r1), (0, .ref (w.2.1 16)), (1, .int v1), (2, .int v2), (3, .int v3)]) hg dX6_ends_55 (by decide) rfl ?_
        refine r_ldc hg kv_RX6_141 dX6_ends_57 ?_
        refine q_name (fun u9 => ?_)
        refine r_istore (lv' := [(7, .int u9), (6, .int u8), (5, .int u7), (4, m_rf w.2.1 r1), (0, .ref (w.2.1 16)), (1, .int v1), (2, .int v2), (3, .int v3)]) hg dX6_ends_59 (by decide) rfl ?_
        refine r_iload hg 2 dX6_ends_61 rfl ?_
        refine r_istore (lv' := [(8, .int u7), (7, .int u9), (6, .int u8), (5, .int u7), (4, m_rf w.2.1 r1), (0, .ref (w.2.1 16)), (1, .int v1), (2, .int v2), (3, .int v3)]) hg dX6_ends_63 (by decide) rfl ?_
        refine r_lv [5, 7, 8, 4, 3, 2, 1, 0] rfl ?_
        exact vl_X6_ends_65 hg hdp N v2 v3 r1 u7 u8 u9 u7 σ6
      · refine r_ldc hg kv_RX6_141 dX6_ends_32 ?_
        exact r_iret hg dX6_ends_34 rfl rfl
set_option maxHeartbeats 4000000 in
set_option maxRecDepth 100000 in
theorem vb_X6_lossOfGreatestWeight_9 {N : Nat} (hg : m_ok (p, l, e, d, s, m, args, below, meth, c) w shC cX6_lossOfGreatestWeight 7 RX6 (some .int)) (hdp : 35 ≤ d) {K9 : Int32 → Int32 → Int32 → Int32 → Int32 → Mem → Option (Int32 × Mem)} (hK9 : ∀ (x1 x2 x3 x4 x5 : Int32) (σ : Mem), Vj (p, l, e, d, s, m, args, below, meth, c) w shC 7 1 σ 9 [(0, .ref (w.2.1 16)), (1, m_rf w.2.1 x1), (2, .int x2), (3, .int x3), (4, .int x4), (5, .int x5)] [] (K9 x1 x2 x3 x4 x5 σ)) (x1 x2 x3 x4 x5 : Int32) (σ : Mem) : Vj (p, l, e, d, s, m, args, below, meth, c) w shC 7 1 σ 9 [(0, .ref (w.2.1 16)), (1, m_rf w.2.1 x1), (2, .int x2), (3, .int x3), (4, .int x4), (5, .int x5)] [] (b_X6_lossOfGreatestWeight_9 N K9 x1 x2 x3 x4 x5 σ) := by
  unfold b_X6_lossOfGreatestWeight_9
  refine r_iload hg 5 dX6_lossOfGreatestWeight_9 rfl ?_
  refine r_aload_n hg 0 dX6_lossOfGreatestWeight_11 rfl ?_
  refine q_getr (j := 3) hg rfl rfl rfl (by decide) iX6 kf_RX6_30 rfl dX6_lossOfGreatestWeight_12 ?_
  refine q_geti (j := 6) hg rfl rfl rfl (by decide) iX1 kf_RX6_97 rfl dX6_lossOfGreatestWeight_15 ?_
  refine r_icmp_ge hg 78 dX6_lossOfGreatestWeight_18 (by decide) ?_ ?_
  · refine r_iload_n hg 3 dX6_lossOfGreatestWeight_78 rfl ?_
    exact r_iret hg dX6_lossOfGreatestWeight_79 rfl rfl
  · refine r_aload_n hg 0 dX6_lossOfGreatestWeight_21 rfl ?_
    refine r_aloadq_n hg 1 dX6_lossOfGreatestWeight_22 rfl ?_
    refine r_aload_n hg 0 dX6_lossOfGreatestWeight_23 rfl ?_
    refine q_getr (j := 3) hg rfl rfl rfl (by decide) iX6 kf_RX6_30 rfl dX6_lossOfGreatestWeight_24 ?_
    refine q_callv1 hg (e_X1_all N l w σ) kk_RX6_189 ki_X1_all ks_RX1_X1_all rfl rfl np_X1_all (Nat.le_trans (by decide) hdp) rfl (m_c1_q (m_c1_r m_c1_nil)) (Nat.le_of_ble_eq_true rfl) dX6_lossOfGreatestWeight_27 (fun r1 σ2 => ?_)
    refine r_iconst hg 1 dX6_lossOfGreatestWeight_30 (by decide) ?_
    refine r_iload hg 5 dX6_lossOfGreatestWeight_31 rfl ?_
    refine r_ishl hg dX6_lossOfGreatestWeight_33 ?_
    refine r_ixor hg dX6_lossOfGreatestWeight_34 ?_
    refine q_callv1 hg (e_X6_greatestFor N l w x1 (r1 ^^^ (1 <<< (x5 &&& 31))) σ2) kk_RX6_193 ki_X6_greatestFor ks_RX6_X6_greatestFor rfl rfl np_X6_greatestFor (Nat.le_trans (by decide) hdp) rfl m_c1_nil (Nat.le_of_ble_eq_true rfl) dX6_lossOfGreatestWeight_35 (fun r3 σ4 => ?_)
    refine r_istore (lv' := [(6, .int r3), (0, .ref (w.2.1 16)), (1, m_rf w.2.1 x1), (2, .int x2), (3, .int x3), (4, .int x4), (5, .int x5)]) hg dX6_lossOfGreatestWeight_38 (by decide) rfl ?_
    refine r_iload hg 0 dX6_lossOfGreatestWeight_40 rfl ?_
    refine r_ldc hg kv_RX6_141 dX6_lossOfGreatestWeight_42 ?_
    refine r_icmp_ne hg 53 dX6_lossOfGreatestWeight_44 (by decide) ?_ ?_
    · refine r_iload_n hg 4 dX6_lossOfGreatestWeight_53 rfl ?_
      refine r_iconst hg (-1) dX6_lossOfGreatestWeight_54 (by decide) ?_
      refine r_icmp_eq hg 65 dX6_lossOfGreatestWeight_55 (by decide) ?_ ?_
      · refine r_iload hg 6 dX6_lossOfGreatestWeight_65 rfl ?_
        refine r_istore_n (lv' := [(3, .int x5), (6, .int r3), (0, .ref (w.2.1 16)), (1, m_rf w.2.1 x1), (2, .int x2), (4, .int x4), (5, .int x5)]) hg dX6_lossOfGreatestWeight_67 (by decide) rfl ?_
        refine r_iload hg 1 dX6_lossOfGreatestWeight_68 rfl ?_
        refine r_istore (lv' := [(4, .int r3), (3, .int x5), (6, .int r3), (0, .ref (w.2.1 16)), (1, m_rf w.2.1 x1), (2, .int x2), (5, .int x5)]) hg dX6_lossOfGreatestWeight_70 (by decide) rfl ?_
        refine r_iinc (lv' := [(5, .int (x5 + 1)), (4, .int r3), (3, .int x5), (6, .int r3), (0, .ref (w.2.1 16)), (1, m_rf w.2.1 x1), (2, .int x2)]) hg 6 (x5 + 1) dX6_lossOfGreatestWeight_72 rfl rfl (by decide) rfl ?_
        refine r_goto hg 9 dX6_lossOfGreatestWeight_75 (by decide) ?_
        refine r_lv [4, 5, 6, 2, 1, 0] rfl ?_
        exact hK9 x1 x2 x5 r3 (x5 + 1) σ4
      · refine r_iload hg 0 dX6_lossOfGreatestWeight_58 rfl ?_
        refine r_iload hg 5 dX6_lossOfGreatestWeight_60 rfl ?_
        refine r_icmp_ge hg 72 dX6_lossOfGreatestWeight_62 (by decide) ?_ ?_
        · refine r_iinc (lv' := [(5, .int (x5 + 1)), (6, .int r3), (0, .ref (w.2.1 16)), (1, m_rf w.2.1 x1), (2, .int x2), (3, .int x3), (4, .int x4)]) hg 6 (x5 + 1) dX6_lossOfGreatestWeight_72 rfl rfl (by decide) rfl ?_
          refine r_goto hg 9 dX6_lossOfGreatestWeight_75 (by decide) ?_
          refine r_lv [2, 3, 4, 5, 6, 0] rfl ?_
          exact hK9 x1 x2 x3 x4 (x5 + 1) σ4
        · refine r_iload hg 6 dX6_lossOfGreatestWeight_65 rfl ?_
          refine r_istore_n (lv' := [(3, .int x5), (6, .int r3), (0, .ref (w.2.1 16)), (1, m_rf w.2.1 x1), (2, .int x2), (4, .int x4), (5, .int x5)]) hg dX6_lossOfGreatestWeight_67 (by decide) rfl ?_
          refine r_iload hg 1 dX6_lossOfGreatestWeight_68 rfl ?_
          refine r_istore (lv' := [(4, .int r3), (3, .int x5), (6, .int r3), (0, .ref (w.2.1 16)), (1, m_rf w.2.1 x1), (2, .int x2), (5, .int x5)]) hg dX6_lossOfGreatestWeight_70 (by decide) rfl ?_
          refine r_iinc (lv' := [(5, .int (x5 + 1)), (4, .int r3), (3, .int x5), (6, .int r3), (0, .ref (w.2.1 16)), (1, m_rf w.2.1 x1), (2, .int x2)]) hg 6 (x5 + 1) dX6_lossOfGreatestWeight_72 rfl rfl (by decide) rfl ?_
          refine r_goto hg 9 dX6_lossOfGreatestWeight_75 (by decide) ?_
          refine r_lv [4, 5, 6, 2, 1, 0] rfl ?_
          exact hK9 x1 x2 x5 r3 (x5 + 1) σ4
    · refine r_iload_n hg 3 dX6_lossOfGreatestWeight_47 rfl ?_
      refine r_if_eq hg 72 dX6_lossOfGreatestWeight_48 (by decide) ?_ ?_
      · refine r_iinc (lv' := [(5, .int (x5 + 1)), (6, .int r3), (0, .ref (w.2.1 16)), (1, m_rf w.2.1 x1), (2, .int x2), (3, .int x3), (4, .int x4)]) hg 6 (x5 + 1) dX6_lossOfGreatestWeight_72 rfl rfl (by decide) rfl ?_
        refine r_goto hg 9 dX6_lossOfGreatestWeight_75 (by decide) ?_
        refine r_lv [2, 3, 4, 5, 6, 0] rfl ?_
        exact hK9 x1 x2 x3 x4 (x5 + 1) σ4
      · refine r_iconst hg (-1) dX6_lossOfGreatestWeight_51 (by decide) ?_
        exact r_iret hg dX6_lossOfGreatestWeight_52 rfl rfl
set_option maxHeartbeats 4000000 in
set_option maxRecDepth 100000 in
theorem vl_X6_lossOfGreatestWeight_9 {N : Nat} (hg : m_ok (p, l, e, d, s, m, args, below, meth, c) w shC cX6_lossOfGreatestWeight 7 RX6 (some .int)) (hdp : 35 ≤ d) : ∀ (n : Nat) (x1 x2 x3 x4 x5 : Int32) (σ : Mem), Vj (p, l, e, d, s, m, args, below, meth, c) w shC 7 1 σ 9 [(0, .ref (w.2.1 16)), (1, m_rf w.2.1 x1), (2, .int x2), (3, .int x3), (4, .int x4), (5, .int x5)] [] (l_X6_lossOfGreatestWeight_9 N n x1 x2 x3 x4 x5 σ)
| 0, _, _, _, _, _, _ => Vj.none
| n + 1, x1, x2, x3, x4, x5, σ => vb_X6_lossOfGreatestWeight_9 hg hdp (fun x1 x2 x3 x4 x5 σ => vl_X6_lossOfGreatestWeight_9 hg hdp n x1 x2 x3 x4 x5 σ) x1 x2 x3 x4 x5 σ
set_option maxHeartbeats 4000000 in
set_option maxRecDepth 100000 in
theorem e_X6_lossOfGreatestWeight (N : Nat) (l : Launch) (w : mW) (v1 v2 : Int32) (σ : Mem) : Ev l w shC yX6_lossOfGreatestWeight cX6_lossOfGreatestWeight 7 (some .int) 1 35 [.ref (w.2.1 16), m_rf w.2.1 v1, .int v2] σ (f_X6_lossOfGreatestWeight N v1 v2 σ) := by
  refine Ev.of (by decide) (m_c1_r (m_c1_q (m_c1_i m_c1_nil))) (Nat.le_of_ble_eq_true rfl) (fun p e s m args below meth c hg => ?_)
  have hdp := Nat.le_refl 35
  unfold f_X6_lossOfGreatestWeight
  show Vj (p, l, e, 35, s, m, args, below, meth, c) w shC 7 1 σ 0 [(0, .ref (w.2.1 16)), (1, m_rf w.2.1 v1), (2, .int v2)] [] _
  refine r_iconst hg (-1) dX6_lossOfGreatestWeight_0 (by decide) ?_
  refine q_name (fun u1 => ?_)
  refine r_istore_n (lv' := [(3, .int u1), (0, .ref (w.2.1 16)), (1, m_rf w.2.1 v1), (2, .int v2)]) hg dX6_lossOfGreatestWeight_1 (by decide) rfl ?_
  refine r_ldc hg kv_RX6_141 dX6_lossOfGreatestWeight_2 ?_
  refine q_name (fun u2 => ?_)
  refine r_istore (lv' := [(4, .int u2), (3, .int u1), (0, .ref (w.2.1 16)), (1, m_rf w.2.1 v1), (2, .int v2)]) hg dX6_lossOfGreatestWeight_4 (by decide) rfl ?_
  refine r_iconst hg 0 dX6_lossOfGreatestWeight_6 (by decide) ?_
  refine r_istore (lv' := [(5, .int 0), (4, .int u2), (3, .int u1), (0, .ref (w.2.1 16)), (1, m_rf w.2.1 v1), (2, .int v2)]) hg dX6_lossOfGreatestWeight_7 (by decide) rfl ?_
  refine r_lv [3, 4, 5, 2, 1, 0] rfl ?_
  exact vl_X6_lossOfGreatestWeight_9 hg hdp N v1 v2 u1 u2 0 σ
set_option maxHeartbeats 4000000 in
set_option maxRecDepth 100000 in
theorem e_X6_hangs (N : Nat) (l : Launch) (w : mW) (v1 : Int32) (σ : Mem) : Ev l w shC yX6_hangs cX6_hangs 3 (some .int) 1 36 [.ref (w.2.1 16), .int v1] σ (f_X6_hangs N v1 σ) := by
  refine Ev.of (by decide) (m_c1_r (m_c1_i m_c1_nil)) (Nat.le_of_ble_eq_true rfl) (fun p e s m args below meth c hg => ?_)
  have hdp := Nat.le_refl 36
  unfold f_X6_hangs
  show Vj (p, l, e, 36, s, m, args, below, meth, c) w shC 3 1 σ 0 [(0, .ref (w.2.1 16)), (1, .int v1)] [] _
  refine r_aload_n hg 0 dX6_hangs_0 rfl ?_
  refine r_iload_n hg 1 dX6_hangs_1 rfl ?_
  refine q_callv2 hg (e_X6_coverAt N l w v1 σ) kk_RX6_83 ki_X6_coverAt ks_RX6_X6_coverAt rfl rfl np_X6_coverAt (Nat.le_trans (by decide) hdp) rfl m_c1_nil (Nat.le_of_ble_eq_true rfl) dX6_hangs_2 (fun r1 σ2 => ?_)
  refine r_astoreq_n (lv' := [(2, m_rf w.2.1 r1), (0, .ref (w.2.1 16)), (1, .int v1)]) hg dX6_hangs_5 (by decide) rfl ?_
  refine r_aloadq_n hg 0 dX6_hangs_6 rfl ?_
  refine r_ifnonnull hg 14 dX6_hangs_7 (by decide) ?_ ?_
  · refine r_iconst hg (-1) dX6_hangs_10 (by decide) ?_
    refine r_goto hg 20 dX6_hangs_11 (by decide) ?_
    exact r_iret hg dX6_hangs_20 rfl rfl
  · refine r_aload_n hg 1 dX6_hangs_14 rfl ?_
    refine r_aloadq_n hg 0 dX6_hangs_15 rfl ?_
    refine r_iconst hg 0 dX6_hangs_16 (by decide) ?_
    refine q_callv1 hg (e_X6_lossOfGreatestWeight N l w r1 0 σ2) kk_RX6_197 ki_X6_lossOfGreatestWeight ks_RX6_X6_lossOfGreatestWeight rfl rfl np_X6_lossOfGreatestWeight (Nat.le_trans (by decide) hdp) rfl m_c1_nil (Nat.le_of_ble_eq_true rfl) dX6_hangs_17 (fun r3 σ4 => ?_)
    exact r_iret hg dX6_hangs_20 rfl rfl
set_option maxHeartbeats 4000000 in
set_option maxRecDepth 100000 in
theorem e_X6_told (N : Nat) (l : Launch) (w : mW) (v1 v2 v3 : Int32) (σ : Mem) : Ev l w shC yX6_told cX6_told 7 (some .int) 1 35 [.ref (w.2.1 16), .int v1, .int v2, .int v3] σ (f_X6_told N v1 v2 v3 σ) := by
  refine Ev.of (by decide) (m_c1_r (m_c1_i (m_c1_i (m_c1_i m_c1_nil)))) (Nat.le_of_ble_eq_true rfl) (fun p e s m args below meth c hg => ?_)
  have hdp := Nat.le_refl 35
  unfold f_X6_told
  show Vj (p, l, e, 35, s, m, args, below, meth, c) w shC 7 1 σ 0 [(0, .ref (w.2.1 16)), (1, .int v1), (2, .int v2), (3, .int v3)] [] _
  refine r_aload_n hg 0 dX6_told_0 rfl ?_
  refine r_iload_n hg 1 dX6_told_1 rfl ?_
  refine q_callv2 hg (e_X6_coverAt N l w v1 σ) kk_RX6_83 ki_X6_coverAt ks_RX6_X6_coverAt rfl rfl np_X6_coverAt (Nat.le_trans (by decide) hdp) rfl m_c1_nil (Nat.le_of_ble_eq_true rfl) dX6_told_2 (fun r1 σ2 => ?_)
  refine r_astoreq (lv' := [(4, m_rf w.2.1 r1), (0, .ref (w.2.1 16)), (1, .int v1), (2, .int v2), (3, .int v3)]) hg dX6_told_5 (by decide) rfl ?_
  refine r_aloadq hg 0 dX6_told_7 rfl ?_
  refine r_ifnull hg 32 dX6_told_9 (by decide) ?_ ?_
  · refine r_ldc hg kv_RX6_141 dX6_told_32 ?_
    exact r_iret hg dX6_told_34 rfl rfl
  · refine r_aload_n hg 1 dX6_told_12 rfl ?_
    refine q_getr (j := 3) hg rfl rfl rfl (by decide) iX6 kf_RX6_30 rfl dX6_told_13 ?_
    refine r_iload_n hg 3 dX6_told_16 rfl ?_
    refine q_callv1 hg (e_X1_has N l w v2 σ2) kk_RX6_132 ki_X1_has ks_RX1_X1_has rfl rfl np_X1_has (Nat.le_trans (by decide) hdp) rfl m_c1_nil (Nat.le_of_ble_eq_true rfl) dX6_told_17 (fun r3 σ4 => ?_)
    refine r_if_eq hg 32 dX6_told_20 (by decide) ?_ ?_
    · refine r_ldc hg kv_RX6_141 dX6_told_32 ?_
      exact r_iret hg dX6_told_34 rfl rfl
    · refine r_iload_n hg 4 dX6_told_23 rfl ?_
      refine r_iconst hg 0 dX6_told_24 (by decide) ?_
      refine r_iconst hg 5 dX6_told_25 (by decide) ?_
      refine q_calls1 hg (e_X6_isWithin N l w v3 0 5 σ4) kk_RX6_87 kt_X6_isWithin np_X6_isWithin (Nat.le_trans (by decide) hdp) rfl m_c1_nil (Nat.le_of_ble_eq_true rfl) dX6_told_26 (fun r5 σ6 => ?_)
      refine r_if_ne hg 35 dX6_told_29 (by decide) ?_ ?_
      · refine r_aload_n hg 1 dX6_told_35 rfl ?_
        refine q_getr (j := 3) hg rfl rfl rfl (by decide) iX6 kf_RX6_30 rfl dX6_told_36 ?_
        refine q_getr (j := 5) hg rfl rfl rfl (by decide) iX1 kf_RX6_115 rfl dX6_told_39 ?_
        refine r_iload_n hg 3 dX6_told_42 rfl ?_
        refine r_iaload (n := 12) hg rfl dX6_told_43 ?_
        refine q_name (fun u7 => ?_)
        refine r_istore (lv' := [(5, .int u7), (4, m_rf w.2.1 r1), (0, .ref (w.2.1 16)), (1, .int v1), (2, .int v2), (3, .int v3)]) hg dX6_told_44 (by decide) rfl ?_
        refine r_iload hg 0 dX6_told_46 rfl ?_
        refine r_iconst hg 1 dX6_told_48 (by decide) ?_
        refine r_iload_n hg 5 dX6_told_49 rfl ?_
        refine r_ishl hg dX6_told_50 ?_
        refine r_iand hg dX6_told_51 ?_
        refine r_if_ne hg 58 dX6_told_52 (by decide) ?_ ?_
        · refine r_aload_n hg 2 dX6_told_58 rfl ?_
          refine q_getr (j := 3) hg rfl rfl rfl (by decide) iX6 kf_RX6_30 rfl dX6_told_59 ?_
          refine q_getr (j := 5) hg rfl rfl rfl (by decide) iX1 kf_RX6_115 rfl dX6_told_62 ?_
          refine r_iload_n hg 4 dX6_told_65 rfl ?_
          refine r_iconst hg 1 dX6_told_66 (by decide) ?_
          refine r_iload_n hg 5 dX6_told_67 rfl ?_
          refine r_ishl hg dX6_told_68 ?_
          refine q_iastore (n := 12) hg rfl dX6_told_69 (fun σ8 => ?_)
          refine r_aload_n hg 2 dX6_told_70 rfl ?_
          refine r_aloadq hg 1 dX6_told_71 rfl ?_
          refine r_aload_n hg 2 dX6_told_73 rfl ?_
          refine q_getr (j := 3) hg rfl rfl rfl (by decide) iX6 kf_RX6_30 rfl dX6_told_74 ?_
          refine q_callv1 hg (e_X1_all N l w σ8) kk_RX6_189 ki_X1_all ks_RX1_X1_all rfl rfl np_X1_all (Nat.le_trans (by decide) hdp) rfl (m_c1_q (m_c1_r m_c1_nil)) (Nat.le_of_ble_eq_true rfl) dX6_told_77 (fun r9 σ10 => ?_)
          refine q_callv1 hg (e_X6_greatestFor N l w r1 r9 σ10) kk_RX6_193 ki_X6_greatestFor ks_RX6_X6_greatestFor rfl rfl np_X6_greatestFor (Nat.le_trans (by decide) hdp) rfl m_c1_nil (Nat.le_of_ble_eq_true rfl) dX6_told_80 (fun r11 σ12 => ?_)
          refine r_istore (lv' := [(6, .int r11), (5, .int u7), (4, m_rf w.2.1 r1), (0, .ref (w.2.1 16)), (1, .int v1), (2, .int v2), (3, .int v3)]) hg dX6_told_83 (by decide) rfl ?_
          refine r_aload_n hg 3 dX6_told_85 rfl ?_
          refine q_getr (j := 3) hg rfl rfl rfl (by decide) iX6 kf_RX6_30 rfl dX6_told_86 ?_
          refine q_getr (j := 5) hg rfl rfl rfl (by decide) iX1 kf_RX6_115 rfl dX6_told_89 ?_
          refine r_iload_n hg 5 dX6_told_92 rfl ?_
          refine r_iload hg 1 dX6_told_93 rfl ?_
          refine q_iastore (n := 12) hg rfl dX6_told_95 (fun σ13 => ?_)
          refine r_iload hg 0 dX6_told_96 rfl ?_
          exact r_iret hg dX6_told_98 rfl rfl
        · refine r_ldc hg kv_RX6_141 dX6_told_55 ?_
          exact r_iret hg dX6_told_57 rfl rfl
      · refine r_ldc hg kv_RX6_141 dX6_told_32 ?_
        exact r_iret hg dX6_told_34 rfl rfl
set_option maxHeartbeats 4000000 in
set_option maxRecDepth 100000 in
theorem vb_X6_greatestByOwnPartings_4 {N : Nat} (hg : m_ok (p, l, e, d, s, m, args, below, meth, c) w shC cX6_greatestByOwnPartings 6 RX6 (some .int)) (hdp : 35 ≤ d) {K4 : Int32 → Int32 → Int32 → Mem → Option (Int32 × Mem)} (hK4 : ∀ (x1 x2 x3 : Int32) (σ : Mem), Vj (p, l, e, d, s, m, args, below, meth, c) w shC 6 1 σ 4 [(0, .ref (w.2.1 16)), (1, .int x1), (2, .int x2), (3, .int x3)] [] (K4 x1 x2 x3 σ)) (x1 x2 x3 : Int32) (σ : Mem) : Vj (p, l, e, d, s, m, args, below, meth, c) w shC 6 1 σ 4 [(0, .ref (w.2.1 16)), (1, .int x1), (2, .int x2), (3, .int x3)] [] (b_X6_greatestByOwnPartings_4 N K4 x1 x2 x3 σ) := by
  unfold b_X6_greatestByOwnPartings_4
  refine r_iload_n hg 3 dX6_greatestByOwnPartings_4 rfl ?_
  refine r_aload_n hg 0 dX6_greatestByOwnPartings_5 rfl ?_
  refine q_geti (j := 8) hg rfl rfl rfl (by decide) iX6 kf_RX6_57 rfl dX6_greatestByOwnPartings_6 ?_
  refine r_icmp_ge hg 71 dX6_greatestByOwnPartings_9 (by decide) ?_ ?_
  · refine r_iload_n hg 2 dX6_greatestByOwnPartings_71 rfl ?_
    exact r_iret hg dX6_greatestByOwnPartings_72 rfl rfl
  · refine r_aload_n hg 0 dX6_greatestByOwnPartings_12 rfl ?_
    refine r_iload_n hg 3 dX6_greatestByOwnPartings_13 rfl ?_
    refine q_callv2 hg (e_X6_coverAt N l w x3 σ) kk_RX6_83 ki_X6_coverAt ks_RX6_X6_coverAt rfl rfl np_X6_coverAt (Nat.le_trans (by decide) hdp) rfl m_c1_nil (Nat.le_of_ble_eq_true rfl) dX6_greatestByOwnPartings_14 (fun r1 σ2 => ?_)
    refine r_astoreq (lv' := [(4, m_rf w.2.1 r1), (0, .ref (w.2.1 16)), (1, .int x1), (2, .int x2), (3, .int x3)]) hg dX6_greatestByOwnPartings_17 (by decide) rfl ?_
    refine r_aloadq hg 0 dX6_greatestByOwnPartings_19 rfl ?_
    refine r_ifnull hg 65 dX6_greatestByOwnPartings_21 (by decide) ?_ ?_
    · refine r_iinc (lv' := [(3, .int (x3 + 1)), (4, m_rf w.2.1 r1), (0, .ref (w.2.1 16)), (1, .int x1), (2, .int x2)]) hg 4 (x3 + 1) dX6_greatestByOwnPartings_65 rfl rfl (by decide) rfl ?_
      refine r_goto hg 4 dX6_greatestByOwnPartings_68 (by decide) ?_
      refine r_lv [2, 3, 4, 0] rfl ?_
      exact hK4 x1 x2 (x3 + 1) σ2
    · refine r_iload_n hg 2 dX6_greatestByOwnPartings_24 rfl ?_
      refine r_iconst hg 1 dX6_greatestByOwnPartings_25 (by decide) ?_
      refine r_iload_n hg 4 dX6_greatestByOwnPartings_26 rfl ?_
      refine r_ishl hg dX6_greatestByOwnPartings_27 ?_
      refine r_iand hg dX6_greatestByOwnPartings_28 ?_
      refine r_if_ne hg 35 dX6_greatestByOwnPartings_29 (by decide) ?_ ?_
      · refine r_aload_n hg 1 dX6_greatestByOwnPartings_35 rfl ?_
        refine r_aloadq hg 0 dX6_greatestByOwnPartings_36 rfl ?_
        refine r_aload_n hg 1 dX6_greatestByOwnPartings_38 rfl ?_
        refine q_getr (j := 3) hg rfl rfl rfl (by decide) iX6 kf_RX6_30 rfl dX6_greatestByOwnPartings_39 ?_
        refine q_callv1 hg (e_X1_all N l w σ2) kk_RX6_189 ki_X1_all ks_RX1_X1_all rfl rfl np_X1_all (Nat.le_trans (by decide) hdp) rfl (m_c1_q (m_c1_r m_c1_nil)) (Nat.le_of_ble_eq_true rfl) dX6_greatestByOwnPartings_42 (fun r3 σ4 => ?_)
        refine q_callv1 hg (e_X6_greatestFor N l w r1 r3 σ4) kk_RX6_193 ki_X6_greatestFor ks_RX6_X6_greatestFor rfl rfl np_X6_greatestFor (Nat.le_trans (by decide) hdp) rfl m_c1_nil (Nat.le_of_ble_eq_true rfl) dX6_greatestByOwnPartings_45 (fun r5 σ6 => ?_)
        refine r_istore (lv' := [(5, .int r5), (4, m_rf w.2.1 r1), (0, .ref (w.2.1 16)), (1, .int x1), (2, .int x2), (3, .int x3)]) hg dX6_greatestByOwnPartings_48 (by decide) rfl ?_
        refine r_iload hg 0 dX6_greatestByOwnPartings_50 rfl ?_
        refine r_ldc hg kv_RX6_141 dX6_greatestByOwnPartings_52 ?_
        refine r_icmp_ne hg 60 dX6_greatestByOwnPartings_54 (by decide) ?_ ?_
        · refine r_iload_n hg 4 dX6_greatestByOwnPartings_60 rfl ?_
          refine r_iload hg 0 dX6_greatestByOwnPartings_61 rfl ?_
          refine r_iadd hg dX6_greatestByOwnPartings_63 ?_
          refine q_name (fun u7 => ?_)
          refine r_istore_n (lv' := [(2, .int u7), (5, .int r5), (4, m_rf w.2.1 r1), (0, .ref (w.2.1 16)), (1, .int x1), (3, .int x3)]) hg dX6_greatestByOwnPartings_64 (by decide) rfl ?_
          refine r_iinc (lv' := [(3, .int (x3 + 1)), (2, .int u7), (5, .int r5), (4, m_rf w.2.1 r1), (0, .ref (w.2.1 16)), (1, .int x1)]) hg 5 (x3 + 1) dX6_greatestByOwnPartings_65 rfl rfl (by decide) rfl ?_
          refine r_goto hg 4 dX6_greatestByOwnPartings_68 (by decide) ?_
          refine r_lv [4, 5, 1, 0] rfl ?_
          exact hK4 x1 u7 (x3 + 1) σ6
        · refine r_ldc hg kv_RX6_141 dX6_greatestByOwnPartings_57 ?_
          exact r_iret hg dX6_greatestByOwnPartings_59 rfl rfl
      · refine r_goto hg 65 dX6_greatestByOwnPartings_32 (by decide) ?_
        refine r_iinc (lv' := [(3, .int (x3 + 1)), (4, m_rf w.2.1 r1), (0, .ref (w.2.1 16)), (1, .int x1), (2, .int x2)]) hg 4 (x3 + 1) dX6_greatestByOwnPartings_65 rfl rfl (by decide) rfl ?_
        refine r_goto hg 4 dX6_greatestByOwnPartings_68 (by decide) ?_
        refine r_lv [2, 3, 4, 0] rfl ?_
        exact hK4 x1 x2 (x3 + 1) σ2
set_option maxHeartbeats 4000000 in
set_option maxRecDepth 100000 in
theorem vl_X6_greatestByOwnPartings_4 {N : Nat} (hg : m_ok (p, l, e, d, s, m, args, below, meth, c) w shC cX6_greatestByOwnPartings 6 RX6 (some .int)) (hdp : 35 ≤ d) : ∀ (n : Nat) (x1 x2 x3 : Int32) (σ : Mem), Vj (p, l, e, d, s, m, args, below, meth, c) w shC 6 1 σ 4 [(0, .ref (w.2.1 16)), (1, .int x1), (2, .int x2), (3, .int x3)] [] (l_X6_greatestByOwnPartings_4 N n x1 x2 x3 σ)
| 0, _, _, _, _ => Vj.none
| n + 1, x1, x2, x3, σ => vb_X6_greatestByOwnPartings_4 hg hdp (fun x1 x2 x3 σ => vl_X6_greatestByOwnPartings_4 hg hdp n x1 x2 x3 σ) x1 x2 x3 σ
set_option maxHeartbeats 4000000 in
set_option maxRecDepth 100000 in
theorem e_X6_greatestByOwnPartings (N : Nat) (l : Launch) (w : mW) (v1 : Int32) (σ : Mem) : Ev l w shC yX6_greatestByOwnPartings cX6_greatestByOwnPartings 6 (some .int) 1 35 [.ref (w.2.1 16), .int v1] σ (f_X6_greatestByOwnPartings N v1 σ) := by
  refine Ev.of (by decide) (m_c1_r (m_c1_i m_c1_nil)) (Nat.le_of_ble_eq_true rfl) (fun p e s m args below meth c hg => ?_)
  have hdp := Nat.le_refl 35
  unfold f_X6_greatestByOwnPartings
  show Vj (p, l, e, 35, s, m, args, below, meth, c) w shC 6 1 σ 0 [(0, .ref (w.2.1 16)), (1, .int v1)] [] _
  refine r_iconst hg 0 dX6_greatestByOwnPartings_0 (by decide) ?_
  refine r_istore_n (lv' := [(2, .int 0), (0, .ref (w.2.1 16)), (1, .int v1)]) hg dX6_greatestByOwnPartings_1 (by decide) rfl ?_
  refine r_iconst hg 0 dX6_greatestByOwnPartings_2 (by decide) ?_
  refine r_istore_n (lv' := [(3, .int 0), (2, .int 0), (0, .ref (w.2.1 16)), (1, .int v1)]) hg dX6_greatestByOwnPartings_3 (by decide) rfl ?_
  refine r_lv [2, 3, 1, 0] rfl ?_
  exact vl_X6_greatestByOwnPartings_4 hg hdp N v1 0 0 σ
set_option maxHeartbeats 4000000 in
set_option maxRecDepth 100000 in
theorem vb_X6_greatestByOneParting_9 {N : Nat} (hg : m_ok (p, l, e, d, s, m, args, below, meth, c) w shC cX6_greatestByOneParting 4 RX6 (some .int)) (hdp : 33 ≤ d) {K9 : Int32 → Int32 → Mem → Option (Int32 × Mem)} (hK9 : ∀ (x1 x2 : Int32) (σ : Mem), Vj (p, l, e, d, s, m, args, below, meth, c) w shC 4 1 σ 9 [(0, .ref (w.2.1 16)), (1, .int x1), (2, .int x2)] [] (K9 x1 x2 σ)) (x1 x2 : Int32) (σ : Mem) : Vj (p, l, e, d, s, m, args, below, meth, c) w shC 4 1 σ 9 [(0, .ref (w.2.1 16)), (1, .int x1), (2, .int x2)] [] (b_X6_greatestByOneParting_9 N K9 x1 x2 σ) := by
  unfold b_X6_greatestByOneParting_9
  refine r_iload_n hg 2 dX6_greatestByOneParting_9 rfl ?_
  refine r_aload_n hg 0 dX6_greatestByOneParting_10 rfl ?_
  refine q_geti (j := 8) hg rfl rfl rfl (by decide) iX6 kf_RX6_57 rfl dX6_greatestByOneParting_11 ?_
  refine r_icmp_ge hg 49 dX6_greatestByOneParting_14 (by decide) ?_ ?_
  · refine r_aload_n hg 0 dX6_greatestByOneParting_49 rfl ?_
    refine q_getr (j := 5) hg rfl rfl rfl (by decide) iX6 kf_RX6_46 rfl dX6_greatestByOneParting_50 ?_
    refine r_aload_n hg 0 dX6_greatestByOneParting_53 rfl ?_
    refine q_getr (j := 3) hg rfl rfl rfl (by decide) iX6 kf_RX6_30 rfl dX6_greatestByOneParting_54 ?_
    refine q_callv1 hg (e_X1_all N l w σ) kk_RX6_189 ki_X1_all ks_RX1_X1_all rfl rfl np_X1_all (Nat.le_trans (by decide) hdp) rfl (m_c1_r m_c1_nil) (Nat.le_of_ble_eq_true rfl) dX6_greatestByOneParting_57 (fun r1 σ2 => ?_)
    refine q_callv1 hg (e_X3_findForJoined N l w r1 σ2) kk_RX6_224 ki_X3_findForJoined ks_RX3_X3_findForJoined rfl rfl np_X3_findForJoined (Nat.le_trans (by decide) hdp) rfl m_c1_nil (Nat.le_of_ble_eq_true rfl) dX6_greatestByOneParting_60 (fun r3 σ4 => ?_)
    refine r_if_eq hg 76 dX6_greatestByOneParting_63 (by decide) ?_ ?_
    · refine r_ldc hg kv_RX6_141 dX6_greatestByOneParting_76 ?_
      exact r_iret hg dX6_greatestByOneParting_78 rfl rfl
    · refine r_aload_n hg 0 dX6_greatestByOneParting_66 rfl ?_
      refine q_getr (j := 5) hg rfl rfl rfl (by decide) iX6 kf_RX6_46 rfl dX6_greatestByOneParting_67 ?_
      refine q_geti (j := 0) hg rfl rfl rfl (by decide) iX3 kf_RX6_173 rfl dX6_greatestByOneParting_70 ?_
      refine r_goto hg 78 dX6_greatestByOneParting_73 (by decide) ?_
      exact r_iret hg dX6_greatestByOneParting_78 rfl rfl
  · refine r_aload_n hg 0 dX6_greatestByOneParting_17 rfl ?_
    refine r_iload_n hg 2 dX6_greatestByOneParting_18 rfl ?_
    refine q_callv2 hg (e_X6_coverAt N l w x2 σ) kk_RX6_83 ki_X6_coverAt ks_RX6_X6_coverAt rfl rfl np_X6_coverAt (Nat.le_trans (by decide) hdp) rfl m_c1_nil (Nat.le_of_ble_eq_true rfl) dX6_greatestByOneParting_19 (fun r5 σ6 => ?_)
    refine r_astoreq_n (lv' := [(3, m_rf w.2.1 r5), (0, .ref (w.2.1 16)), (1, .int x1), (2, .int x2)]) hg dX6_greatestByOneParting_22 (by decide) rfl ?_
    refine r_aloadq_n hg 0 dX6_greatestByOneParting_23 rfl ?_
    refine r_ifnull hg 43 dX6_greatestByOneParting_24 (by decide) ?_ ?_
    · refine r_iinc (lv' := [(2, .int (x2 + 1)), (3, m_rf w.2.1 r5), (0, .ref (w.2.1 16)), (1, .int x1)]) hg 3 (x2 + 1) dX6_greatestByOneParting_43 rfl rfl (by decide) rfl ?_
      refine r_goto hg 9 dX6_greatestByOneParting_46 (by decide) ?_
      refine r_lv [2, 3, 0] rfl ?_
      exact hK9 x1 (x2 + 1) σ6
    · refine r_iload_n hg 2 dX6_greatestByOneParting_27 rfl ?_
      refine r_iconst hg 1 dX6_greatestByOneParting_28 (by decide) ?_
      refine r_iload_n hg 3 dX6_greatestByOneParting_29 rfl ?_
      refine r_ishl hg dX6_greatestByOneParting_30 ?_
      refine r_iand hg dX6_greatestByOneParting_31 ?_
      refine r_if_eq hg 43 dX6_greatestByOneParting_32 (by decide) ?_ ?_
      · refine r_iinc (lv' := [(2, .int (x2 + 1)), (3, m_rf w.2.1 r5), (0, .ref (w.2.1 16)), (1, .int x1)]) hg 3 (x2 + 1) dX6_greatestByOneParting_43 rfl rfl (by decide) rfl ?_
        refine r_goto hg 9 dX6_greatestByOneParting_46 (by decide) ?_
        refine r_lv [2, 3, 0] rfl ?_
        exact hK9 x1 (x2 + 1) σ6
      · refine r_aload_n hg 1 dX6_greatestByOneParting_35 rfl ?_
        refine q_getr (j := 5) hg rfl rfl rfl (by decide) iX6 kf_RX6_46 rfl dX6_greatestByOneParting_36 ?_
        refine r_aloadq_n hg 0 dX6_greatestByOneParting_39 rfl ?_
        refine q_callv0 hg (e_X3_join N l w r5 σ6) kk_RX6_221 ki_X3_join ks_RX3_X3_join rfl rfl np_X3_join (Nat.le_trans (by decide) hdp) rfl m_c1_nil (Nat.le_of_ble_eq_true rfl) dX6_greatestByOneParting_40 (fun r7 σ8 => ?_)
        refine r_iinc (lv' := [(2, .int (x2 + 1)), (3, m_rf w.2.1 r5), (0, .ref (w.2.1 16)), (1, .int x1)]) hg 3 (x2 + 1) dX6_greatestByOneParting_43 rfl rfl (by decide) rfl ?_
        refine r_goto hg 9 dX6_greatestByOneParting_46 (by decide) ?_
        refine r_lv [2, 3, 0] rfl ?_
        exact hK9 x1 (x2 + 1) σ8
set_option maxHeartbeats 4000000 in
set_option maxRecDepth 100000 in
theorem vl_X6_greatestByOneParting_9 {N : Nat} (hg : m_ok (p, l, e, d, s, m, args, below, meth, c) w shC cX6_greatestByOneParting 4 RX6 (some .int)) (hdp : 33 ≤ d) : ∀ (n : Nat) (x1 x2 : Int32) (σ : Mem), Vj (p, l, e, d, s, m, args, below, meth, c) w shC 4 1 σ 9 [(0, .ref (w.2.1 16)), (1, .int x1), (2, .int x2)] [] (l_X6_greatestByOneParting_9 N n x1 x2 σ)
| 0, _, _, _ => Vj.none
| n + 1, x1, x2, σ => vb_X6_greatestByOneParting_9 hg hdp (fun x1 x2 σ => vl_X6_greatestByOneParting_9 hg hdp n x1 x2 σ) x1 x2 σ
set_option maxHeartbeats 4000000 in
set_option maxRecDepth 100000 in
theorem e_X6_greatestByOneParting (N : Nat) (l : Launch) (w : mW) (v1 : Int32) (σ : Mem) : Ev l w shC yX6_greatestByOneParting cX6_greatestByOneParting 4 (some .int) 1 33 [.ref (w.2.1 16), .int v1] σ (f_X6_greatestByOneParting N v1 σ) := by
  refine Ev.of (by decide) (m_c1_r (m_c1_i m_c1_nil)) (Nat.le_of_ble_eq_true rfl) (fun p e s m args below meth c hg => ?_)
  have hdp := Nat.le_refl 33
  unfold f_X6_greatestByOneParting
  show Vj (p, l, e, 33, s, m, args, below, meth, c) w shC 4 1 σ 0 [(0, .ref (w.2.1 16)), (1, .int v1)] [] _
  refine r_aload_n hg 0 dX6_greatestByOneParting_0 rfl ?_
  refine q_getr (j := 5) hg rfl rfl rfl (by decide) iX6 kf_RX6_46 rfl dX6_greatestByOneParting_1 ?_
  refine q_callv0 hg (e_X3_startJoining N l w σ) kk_RX6_218 ki_X3_startJoining ks_RX3_X3_startJoining rfl rfl np_X3_startJoining (Nat.le_trans (by decide) hdp) rfl m_c1_nil (Nat.le_of_ble_eq_true rfl) dX6_greatestByOneParting_4 (fun r1 σ2 => ?_)
  refine r_iconst hg 0 dX6_greatestByOneParting_7 (by decide) ?_
  refine r_istore_n (lv' := [(2, .int 0), (0, .ref (w.2.1 16)), (1, .int v1)]) hg dX6_greatestByOneParting_8 (by decide) rfl ?_
  refine r_lv [1, 2, 0] rfl ?_
  exact vl_X6_greatestByOneParting_9 hg hdp N v1 0 σ2
set_option maxHeartbeats 4000000 in
set_option maxRecDepth 100000 in
theorem e_X6_layers (N : Nat) (l : Launch) (w : mW) (v1 v2 : Int32) (σ : Mem) : Ev l w shC yX6_layers cX6_layers 4 (some .int) 1 36 [.ref (w.2.1 16), .int v1, .int v2] σ (f_X6_layers N v1 v2 σ) := by
  refine Ev.of (by decide) (m_c1_r (m_c1_i (m_c1_i m_c1_nil))) (Nat.le_of_ble_eq_true rfl) (fun p e s m args below meth c hg => ?_)
  have hdp := Nat.le_refl 36
  unfold f_X6_layers
  show Vj (p, l, e, 36, s, m, args, below, meth, c) w shC 4 1 σ 0 [(0, .ref (w.2.1 16)), (1, .int v1), (2, .int v2)] [] _
  refine r_iconst hg 1 dX6_layers_0 (by decide) ?_
  refine r_aload_n hg 0 dX6_layers_1 rfl ?_
  refine q_geti (j := 8) hg rfl rfl rfl (by decide) iX6 kf_RX6_57 rfl dX6_layers_2 ?_
  refine r_ishl hg dX6_layers_5 ?_
  refine r_iconst hg 1 dX6_layers_6 (by decide) ?_
  refine r_isub hg dX6_layers_7 ?_
  refine q_name (fun u1 => ?_)
  refine r_istore_n (lv' := [(3, .int u1), (0, .ref (w.2.1 16)), (1, .int v1), (2, .int v2)]) hg dX6_layers_8 (by decide) rfl ?_
  refine r_iload_n hg 2 dX6_layers_9 rfl ?_
  refine r_if_eq hg 21 dX6_layers_10 (by decide) ?_ ?_
  · refine r_ldc hg kv_RX6_141 dX6_layers_21 ?_
    exact r_iret hg dX6_layers_23 rfl rfl
  · refine r_iload_n hg 2 dX6_layers_13 rfl ?_
    refine r_iload_n hg 0 dX6_layers_14 rfl ?_
    refine r_iconst hg (-1) dX6_layers_15 (by decide) ?_
    refine r_ixor hg dX6_layers_16 ?_
    refine r_iand hg dX6_layers_17 ?_
    refine r_if_eq hg 24 dX6_layers_18 (by decide) ?_ ?_
    · refine r_iload_n hg 3 dX6_layers_24 rfl ?_
      refine r_if_eq hg 36 dX6_layers_25 (by decide) ?_ ?_
      · refine r_aload_n hg 1 dX6_layers_36 rfl ?_
        refine r_iload_n hg 2 dX6_layers_37 rfl ?_
        refine q_callv1 hg (e_X6_greatestByOwnPartings N l w v1 σ) kk_RX6_204 ki_X6_greatestByOwnPartings ks_RX6_X6_greatestByOwnPartings rfl rfl np_X6_greatestByOwnPartings (Nat.le_trans (by decide) hdp) rfl m_c1_nil (Nat.le_of_ble_eq_true rfl) dX6_layers_38 (fun r2 σ3 => ?_)
        exact r_iret hg dX6_layers_41 rfl rfl
      · refine r_aload_n hg 1 dX6_layers_28 rfl ?_
        refine r_iload_n hg 2 dX6_layers_29 rfl ?_
        refine q_callv1 hg (e_X6_greatestByOneParting N l w v1 σ) kk_RX6_201 ki_X6_greatestByOneParting ks_RX6_X6_greatestByOneParting rfl rfl np_X6_greatestByOneParting (Nat.le_trans (by decide) hdp) rfl m_c1_nil (Nat.le_of_ble_eq_true rfl) dX6_layers_30 (fun r4 σ5 => ?_)
        refine r_goto hg 41 dX6_layers_33 (by decide) ?_
        exact r_iret hg dX6_layers_41 rfl rfl
    · refine r_ldc hg kv_RX6_141 dX6_layers_21 ?_
      exact r_iret hg dX6_layers_23 rfl rfl
set_option maxHeartbeats 4000000 in
set_option maxRecDepth 100000 in
theorem vb_X1_someAreApartBy_12 {N : Nat} (hg : m_ok (p, l, e, d, s, m, args, below, meth, c) w shC cX1_someAreApartBy 4 RX1 (some .boolean)) (hdp : 0 ≤ d) {K2 : Int32 → Int32 → Mem → Option (Int32 × Mem)} (hK2 : ∀ (x1 x2 : Int32) (σ : Mem), Vj (p, l, e, d, s, m, args, below, meth, c) w shC 4 1 σ 2 [(0, .ref (w.2.1 18)), (1, .int x1), (2, .int x2)] [] (K2 x1 x2 σ)) {K12 : Int32 → Int32 → Int32 → Mem → Option (Int32 × Mem)} (hK12 : ∀ (x1 x2 x3 : Int32) (σ : Mem), Vj (p, l, e, d, s, m, args, below, meth, c) w shC 4 1 σ 12 [(0, .ref (w.2.1 18)), (1, .int x1), (2, .int x2), (3, .int x3)] [] (K12 x1 x2 x3 σ)) (x1 x2 x3 : Int32) (σ : Mem) : Vj (p, l, e, d, s, m, args, below, meth, c) w shC 4 1 σ 12 [(0, .ref (w.2.1 18)), (1, .int x1), (2, .int x2), (3, .int x3)] [] (b_X1_someAreApartBy_12 N K2 K12 x1 x2 x3 σ) := by
  unfold b_X1_someAreApartBy_12
  refine r_iload_n hg 3 dX1_someAreApartBy_12 rfl ?_
  refine r_aload_n hg 0 dX1_someAreApartBy_13 rfl ?_
  refine q_geti (j := 6) hg rfl rfl rfl (by decide) iX1 kf_RX1_30 rfl dX1_someAreApartBy_14 ?_
  refine r_icmp_ge hg 45 dX1_someAreApartBy_17 (by decide) ?_ ?_
  · refine r_iinc (lv' := [(2, .int (x2 + 1)), (0, .ref (w.2.1 18)), (1, .int x1), (3, .int x3)]) hg 2 (x2 + 1) dX1_someAreApartBy_45 rfl rfl (by decide) rfl ?_
    refine r_goto hg 2 dX1_someAreApartBy_48 (by decide) ?_
    refine r_lv [1, 2, 0] rfl ?_
    exact hK2 x1 (x2 + 1) σ
  · refine r_aload_n hg 0 dX1_someAreApartBy_20 rfl ?_
    refine q_getr (j := 1) hg rfl rfl rfl (by decide) iX1 kf_RX1_15 rfl dX1_someAreApartBy_21 ?_
    refine r_iload_n hg 3 dX1_someAreApartBy_24 rfl ?_
    refine r_iaload (n := 12) hg rfl dX1_someAreApartBy_25 ?_
    refine r_aload_n hg 0 dX1_someAreApartBy_26 rfl ?_
    refine q_getr (j := 1) hg rfl rfl rfl (by decide) iX1 kf_RX1_15 rfl dX1_someAreApartBy_27 ?_
    refine r_iload_n hg 2 dX1_someAreApartBy_30 rfl ?_
    refine r_iaload (n := 12) hg rfl dX1_someAreApartBy_31 ?_
    refine r_isub hg dX1_someAreApartBy_32 ?_
    refine r_iload_n hg 1 dX1_someAreApartBy_33 rfl ?_
    refine r_icmp_ne hg 39 dX1_someAreApartBy_34 (by decide) ?_ ?_
    · refine r_iinc (lv' := [(3, .int (x3 + 1)), (0, .ref (w.2.1 18)), (1, .int x1), (2, .int x2)]) hg 3 (x3 + 1) dX1_someAreApartBy_39 rfl rfl (by decide) rfl ?_
      refine r_goto hg 12 dX1_someAreApartBy_42 (by decide) ?_
      refine r_lv [1, 2, 3, 0] rfl ?_
      exact hK12 x1 x2 (x3 + 1) σ
    · refine r_iconst hg 1 dX1_someAreApartBy_37 (by decide) ?_
      exact r_zret hg dX1_someAreApartBy_38 rfl rfl
set_option maxHeartbeats 4000000 in
set_option maxRecDepth 100000 in
theorem vl_X1_someAreApartBy_12 {N : Nat} (hg : m_ok (p, l, e, d, s, m, args, below, meth, c) w shC cX1_someAreApartBy 4 RX1 (some .boolean)) (hdp : 0 ≤ d) {K2 : Int32 → Int32 → Mem → Option (Int32 × Mem)} (hK2 : ∀ (x1 x2 : Int32) (σ : Mem), Vj (p, l, e, d, s, m, args, below, meth, c) w shC 4 1 σ 2 [(0, .ref (w.2.1 18)), (1, .int x1), (2, .int x2)] [] (K2 x1 x2 σ)) : ∀ (n : Nat) (x1 x2 x3 : Int32) (σ : Mem), Vj (p, l, e, d, s, m, args, below, meth, c) w shC 4 1 σ 12 [(0, .ref (w.2.1 18)), (1, .int x1), (2, .int x2), (3, .int x3)] [] (l_X1_someAreApartBy_12 N K2 n x1 x2 x3 σ)
| 0, _, _, _, _ => Vj.none
| n + 1, x1, x2, x3, σ => vb_X1_someAreApartBy_12 hg hdp hK2 (fun x1 x2 x3 σ => vl_X1_someAreApartBy_12 hg hdp hK2 n x1 x2 x3 σ) x1 x2 x3 σ
set_option maxHeartbeats 4000000 in
set_option maxRecDepth 100000 in
theorem vb_X1_someAreApartBy_2 {N : Nat} (hg : m_ok (p, l, e, d, s, m, args, below, meth, c) w shC cX1_someAreApartBy 4 RX1 (some .boolean)) (hdp : 0 ≤ d) {K2 : Int32 → Int32 → Mem → Option (Int32 × Mem)} (hK2 : ∀ (x1 x2 : Int32) (σ : Mem), Vj (p, l, e, d, s, m, args, below, meth, c) w shC 4 1 σ 2 [(0, .ref (w.2.1 18)), (1, .int x1), (2, .int x2)] [] (K2 x1 x2 σ)) (x1 x2 : Int32) (σ : Mem) : Vj (p, l, e, d, s, m, args, below, meth, c) w shC 4 1 σ 2 [(0, .ref (w.2.1 18)), (1, .int x1), (2, .int x2)] [] (b_X1_someAreApartBy_2 N K2 x1 x2 σ) := by
  unfold b_X1_someAreApartBy_2
  refine r_iload_n hg 2 dX1_someAreApartBy_2 rfl ?_
  refine r_aload_n hg 0 dX1_someAreApartBy_3 rfl ?_
  refine q_geti (j := 6) hg rfl rfl rfl (by decide) iX1 kf_RX1_30 rfl dX1_someAreApartBy_4 ?_
  refine r_icmp_ge hg 51 dX1_someAreApartBy_7 (by decide) ?_ ?_
  · refine r_iconst hg 0 dX1_someAreApartBy_51 (by decide) ?_
    exact r_zret hg dX1_someAreApartBy_52 rfl rfl
  · refine r_iconst hg 0 dX1_someAreApartBy_10 (by decide) ?_
    refine r_istore_n (lv' := [(3, .int 0), (0, .ref (w.2.1 18)), (1, .int x1), (2, .int x2)]) hg dX1_someAreApartBy_11 (by decide) rfl ?_
    refine r_lv [1, 2, 3, 0] rfl ?_
    exact vl_X1_someAreApartBy_12 hg hdp hK2 N x1 x2 0 σ
set_option maxHeartbeats 4000000 in
set_option maxRecDepth 100000 in
theorem vl_X1_someAreApartBy_2 {N : Nat} (hg : m_ok (p, l, e, d, s, m, args, below, meth, c) w shC cX1_someAreApartBy 4 RX1 (some .boolean)) (hdp : 0 ≤ d) : ∀ (n : Nat) (x1 x2 : Int32) (σ : Mem), Vj (p, l, e, d, s, m, args, below, meth, c) w shC 4 1 σ 2 [(0, .ref (w.2.1 18)), (1, .int x1), (2, .int x2)] [] (l_X1_someAreApartBy_2 N n x1 x2 σ)
| 0, _, _, _ => Vj.none
| n + 1, x1, x2, σ => vb_X1_someAreApartBy_2 hg hdp (fun x1 x2 σ => vl_X1_someAreApartBy_2 hg hdp n x1 x2 σ) x1 x2 σ
set_option maxHeartbeats 4000000 in
set_option maxRecDepth 100000 in
theorem e_X1_someAreApartBy (N : Nat) (l : Launch) (w : mW) (v1 : Int32) (σ : Mem) : Ev l w shC yX1_someAreApartBy cX1_someAreApartBy 4 (some .boolean) 1 0 [.ref (w.2.1 18), .int v1] σ (f_X1_someAreApartBy N v1 σ) := by
  refine Ev.of (by decide) (m_c1_r (m_c1_i m_c1_nil)) (Nat.le_of_ble_eq_true rfl) (fun p e s m args below meth c hg => ?_)
  have hdp := Nat.le_refl 0
  unfold f_X1_someAreApartBy
  show Vj (p, l, e, 0, s, m, args, below, meth, c) w shC 4 1 σ 0 [(0, .ref (w.2.1 18)), (1, .int v1)] [] _
  refine r_iconst hg 0 dX1_someAreApartBy_0 (by decide) ?_
  refine r_istore_n (lv' := [(2, .int 0), (0, .ref (w.2.1 18)), (1, .int v1)]) hg dX1_someAreApartBy_1 (by decide) rfl ?_
  refine r_lv [1, 2, 0] rfl ?_
  exact vl_X1_someAreApartBy_2 hg hdp N v1 0 σ
set_option maxHeartbeats 4000000 in
set_option maxRecDepth 100000 in
theorem vj_X6_nearest_71 {N : Nat} (hg : m_ok (p, l, e, d, s, m, args, below, meth, c) w shC cX6_nearest 8 RX6 (some .int)) (hdp : 34 ≤ d) {K41 : Int32 → Int32 → Int32 → Int32 → Mem → Option (Int32 × Mem)} (hK41 : ∀ (x2 x4 x5 x6 : Int32) (σ : Mem), Vj (p, l, e, d, s, m, args, below, meth, c) w shC 8 1 σ 41 [(0, .ref (w.2.1 16)), (2, .int x2), (4, .int x4), (5, .int x5), (6, .int x6)] [] (K41 x2 x4 x5 x6 σ)) (x2 x4 x5 x6 : Int32) (σ : Mem) : Vj (p, l, e, d, s, m, args, below, meth, c) w shC 8 1 σ 71 [(0, .ref (w.2.1 16)), (2, .int x2), (4, .int x4), (5, .int x5), (6, .int x6)] [] (j_X6_nearest_71 N K41 x2 x4 x5 x6 σ) := by
  unfold j_X6_nearest_71
  refine r_aload_n hg 0 dX6_nearest_71 rfl ?_
  refine q_getd (j := 2) hg rfl rfl rfl (by decide) iX6 kf_RX6_23 rfl dX6_nearest_72 ?_
  refine q_getq (b := 8) hg shC_q rfl (by decide) iX0 kf_RX6_94 rfl dX6_nearest_75 (fun h1 => ?_)
  refine r_iconst hg 0 dX6_nearest_78 (by decide) ?_
  refine r_iload hg 4 dX6_nearest_79 rfl ?_
  refine q_iastore (n := 10) hg (shC_w h1) dX6_nearest_81 (fun σ2 => ?_)
  refine r_aload_n hg 0 dX6_nearest_82 rfl ?_
  refine q_getr (j := 5) hg rfl rfl rfl (by decide) iX6 kf_RX6_46 rfl dX6_nearest_83 ?_
  refine r_aload_n hg 0 dX6_nearest_86 rfl ?_
  refine q_getd (j := 2) hg rfl rfl rfl (by decide) iX6 kf_RX6_23 rfl dX6_nearest_87 ?_
  refine r_aload_n hg 0 dX6_nearest_90 rfl ?_
  refine q_getr (j := 3) hg rfl rfl rfl (by decide) iX6 kf_RX6_30 rfl dX6_nearest_91 ?_
  refine q_callv1 hg (e_X1_all N l w σ2) kk_RX6_189 ki_X1_all ks_RX1_X1_all rfl rfl np_X1_all (Nat.le_trans (by decide) hdp) rfl (m_c1_q (m_c1_r m_c1_nil)) (Nat.le_of_ble_eq_true rfl) dX6_nearest_94 (fun r3 σ4 => ?_)
  refine q_callv1 hg (e_X3_findFor N l w (σ2 16 2) r3 σ4) kk_RX6_170 ki_X3_findFor ks_RX3_X3_findFor rfl rfl np_X3_findFor (Nat.le_trans (by decide) hdp) rfl m_c1_nil (Nat.le_of_ble_eq_true rfl) dX6_nearest_97 (fun r5 σ6 => ?_)
  refine r_if_ne hg 106 dX6_nearest_100 (by decide) ?_ ?_
  · refine r_aload_n hg 0 dX6_nearest_106 rfl ?_
    refine q_getr (j := 5) hg rfl rfl rfl (by decide) iX6 kf_RX6_46 rfl dX6_nearest_107 ?_
    refine q_geti (j := 0) hg rfl rfl rfl (by decide) iX3 kf_RX6_173 rfl dX6_nearest_110 ?_
    refine r_aload_n hg 0 dX6_nearest_113 rfl ?_
    refine q_getr (j := 5) hg rfl rfl rfl (by decide) iX6 kf_RX6_46 rfl dX6_nearest_114 ?_
    refine q_geti (j := 1) hg rfl rfl rfl (by decide) iX3 kf_RX6_176 rfl dX6_nearest_117 ?_
    refine r_isub hg dX6_nearest_120 ?_
    refine q_name (fun u7 => ?_)
    refine r_istore (lv' := [(7, .int u7), (0, .ref (w.2.1 16)), (2, .int x2), (4, .int x4), (5, .int x5), (6, .int x6)]) hg dX6_nearest_121 (by decide) rfl ?_
    refine r_iload hg 3 dX6_nearest_123 rfl ?_
    refine r_ldc hg kv_RX6_141 dX6_nearest_125 ?_
    refine r_icmp_eq hg 137 dX6_nearest_127 (by decide) ?_ ?_
    · refine r_iload hg 5 dX6_nearest_137 rfl ?_
      refine r_istore (lv' := [(4, .int x6), (7, .int u7), (0, .ref (w.2.1 16)), (2, .int x2), (5, .int x5), (6, .int x6)]) hg dX6_nearest_139 (by decide) rfl ?_
      refine r_iload hg 1 dX6_nearest_141 rfl ?_
      refine r_istore (lv' := [(5, .int u7), (4, .int x6), (7, .int u7), (0, .ref (w.2.1 16)), (2, .int x2), (6, .int x6)]) hg dX6_nearest_143 (by decide) rfl ?_
      refine r_iinc (lv' := [(6, .int (x6 + 1)), (5, .int u7), (4, .int x6), (7, .int u7), (0, .ref (w.2.1 16)), (2, .int x2)]) hg 5 (x6 + 1) dX6_nearest_145 rfl rfl (by decide) rfl ?_
      refine r_goto hg 41 dX6_nearest_148 (by decide) ?_
      refine r_lv [4, 5, 2, 1, 0] rfl ?_
      exact hK41 x2 x6 u7 (x6 + 1) σ6
    · refine r_iload hg 0 dX6_nearest_130 rfl ?_
      refine r_iload hg 4 dX6_nearest_132 rfl ?_
      refine r_icmp_ge hg 145 dX6_nearest_134 (by decide) ?_ ?_
      · refine r_iinc (lv' := [(6, .int (x6 + 1)), (7, .int u7), (0, .ref (w.2.1 16)), (2, .int x2), (4, .int x4), (5, .int x5)]) hg 5 (x6 + 1) dX6_nearest_145 rfl rfl (by decide) rfl ?_
        refine r_goto hg 41 dX6_nearest_148 (by decide) ?_
        refine r_lv [2, 3, 4, 5, 0] rfl ?_
        exact hK41 x2 x4 x5 (x6 + 1) σ6
      · refine r_iload hg 5 dX6_nearest_137 rfl ?_
        refine r_istore (lv' := [(4, .int x6), (7, .int u7), (0, .ref (w.2.1 16)), (2, .int x2), (5, .int x5), (6, .int x6)]) hg dX6_nearest_139 (by decide) rfl ?_
        refine r_iload hg 1 dX6_nearest_141 rfl ?_
        refine r_istore (lv' := [(5, .int u7), (4, .int x6), (7, .int u7), (0, .ref (w.2.1 16)), (2, .int x2), (6, .int x6)]) hg dX6_nearest_143 (by decide) rfl ?_
        refine r_iinc (lv' := [(6, .int (x6 + 1)), (5, .int u7), (4, .int x6), (7, .int u7), (0, .ref (w.2.1 16)), (2, .int x2)]) hg 5 (x6 + 1) dX6_nearest_145 rfl rfl (by decide) rfl ?_
        refine r_goto hg 41 dX6_nearest_148 (by decide) ?_
        refine r_lv [4, 5, 2, 1, 0] rfl ?_
        exact hK41 x2 x6 u7 (x6 + 1) σ6
  · refine r_goto hg 145 dX6_nearest_103 (by decide) ?_
    refine r_iinc (lv' := [(6, .int (x6 + 1)), (0, .ref (w.2.1 16)), (2, .int x2), (4, .int x4), (5, .int x5)]) hg 4 (x6 + 1) dX6_nearest_145 rfl rfl (by decide) rfl ?_
    refine r_goto hg 41 dX6_nearest_148 (by decide) ?_
    refine r_lv [1, 2, 3, 4, 0] rfl ?_
    exact hK41 x2 x4 x5 (x6 + 1) σ6
set_option maxHeartbeats 4000000 in
set_option maxRecDepth 100000 in
theorem vb_X6_nearest_41 {N : Nat} (hg : m_ok (p, l, e, d, s, m, args, below, meth, c) w shC cX6_nearest 8 RX6 (some .int)) (hdp : 34 ≤ d) {K41 : Int32 → Int32 → Int32 → Int32 → Mem → Option (Int32 × Mem)} (hK41 : ∀ (x2 x4 x5 x6 : Int32) (σ : Mem), Vj (p, l, e, d, s, m, args, below, meth, c) w shC 8 1 σ 41 [(0, .ref (w.2.1 16)), (2, .int x2), (4, .int x4), (5, .int x5), (6, .int x6)] [] (K41 x2 x4 x5 x6 σ)) (x2 x4 x5 x6 : Int32) (σ : Mem) : Vj (p, l, e, d, s, m, args, below, meth, c) w shC 8 1 σ 41 [(0, .ref (w.2.1 16)), (2, .int x2), (4, .int x4), (5, .int x5), (6, .int x6)] [] (b_X6_nearest_41 N K41 x2 x4 x5 x6 σ) := by
  unfold b_X6_nearest_41
  refine r_iload hg 4 dX6_nearest_41 rfl ?_
  refine r_bipush hg 99 dX6_nearest_43 (by decide) ?_
  refine r_icmp_gt hg 151 dX6_nearest_45 (by decide) ?_ ?_
  · refine r_iload_n hg 1 dX6_nearest_151 rfl ?_
    refine r_if_ne hg 160 dX6_nearest_152 (by decide) ?_ ?_
    · refine r_iload hg 3 dX6_nearest_160 rfl ?_
      exact r_iret hg dX6_nearest_162 rfl rfl
    · refine r_iload hg 2 dX6_nearest_155 rfl ?_
      refine r_goto hg 162 dX6_nearest_157 (by decide) ?_
      exact r_iret hg dX6_nearest_162 rfl rfl
  · refine r_iload hg 4 dX6_nearest_48 rfl ?_
    refine r_iconst hg 1 dX6_nearest_50 (by decide) ?_
    refine r_icmp_le hg 71 dX6_nearest_51 (by decide) ?_ ?_
    · exact vj_X6_nearest_71 hg hdp hK41 x2 x4 x5 x6 σ
    · refine r_aload_n hg 0 dX6_nearest_54 rfl ?_
      refine q_getr (j := 3) hg rfl rfl rfl (by decide) iX6 kf_RX6_30 rfl dX6_nearest_55 ?_
      refine r_iload hg 4 dX6_nearest_58 rfl ?_
      refine r_iconst hg 1 dX6_nearest_60 (by decide) ?_
      refine r_isub hg dX6_nearest_61 ?_
      refine q_callv1 hg (e_X1_someAreApartBy N l w (x6 - 1) σ) kk_RX6_207 ki_X1_someAreApartBy ks_RX1_X1_someAreApartBy rfl rfl np_X1_someAreApartBy (Nat.le_trans (by decide) hdp) rfl m_c1_nil (Nat.le_of_ble_eq_true rfl) dX6_nearest_62 (fun r1 σ2 => ?_)
      refine r_if_ne hg 71 dX6_nearest_65 (by decide) ?_ ?_
      · exact vj_X6_nearest_71 hg hdp hK41 x2 x4 x5 x6 σ2
      · refine r_goto hg 145 dX6_nearest_68 (by decide) ?_
        refine r_iinc (lv' := [(6, .int (x6 + 1)), (0, .ref (w.2.1 16)), (2, .int x2), (4, .int x4), (5, .int x5)]) hg 4 (x6 + 1) dX6_nearest_145 rfl rfl (by decide) rfl ?_
        refine r_goto hg 41 dX6_nearest_148 (by decide) ?_
        refine r_lv [1, 2, 3, 4, 0] rfl ?_
        exact hK41 x2 x4 x5 (x6 + 1) σ2
set_option maxHeartbeats 4000000 in
set_option maxRecDepth 100000 in
theorem vl_X6_nearest_41 {N : Nat} (hg : m_ok (p, l, e, d, s, m, args, below, meth, c) w shC cX6_nearest 8 RX6 (some .int)) (hdp : 34 ≤ d) : ∀ (n : Nat) (x2 x4 x5 x6 : Int32) (σ : Mem), Vj (p, l, e, d, s, m, args, below, meth, c) w shC 8 1 σ 41 [(0, .ref (w.2.1 16)), (2, .int x2), (4, .int x4), (5, .int x5), (6, .int x6)] [] (l_X6_nearest_41 N n x2 x4 x5 x6 σ)
| 0, _, _, _, _, _ => Vj.none
| n + 1, x2, x4, x5, x6, σ => vb_X6_nearest_41 hg hdp (fun x2 x4 x5 x6 σ => vl_X6_nearest_41 hg hdp n x2 x4 x5 x6 σ) x2 x4 x5 x6 σ
set_option maxHeartbeats 4000000 in
set_option maxRecDepth 100000 in
theorem e_X6_nearest (N : Nat) (l : Launch) (w : mW) (v1 v2 : Int32) (σ : Mem) : Ev l w shC yX6_nearest cX6_nearest 8 (some .int) 1 34 [.ref (w.2.1 16), .int v1, .int v2] σ (f_X6_nearest N v1 v2 σ) := by
  refine Ev.of (by decide) (m_c1_r (m_c1_i (m_c1_i m_c1_nil))) (Nat.le_of_ble_eq_true rfl) (fun p e s m args below meth c hg => ?_)
  have hdp := Nat.le_refl 34
  unfold f_X6_nearest
  show Vj (p, l, e, 34, s, m, args, below, meth, c) w shC 8 1 σ 0 [(0, .ref (w.2.1 16)), (1, .int v1), (2, .int v2)] [] _
  refine r_aload_n hg 0 dX6_nearest_0 rfl ?_
  refine r_iload_n hg 1 dX6_nearest_1 rfl ?_
  refine q_callv2 hg (e_X6_coverAt N l w v1 σ) kk_RX6_83 ki_X6_coverAt ks_RX6_X6_coverAt rfl rfl np_X6_coverAt (Nat.le_trans (by decide) hdp) rfl m_c1_nil (Nat.le_of_ble_eq_true rfl) dX6_nearest_2 (fun r1 σ2 => ?_)
  refine r_astoreq_n (lv' := [(3, m_rf w.2.1 r1), (0, .ref (w.2.1 16)), (1, .int v1), (2, .int v2)]) hg dX6_nearest_5 (by decide) rfl ?_
  refine r_aloadq_n hg 0 dX6_nearest_6 rfl ?_
  refine r_ifnull hg 19 dX6_nearest_7 (by decide) ?_ ?_
  · refine r_ldc hg kv_RX6_141 dX6_nearest_19 ?_
    exact r_iret hg dX6_nearest_21 rfl rfl
  · refine r_iload_n hg 3 dX6_nearest_10 rfl ?_
    refine r_iconst hg 0 dX6_nearest_11 (by decide) ?_
    refine r_iconst hg 1 dX6_nearest_12 (by decide) ?_
    refine q_calls1 hg (e_X6_isWithin N l w v2 0 1 σ2) kk_RX6_87 kt_X6_isWithin np_X6_isWithin (Nat.le_trans (by decide) hdp) rfl m_c1_nil (Nat.le_of_ble_eq_true rfl) dX6_nearest_13 (fun r3 σ4 => ?_)
    refine r_if_ne hg 22 dX6_nearest_16 (by decide) ?_ ?_
    · refine r_aload_n hg 1 dX6_nearest_22 rfl ?_
      refine q_getd (j := 2) hg rfl rfl rfl (by decide) iX6 kf_RX6_23 rfl dX6_nearest_23 ?_
      refine r_aloadq_n hg 0 dX6_nearest_26 rfl ?_
      refine q_callq0 hg (e_X0_copyFrom N l w (σ4 16 2) r1 σ4) kk_RX6_79 ki_X0_copyFrom ks_RX0_X0_copyFrom shC_q2 np_X0_copyFrom (Nat.le_trans (by decide) hdp) rfl m_c1_nil (Nat.le_of_ble_eq_true rfl) dX6_nearest_27 (fun r5 σ6 => ?_)
      refine r_ldc hg kv_RX6_141 dX6_nearest_30 ?_
      refine q_name (fun u7 => ?_)
      refine r_istore (lv' := [(4, .int u7), (3, m_rf w.2.1 r1), (0, .ref (w.2.1 16)), (1, .int v1), (2, .int v2)]) hg dX6_nearest_32 (by decide) rfl ?_
      refine r_ldc hg kv_RX6_141 dX6_nearest_34 ?_
      refine q_name (fun u8 => ?_)
      refine r_istore (lv' := [(5, .int u8), (4, .int u7), (3, m_rf w.2.1 r1), (0, .ref (w.2.1 16)), (1, .int v1), (2, .int v2)]) hg dX6_nearest_36 (by decide) rfl ?_
      refine r_iconst hg 1 dX6_nearest_38 (by decide) ?_
      refine r_istore (lv' := [(6, .int 1), (5, .int u8), (4, .int u7), (3, m_rf w.2.1 r1), (0, .ref (w.2.1 16)), (1, .int v1), (2, .int v2)]) hg dX6_nearest_39 (by decide) rfl ?_
      refine r_lv [4, 6, 2, 1, 0] rfl ?_
      exact vl_X6_nearest_41 hg hdp N v2 u7 u8 1 σ6
    · refine r_ldc hg kv_RX6_141 dX6_nearest_19 ?_
      exact r_iret hg dX6_nearest_21 rfl rfl
set_option maxHeartbeats 4000000 in
set_option maxRecDepth 100000 in
theorem e_X6_storm (N : Nat) (l : Launch) (w : mW) (v1 v2 : Int32) (σ : Mem) : Ev l w shC yX6_storm cX6_storm 3 (some .int) 1 2 [.ref (w.2.1 16), .int v1, .int v2] σ (f_X6_storm N v1 v2 σ) := by
  refine Ev.of (by decide) (m_c1_r (m_c1_i (m_c1_i m_c1_nil))) (Nat.le_of_ble_eq_true rfl) (fun p e s m args below meth c hg => ?_)
  have hdp := Nat.le_refl 2
  unfold f_X6_storm
  show Vj (p, l, e, 2, s, m, args, below, meth, c) w shC 3 1 σ 0 [(0, .ref (w.2.1 16)), (1, .int v1), (2, .int v2)] [] _
  refine r_aload_n hg 0 dX6_storm_0 rfl ?_
  refine q_geti (j := 9) hg rfl rfl rfl (by decide) iX6 kf_RX6_61 rfl dX6_storm_1 ?_
  refine r_bipush hg 12 dX6_storm_4 (by decide) ?_
  refine r_icmp_ge hg 30 dX6_storm_6 (by decide) ?_ ?_
  · refine r_iconst hg (-1) dX6_storm_30 (by decide) ?_
    exact r_iret hg dX6_storm_31 rfl rfl
  · refine r_aload_n hg 0 dX6_storm_9 rfl ?_
    refine q_getr (j := 3) hg rfl rfl rfl (by decide) iX6 kf_RX6_30 rfl dX6_storm_10 ?_
    refine r_iload_n hg 1 dX6_storm_13 rfl ?_
    refine q_callv1 hg (e_X1_hasAll N l w v1 σ) kk_RX6_118 ki_X1_hasAll ks_RX1_X1_hasAll rfl rfl np_X1_hasAll (Nat.le_trans (by decide) hdp) rfl m_c1_nil (Nat.le_of_ble_eq_true rfl) dX6_storm_14 (fun r1 σ2 => ?_)
    refine r_if_eq hg 30 dX6_storm_17 (by decide) ?_ ?_
    · refine r_iconst hg (-1) dX6_storm_30 (by decide) ?_
      exact r_iret hg dX6_storm_31 rfl rfl
    · refine r_iload_n hg 2 dX6_storm_20 rfl ?_
      refine r_iconst hg 1 dX6_storm_21 (by decide) ?_
      refine r_bipush hg 99 dX6_storm_22 (by decide) ?_
      refine q_calls1 hg (e_X6_isWithin N l w v2 1 99 σ2) kk_RX6_87 kt_X6_isWithin np_X6_isWithin (Nat.le_trans (by decide) hdp) rfl m_c1_nil (Nat.le_of_ble_eq_true rfl) dX6_storm_24 (fun r3 σ4 => ?_)
      refine r_if_ne hg 32 dX6_storm_27 (by decide) ?_ ?_
      · refine r_aload_n hg 0 dX6_storm_32 rfl ?_
        refine q_getr (j := 6) hg rfl rfl rfl (by decide) iX6 kf_RX6_50 rfl dX6_storm_33 ?_
        refine r_aload_n hg 0 dX6_storm_36 rfl ?_
        refine q_geti (j := 9) hg rfl rfl rfl (by decide) iX6 kf_RX6_61 rfl dX6_storm_37 ?_
        refine r_iload_n hg 1 dX6_storm_40 rfl ?_
        refine q_iastore (n := 12) hg rfl dX6_storm_41 (fun σ5 => ?_)
        refine r_aload_n hg 0 dX6_storm_42 rfl ?_
        refine q_getr (j := 7) hg rfl rfl rfl (by decide) iX6 kf_RX6_54 rfl dX6_storm_43 ?_
        refine r_aload_n hg 0 dX6_storm_46 rfl ?_
        refine q_geti (j := 9) hg rfl rfl rfl (by decide) iX6 kf_RX6_61 rfl dX6_storm_47 ?_
        refine r_iload_n hg 2 dX6_storm_50 rfl ?_
        refine q_iastore (n := 12) hg rfl dX6_storm_51 (fun σ6 => ?_)
        refine r_aload_n hg 0 dX6_storm_52 rfl ?_
        refine r_dupr hg dX6_storm_53 ?_
        refine q_geti (j := 9) hg rfl rfl rfl (by decide) iX6 kf_RX6_61 rfl dX6_storm_54 ?_
        refine r_iconst hg 1 dX6_storm_57 (by decide) ?_
        refine r_iadd hg dX6_storm_58 ?_
        refine q_put (j := 9) hg rfl rfl rfl (by decide) iX6 kf_RX6_61 rfl tyX6_ok nmX6 rfl rfl dX6_storm_59 (fun σ7 => ?_)
        refine r_aload_n hg 0 dX6_storm_62 rfl ?_
        refine q_geti (j := 9) hg rfl rfl rfl (by decide) iX6 kf_RX6_61 rfl dX6_storm_63 ?_
        exact r_iret hg dX6_storm_66 rfl rfl
      · refine r_iconst hg (-1) dX6_storm_30 (by decide) ?_
        exact r_iret hg dX6_storm_31 rfl rfl
set_option maxHeartbeats 4000000 in
set_option maxRecDepth 100000 in
theorem vb_X6_mean_31 {N : Nat} (hg : m_ok (p, l, e, d, s, m, args, below, meth, c) w shC cX6_mean 8 RX6 (some .int)) (hdp : 34 ≤ d) {K31 : Int32 → Int32 → Int32 → Int32 → Int32 → Mem → Option (Int32 × Mem)} (hK31 : ∀ (x2 x3 x4 x5 x6 : Int32) (σ : Mem), Vj (p, l, e, d, s, m, args, below, meth, c) w shC 8 1 σ 31 [(0, .ref (w.2.1 16)), (2, .int x2), (3, m_rf w.2.1 x3), (4, .int x4), (5, .int x5), (6, .int x6)] [] (K31 x2 x3 x4 x5 x6 σ)) (x2 x3 x4 x5 x6 : Int32) (σ : Mem) : Vj (p, l, e, d, s, m, args, below, meth, c) w shC 8 1 σ 31 [(0, .ref (w.2.1 16)), (2, .int x2), (3, m_rf w.2.1 x3), (4, .int x4), (5, .int x5), (6, .int x6)] [] (b_X6_mean_31 N K31 x2 x3 x4 x5 x6 σ) := by
  unfold b_X6_mean_31
  refine r_iload hg 5 dX6_mean_31 rfl ?_
  refine r_aload_n hg 0 dX6_mean_33 rfl ?_
  refine q_geti (j := 9) hg rfl rfl rfl (by decide) iX6 kf_RX6_61 rfl dX6_mean_34 ?_
  refine r_icmp_ge hg 131 dX6_mean_37 (by decide) ?_ ?_
  · refine r_iload_n hg 1 dX6_mean_131 rfl ?_
    refine r_iconst hg 2 dX6_mean_132 (by decide) ?_
    refine r_icmp_ne hg 141 dX6_mean_133 (by decide) ?_ ?_
    · refine r_iload hg 3 dX6_mean_141 rfl ?_
      exact r_iret hg dX6_mean_143 rfl rfl
    · refine r_iload hg 4 dX6_mean_136 rfl ?_
      refine r_goto hg 143 dX6_mean_138 (by decide) ?_
      exact r_iret hg dX6_mean_143 rfl rfl
  · refine r_aloadq_n hg 2 dX6_mean_40 rfl ?_
    refine r_aload_n hg 0 dX6_mean_41 rfl ?_
    refine q_getr (j := 6) hg rfl rfl rfl (by decide) iX6 kf_RX6_50 rfl dX6_mean_42 ?_
    refine r_iload hg 5 dX6_mean_45 rfl ?_
    refine r_iaload (n := 12) hg rfl dX6_mean_47 ?_
    refine q_calls1 hg (e_X3_isToldFor N l w x3 (σ 23 x6.toNatClampNeg) σ) kk_RX6_210 kt_X3_isToldFor np_X3_isToldFor (Nat.le_trans (by decide) hdp) rfl m_c1_nil (Nat.le_of_ble_eq_true rfl) dX6_mean_48 (fun r1 σ2 => ?_)
    refine r_if_ne hg 57 dX6_mean_51 (by decide) ?_ ?_
    · refine r_aload_n hg 0 dX6_mean_57 rfl ?_
      refine q_getr (j := 7) hg rfl rfl rfl (by decide) iX6 kf_RX6_54 rfl dX6_mean_58 ?_
      refine r_iload hg 5 dX6_mean_61 rfl ?_
      refine r_iaload (n := 12) hg rfl dX6_mean_63 ?_
      refine q_name (fun u3 => ?_)
      refine r_istore (lv' := [(7, .int u3), (0, .ref (w.2.1 16)), (2, .int x2), (3, m_rf w.2.1 x3), (4, .int x4), (5, .int x5), (6, .int x6)]) hg dX6_mean_64 (by decide) rfl ?_
      refine r_iload hg 5 dX6_mean_66 rfl ?_
      refine r_iload hg 0 dX6_mean_68 rfl ?_
      refine r_iadd hg dX6_mean_70 ?_
      refine q_name (fun u4 => ?_)
      refine r_istore (lv' := [(5, .int u4), (7, .int u3), (0, .ref (w.2.1 16)), (2, .int x2), (3, m_rf w.2.1 x3), (4, .int x4), (6, .int x6)]) hg dX6_mean_71 (by decide) rfl ?_
      refine r_iload_n hg 3 dX6_mean_73 rfl ?_
      refine r_iconst hg 2 dX6_mean_74 (by decide) ?_
      refine r_icmp_eq hg 125 dX6_mean_75 (by decide) ?_ ?_
      · refine r_iinc (lv' := [(6, .int (x6 + 1)), (5, .int u4), (7, .int u3), (0, .ref (w.2.1 16)), (2, .int x2), (3, m_rf w.2.1 x3), (4, .int x4)]) hg 6 (x6 + 1) dX6_mean_125 rfl rfl (by decide) rfl ?_
        refine r_goto hg 31 dX6_mean_128 (by decide) ?_
        refine r_lv [3, 4, 5, 6, 1, 0] rfl ?_
        exact hK31 x2 x3 x4 u4 (x6 + 1) σ2
      · refine r_aload_n hg 2 dX6_mean_78 rfl ?_
        refine q_getr (j := 5) hg rfl rfl rfl (by decide) iX6 kf_RX6_46 rfl dX6_mean_79 ?_
        refine r_aloadq_n hg 4 dX6_mean_82 rfl ?_
        refine r_aload_n hg 2 dX6_mean_83 rfl ?_
        refine q_getr (j := 6) hg rfl rfl rfl (by decide) iX6 kf_RX6_50 rfl dX6_mean_84 ?_
        refine r_iload hg 6 dX6_mean_87 rfl ?_
        refine r_iaload (n := 12) hg rfl dX6_mean_89 ?_
        refine q_callv1 hg (e_X3_findFor N l w x3 (σ2 23 x6.toNatClampNeg) σ2) kk_RX6_170 ki_X3_findFor ks_RX3_X3_findFor rfl rfl np_X3_findFor (Nat.le_trans (by decide) hdp) rfl m_c1_nil (Nat.le_of_ble_eq_true rfl) dX6_mean_90 (fun r5 σ6 => ?_)
        refine r_if_eq hg 125 dX6_mean_93 (by decide) ?_ ?_
        · refine r_iinc (lv' := [(6, .int (x6 + 1)), (5, .int u4), (7, .int u3), (0, .ref (w.2.1 16)), (2, .int x2), (3, m_rf w.2.1 x3), (4, .int x4)]) hg 6 (x6 + 1) dX6_mean_125 rfl rfl (by decide) rfl ?_
          refine r_goto hg 31 dX6_mean_128 (by decide) ?_
          refine r_lv [3, 4, 5, 6, 1, 0] rfl ?_
          exact hK31 x2 x3 x4 u4 (x6 + 1) σ6
        · refine r_iload hg 5 dX6_mean_96 rfl ?_
          refine r_iload hg 1 dX6_mean_98 rfl ?_
          refine r_iload_n hg 3 dX6_mean_100 rfl ?_
          refine r_if_ne hg 114 dX6_mean_101 (by decide) ?_ ?_
          · refine r_aload_n hg 2 dX6_mean_114 rfl ?_
            refine q_getr (j := 5) hg rfl rfl rfl (by decide) iX6 kf_RX6_46 rfl dX6_mean_115 ?_
            refine q_geti (j := 1) hg rfl rfl rfl (by decide) iX3 kf_RX6_176 rfl dX6_mean_118 ?_
            refine r_imul hg dX6_mean_121 ?_
            refine r_iadd hg dX6_mean_122 ?_
            refine q_name (fun u7 => ?_)
            refine r_istore (lv' := [(4, .int u7), (5, .int u4), (7, .int u3), (0, .ref (w.2.1 16)), (2, .int x2), (3, m_rf w.2.1 x3), (6, .int x6)]) hg dX6_mean_123 (by decide) rfl ?_
            refine r_iinc (lv' := [(6, .int (x6 + 1)), (4, .int u7), (5, .int u4), (7, .int u3), (0, .ref (w.2.1 16)), (2, .int x2), (3, m_rf w.2.1 x3)]) hg 6 (x6 + 1) dX6_mean_125 rfl rfl (by decide) rfl ?_
            refine r_goto hg 31 dX6_mean_128 (by decide) ?_
            refine r_lv [4, 5, 6, 1, 2, 0] rfl ?_
            exact hK31 x2 x3 u7 u4 (x6 + 1) σ6
          · refine r_aload_n hg 2 dX6_mean_104 rfl ?_
            refine q_getr (j := 5) hg rfl rfl rfl (by decide) iX6 kf_RX6_46 rfl dX6_mean_105 ?_
            refine q_geti (j := 0) hg rfl rfl rfl (by decide) iX3 kf_RX6_173 rfl dX6_mean_108 ?_
            refine r_goto hg 121 dX6_mean_111 (by decide) ?_
            refine r_imul hg dX6_mean_121 ?_
            refine r_iadd hg dX6_mean_122 ?_
            refine q_name (fun u8 => ?_)
            refine r_istore (lv' := [(4, .int u8), (5, .int u4), (7, .int u3), (0, .ref (w.2.1 16)), (2, .int x2), (3, m_rf w.2.1 x3), (6, .int x6)]) hg dX6_mean_123 (by decide) rfl ?_
            refine r_iinc (lv' := [(6, .int (x6 + 1)), (4, .int u8), (5, .int u4), (7, .int u3), (0, .ref (w.2.1 16)), (2, .int x2), (3, m_rf w.2.1 x3)]) hg 6 (x6 + 1) dX6_mean_125 rfl rfl (by decide) rfl ?_
            refine r_goto hg 31 dX6_mean_128 (by decide) ?_
            refine r_lv [4, 5, 6, 1, 2, 0] rfl ?_
            exact hK31 x2 x3 u8 u4 (x6 + 1) σ6
    · refine r_ldc hg kv_RX6_141 dX6_mean_54 ?_
      exact r_iret hg dX6_mean_56 rfl rfl
set_option maxHeartbeats 4000000 in
set_option maxRecDepth 100000 in
theorem vl_X6_mean_31 {N : Nat} (hg : m_ok (p, l, e, d, s, m, args, below, meth, c) w shC cX6_mean 8 RX6 (some .int)) (hdp : 34 ≤ d) : ∀ (n : Nat) (x2 x3 x4 x5 x6 : Int32) (σ : Mem), Vj (p, l, e, d, s, m, args, below, meth, c) w shC 8 1 σ 31 [(0, .ref (w.2.1 16)), (2, .int x2), (3, m_rf w.2.1 x3), (4, .int x4), (5, .int x5), (6, .int x6)] [] (l_X6_mean_31 N n x2 x3 x4 x5 x6 σ)
| 0, _, _, _, _, _, _ => Vj.none
| n + 1, x2, x3, x4, x5, x6, σ => vb_X6_mean_31 hg hdp (fun x2 x3 x4 x5 x6 σ => vl_X6_mean_31 hg hdp n x2 x3 x4 x5 x6 σ) x2 x3 x4 x5 x6 σ
set_option maxHeartbeats 4000000 in
set_option maxRecDepth 100000 in
theorem e_X6_mean (N : Nat) (l : Launch) (w : mW) (v1 v2 : Int32) (σ : Mem) : Ev l w shC yX6_mean cX6_mean 8 (some .int) 1 34 [.ref (w.2.1 16), .int v1, .int v2] σ (f_X6_mean N v1 v2 σ) := by
  refine Ev.of (by decide) (m_c1_r (m_c1_i (m_c1_i m_c1_nil))) (Nat.le_of_ble_eq_true rfl) (fun p e s m args below meth c hg => ?_)
  have hdp := Nat.le_refl 34
  unfold f_X6_mean
  show Vj (p, l, e, 34, s, m, args, below, meth, c) w shC 8 1 σ 0 [(0, .ref (w.2.1 16)), (1, .int v1), (2, .int v2)] [] _
  refine r_aload_n hg 0 dX6_mean_0 rfl ?_
  refine r_iload_n hg 1 dX6_mean_1 rfl ?_
  refine q_callv2 hg (e_X6_coverAt N l w v1 σ) kk_RX6_83 ki_X6_coverAt ks_RX6_X6_coverAt rfl rfl np_X6_coverAt (Nat.le_trans (by decide) hdp) rfl m_c1_nil (Nat.le_of_ble_eq_true rfl) dX6_mean_2 (fun r1 σ2 => ?_)
  refine r_astoreq_n (lv' := [(3, m_rf w.2.1 r1), (0, .ref (w.2.1 16)), (1, .int v1), (2, .int v2)]) hg dX6_mean_5 (by decide) rfl ?_
  refine r_aloadq_n hg 0 dX6_mean_6 rfl ?_
  refine r_ifnull hg 19 dX6_mean_7 (by decide) ?_ ?_
  · refine r_ldc hg kv_RX6_141 dX6_mean_19 ?_
    exact r_iret hg dX6_mean_21 rfl rfl
  · refine r_iload_n hg 3 dX6_mean_10 rfl ?_
    refine r_iconst hg 0 dX6_mean_11 (by decide) ?_
    refine r_iconst hg 2 dX6_mean_12 (by decide) ?_
    refine q_calls1 hg (e_X6_isWithin N l w v2 0 2 σ2) kk_RX6_87 kt_X6_isWithin np_X6_isWithin (Nat.le_trans (by decide) hdp) rfl m_c1_nil (Nat.le_of_ble_eq_true rfl) dX6_mean_13 (fun r3 σ4 => ?_)
    refine r_if_ne hg 22 dX6_mean_16 (by decide) ?_ ?_
    · refine r_iconst hg 0 dX6_mean_22 (by decide) ?_
      refine r_istore (lv' := [(4, .int 0), (3, m_rf w.2.1 r1), (0, .ref (w.2.1 16)), (1, .int v1), (2, .int v2)]) hg dX6_mean_23 (by decide) rfl ?_
      refine r_iconst hg 0 dX6_mean_25 (by decide) ?_
      refine r_istore (lv' := [(5, .int 0), (4, .int 0), (3, m_rf w.2.1 r1), (0, .ref (w.2.1 16)), (1, .int v1), (2, .int v2)]) hg dX6_mean_26 (by decide) rfl ?_
      refine r_iconst hg 0 dX6_mean_28 (by decide) ?_
      refine r_istore (lv' := [(6, .int 0), (5, .int 0), (4, .int 0), (3, m_rf w.2.1 r1), (0, .ref (w.2.1 16)), (1, .int v1), (2, .int v2)]) hg dX6_mean_29 (by decide) rfl ?_
      refine r_lv [4, 6, 3, 2, 1, 0] rfl ?_
      exact vl_X6_mean_31 hg hdp N v2 r1 0 0 0 σ4
    · refine r_ldc hg kv_RX6_141 dX6_mean_19 ?_
      exact r_iret hg dX6_mean_21 rfl rfl
end CM4
