section CM1
variable {p : Program} {l : Launch} {e : Env} {d : Nat} {s : State} {m : MethodId} {args : Array Value} {below : List Frame} {meth : Method} {c : Code} {w : mW}
set_option maxHeartbeats 4000000 in
set_option maxRecDepth 100000 in
theorem e_X1_areNear (N : Nat) (l : Launch) (w : mW) (v1 v2 v3 : Int32) (σ : Mem) : Ev l w shC yX1_areNear cX1_areNear 7 (some .boolean) 1 1 [.ref (w.2.1 18), m_rf w.2.1 v1, .int v2, .int v3] σ (f_X1_areNear N v1 v2 v3 σ) := by
  refine Ev.of (by decide) (m_c1_r (m_c1_q (m_c1_i (m_c1_i m_c1_nil)))) (Nat.le_of_ble_eq_true rfl) (fun p e s m args below meth c hg => ?_)
  have hdp := Nat.le_refl 1
  unfold f_X1_areNear
  show Vj (p, l, e, 1, s, m, args, below, meth, c) w shC 7 1 σ 0 [(0, .ref (w.2.1 18)), (1, m_rf w.2.1 v1), (2, .int v2), (3, .int v3)] [] _
  refine r_aload_n hg 0 dX1_areNear_0 rfl ?_
  refine q_getr (j := 1) hg rfl rfl rfl (by decide) iX1 kf_RX1_15 rfl dX1_areNear_1 ?_
  refine r_iload_n hg 2 dX1_areNear_4 rfl ?_
  refine r_iaload (n := 12) hg rfl dX1_areNear_5 ?_
  refine r_aload_n hg 0 dX1_areNear_6 rfl ?_
  refine q_getr (j := 1) hg rfl rfl rfl (by decide) iX1 kf_RX1_15 rfl dX1_areNear_7 ?_
  refine r_iload_n hg 3 dX1_areNear_10 rfl ?_
  refine r_iaload (n := 12) hg rfl dX1_areNear_11 ?_
  refine r_isub hg dX1_areNear_12 ?_
  refine r_abs hg km_RX1_59 kt_J9_abs_0f7a4 kz_RJ9 kc_J9_abs_0f7a4 (Nat.le_trans (by decide) hdp) m_c1_nil (Nat.le_of_ble_eq_true rfl) dX1_areNear_13 ?_
  refine r_aloadq_n hg 1 dX1_areNear_16 rfl ?_
  refine q_getq (b := 8) hg shC_q rfl (by decide) iX0 kf_RX1_54 rfl dX1_areNear_17 (fun h1 => ?_)
  refine r_iconst hg 0 dX1_areNear_20 (by decide) ?_
  refine r_iaload (n := 10) hg (shC_w h1) dX1_areNear_21 ?_
  refine r_icmp_lt hg 27 dX1_areNear_22 (by decide) ?_ ?_
  · refine r_aloadq_n hg 1 dX1_areNear_27 rfl ?_
    refine q_getq (b := 8) hg shC_q rfl (by decide) iX0 kf_RX1_54 rfl dX1_areNear_28 (fun h2 => ?_)
    refine r_iconst hg 1 dX1_areNear_31 (by decide) ?_
    refine r_iaload (n := 10) hg (shC_w h2) dX1_areNear_32 ?_
    refine q_name (fun u3 => ?_)
    refine r_istore (lv' := [(4, .int u3), (0, .ref (w.2.1 18)), (1, m_rf w.2.1 v1), (2, .int v2), (3, .int v3)]) hg dX1_areNear_33 (by decide) rfl ?_
    refine r_aload_n hg 1 dX1_areNear_35 rfl ?_
    refine q_getr (j := 3) hg rfl rfl rfl (by decide) iX1 kf_RX1_21 rfl dX1_areNear_36 ?_
    refine r_iload_n hg 3 dX1_areNear_39 rfl ?_
    refine r_iaload (n := 12) hg rfl dX1_areNear_40 ?_
    refine r_aload_n hg 1 dX1_areNear_41 rfl ?_
    refine q_getr (j := 3) hg rfl rfl rfl (by decide) iX1 kf_RX1_21 rfl dX1_areNear_42 ?_
    refine r_iload_n hg 4 dX1_areNear_45 rfl ?_
    refine r_iaload (n := 12) hg rfl dX1_areNear_46 ?_
    refine r_isub hg dX1_areNear_47 ?_
    refine q_name (fun u4 => ?_)
    refine r_istore (lv' := [(5, .int u4), (4, .int u3), (0, .ref (w.2.1 18)), (1, m_rf w.2.1 v1), (2, .int v2), (3, .int v3)]) hg dX1_areNear_48 (by decide) rfl ?_
    refine r_aload_n hg 2 dX1_areNear_50 rfl ?_
    refine q_getr (j := 4) hg rfl rfl rfl (by decide) iX1 kf_RX1_24 rfl dX1_areNear_51 ?_
    refine r_iload_n hg 4 dX1_areNear_54 rfl ?_
    refine r_iaload (n := 12) hg rfl dX1_areNear_55 ?_
    refine r_aload_n hg 2 dX1_areNear_56 rfl ?_
    refine q_getr (j := 4) hg rfl rfl rfl (by decide) iX1 kf_RX1_24 rfl dX1_areNear_57 ?_
    refine r_iload_n hg 5 dX1_areNear_60 rfl ?_
    refine r_iaload (n := 12) hg rfl dX1_areNear_61 ?_
    refine r_isub hg dX1_areNear_62 ?_
    refine q_name (fun u5 => ?_)
    refine r_istore (lv' := [(6, .int u5), (5, .int u4), (4, .int u3), (0, .ref (w.2.1 18)), (1, m_rf w.2.1 v1), (2, .int v2), (3, .int v3)]) hg dX1_areNear_63 (by decide) rfl ?_
    refine r_iload hg 2 dX1_areNear_65 rfl ?_
    refine r_iconst hg (-1) dX1_areNear_67 (by decide) ?_
    refine r_icmp_eq hg 90 dX1_areNear_68 (by decide) ?_ ?_
    · refine r_iconst hg 1 dX1_areNear_90 (by decide) ?_
      refine r_goto hg 95 dX1_areNear_91 (by decide) ?_
      exact r_zret hg dX1_areNear_95 rfl rfl
    · refine r_iload hg 1 dX1_areNear_71 rfl ?_
      refine r_iload hg 1 dX1_areNear_73 rfl ?_
      refine r_imul hg dX1_areNear_75 ?_
      refine r_iload hg 0 dX1_areNear_76 rfl ?_
      refine r_iload hg 0 dX1_areNear_78 rfl ?_
      refine r_imul hg dX1_areNear_80 ?_
      refine r_iadd hg dX1_areNear_81 ?_
      refine r_iload hg 2 dX1_areNear_82 rfl ?_
      refine r_iload hg 2 dX1_areNear_84 rfl ?_
      refine r_imul hg dX1_areNear_86 ?_
      refine r_icmp_gt hg 94 dX1_areNear_87 (by decide) ?_ ?_
      · refine r_iconst hg 0 dX1_areNear_94 (by decide) ?_
        exact r_zret hg dX1_areNear_95 rfl rfl
      · refine r_iconst hg 1 dX1_areNear_90 (by decide) ?_
        refine r_goto hg 95 dX1_areNear_91 (by decide) ?_
        exact r_zret hg dX1_areNear_95 rfl rfl
  · refine r_iconst hg 0 dX1_areNear_25 (by decide) ?_
    exact r_zret hg dX1_areNear_26 rfl rfl
set_option maxHeartbeats 4000000 in
set_option maxRecDepth 100000 in
theorem vb_X1_areOne_42 {N : Nat} (hg : m_ok (p, l, e, d, s, m, args, below, meth, c) w shC cX1_areOne 6 RX1 (some .boolean)) (hdp : 2 ≤ d) {K5 : Int32 → Int32 → Int32 → Int32 → Mem → Option (Int32 × Mem)} (hK5 : ∀ (x1 x2 x3 x4 : Int32) (σ : Mem), Vj (p, l, e, d, s, m, args, below, meth, c) w shC 6 1 σ 5 [(0, .ref (w.2.1 18)), (1, m_rf w.2.1 x1), (2, .int x2), (3, .int x3), (4, .int x4)] [] (K5 x1 x2 x3 x4 σ)) {K42 : Int32 → Int32 → Int32 → Int32 → Int32 → Mem → Option (Int32 × Mem)} (hK42 : ∀ (x1 x2 x3 x4 x5 : Int32) (σ : Mem), Vj (p, l, e, d, s, m, args, below, meth, c) w shC 6 1 σ 42 [(0, .ref (w.2.1 18)), (1, m_rf w.2.1 x1), (2, .int x2), (3, .int x3), (4, .int x4), (5, .int x5)] [] (K42 x1 x2 x3 x4 x5 σ)) (x1 x2 x3 x4 x5 : Int32) (σ : Mem) : Vj (p, l, e, d, s, m, args, below, meth, c) w shC 6 1 σ 42 [(0, .ref (w.2.1 18)), (1, m_rf w.2.1 x1), (2, .int x2), (3, .int x3), (4, .int x4), (5, .int x5)] [] (b_X1_areOne_42 N K5 K42 x1 x2 x3 x4 x5 σ) := by
  unfold b_X1_areOne_42
  refine r_iload hg 5 dX1_areOne_42 rfl ?_
  refine r_aload_n hg 0 dX1_areOne_44 rfl ?_
  refine q_geti (j := 6) hg rfl rfl rfl (by decide) iX1 kf_RX1_30 rfl dX1_areOne_45 ?_
  refine r_icmp_ge hg 80 dX1_areOne_48 (by decide) ?_ ?_
  · refine r_iinc (lv' := [(4, .int (x4 + 1)), (0, .ref (w.2.1 18)), (1, m_rf w.2.1 x1), (2, .int x2), (3, .int x3), (5, .int x5)]) hg 4 (x4 + 1) dX1_areOne_80 rfl rfl (by decide) rfl ?_
    refine r_goto hg 5 dX1_areOne_83 (by decide) ?_
    refine r_lv [1, 2, 3, 4, 0] rfl ?_
    exact hK5 x1 x2 x3 (x4 + 1) σ
  · refine r_iload hg 5 dX1_areOne_51 rfl ?_
    refine r_iload_n hg 2 dX1_areOne_53 rfl ?_
    refine q_calls1 hg (e_X1_isIn N l w x5 x2 σ) kk_RX1_42 kt_X1_isIn np_X1_isIn (Nat.le_trans (by decide) hdp) rfl m_c1_nil (Nat.le_of_ble_eq_true rfl) dX1_areOne_54 (fun r1 σ2 => ?_)
    refine r_if_eq hg 74 dX1_areOne_57 (by decide) ?_ ?_
    · refine r_iinc (lv' := [(5, .int (x5 + 1)), (0, .ref (w.2.1 18)), (1, m_rf w.2.1 x1), (2, .int x2), (3, .int x3), (4, .int x4)]) hg 5 (x5 + 1) dX1_areOne_74 rfl rfl (by decide) rfl ?_
      refine r_goto hg 42 dX1_areOne_77 (by decide) ?_
      refine r_lv [1, 2, 3, 4, 5, 0] rfl ?_
      exact hK42 x1 x2 x3 x4 (x5 + 1) σ2
    · refine r_aload_n hg 0 dX1_areOne_60 rfl ?_
      refine r_aloadq_n hg 1 dX1_areOne_61 rfl ?_
      refine r_iload hg 4 dX1_areOne_62 rfl ?_
      refine r_iload hg 5 dX1_areOne_64 rfl ?_
      refine q_callv1 hg (e_X1_areNear N l w x1 x4 x5 σ2) kk_RX1_63 ki_X1_areNear ks_RX1_X1_areNear rfl rfl np_X1_areNear (Nat.le_trans (by decide) hdp) rfl m_c1_nil (Nat.le_of_ble_eq_true rfl) dX1_areOne_66 (fun r3 σ4 => ?_)
      refine r_if_ne hg 74 dX1_areOne_69 (by decide) ?_ ?_
      · refine r_iinc (lv' := [(5, .int (x5 + 1)), (0, .ref (w.2.1 18)), (1, m_rf w.2.1 x1), (2, .int x2), (3, .int x3), (4, .int x4)]) hg 5 (x5 + 1) dX1_areOne_74 rfl rfl (by decide) rfl ?_
        refine r_goto hg 42 dX1_areOne_77 (by decide) ?_
        refine r_lv [1, 2, 3, 4, 5, 0] rfl ?_
        exact hK42 x1 x2 x3 x4 (x5 + 1) σ4
      · refine r_iconst hg 0 dX1_areOne_72 (by decide) ?_
        exact r_zret hg dX1_areOne_73 rfl rfl
set_option maxHeartbeats 4000000 in
set_option maxRecDepth 100000 in
theorem vl_X1_areOne_42 {N : Nat} (hg : m_ok (p, l, e, d, s, m, args, below, meth, c) w shC cX1_areOne 6 RX1 (some .boolean)) (hdp : 2 ≤ d) {K5 : Int32 → Int32 → Int32 → Int32 → Mem → Option (Int32 × Mem)} (hK5 : ∀ (x1 x2 x3 x4 : Int32) (σ : Mem), Vj (p, l, e, d, s, m, args, below, meth, c) w shC 6 1 σ 5 [(0, .ref (w.2.1 18)), (1, m_rf w.2.1 x1), (2, .int x2), (3, .int x3), (4, .int x4)] [] (K5 x1 x2 x3 x4 σ)) : ∀ (n : Nat) (x1 x2 x3 x4 x5 : Int32) (σ : Mem), Vj (p, l, e, d, s, m, args, below, meth, c) w shC 6 1 σ 42 [(0, .ref (w.2.1 18)), (1, m_rf w.2.1 x1), (2, .int x2), (3, .int x3), (4, .int x4), (5, .int x5)] [] (l_X1_areOne_42 N K5 n x1 x2 x3 x4 x5 σ)
| 0, _, _, _, _, _, _ => Vj.none
| n + 1, x1, x2, x3, x4, x5, σ => vb_X1_areOne_42 hg hdp hK5 (fun x1 x2 x3 x4 x5 σ => vl_X1_areOne_42 hg hdp hK5 n x1 x2 x3 x4 x5 σ) x1 x2 x3 x4 x5 σ
set_option maxHeartbeats 4000000 in
set_option maxRecDepth 100000 in
theorem vb_X1_areOne_5 {N : Nat} (hg : m_ok (p, l, e, d, s, m, args, below, meth, c) w shC cX1_areOne 6 RX1 (some .boolean)) (hdp : 2 ≤ d) {K5 : Int32 → Int32 → Int32 → Int32 → Mem → Option (Int32 × Mem)} (hK5 : ∀ (x1 x2 x3 x4 : Int32) (σ : Mem), Vj (p, l, e, d, s, m, args, below, meth, c) w shC 6 1 σ 5 [(0, .ref (w.2.1 18)), (1, m_rf w.2.1 x1), (2, .int x2), (3, .int x3), (4, .int x4)] [] (K5 x1 x2 x3 x4 σ)) (x1 x2 x3 x4 : Int32) (σ : Mem) : Vj (p, l, e, d, s, m, args, below, meth, c) w shC 6 1 σ 5 [(0, .ref (w.2.1 18)), (1, m_rf w.2.1 x1), (2, .int x2), (3, .int x3), (4, .int x4)] [] (b_X1_areOne_5 N K5 x1 x2 x3 x4 σ) := by
  unfold b_X1_areOne_5
  refine r_iload hg 4 dX1_areOne_5 rfl ?_
  refine r_aload_n hg 0 dX1_areOne_7 rfl ?_
  refine q_geti (j := 6) hg rfl rfl rfl (by decide) iX1 kf_RX1_30 rfl dX1_areOne_8 ?_
  refine r_icmp_ge hg 86 dX1_areOne_11 (by decide) ?_ ?_
  · refine r_iload_n hg 3 dX1_areOne_86 rfl ?_
    refine r_if_ne hg 97 dX1_areOne_87 (by decide) ?_ ?_
    · refine r_iconst hg 1 dX1_areOne_97 (by decide) ?_
      refine r_goto hg 102 dX1_areOne_98 (by decide) ?_
      exact r_zret hg dX1_areOne_102 rfl rfl
    · refine r_aloadq_n hg 1 dX1_areOne_90 rfl ?_
      refine q_callq1 hg (e_X0_asksCauses N l w x1 σ) kk_RX1_67 ki_X0_asksCauses ks_RX0_X0_asksCauses shC_q2 np_X0_asksCauses (Nat.le_trans (by decide) hdp) rfl m_c1_nil (Nat.le_of_ble_eq_true rfl) dX1_areOne_91 (fun r1 σ2 => ?_)
      refine r_if_ne hg 101 dX1_areOne_94 (by decide) ?_ ?_
      · refine r_iconst hg 0 dX1_areOne_101 (by decide) ?_
        exact r_zret hg dX1_areOne_102 rfl rfl
      · refine r_iconst hg 1 dX1_areOne_97 (by decide) ?_
        refine r_goto hg 102 dX1_areOne_98 (by decide) ?_
        exact r_zret hg dX1_areOne_102 rfl rfl
  · refine r_iload hg 4 dX1_areOne_14 rfl ?_
    refine r_iload_n hg 2 dX1_areOne_16 rfl ?_
    refine q_calls1 hg (e_X1_isIn N l w x4 x2 σ) kk_RX1_42 kt_X1_isIn np_X1_isIn (Nat.le_trans (by decide) hdp) rfl m_c1_nil (Nat.le_of_ble_eq_true rfl) dX1_areOne_17 (fun r3 σ4 => ?_)
    refine r_if_ne hg 26 dX1_areOne_20 (by decide) ?_ ?_
    · refine r_iload_n hg 3 dX1_areOne_26 rfl ?_
      refine r_aload_n hg 0 dX1_areOne_27 rfl ?_
      refine q_getr (j := 5) hg rfl rfl rfl (by decide) iX1 kf_RX1_27 rfl dX1_areOne_28 ?_
      refine r_iload hg 4 dX1_areOne_31 rfl ?_
      refine r_iaload (n := 12) hg rfl dX1_areOne_33 ?_
      refine r_iand hg dX1_areOne_34 ?_
      refine q_name (fun u5 => ?_)
      refine r_istore_n (lv' := [(3, .int u5), (0, .ref (w.2.1 18)), (1, m_rf w.2.1 x1), (2, .int x2), (4, .int x4)]) hg dX1_areOne_35 (by decide) rfl ?_
      refine r_iload hg 4 dX1_areOne_36 rfl ?_
      refine r_iconst hg 1 dX1_areOne_38 (by decide) ?_
      refine r_iadd hg dX1_areOne_39 ?_
      refine q_name (fun u6 => ?_)
      refine r_istore (lv' := [(5, .int u6), (3, .int u5), (0, .ref (w.2.1 18)), (1, m_rf w.2.1 x1), (2, .int x2), (4, .int x4)]) hg dX1_areOne_40 (by decide) rfl ?_
      refine r_lv [2, 3, 4, 1, 5, 0] rfl ?_
      exact vl_X1_areOne_42 hg hdp hK5 N x1 x2 u5 x4 u6 σ4
    · refine r_goto hg 80 dX1_areOne_23 (by decide) ?_
      refine r_iinc (lv' := [(4, .int (x4 + 1)), (0, .ref (w.2.1 18)), (1, m_rf w.2.1 x1), (2, .int x2), (3, .int x3)]) hg 4 (x4 + 1) dX1_areOne_80 rfl rfl (by decide) rfl ?_
      refine r_goto hg 5 dX1_areOne_83 (by decide) ?_
      refine r_lv [1, 2, 3, 4, 0] rfl ?_
      exact hK5 x1 x2 x3 (x4 + 1) σ4
set_option maxHeartbeats 4000000 in
set_option maxRecDepth 100000 in
theorem vl_X1_areOne_5 {N : Nat} (hg : m_ok (p, l, e, d, s, m, args, below, meth, c) w shC cX1_areOne 6 RX1 (some .boolean)) (hdp : 2 ≤ d) : ∀ (n : Nat) (x1 x2 x3 x4 : Int32) (σ : Mem), Vj (p, l, e, d, s, m, args, below, meth, c) w shC 6 1 σ 5 [(0, .ref (w.2.1 18)), (1, m_rf w.2.1 x1), (2, .int x2), (3, .int x3), (4, .int x4)] [] (l_X1_areOne_5 N n x1 x2 x3 x4 σ)
| 0, _, _, _, _, _ => Vj.none
| n + 1, x1, x2, x3, x4, σ => vb_X1_areOne_5 hg hdp (fun x1 x2 x3 x4 σ => vl_X1_areOne_5 hg hdp n x1 x2 x3 x4 σ) x1 x2 x3 x4 σ
set_option maxHeartbeats 4000000 in
set_option maxRecDepth 100000 in
theorem e_X1_areOne (N : Nat) (l : Launch) (w : mW) (v1 v2 : Int32) (σ : Mem) : Ev l w shC yX1_areOne cX1_areOne 6 (some .boolean) 1 2 [.ref (w.2.1 18), m_rf w.2.1 v1, .int v2] σ (f_X1_areOne N v1 v2 σ) := by
  refine Ev.of (by decide) (m_c1_r (m_c1_q (m_c1_i m_c1_nil))) (Nat.le_of_ble_eq_true rfl) (fun p e s m args below meth c hg => ?_)
  have hdp := Nat.le_refl 2
  unfold f_X1_areOne
  show Vj (p, l, e, 2, s, m, args, below, meth, c) w shC 6 1 σ 0 [(0, .ref (w.2.1 18)), (1, m_rf w.2.1 v1), (2, .int v2)] [] _
  refine r_iconst hg (-1) dX1_areOne_0 (by decide) ?_
  refine q_name (fun u1 => ?_)
  refine r_istore_n (lv' := [(3, .int u1), (0, .ref (w.2.1 18)), (1, m_rf w.2.1 v1), (2, .int v2)]) hg dX1_areOne_1 (by decide) rfl ?_
  refine r_iconst hg 0 dX1_areOne_2 (by decide) ?_
  refine r_istore (lv' := [(4, .int 0), (3, .int u1), (0, .ref (w.2.1 18)), (1, m_rf w.2.1 v1), (2, .int v2)]) hg dX1_areOne_3 (by decide) rfl ?_
  refine r_lv [2, 3, 4, 1, 0] rfl ?_
  exact vl_X1_areOne_5 hg hdp N v1 v2 u1 0 σ
set_option maxHeartbeats 4000000 in
set_option maxRecDepth 100000 in
theorem e_X6_may (N : Nat) (l : Launch) (w : mW) (v1 v2 : Int32) (σ : Mem) : Ev l w shC yX6_may cX6_may 4 (some .int) 1 3 [.ref (w.2.1 16), .int v1, .int v2] σ (f_X6_may N v1 v2 σ) := by
  refine Ev.of (by decide) (m_c1_r (m_c1_i (m_c1_i m_c1_nil))) (Nat.le_of_ble_eq_true rfl) (fun p e s m args below meth c hg => ?_)
  have hdp := Nat.le_refl 3
  unfold f_X6_may
  show Vj (p, l, e, 3, s, m, args, below, meth, c) w shC 4 1 σ 0 [(0, .ref (w.2.1 16)), (1, .int v1), (2, .int v2)] [] _
  refine r_aload_n hg 0 dX6_may_0 rfl ?_
  refine r_iload_n hg 1 dX6_may_1 rfl ?_
  refine q_callv2 hg (e_X6_coverAt N l w v1 σ) kk_RX6_83 ki_X6_coverAt ks_RX6_X6_coverAt rfl rfl np_X6_coverAt (Nat.le_trans (by decide) hdp) rfl m_c1_nil (Nat.le_of_ble_eq_true rfl) dX6_may_2 (fun r1 σ2 => ?_)
  refine r_astoreq_n (lv' := [(3, m_rf w.2.1 r1), (0, .ref (w.2.1 16)), (1, .int v1), (2, .int v2)]) hg dX6_may_5 (by decide) rfl ?_
  refine r_aloadq_n hg 0 dX6_may_6 rfl ?_
  refine r_ifnull hg 25 dX6_may_7 (by decide) ?_ ?_
  · refine r_iconst hg (-1) dX6_may_25 (by decide) ?_
    exact r_iret hg dX6_may_26 rfl rfl
  · refine r_iload_n hg 3 dX6_may_10 rfl ?_
    refine r_if_eq hg 25 dX6_may_11 (by decide) ?_ ?_
    · refine r_iconst hg (-1) dX6_may_25 (by decide) ?_
      exact r_iret hg dX6_may_26 rfl rfl
    · refine r_aload_n hg 1 dX6_may_14 rfl ?_
      refine q_getr (j := 3) hg rfl rfl rfl (by decide) iX6 kf_RX6_30 rfl dX6_may_15 ?_
      refine r_iload_n hg 3 dX6_may_18 rfl ?_
      refine q_callv1 hg (e_X1_hasAll N l w v2 σ2) kk_RX6_118 ki_X1_hasAll ks_RX1_X1_hasAll rfl rfl np_X1_hasAll (Nat.le_trans (by decide) hdp) rfl m_c1_nil (Nat.le_of_ble_eq_true rfl) dX6_may_19 (fun r3 σ4 => ?_)
      refine r_if_ne hg 27 dX6_may_22 (by decide) ?_ ?_
      · refine r_aload_n hg 1 dX6_may_27 rfl ?_
        refine q_getr (j := 3) hg rfl rfl rfl (by decide) iX6 kf_RX6_30 rfl dX6_may_28 ?_
        refine r_aloadq_n hg 0 dX6_may_31 rfl ?_
        refine r_iload_n hg 3 dX6_may_32 rfl ?_
        refine q_callv1 hg (e_X1_areOne N l w r1 v2 σ4) kk_RX6_122 ki_X1_areOne ks_RX1_X1_areOne rfl rfl np_X1_areOne (Nat.le_trans (by decide) hdp) rfl m_c1_nil (Nat.le_of_ble_eq_true rfl) dX6_may_33 (fun r5 σ6 => ?_)
        refine r_if_eq hg 43 dX6_may_36 (by decide) ?_ ?_
        · refine r_iconst hg 0 dX6_may_43 (by decide) ?_
          exact r_iret hg dX6_may_44 rfl rfl
        · refine r_iconst hg 1 dX6_may_39 (by decide) ?_
          refine r_goto hg 44 dX6_may_40 (by decide) ?_
          exact r_iret hg dX6_may_44 rfl rfl
      · refine r_iconst hg (-1) dX6_may_25 (by decide) ?_
        exact r_iret hg dX6_may_26 rfl rfl
set_option maxHeartbeats 4000000 in
set_option maxRecDepth 100000 in
theorem vb_X1_sumBefore_5 {N : Nat} (hg : m_ok (p, l, e, d, s, m, args, below, meth, c) w shC cX1_sumBefore 5 RX1 (some .int)) (hdp : 1 ≤ d) {K5 : Int32 → Int32 → Int32 → Int32 → Mem → Option (Int32 × Mem)} (hK5 : ∀ (x1 x2 x3 x4 : Int32) (σ : Mem), Vj (p, l, e, d, s, m, args, below, meth, c) w shC 5 1 σ 5 [(0, .ref (w.2.1 18)), (1, .int x1), (2, .int x2), (3, .int x3), (4, .int x4)] [] (K5 x1 x2 x3 x4 σ)) (x1 x2 x3 x4 : Int32) (σ : Mem) : Vj (p, l, e, d, s, m, args, below, meth, c) w shC 5 1 σ 5 [(0, .ref (w.2.1 18)), (1, .int x1), (2, .int x2), (3, .int x3), (4, .int x4)] [] (b_X1_sumBefore_5 N K5 x1 x2 x3 x4 σ) := by
  unfold b_X1_sumBefore_5
  refine r_iload hg 4 dX1_sumBefore_5 rfl ?_
  refine r_aload_n hg 0 dX1_sumBefore_7 rfl ?_
  refine q_geti (j := 6) hg rfl rfl rfl (by decide) iX1 kf_RX1_30 rfl dX1_sumBefore_8 ?_
  refine r_icmp_ge hg 50 dX1_sumBefore_11 (by decide) ?_ ?_
  · refine r_iload_n hg 3 dX1_sumBefore_50 rfl ?_
    exact r_iret hg dX1_sumBefore_51 rfl rfl
  · refine r_iload hg 4 dX1_sumBefore_14 rfl ?_
    refine r_iload_n hg 1 dX1_sumBefore_16 rfl ?_
    refine q_calls1 hg (e_X1_isIn N l w x4 x1 σ) kk_RX1_42 kt_X1_isIn np_X1_isIn (Nat.le_trans (by decide) hdp) rfl m_c1_nil (Nat.le_of_ble_eq_true rfl) dX1_sumBefore_17 (fun r1 σ2 => ?_)
    refine r_if_eq hg 44 dX1_sumBefore_20 (by decide) ?_ ?_
    · refine r_iinc (lv' := [(4, .int (x4 + 1)), (0, .ref (w.2.1 18)), (1, .int x1), (2, .int x2), (3, .int x3)]) hg 4 (x4 + 1) dX1_sumBefore_44 rfl rfl (by decide) rfl ?_
      refine r_goto hg 5 dX1_sumBefore_47 (by decide) ?_
      refine r_lv [1, 2, 3, 4, 0] rfl ?_
      exact hK5 x1 x2 x3 (x4 + 1) σ2
    · refine r_aload_n hg 0 dX1_sumBefore_23 rfl ?_
      refine q_getr (j := 1) hg rfl rfl rfl (by decide) iX1 kf_RX1_15 rfl dX1_sumBefore_24 ?_
      refine r_iload hg 4 dX1_sumBefore_27 rfl ?_
      refine r_iaload (n := 12) hg rfl dX1_sumBefore_29 ?_
      refine r_iload_n hg 2 dX1_sumBefore_30 rfl ?_
      refine r_icmp_ge hg 44 dX1_sumBefore_31 (by decide) ?_ ?_
      · refine r_iinc (lv' := [(4, .int (x4 + 1)), (0, .ref (w.2.1 18)), (1, .int x1), (2, .int x2), (3, .int x3)]) hg 4 (x4 + 1) dX1_sumBefore_44 rfl rfl (by decide) rfl ?_
        refine r_goto hg 5 dX1_sumBefore_47 (by decide) ?_
        refine r_lv [1, 2, 3, 4, 0] rfl ?_
        exact hK5 x1 x2 x3 (x4 + 1) σ2
      · refine r_iload_n hg 3 dX1_sumBefore_34 rfl ?_
        refine r_aload_n hg 0 dX1_sumBefore_35 rfl ?_
        refine q_getr (j := 0) hg rfl rfl rfl (by decide) iX1 kf_RX1_9 rfl dX1_sumBefore_36 ?_
        refine r_iload hg 4 dX1_sumBefore_39 rfl ?_
        refine r_iaload (n := 12) hg rfl dX1_sumBefore_41 ?_
        refine r_iadd hg dX1_sumBefore_42 ?_
        refine q_name (fun u3 => ?_)
        refine r_istore_n (lv' := [(3, .int u3), (0, .ref (w.2.1 18)), (1, .int x1), (2, .int x2), (4, .int x4)]) hg dX1_sumBefore_43 (by decide) rfl ?_
        refine r_iinc (lv' := [(4, .int (x4 + 1)), (3, .int u3), (0, .ref (w.2.1 18)), (1, .int x1), (2, .int x2)]) hg 4 (x4 + 1) dX1_sumBefore_44 rfl rfl (by decide) rfl ?_
        refine r_goto hg 5 dX1_sumBefore_47 (by decide) ?_
        refine r_lv [2, 3, 4, 1, 0] rfl ?_
        exact hK5 x1 x2 u3 (x4 + 1) σ2
set_option maxHeartbeats 4000000 in
set_option maxRecDepth 100000 in
theorem vl_X1_sumBefore_5 {N : Nat} (hg : m_ok (p, l, e, d, s, m, args, below, meth, c) w shC cX1_sumBefore 5 RX1 (some .int)) (hdp : 1 ≤ d) : ∀ (n : Nat) (x1 x2 x3 x4 : Int32) (σ : Mem), Vj (p, l, e, d, s, m, args, below, meth, c) w shC 5 1 σ 5 [(0, .ref (w.2.1 18)), (1, .int x1), (2, .int x2), (3, .int x3), (4, .int x4)] [] (l_X1_sumBefore_5 N n x1 x2 x3 x4 σ)
| 0, _, _, _, _, _ => Vj.none
| n + 1, x1, x2, x3, x4, σ => vb_X1_sumBefore_5 hg hdp (fun x1 x2 x3 x4 σ => vl_X1_sumBefore_5 hg hdp n x1 x2 x3 x4 σ) x1 x2 x3 x4 σ
set_option maxHeartbeats 4000000 in
set_option maxRecDepth 100000 in
theorem e_X1_sumBefore (N : Nat) (l : Launch) (w : mW) (v1 v2 : Int32) (σ : Mem) : Ev l w shC yX1_sumBefore cX1_sumBefore 5 (some .int) 1 1 [.ref (w.2.1 18), .int v1, .int v2] σ (f_X1_sumBefore N v1 v2 σ) := by
  refine Ev.of (by decide) (m_c1_r (m_c1_i (m_c1_i m_c1_nil))) (Nat.le_of_ble_eq_true rfl) (fun p e s m args below meth c hg => ?_)
  have hdp := Nat.le_refl 1
  unfold f_X1_sumBefore
  show Vj (p, l, e, 1, s, m, args, below, meth, c) w shC 5 1 σ 0 [(0, .ref (w.2.1 18)), (1, .int v1), (2, .int v2)] [] _
  refine r_iconst hg 0 dX1_sumBefore_0 (by decide) ?_
  refine r_istore_n (lv' := [(3, .int 0), (0, .ref (w.2.1 18)), (1, .int v1), (2, .int v2)]) hg dX1_sumBefore_1 (by decide) rfl ?_
  refine r_iconst hg 0 dX1_sumBefore_2 (by decide) ?_
  refine r_istore (lv' := [(4, .int 0), (3, .int 0), (0, .ref (w.2.1 18)), (1, .int v1), (2, .int v2)]) hg dX1_sumBefore_3 (by decide) rfl ?_
  refine r_lv [2, 3, 4, 1, 0] rfl ?_
  exact vl_X1_sumBefore_5 hg hdp N v1 v2 0 0 σ
set_option maxHeartbeats 4000000 in
set_option maxRecDepth 100000 in
theorem e_X1_sumOf (N : Nat) (l : Launch) (w : mW) (v1 : Int32) (σ : Mem) : Ev l w shC yX1_sumOf cX1_sumOf 2 (some .int) 1 2 [.ref (w.2.1 18), .int v1] σ (f_X1_sumOf N v1 σ) := by
  refine Ev.of (by decide) (m_c1_r (m_c1_i m_c1_nil)) (Nat.le_of_ble_eq_true rfl) (fun p e s m args below meth c hg => ?_)
  have hdp := Nat.le_refl 2
  unfold f_X1_sumOf
  show Vj (p, l, e, 2, s, m, args, below, meth, c) w shC 2 1 σ 0 [(0, .ref (w.2.1 18)), (1, .int v1)] [] _
  refine r_aload_n hg 0 dX1_sumOf_0 rfl ?_
  refine r_iload_n hg 1 dX1_sumOf_1 rfl ?_
  refine r_sipush hg 1000 dX1_sumOf_2 (by decide) ?_
  refine q_callv1 hg (e_X1_sumBefore N l w v1 1000 σ) kk_RX1_38 ki_X1_sumBefore ks_RX1_X1_sumBefore rfl rfl np_X1_sumBefore (Nat.le_trans (by decide) hdp) rfl m_c1_nil (Nat.le_of_ble_eq_true rfl) dX1_sumOf_5 (fun r1 σ2 => ?_)
  exact r_iret hg dX1_sumOf_8 rfl rfl
set_option maxHeartbeats 4000000 in
set_option maxRecDepth 100000 in
theorem vj_X0_payFor_22 {N : Nat} (hg : m_ok (p, l, e, d, s, m, args, below, meth, c) w shC cX0_payFor 3 RX0 (some .int)) (hdp : 0 ≤ d) (x0 y0 : Int32) (σ : Mem) : Vj (p, l, e, d, s, m, args, below, meth, c) w shC 3 1 σ 22 [(0, m_rf w.2.1 x0)] [.int y0] (j_X0_payFor_22 N x0 y0 σ) := by
  unfold j_X0_payFor_22
  refine r_istore_n (lv' := [(2, .int y0), (0, m_rf w.2.1 x0)]) hg dX0_payFor_22 (by decide) rfl ?_
  refine r_iload_n hg 0 dX0_payFor_23 rfl ?_
  refine r_aloadq_n hg 1 dX0_payFor_24 rfl ?_
  refine q_getq (b := 8) hg shC_q rfl (by decide) iX0 kf_RX0_9 rfl dX0_payFor_25 (fun h1 => ?_)
  refine r_bipush hg 6 dX0_payFor_28 (by decide) ?_
  refine r_iaload (n := 10) hg (shC_w h1) dX0_payFor_30 ?_
  refine r_icmp_ge hg 38 dX0_payFor_31 (by decide) ?_ ?_
  · refine r_aloadq_n hg 1 dX0_payFor_38 rfl ?_
    refine q_getq (b := 8) hg shC_q rfl (by decide) iX0 kf_RX0_9 rfl dX0_payFor_39 (fun h2 => ?_)
    refine r_bipush hg 6 dX0_payFor_42 (by decide) ?_
    refine r_iaload (n := 10) hg (shC_w h2) dX0_payFor_44 ?_
    exact r_iret hg dX0_payFor_45 rfl rfl
  · refine r_iload_n hg 0 dX0_payFor_34 rfl ?_
    refine r_goto hg 45 dX0_payFor_35 (by decide) ?_
    exact r_iret hg dX0_payFor_45 rfl rfl
set_option maxHeartbeats 4000000 in
set_option maxRecDepth 100000 in
theorem e_X0_payFor (N : Nat) (l : Launch) (w : mW) (v0 v1 : Int32) (σ : Mem) : Ev l w shC yX0_payFor cX0_payFor 3 (some .int) 1 0 [m_rf w.2.1 v0, .int v1] σ (f_X0_payFor N v0 v1 σ) := by
  refine Ev.of (by decide) (m_c1_q (m_c1_i m_c1_nil)) (Nat.le_of_ble_eq_true rfl) (fun p e s m args below meth c hg => ?_)
  have hdp := Nat.le_refl 0
  unfold f_X0_payFor
  show Vj (p, l, e, 0, s, m, args, below, meth, c) w shC 3 1 σ 0 [(0, m_rf w.2.1 v0), (1, .int v1)] [] _
  refine r_iload_n hg 1 dX0_payFor_0 rfl ?_
  refine r_aloadq_n hg 0 dX0_payFor_1 rfl ?_
  refine q_getq (b := 8) hg shC_q rfl (by decide) iX0 kf_RX0_9 rfl dX0_payFor_2 (fun h1 => ?_)
  refine r_iconst hg 5 dX0_payFor_5 (by decide) ?_
  refine r_iaload (n := 10) hg (shC_w h1) dX0_payFor_6 ?_
  refine r_icmp_le hg 21 dX0_payFor_7 (by decide) ?_ ?_
  · refine r_iconst hg 0 dX0_payFor_21 (by decide) ?_
    refine r_lv [0] rfl ?_
    exact vj_X0_payFor_22 hg hdp v0 0 σ
  · refine r_iload_n hg 1 dX0_payFor_10 rfl ?_
    refine r_aloadq_n hg 0 dX0_payFor_11 rfl ?_
    refine q_getq (b := 8) hg shC_q rfl (by decide) iX0 kf_RX0_9 rfl dX0_payFor_12 (fun h2 => ?_)
    refine r_iconst hg 5 dX0_payFor_15 (by decide) ?_
    refine r_iaload (n := 10) hg (shC_w h2) dX0_payFor_16 ?_
    refine r_isub hg dX0_payFor_17 ?_
    refine r_goto hg 22 dX0_payFor_18 (by decide) ?_
    refine r_lv [0] rfl ?_
    exact vj_X0_payFor_22 hg hdp v0 (v1 - (σ (8 + v0.toNatClampNeg) (Int32.toNatClampNeg 5))) σ
set_option maxHeartbeats 4000000 in
set_option maxRecDepth 100000 in
theorem e_X6_paid (N : Nat) (l : Launch) (w : mW) (v1 v2 : Int32) (σ : Mem) : Ev l w shC yX6_paid cX6_paid 4 (some .int) 1 3 [.ref (w.2.1 16), .int v1, .int v2] σ (f_X6_paid N v1 v2 σ) := by
  refine Ev.of (by decide) (m_c1_r (m_c1_i (m_c1_i m_c1_nil))) (Nat.le_of_ble_eq_true rfl) (fun p e s m args below meth c hg => ?_)
  have hdp := Nat.le_refl 3
  unfold f_X6_paid
  show Vj (p, l, e, 3, s, m, args, below, meth, c) w shC 4 1 σ 0 [(0, .ref (w.2.1 16)), (1, .int v1), (2, .int v2)] [] _
  refine r_aload_n hg 0 dX6_paid_0 rfl ?_
  refine r_iload_n hg 1 dX6_paid_1 rfl ?_
  refine q_callv2 hg (e_X6_coverAt N l w v1 σ) kk_RX6_83 ki_X6_coverAt ks_RX6_X6_coverAt rfl rfl np_X6_coverAt (Nat.le_trans (by decide) hdp) rfl m_c1_nil (Nat.le_of_ble_eq_true rfl) dX6_paid_2 (fun r1 σ2 => ?_)
  refine r_astoreq_n (lv' := [(3, m_rf w.2.1 r1), (0, .ref (w.2.1 16)), (1, .int v1), (2, .int v2)]) hg dX6_paid_5 (by decide) rfl ?_
  refine r_aloadq_n hg 0 dX6_paid_6 rfl ?_
  refine r_ifnull hg 25 dX6_paid_7 (by decide) ?_ ?_
  · refine r_iconst hg (-1) dX6_paid_25 (by decide) ?_
    exact r_iret hg dX6_paid_26 rfl rfl
  · refine r_iload_n hg 3 dX6_paid_10 rfl ?_
    refine r_if_eq hg 25 dX6_paid_11 (by decide) ?_ ?_
    · refine r_iconst hg (-1) dX6_paid_25 (by decide) ?_
      exact r_iret hg dX6_paid_26 rfl rfl
    · refine r_aload_n hg 1 dX6_paid_14 rfl ?_
      refine q_getr (j := 3) hg rfl rfl rfl (by decide) iX6 kf_RX6_30 rfl dX6_paid_15 ?_
      refine r_iload_n hg 3 dX6_paid_18 rfl ?_
      refine q_callv1 hg (e_X1_hasAll N l w v2 σ2) kk_RX6_118 ki_X1_hasAll ks_RX1_X1_hasAll rfl rfl np_X1_hasAll (Nat.le_trans (by decide) hdp) rfl m_c1_nil (Nat.le_of_ble_eq_true rfl) dX6_paid_19 (fun r3 σ4 => ?_)
      refine r_if_ne hg 27 dX6_paid_22 (by decide) ?_ ?_
      · refine r_aloadq_n hg 0 dX6_paid_27 rfl ?_
        refine r_aload_n hg 1 dX6_paid_28 rfl ?_
        refine q_getr (j := 3) hg rfl rfl rfl (by decide) iX6 kf_RX6_30 rfl dX6_paid_29 ?_
        refine r_iload_n hg 3 dX6_paid_32 rfl ?_
        refine q_callv1 hg (e_X1_sumOf N l w v2 σ4) kk_RX6_126 ki_X1_sumOf ks_RX1_X1_sumOf rfl rfl np_X1_sumOf (Nat.le_trans (by decide) hdp) rfl (m_c1_q m_c1_nil) (Nat.le_of_ble_eq_true rfl) dX6_paid_33 (fun r5 σ6 => ?_)
        refine q_callq1 hg (e_X0_payFor N l w r1 r5 σ6) kk_RX6_129 ki_X0_payFor ks_RX0_X0_payFor shC_q2 np_X0_payFor (Nat.le_trans (by decide) hdp) rfl m_c1_nil (Nat.le_of_ble_eq_true rfl) dX6_paid_36 (fun r7 σ8 => ?_)
        exact r_iret hg dX6_paid_39 rfl rfl
      · refine r_iconst hg (-1) dX6_paid_25 (by decide) ?_
        exact r_iret hg dX6_paid_26 rfl rfl
set_option maxHeartbeats 4000000 in
set_option maxRecDepth 100000 in
theorem e_X1_has (N : Nat) (l : Launch) (w : mW) (v1 : Int32) (σ : Mem) : Ev l w shC yX1_has cX1_has 2 (some .boolean) 1 0 [.ref (w.2.1 18), .int v1] σ (f_X1_has N v1 σ) := by
  refine Ev.of (by decide) (m_c1_r (m_c1_i m_c1_nil)) (Nat.le_of_ble_eq_true rfl) (fun p e s m args below meth c hg => ?_)
  have hdp := Nat.le_refl 0
  unfold f_X1_has
  show Vj (p, l, e, 0, s, m, args, below, meth, c) w shC 2 1 σ 0 [(0, .ref (w.2.1 18)), (1, .int v1)] [] _
  refine r_iload_n hg 1 dX1_has_0 rfl ?_
  refine r_if_lt hg 16 dX1_has_1 (by decide) ?_ ?_
  · refine r_iconst hg 0 dX1_has_16 (by decide) ?_
    exact r_zret hg dX1_has_17 rfl rfl
  · refine r_iload_n hg 1 dX1_has_4 rfl ?_
    refine r_aload_n hg 0 dX1_has_5 rfl ?_
    refine q_geti (j := 6) hg rfl rfl rfl (by decide) iX1 kf_RX1_30 rfl dX1_has_6 ?_
    refine r_icmp_ge hg 16 dX1_has_9 (by decide) ?_ ?_
    · refine r_iconst hg 0 dX1_has_16 (by decide) ?_
      exact r_zret hg dX1_has_17 rfl rfl
    · refine r_iconst hg 1 dX1_has_12 (by decide) ?_
      refine r_goto hg 17 dX1_has_13 (by decide) ?_
      exact r_zret hg dX1_has_17 rfl rfl
set_option maxHeartbeats 4000000 in
set_option maxRecDepth 100000 in
theorem e_X6_put (N : Nat) (l : Launch) (w : mW) (v1 v2 : Int32) (σ : Mem) : Ev l w shC yX6_put cX6_put 3 (some .boolean) 1 1 [.ref (w.2.1 16), .int v1, .int v2] σ (f_X6_put N v1 v2 σ) := by
  refine Ev.of (by decide) (m_c1_r (m_c1_i (m_c1_i m_c1_nil))) (Nat.le_of_ble_eq_true rfl) (fun p e s m args below meth c hg => ?_)
  have hdp := Nat.le_refl 1
  unfold f_X6_put
  show Vj (p, l, e, 1, s, m, args, below, meth, c) w shC 3 1 σ 0 [(0, .ref (w.2.1 16)), (1, .int v1), (2, .int v2)] [] _
  refine r_aload_n hg 0 dX6_put_0 rfl ?_
  refine q_getr (j := 3) hg rfl rfl rfl (by decide) iX6 kf_RX6_30 rfl dX6_put_1 ?_
  refine r_iload_n hg 1 dX6_put_4 rfl ?_
  refine q_callv1 hg (e_X1_has N l w v1 σ) kk_RX6_132 ki_X1_has ks_RX1_X1_has rfl rfl np_X1_has (Nat.le_trans (by decide) hdp) rfl m_c1_nil (Nat.le_of_ble_eq_true rfl) dX6_put_5 (fun r1 σ2 => ?_)
  refine r_if_eq hg 21 dX6_put_8 (by decide) ?_ ?_
  · refine r_iconst hg 0 dX6_put_21 (by decide) ?_
    exact r_zret hg dX6_put_22 rfl rfl
  · refine r_iload_n hg 2 dX6_put_11 rfl ?_
    refine r_iconst hg 0 dX6_put_12 (by decide) ?_
    refine r_bipush hg 15 dX6_put_13 (by decide) ?_
    refine q_calls1 hg (e_X6_isWithin N l w v2 0 15 σ2) kk_RX6_87 kt_X6_isWithin np_X6_isWithin (Nat.le_trans (by decide) hdp) rfl m_c1_nil (Nat.le_of_ble_eq_true rfl) dX6_put_15 (fun r3 σ4 => ?_)
    refine r_if_ne hg 23 dX6_put_18 (by decide) ?_ ?_
    · refine r_aload_n hg 0 dX6_put_23 rfl ?_
      refine q_getr (j := 4) hg rfl rfl rfl (by decide) iX6 kf_RX6_39 rfl dX6_put_24 ?_
      refine q_getr (j := 0) hg rfl rfl rfl (by decide) iX5 kf_RX6_135 rfl dX6_put_27 ?_
      refine r_iload_n hg 1 dX6_put_30 rfl ?_
      refine r_iload_n hg 2 dX6_put_31 rfl ?_
      refine q_iastore (n := 12) hg rfl dX6_put_32 (fun σ5 => ?_)
      refine r_iconst hg 1 dX6_put_33 (by decide) ?_
      exact r_zret hg dX6_put_34 rfl rfl
    · refine r_iconst hg 0 dX6_put_21 (by decide) ?_
      exact r_zret hg dX6_put_22 rfl rfl
set_option maxHeartbeats 4000000 in
set_option maxRecDepth 100000 in
theorem vb_X5_happeningOf_4 {N : Nat} (hg : m_ok (p, l, e, d, s, m, args, below, meth, c) w shC cX5_happeningOf 4 RX5 (some .int)) (hdp : 0 ≤ d) {K4 : Int32 → Int32 → Int32 → Mem → Option (Int32 × Mem)} (hK4 : ∀ (x1 x2 x3 : Int32) (σ : Mem), Vj (p, l, e, d, s, m, args, below, meth, c) w shC 4 1 σ 4 [(0, .ref (w.2.1 19)), (1, .int x1), (2, .int x2), (3, .int x3)] [] (K4 x1 x2 x3 σ)) (x1 x2 x3 : Int32) (σ : Mem) : Vj (p, l, e, d, s, m, args, below, meth, c) w shC 4 1 σ 4 [(0, .ref (w.2.1 19)), (1, .int x1), (2, .int x2), (3, .int x3)] [] (b_X5_happeningOf_4 N K4 x1 x2 x3 σ) := by
  unfold b_X5_happeningOf_4
  refine r_iload_n hg 3 dX5_happeningOf_4 rfl ?_
  refine r_aload_n hg 0 dX5_happeningOf_5 rfl ?_
  refine q_getr (j := 4) hg rfl rfl rfl (by decide) iX5 kf_RX5_9 rfl dX5_happeningOf_6 ?_
  refine q_geti (j := 6) hg rfl rfl rfl (by decide) iX1 kf_RX5_22 rfl dX5_happeningOf_9 ?_
  refine r_icmp_ge hg 42 dX5_happeningOf_12 (by decide) ?_ ?_
  · refine r_iload_n hg 2 dX5_happeningOf_42 rfl ?_
    exact r_iret hg dX5_happeningOf_43 rfl rfl
  · refine r_aload_n hg 0 dX5_happeningOf_15 rfl ?_
    refine q_getr (j := 0) hg rfl rfl rfl (by decide) iX5 kf_RX5_15 rfl dX5_happeningOf_16 ?_
    refine r_iload_n hg 3 dX5_happeningOf_19 rfl ?_
    refine r_iaload (n := 12) hg rfl dX5_happeningOf_20 ?_
    refine r_aload_n hg 0 dX5_happeningOf_21 rfl ?_
    refine q_getr (j := 0) hg rfl rfl rfl (by decide) iX5 kf_RX5_15 rfl dX5_happeningOf_22 ?_
    refine r_iload_n hg 1 dX5_happeningOf_25 rfl ?_
    refine r_iaload (n := 12) hg rfl dX5_happeningOf_26 ?_
    refine r_icmp_ne hg 36 dX5_happeningOf_27 (by decide) ?_ ?_
    · refine r_iinc (lv' := [(3, .int (x3 + 1)), (0, .ref (w.2.1 19)), (1, .int x1), (2, .int x2)]) hg 3 (x3 + 1) dX5_happeningOf_36 rfl rfl (by decide) rfl ?_
      refine r_goto hg 4 dX5_happeningOf_39 (by decide) ?_
      refine r_lv [1, 2, 3, 0] rfl ?_
      exact hK4 x1 x2 (x3 + 1) σ
    · refine r_iload_n hg 2 dX5_happeningOf_30 rfl ?_
      refine r_iconst hg 1 dX5_happeningOf_31 (by decide) ?_
      refine r_iload_n hg 3 dX5_happeningOf_32 rfl ?_
      refine r_ishl hg dX5_happeningOf_33 ?_
      refine r_ior hg dX5_happeningOf_34 ?_
      refine q_name (fun u1 => ?_)
      refine r_istore_n (lv' := [(2, .int u1), (0, .ref (w.2.1 19)), (1, .int x1), (3, .int x3)]) hg dX5_happeningOf_35 (by decide) rfl ?_
      refine r_iinc (lv' := [(3, .int (x3 + 1)), (2, .int u1), (0, .ref (w.2.1 19)), (1, .int x1)]) hg 3 (x3 + 1) dX5_happeningOf_36 rfl rfl (by decide) rfl ?_
      refine r_goto hg 4 dX5_happeningOf_39 (by decide) ?_
      refine r_lv [2, 3, 1, 0] rfl ?_
      exact hK4 x1 u1 (x3 + 1) σ
set_option maxHeartbeats 4000000 in
set_option maxRecDepth 100000 in
theorem vl_X5_happeningOf_4 {N : Nat} (hg : m_ok (p, l, e, d, s, m, args, below, meth, c) w shC cX5_happeningOf 4 RX5 (some .int)) (hdp : 0 ≤ d) : ∀ (n : Nat) (x1 x2 x3 : Int32) (σ : Mem), Vj (p, l, e, d, s, m, args, below, meth, c) w shC 4 1 σ 4 [(0, .ref (w.2.1 19)), (1, .int x1), (2, .int x2), (3, .int x3)] [] (l_X5_happeningOf_4 N n x1 x2 x3 σ)
| 0, _, _, _, _ => Vj.none
| n + 1, x1, x2, x3, σ => vb_X5_happeningOf_4 hg hdp (fun x1 x2 x3 σ => vl_X5_happeningOf_4 hg hdp n x1 x2 x3 σ) x1 x2 x3 σ
set_option maxHeartbeats 4000000 in
set_option maxRecDepth 100000 in
theorem e_X5_happeningOf (N : Nat) (l : Launch) (w : mW) (v1 : Int32) (σ : Mem) : Ev l w shC yX5_happeningOf cX5_happeningOf 4 (some .int) 1 0 [.ref (w.2.1 19), .int v1] σ (f_X5_happeningOf N v1 σ) := by
  refine Ev.of (by decide) (m_c1_r (m_c1_i m_c1_nil)) (Nat.le_of_ble_eq_true rfl) (fun p e s m args below meth c hg => ?_)
  have hdp := Nat.le_refl 0
  unfold f_X5_happeningOf
  show Vj (p, l, e, 0, s, m, args, below, meth, c) w shC 4 1 σ 0 [(0, .ref (w.2.1 19)), (1, .int v1)] [] _
  refine r_iconst hg 0 dX5_happeningOf_0 (by decide) ?_
  refine r_istore_n (lv' := [(2, .int 0), (0, .ref (w.2.1 19)), (1, .int v1)]) hg dX5_happeningOf_1 (by decide) rfl ?_
  refine r_iconst hg 0 dX5_happeningOf_2 (by decide) ?_
  refine r_istore_n (lv' := [(3, .int 0), (2, .int 0), (0, .ref (w.2.1 19)), (1, .int v1)]) hg dX5_happeningOf_3 (by decide) rfl ?_
  refine r_lv [2, 3, 1, 0] rfl ?_
  exact vl_X5_happeningOf_4 hg hdp N v1 0 0 σ
set_option maxHeartbeats 4000000 in
set_option maxRecDepth 100000 in
theorem e_X0_overlaps (N : Nat) (l : Launch) (w : mW) (v0 : Int32) (σ : Mem) : Ev l w shC yX0_overlaps cX0_overlaps 1 (some .boolean) 1 0 [m_rf w.2.1 v0] σ (f_X0_overlaps N v0 σ) := by
  refine Ev.of (by decide) (m_c1_q m_c1_nil) (Nat.le_of_ble_eq_true rfl) (fun p e s m args below meth c hg => ?_)
  have hdp := Nat.le_refl 0
  unfold f_X0_overlaps
  show Vj (p, l, e, 0, s, m, args, below, meth, c) w shC 1 1 σ 0 [(0, m_rf w.2.1 v0)] [] _
  refine r_aloadq_n hg 0 dX0_overlaps_0 rfl ?_
  refine q_getq (b := 8) hg shC_q rfl (by decide) iX0 kf_RX0_9 rfl dX0_overlaps_1 (fun h1 => ?_)
  refine r_iconst hg 3 dX0_overlaps_4 (by decide) ?_
  refine r_iaload (n := 10) hg (shC_w h1) dX0_overlaps_5 ?_
  refine r_iconst hg 1 dX0_overlaps_6 (by decide) ?_
  refine r_icmp_ne hg 14 dX0_overlaps_7 (by decide) ?_ ?_
  · refine r_iconst hg 0 dX0_overlaps_14 (by decide) ?_
    exact r_zret hg dX0_overlaps_15 rfl rfl
  · refine r_iconst hg 1 dX0_overlaps_10 (by decide) ?_
    refine r_goto hg 15 dX0_overlaps_11 (by decide) ?_
    exact r_zret hg dX0_overlaps_15 rfl rfl
set_option maxHeartbeats 4000000 in
set_option maxRecDepth 100000 in
theorem vb_X1_greatestHourOf_4 {N : Nat} (hg : m_ok (p, l, e, d, s, m, args, below, meth, c) w shC cX1_greatestHourOf 4 RX1 (some .int)) (hdp : 1 ≤ d) {K4 : Int32 → Int32 → Int32 → Mem → Option (Int32 × Mem)} (hK4 : ∀ (x1 x2 x3 : Int32) (σ : Mem), Vj (p, l, e, d, s, m, args, below, meth, c) w shC 4 1 σ 4 [(0, .ref (w.2.1 18)), (1, .int x1), (2, .int x2), (3, .int x3)] [] (K4 x1 x2 x3 σ)) (x1 x2 x3 : Int32) (σ : Mem) : Vj (p, l, e, d, s, m, args, below, meth, c) w shC 4 1 σ 4 [(0, .ref (w.2.1 18)), (1, .int x1), (2, .int x2), (3, .int x3)] [] (b_X1_greatestHourOf_4 N K4 x1 x2 x3 σ) := by
  unfold b_X1_greatestHourOf_4
  refine r_iload_n hg 3 dX1_greatestHourOf_4 rfl ?_
  refine r_aload_n hg 0 dX1_greatestHourOf_5 rfl ?_
  refine q_geti (j := 6) hg rfl rfl rfl (by decide) iX1 kf_RX1_30 rfl dX1_greatestHourOf_6 ?_
  refine r_icmp_ge hg 37 dX1_greatestHourOf_9 (by decide) ?_ ?_
  · refine r_iload_n hg 2 dX1_greatestHourOf_37 rfl ?_
    exact r_iret hg dX1_greatestHourOf_38 rfl rfl
  · refine r_iload_n hg 3 dX1_greatestHourOf_12 rfl ?_
    refine r_iload_n hg 1 dX1_greatestHourOf_13 rfl ?_
    refine q_calls1 hg (e_X1_isIn N l w x3 x1 σ) kk_RX1_42 kt_X1_isIn np_X1_isIn (Nat.le_trans (by decide) hdp) rfl m_c1_nil (Nat.le_of_ble_eq_true rfl) dX1_greatestHourOf_14 (fun r1 σ2 => ?_)
    refine r_if_eq hg 31 dX1_greatestHourOf_17 (by decide) ?_ ?_
    · refine r_iinc (lv' := [(3, .int (x3 + 1)), (0, .ref (w.2.1 18)), (1, .int x1), (2, .int x2)]) hg 3 (x3 + 1) dX1_greatestHourOf_31 rfl rfl (by decide) rfl ?_
      refine r_goto hg 4 dX1_greatestHourOf_34 (by decide) ?_
      refine r_lv [1, 2, 3, 0] rfl ?_
      exact hK4 x1 x2 (x3 + 1) σ2
    · refine r_iload_n hg 2 dX1_greatestHourOf_20 rfl ?_
      refine r_aload_n hg 0 dX1_greatestHourOf_21 rfl ?_
      refine q_getr (j := 1) hg rfl rfl rfl (by decide) iX1 kf_RX1_15 rfl dX1_greatestHourOf_22 ?_
      refine r_iload_n hg 3 dX1_greatestHourOf_25 rfl ?_
      refine r_iaload (n := 12) hg rfl dX1_greatestHourOf_26 ?_
      refine r_max hg km_RX1_51 kt_J9_max_7cf53 kz_RJ9 kc_J9_max_7cf53 (Nat.le_trans (by decide) hdp) m_c1_nil (Nat.le_of_ble_eq_true rfl) dX1_greatestHourOf_27 ?_
      refine q_name (fun u3 => ?_)
      refine r_istore_n (lv' := [(2, .int u3), (0, .ref (w.2.1 18)), (1, .int x1), (3, .int x3)]) hg dX1_greatestHourOf_30 (by decide) rfl ?_
      refine r_iinc (lv' := [(3, .int (x3 + 1)), (2, .int u3), (0, .ref (w.2.1 18)), (1, .int x1)]) hg 3 (x3 + 1) dX1_greatestHourOf_31 rfl rfl (by decide) rfl ?_
      refine r_goto hg 4 dX1_greatestHourOf_34 (by decide) ?_
      refine r_lv [2, 3, 1, 0] rfl ?_
      exact hK4 x1 u3 (x3 + 1) σ2
set_option maxHeartbeats 4000000 in
set_option maxRecDepth 100000 in
theorem vl_X1_greatestHourOf_4 {N : Nat} (hg : m_ok (p, l, e, d, s, m, args, below, meth, c) w shC cX1_greatestHourOf 4 RX1 (some .int)) (hdp : 1 ≤ d) : ∀ (n : Nat) (x1 x2 x3 : Int32) (σ : Mem), Vj (p, l, e, d, s, m, args, below, meth, c) w shC 4 1 σ 4 [(0, .ref (w.2.1 18)), (1, .int x1), (2, .int x2), (3, .int x3)] [] (l_X1_greatestHourOf_4 N n x1 x2 x3 σ)
| 0, _, _, _, _ => Vj.none
| n + 1, x1, x2, x3, σ => vb_X1_greatestHourOf_4 hg hdp (fun x1 x2 x3 σ => vl_X1_greatestHourOf_4 hg hdp n x1 x2 x3 σ) x1 x2 x3 σ
set_option maxHeartbeats 4000000 in
set_option maxRecDepth 100000 in
theorem e_X1_greatestHourOf (N : Nat) (l : Launch) (w : mW) (v1 : Int32) (σ : Mem) : Ev l w shC yX1_greatestHourOf cX1_greatestHourOf 4 (some .int) 1 1 [.ref (w.2.1 18), .int v1] σ (f_X1_greatestHourOf N v1 σ) := by
  refine Ev.of (by decide) (m_c1_r (m_c1_i m_c1_nil)) (Nat.le_of_ble_eq_true rfl) (fun p e s m args below meth c hg => ?_)
  have hdp := Nat.le_refl 1
  unfold f_X1_greatestHourOf
  show Vj (p, l, e, 1, s, m, args, below, meth, c) w shC 4 1 σ 0 [(0, .ref (w.2.1 18)), (1, .int v1)] [] _
  refine r_iconst hg 0 dX1_greatestHourOf_0 (by decide) ?_
  refine r_istore_n (lv' := [(2, .int 0), (0, .ref (w.2.1 18)), (1, .int v1)]) hg dX1_greatestHourOf_1 (by decide) rfl ?_
  refine r_iconst hg 0 dX1_greatestHourOf_2 (by decide) ?_
  refine r_istore_n (lv' := [(3, .int 0), (2, .int 0), (0, .ref (w.2.1 18)), (1, .int v1)]) hg dX1_greatestHourOf_3 (by decide) rfl ?_
  refine r_lv [2, 3, 1, 0] rfl ?_
  exact vl_X1_greatestHourOf_4 hg hdp N v1 0 0 σ
set_option maxHeartbeats 4000000 in
set_option maxRecDepth 100000 in
theorem vb_X1_leastHourOf_6 {N : Nat} (hg : m_ok (p, l, e, d, s, m, args, below, meth, c) w shC cX1_leastHourOf 4 RX1 (some .int)) (hdp : 1 ≤ d) {K6 : Int32 → Int32 → Int32 → Mem → Option (Int32 × Mem)} (hK6 : ∀ (x1 x2 x3 : Int32) (σ : Mem), Vj (p, l, e, d, s, m, args, below, meth, c) w shC 4 1 σ 6 [(0, .ref (w.2.1 18)), (1, .int x1), (2, .int x2), (3, .int x3)] [] (K6 x1 x2 x3 σ)) (x1 x2 x3 : Int32) (σ : Mem) : Vj (p, l, e, d, s, m, args, below, meth, c) w shC 4 1 σ 6 [(0, .ref (w.2.1 18)), (1, .int x1), (2, .int x2), (3, .int x3)] [] (b_X1_leastHourOf_6 N K6 x1 x2 x3 σ) := by
  unfold b_X1_leastHourOf_6
  refine r_iload_n hg 3 dX1_leastHourOf_6 rfl ?_
  refine r_aload_n hg 0 dX1_leastHourOf_7 rfl ?_
  refine q_geti (j := 6) hg rfl rfl rfl (by decide) iX1 kf_RX1_30 rfl dX1_leastHourOf_8 ?_
  refine r_icmp_ge hg 39 dX1_leastHourOf_11 (by decide) ?_ ?_
  · refine r_iload_n hg 2 dX1_leastHourOf_39 rfl ?_
    exact r_iret hg dX1_leastHourOf_40 rfl rfl
  · refine r_iload_n hg 3 dX1_leastHourOf_14 rfl ?_
    refine r_iload_n hg 1 dX1_leastHourOf_15 rfl ?_
    refine q_calls1 hg (e_X1_isIn N l w x3 x1 σ) kk_RX1_42 kt_X1_isIn np_X1_isIn (Nat.le_trans (by decide) hdp) rfl m_c1_nil (Nat.le_of_ble_eq_true rfl) dX1_leastHourOf_16 (fun r1 σ2 => ?_)
    refine r_if_eq hg 33 dX1_leastHourOf_19 (by decide) ?_ ?_
    · refine r_iinc (lv' := [(3, .int (x3 + 1)), (0, .ref (w.2.1 18)), (1, .int x1), (2, .int x2)]) hg 3 (x3 + 1) dX1_leastHourOf_33 rfl rfl (by decide) rfl ?_
      refine r_goto hg 6 dX1_leastHourOf_36 (by decide) ?_
      refine r_lv [1, 2, 3, 0] rfl ?_
      exact hK6 x1 x2 (x3 + 1) σ2
    · refine r_iload_n hg 2 dX1_leastHourOf_22 rfl ?_
      refine r_aload_n hg 0 dX1_leastHourOf_23 rfl ?_
      refine q_getr (j := 1) hg rfl rfl rfl (by decide) iX1 kf_RX1_15 rfl dX1_leastHourOf_24 ?_
      refine r_iload_n hg 3 dX1_leastHourOf_27 rfl ?_
      refine r_iaload (n := 12) hg rfl dX1_leastHourOf_28 ?_
      refine r_min hg km_RX1_46 kt_J9_min_7cf53 kz_RJ9 kc_J9_min_7cf53 (Nat.le_trans (by decide) hdp) m_c1_nil (Nat.le_of_ble_eq_true rfl) dX1_leastHourOf_29 ?_
      refine q_name (fun u3 => ?_)
      refine r_istore_n (lv' := [(2, .int u3), (0, .ref (w.2.1 18)), (1, .int x1), (3, .int x3)]) hg dX1_leastHourOf_32 (by decide) rfl ?_
      refine r_iinc (lv' := [(3, .int (x3 + 1)), (2, .int u3), (0, .ref (w.2.1 18)), (1, .int x1)]) hg 3 (x3 + 1) dX1_leastHourOf_33 rfl rfl (by decide) rfl ?_
      refine r_goto hg 6 dX1_leastHourOf_36 (by decide) ?_
      refine r_lv [2, 3, 1, 0] rfl ?_
      exact hK6 x1 u3 (x3 + 1) σ2
set_option maxHeartbeats 4000000 in
set_option maxRecDepth 100000 in
theorem vl_X1_leastHourOf_6 {N : Nat} (hg : m_ok (p, l, e, d, s, m, args, below, meth, c) w shC cX1_leastHourOf 4 RX1 (some .int)) (hdp : 1 ≤ d) : ∀ (n : Nat) (x1 x2 x3 : Int32) (σ : Mem), Vj (p, l, e, d, s, m, args, below, meth, c) w shC 4 1 σ 6 [(0, .ref (w.2.1 18)), (1, .int x1), (2, .int x2), (3, .int x3)] [] (l_X1_leastHourOf_6 N n x1 x2 x3 σ)
| 0, _, _, _, _ => Vj.none
| n + 1, x1, x2, x3, σ => vb_X1_leastHourOf_6 hg hdp (fun x1 x2 x3 σ => vl_X1_leastHourOf_6 hg hdp n x1 x2 x3 σ) x1 x2 x3 σ
set_option maxHeartbeats 4000000 in
set_option maxRecDepth 100000 in
theorem e_X1_leastHourOf (N : Nat) (l : Launch) (w : mW) (v1 : Int32) (σ : Mem) : Ev l w shC yX1_leastHourOf cX1_leastHourOf 4 (some .int) 1 1 [.ref (w.2.1 18), .int v1] σ (f_X1_leastHourOf N v1 σ) := by
  refine Ev.of (by decide) (m_c1_r (m_c1_i m_c1_nil)) (Nat.le_of_ble_eq_true rfl) (fun p e s m args below meth c hg => ?_)
  have hdp := Nat.le_refl 1
  unfold f_X1_leastHourOf
  show Vj (p, l, e, 1, s, m, args, below, meth, c) w shC 4 1 σ 0 [(0, .ref (w.2.1 18)), (1, .int v1)] [] _
  refine r_sipush hg 999 dX1_leastHourOf_0 (by decide) ?_
  refine r_istore_n (lv' := [(2, .int 999), (0, .ref (w.2.1 18)), (1, .int v1)]) hg dX1_leastHourOf_3 (by decide) rfl ?_
  refine r_iconst hg 0 dX1_leastHourOf_4 (by decide) ?_
  refine r_istore_n (lv' := [(3, .int 0), (2, .int 999), (0, .ref (w.2.1 18)), (1, .int v1)]) hg dX1_leastHourOf_5 (by decide) rfl ?_
  refine r_lv [2, 3, 1, 0] rfl ?_
  exact vl_X1_leastHourOf_6 hg hdp N v1 999 0 σ
set_option maxHeartbeats 4000000 in
set_option maxRecDepth 100000 in
theorem vj_X5_areTooNear_26 {N : Nat} (hg : m_ok (p, l, e, d, s, m, args, below, meth, c) w shC cX5_areTooNear 6 RX5 (some .boolean)) (hdp : 2 ≤ d) (x1 x2 x3 y0 : Int32) (σ : Mem) : Vj (p, l, e, d, s, m, args, below, meth, c) w shC 6 1 σ 26 [(0, .ref (w.2.1 19)), (1, .int x1), (2, .int x2), (3, .int x3)] [.int y0] (j_X5_areTooNear_26 N x1 x2 x3 y0 σ) := by
  unfold j_X5_areTooNear_26
  refine r_istore (lv' := [(4, .int y0), (0, .ref (w.2.1 19)), (1, .int x1), (2, .int x2), (3, .int x3)]) hg dX5_areTooNear_26 (by decide) rfl ?_
  refine r_aload_n hg 1 dX5_areTooNear_28 rfl ?_
  refine q_getr (j := 4) hg rfl rfl rfl (by decide) iX5 kf_RX5_9 rfl dX5_areTooNear_29 ?_
  refine r_iload_n hg 3 dX5_areTooNear_32 rfl ?_
  refine q_callv1 hg (e_X1_greatestHourOf N l w x2 σ) kk_RX5_58 ki_X1_greatestHourOf ks_RX1_X1_greatestHourOf rfl rfl np_X1_greatestHourOf (Nat.le_trans (by decide) hdp) rfl m_c1_nil (Nat.le_of_ble_eq_true rfl) dX5_areTooNear_33 (fun r1 σ2 => ?_)
  refine r_iload_n hg 4 dX5_areTooNear_36 rfl ?_
  refine r_iadd hg dX5_areTooNear_37 ?_
  refine r_aload_n hg 1 dX5_areTooNear_38 rfl ?_
  refine q_getr (j := 4) hg rfl rfl rfl (by decide) iX5 kf_RX5_9 rfl dX5_areTooNear_39 ?_
  refine r_iload_n hg 2 dX5_areTooNear_42 rfl ?_
  refine q_callv1 hg (e_X1_leastHourOf N l w x1 σ2) kk_RX5_61 ki_X1_leastHourOf ks_RX1_X1_leastHourOf rfl rfl np_X1_leastHourOf (Nat.le_trans (by decide) hdp) rfl (m_c1_i m_c1_nil) (Nat.le_of_ble_eq_true rfl) dX5_areTooNear_43 (fun r3 σ4 => ?_)
  refine r_icmp_ge hg 53 dX5_areTooNear_46 (by decide) ?_ ?_
  · refine r_iconst hg 0 dX5_areTooNear_53 (by decide) ?_
    refine r_istore (lv' := [(5, .int 0), (4, .int y0), (0, .ref (w.2.1 19)), (1, .int x1), (2, .int x2), (3, .int x3)]) hg dX5_areTooNear_54 (by decide) rfl ?_
    refine r_iload hg 1 dX5_areTooNear_56 rfl ?_
    refine r_if_ne hg 70 dX5_areTooNear_58 (by decide) ?_ ?_
    · refine r_iconst hg 0 dX5_areTooNear_70 (by decide) ?_
      exact r_zret hg dX5_areTooNear_71 rfl rfl
    · refine r_iload hg 0 dX5_areTooNear_61 rfl ?_
      refine q_name (fun u5 => ?_)
      refine r_if_ne hg 70 dX5_areTooNear_63 (by decide) ?_ ?_
      · refine r_iconst hg 0 dX5_areTooNear_70 (by decide) ?_
        exact r_zret hg dX5_areTooNear_71 rfl rfl
      · refine r_iconst hg 1 dX5_areTooNear_66 (by decide) ?_
        refine r_goto hg 71 dX5_areTooNear_67 (by decide) ?_
        exact r_zret hg dX5_areTooNear_71 rfl rfl
  · refine r_iconst hg 1 dX5_areTooNear_49 (by decide) ?_
    refine r_goto hg 54 dX5_areTooNear_50 (by decide) ?_
    refine r_istore (lv' := [(5, .int 1), (4, .int y0), (0, .ref (w.2.1 19)), (1, .int x1), (2, .int x2), (3, .int x3)]) hg dX5_areTooNear_54 (by decide) rfl ?_
    refine r_iload hg 1 dX5_areTooNear_56 rfl ?_
    refine r_if_ne hg 70 dX5_areTooNear_58 (by decide) ?_ ?_
    · refine r_iconst hg 0 dX5_areTooNear_70 (by decide) ?_
      exact r_zret hg dX5_areTooNear_71 rfl rfl
    · refine r_iload hg 0 dX5_areTooNear_61 rfl ?_
      refine q_name (fun u6 => ?_)
      refine r_if_ne hg 70 dX5_areTooNear_63 (by decide) ?_ ?_
      · refine r_iconst hg 0 dX5_areTooNear_70 (by decide) ?_
        exact r_zret hg dX5_areTooNear_71 rfl rfl
      · refine r_iconst hg 1 dX5_areTooNear_66 (by decide) ?_
        refine r_goto hg 71 dX5_areTooNear_67 (by decide) ?_
        exact r_zret hg dX5_areTooNear_71 rfl rfl
set_option maxHeartbeats 4000000 in
set_option maxRecDepth 100000 in
theorem e_X5_areTooNear (N : Nat) (l : Launch) (w : mW) (v1 v2 v3 : Int32) (σ : Mem) : Ev l w shC yX5_areTooNear cX5_areTooNear 6 (some .boolean) 1 2 [.ref (w.2.1 19), .int v1, .int v2, .int v3] σ (f_X5_areTooNear N v1 v2 v3 σ) := by
  refine Ev.of (by decide) (m_c1_r (m_c1_i (m_c1_i (m_c1_i m_c1_nil)))) (Nat.le_of_ble_eq_true rfl) (fun p e s m args below meth c hg => ?_)
  have hdp := Nat.le_refl 2
  unfold f_X5_areTooNear
  show Vj (p, l, e, 2, s, m, args, below, meth, c) w shC 6 1 σ 0 [(0, .ref (w.2.1 19)), (1, .int v1), (2, .int v2), (3, .int v3)] [] _
  refine r_aload_n hg 0 dX5_areTooNear_0 rfl ?_
  refine q_getr (j := 4) hg rfl rfl rfl (by decide) iX5 kf_RX5_9 rfl dX5_areTooNear_1 ?_
  refine r_iload_n hg 1 dX5_areTooNear_4 rfl ?_
  refine q_callv1 hg (e_X1_greatestHourOf N l w v1 σ) kk_RX5_58 ki_X1_greatestHourOf ks_RX1_X1_greatestHourOf rfl rfl np_X1_greatestHourOf (Nat.le_trans (by decide) hdp) rfl m_c1_nil (Nat.le_of_ble_eq_true rfl) dX5_areTooNear_5 (fun r1 σ2 => ?_)
  refine r_iload_n hg 3 dX5_areTooNear_8 rfl ?_
  refine r_iadd hg dX5_areTooNear_9 ?_
  refine r_aload_n hg 0 dX5_areTooNear_10 rfl ?_
  refine q_getr (j := 4) hg rfl rfl rfl (by decide) iX5 kf_RX5_9 rfl dX5_areTooNear_11 ?_
  refine r_iload_n hg 2 dX5_areTooNear_14 rfl ?_
  refine q_callv1 hg (e_X1_leastHourOf N l w v2 σ2) kk_RX5_61 ki_X1_leastHourOf ks_RX1_X1_leastHourOf rfl rfl np_X1_leastHourOf (Nat.le_trans (by decide) hdp) rfl (m_c1_i m_c1_nil) (Nat.le_of_ble_eq_true rfl) dX5_areTooNear_15 (fun r3 σ4 => ?_)
  refine r_icmp_ge hg 25 dX5_areTooNear_18 (by decide) ?_ ?_
  · refine r_iconst hg 0 dX5_areTooNear_25 (by decide) ?_
    exact vj_X5_areTooNear_26 hg hdp v1 v2 v3 0 σ4
  · refine r_iconst hg 1 dX5_areTooNear_21 (by decide) ?_
    refine r_goto hg 26 dX5_areTooNear_22 (by decide) ?_
    exact vj_X5_areTooNear_26 hg hdp v1 v2 v3 1 σ4
set_option maxHeartbeats 4000000 in
set_option maxRecDepth 100000 in
theorem e_X5_bar (N : Nat) (l : Launch) (w : mW) (v1 v2 v3 : Int32) (σ : Mem) : Ev l w shC yX5_bar cX5_bar 4 (some .boolean) 1 3 [.ref (w.2.1 19), m_rf w.2.1 v1, .int v2, .int v3] σ (f_X5_bar N v1 v2 v3 σ) := by
  refine Ev.of (by decide) (m_c1_r (m_c1_q (m_c1_i (m_c1_i m_c1_nil)))) (Nat.le_of_ble_eq_true rfl) (fun p e s m args below meth c hg => ?_)
  have hdp := Nat.le_refl 3
  unfold f_X5_bar
  show Vj (p, l, e, 3, s, m, args, below, meth, c) w shC 4 1 σ 0 [(0, .ref (w.2.1 19)), (1, m_rf w.2.1 v1), (2, .int v2), (3, .int v3)] [] _
  refine r_aload_n hg 0 dX5_bar_0 rfl ?_
  refine q_getr (j := 0) hg rfl rfl rfl (by decide) iX5 kf_RX5_15 rfl dX5_bar_1 ?_
  refine r_iload_n hg 2 dX5_bar_4 rfl ?_
  refine r_iaload (n := 12) hg rfl dX5_bar_5 ?_
  refine r_aload_n hg 0 dX5_bar_6 rfl ?_
  refine q_getr (j := 0) hg rfl rfl rfl (by decide) iX5 kf_RX5_15 rfl dX5_bar_7 ?_
  refine r_iload_n hg 3 dX5_bar_10 rfl ?_
  refine r_iaload (n := 12) hg rfl dX5_bar_11 ?_
  refine r_icmp_ne hg 39 dX5_bar_12 (by decide) ?_ ?_
  · refine r_aloadq_n hg 1 dX5_bar_39 rfl ?_
    refine q_callq1 hg (e_X0_overlaps N l w v1 σ) kk_RX5_45 ki_X0_overlaps ks_RX0_X0_overlaps shC_q2 np_X0_overlaps (Nat.le_trans (by decide) hdp) rfl m_c1_nil (Nat.le_of_ble_eq_true rfl) dX5_bar_40 (fun r1 σ2 => ?_)
    refine r_if_ne hg 73 dX5_bar_43 (by decide) ?_ ?_
    · refine r_iconst hg 0 dX5_bar_73 (by decide) ?_
      exact r_zret hg dX5_bar_74 rfl rfl
    · refine r_aload_n hg 0 dX5_bar_46 rfl ?_
      refine r_aload_n hg 0 dX5_bar_47 rfl ?_
      refine r_iload_n hg 2 dX5_bar_48 rfl ?_
      refine q_callv1 hg (e_X5_happeningOf N l w v2 σ2) kk_RX5_32 ki_X5_happeningOf ks_RX5_X5_happeningOf rfl rfl np_X5_happeningOf (Nat.le_trans (by decide) hdp) rfl (m_c1_r m_c1_nil) (Nat.le_of_ble_eq_true rfl) dX5_bar_49 (fun r3 σ4 => ?_)
      refine r_aload_n hg 0 dX5_bar_52 rfl ?_
      refine r_iload_n hg 3 dX5_bar_53 rfl ?_
      refine q_callv1 hg (e_X5_happeningOf N l w v3 σ4) kk_RX5_32 ki_X5_happeningOf ks_RX5_X5_happeningOf rfl rfl np_X5_happeningOf (Nat.le_trans (by decide) hdp) rfl (m_c1_i (m_c1_r m_c1_nil)) (Nat.le_of_ble_eq_true rfl) dX5_bar_54 (fun r5 σ6 => ?_)
      refine r_aloadq_n hg 1 dX5_bar_57 rfl ?_
      refine q_getq (b := 8) hg shC_q rfl (by decide) iX0 kf_RX5_51 rfl dX5_bar_58 (fun h7 => ?_)
      refine r_iconst hg 4 dX5_bar_61 (by decide) ?_
      refine r_iaload (n := 10) hg (shC_w h7) dX5_bar_62 ?_
      refine q_callv1 hg (e_X5_areTooNear N l w r3 r5 (σ6 (8 + v1.toNatClampNeg) (Int32.toNatClampNeg 4)) σ6) kk_RX5_54 ki_X5_areTooNear ks_RX5_X5_areTooNear rfl rfl np_X5_areTooNear (Nat.le_trans (by decide) hdp) rfl m_c1_nil (Nat.le_of_ble_eq_true rfl) dX5_bar_63 (fun r8 σ9 => ?_)
      refine r_if_eq hg 73 dX5_bar_66 (by decide) ?_ ?_
      · refine r_iconst hg 0 dX5_bar_73 (by decide) ?_
        exact r_zret hg dX5_bar_74 rfl rfl
      · refine r_iconst hg 1 dX5_bar_69 (by decide) ?_
        refine r_goto hg 74 dX5_bar_70 (by decide) ?_
        exact r_zret hg dX5_bar_74 rfl rfl
  · refine r_aload_n hg 0 dX5_bar_15 rfl ?_
    refine q_getr (j := 4) hg rfl rfl rfl (by decide) iX5 kf_RX5_9 rfl dX5_bar_16 ?_
    refine r_aloadq_n hg 1 dX5_bar_19 rfl ?_
    refine r_iconst hg 1 dX5_bar_20 (by decide) ?_
    refine r_iload_n hg 2 dX5_bar_21 rfl ?_
    refine r_ishl hg dX5_bar_22 ?_
    refine r_iconst hg 1 dX5_bar_23 (by decide) ?_
    refine r_iload_n hg 3 dX5_bar_24 rfl ?_
    refine r_ishl hg dX5_bar_25 ?_
    refine r_ior hg dX5_bar_26 ?_
    refine q_callv1 hg (e_X1_areOne N l w v1 ((1 <<< (v2 &&& 31)) ||| (1 <<< (v3 &&& 31))) σ) kk_RX5_36 ki_X1_areOne ks_RX1_X1_areOne rfl rfl np_X1_areOne (Nat.le_trans (by decide) hdp) rfl m_c1_nil (Nat.le_of_ble_eq_true rfl) dX5_bar_27 (fun r10 σ11 => ?_)
    refine r_if_ne hg 37 dX5_bar_30 (by decide) ?_ ?_
    · refine r_iconst hg 0 dX5_bar_37 (by decide) ?_
      exact r_zret hg dX5_bar_38 rfl rfl
    · refine r_iconst hg 1 dX5_bar_33 (by decide) ?_
      refine r_goto hg 38 dX5_bar_34 (by decide) ?_
      exact r_zret hg dX5_bar_38 rfl rfl
set_option maxHeartbeats 4000000 in
set_option maxRecDepth 100000 in
theorem vb_X5_firstBar_17 {N : Nat} (hg : m_ok (p, l, e, d, s, m, args, below, meth, c) w shC cX5_firstBar 4 RX5 (some .int)) (hdp : 4 ≤ d) {K2 : Int32 → Int32 → Mem → Option (Int32 × Mem)} (hK2 : ∀ (x1 x2 : Int32) (σ : Mem), Vj (p, l, e, d, s, m, args, below, meth, c) w shC 4 1 σ 2 [(0, .ref (w.2.1 19)), (1, m_rf w.2.1 x1), (2, .int x2)] [] (K2 x1 x2 σ)) {K17 : Int32 → Int32 → Int32 → Mem → Option (Int32 × Mem)} (hK17 : ∀ (x1 x2 x3 : Int32) (σ : Mem), Vj (p, l, e, d, s, m, args, below, meth, c) w shC 4 1 σ 17 [(0, .ref (w.2.1 19)), (1, m_rf w.2.1 x1), (2, .int x2), (3, .int x3)] [] (K17 x1 x2 x3 σ)) (x1 x2 x3 : Int32) (σ : Mem) : Vj (p, l, e, d, s, m, args, below, meth, c) w shC 4 1 σ 17 [(0, .ref (w.2.1 19)), (1, m_rf w.2.1 x1), (2, .int x2), (3, .int x3)] [] (b_X5_firstBar_17 N K2 K17 x1 x2 x3 σ) := by
  unfold b_X5_firstBar_17
  refine r_iload_n hg 3 dX5_firstBar_17 rfl ?_
  refine r_aload_n hg 0 dX5_firstBar_18 rfl ?_
  refine q_getr (j := 4) hg rfl rfl rfl (by decide) iX5 kf_RX5_9 rfl dX5_firstBar_19 ?_
  refine q_geti (j := 6) hg rfl rfl rfl (by decide) iX1 kf_RX5_22 rfl dX5_firstBar_22 ?_
  refine r_icmp_ge hg 51 dX5_firstBar_25 (by decide) ?_ ?_
  · refine r_iinc (lv' := [(2, .int (x2 + 1)), (0, .ref (w.2.1 19)), (1, m_rf w.2.1 x1), (3, .int x3)]) hg 2 (x2 + 1) dX5_firstBar_51 rfl rfl (by decide) rfl ?_
    refine r_goto hg 2 dX5_firstBar_54 (by decide) ?_
    refine r_lv [1, 2, 0] rfl ?_
    exact hK2 x1 (x2 + 1) σ
  · refine r_aload_n hg 0 dX5_firstBar_28 rfl ?_
    refine r_aloadq_n hg 1 dX5_firstBar_29 rfl ?_
    refine r_iload_n hg 2 dX5_firstBar_30 rfl ?_
    refine r_iload_n hg 3 dX5_firstBar_31 rfl ?_
    refine q_callv1 hg (e_X5_bar N l w x1 x2 x3 σ) kk_RX5_28 ki_X5_bar ks_RX5_X5_bar rfl rfl np_X5_bar (Nat.le_trans (by decide) hdp) rfl m_c1_nil (Nat.le_of_ble_eq_true rfl) dX5_firstBar_32 (fun r1 σ2 => ?_)
    refine r_if_eq hg 45 dX5_firstBar_35 (by decide) ?_ ?_
    · refine r_iinc (lv' := [(3, .int (x3 + 1)), (0, .ref (w.2.1 19)), (1, m_rf w.2.1 x1), (2, .int x2)]) hg 3 (x3 + 1) dX5_firstBar_45 rfl rfl (by decide) rfl ?_
      refine r_goto hg 17 dX5_firstBar_48 (by decide) ?_
      refine r_lv [1, 2, 3, 0] rfl ?_
      exact hK17 x1 x2 (x3 + 1) σ2
    · refine r_bipush hg 16 dX5_firstBar_38 (by decide) ?_
      refine r_iload_n hg 2 dX5_firstBar_40 rfl ?_
      refine r_imul hg dX5_firstBar_41 ?_
      refine r_iload_n hg 3 dX5_firstBar_42 rfl ?_
      refine r_iadd hg dX5_firstBar_43 ?_
      exact r_iret hg dX5_firstBar_44 rfl rfl
set_option maxHeartbeats 4000000 in
set_option maxRecDepth 100000 in
theorem vl_X5_firstBar_17 {N : Nat} (hg : m_ok (p, l, e, d, s, m, args, below, meth, c) w shC cX5_firstBar 4 RX5 (some .int)) (hdp : 4 ≤ d) {K2 : Int32 → Int32 → Mem → Option (Int32 × Mem)} (hK2 : ∀ (x1 x2 : Int32) (σ : Mem), Vj (p, l, e, d, s, m, args, below, meth, c) w shC 4 1 σ 2 [(0, .ref (w.2.1 19)), (1, m_rf w.2.1 x1), (2, .int x2)] [] (K2 x1 x2 σ)) : ∀ (n : Nat) (x1 x2 x3 : Int32) (σ : Mem), Vj (p, l, e, d, s, m, args, below, meth, c) w shC 4 1 σ 17 [(0, .ref (w.2.1 19)), (1, m_rf w.2.1 x1), (2, .int x2), (3, .int x3)] [] (l_X5_firstBar_17 N K2 n x1 x2 x3 σ)
| 0, _, _, _, _ => Vj.none
| n + 1, x1, x2, x3, σ => vb_X5_firstBar_17 hg hdp hK2 (fun x1 x2 x3 σ => vl_X5_firstBar_17 hg hdp hK2 n x1 x2 x3 σ) x1 x2 x3 σ
set_option maxHeartbeats 4000000 in
set_option maxRecDepth 100000 in
theorem vb_X5_firstBar_59 {N : Nat} (hg : m_ok (p, l, e, d, s, m, args, below, meth, c) w shC cX5_firstBar 4 RX5 (some .int)) (hdp : 4 ≤ d) {K59 : Int32 → Int32 → Mem → Option (Int32 × Mem)} (hK59 : ∀ (x1 x2 : Int32) (σ : Mem), Vj (p, l, e, d, s, m, args, below, meth, c) w shC 4 1 σ 59 [(0, .ref (w.2.1 19)), (1, m_rf w.2.1 x1), (2, .int x2)] [] (K59 x1 x2 σ)) (x1 x2 : Int32) (σ : Mem) : Vj (p, l, e, d, s, m, args, below, meth, c) w shC 4 1 σ 59 [(0, .ref (w.2.1 19)), (1, m_rf w.2.1 x1), (2, .int x2)] [] (b_X5_firstBar_59 N K59 x1 x2 σ) := by
  unfold b_X5_firstBar_59
  refine r_iload_n hg 2 dX5_firstBar_59 rfl ?_
  refine r_aload_n hg 0 dX5_firstBar_60 rfl ?_
  refine q_getr (j := 4) hg rfl rfl rfl (by decide) iX5 kf_RX5_9 rfl dX5_firstBar_61 ?_
  refine q_geti (j := 6) hg rfl rfl rfl (by decide) iX1 kf_RX5_22 rfl dX5_firstBar_64 ?_
  refine r_icmp_ge hg 110 dX5_firstBar_67 (by decide) ?_ ?_
  · refine r_iconst hg (-1) dX5_firstBar_110 (by decide) ?_
    exact r_iret hg dX5_firstBar_111 rfl rfl
  · refine r_aload_n hg 0 dX5_firstBar_70 rfl ?_
    refine r_iload_n hg 2 dX5_firstBar_71 rfl ?_
    refine q_callv1 hg (e_X5_happeningOf N l w x2 σ) kk_RX5_32 ki_X5_happeningOf ks_RX5_X5_happeningOf rfl rfl np_X5_happeningOf (Nat.le_trans (by decide) hdp) rfl m_c1_nil (Nat.le_of_ble_eq_true rfl) dX5_firstBar_72 (fun r1 σ2 => ?_)
    refine r_istore_n (lv' := [(3, .int r1), (0, .ref (w.2.1 19)), (1, m_rf w.2.1 x1), (2, .int x2)]) hg dX5_firstBar_75 (by decide) rfl ?_
    refine r_aload_n hg 1 dX5_firstBar_76 rfl ?_
    refine q_getr (j := 4) hg rfl rfl rfl (by decide) iX5 kf_RX5_9 rfl dX5_firstBar_77 ?_
    refine r_aloadq_n hg 2 dX5_firstBar_80 rfl ?_
    refine r_iload_n hg 0 dX5_firstBar_81 rfl ?_
    refine q_callv1 hg (e_X1_areOne N l w x1 r1 σ2) kk_RX5_36 ki_X1_areOne ks_RX1_X1_areOne rfl rfl np_X1_areOne (Nat.le_trans (by decide) hdp) rfl m_c1_nil (Nat.le_of_ble_eq_true rfl) dX5_firstBar_82 (fun r3 σ4 => ?_)
    refine r_if_ne hg 104 dX5_firstBar_85 (by decide) ?_ ?_
    · refine r_iinc (lv' := [(2, .int (x2 + 1)), (3, .int r1), (0, .ref (w.2.1 19)), (1, m_rf w.2.1 x1)]) hg 3 (x2 + 1) dX5_firstBar_104 rfl rfl (by decide) rfl ?_
      refine r_goto hg 59 dX5_firstBar_107 (by decide) ?_
      refine r_lv [2, 3, 0] rfl ?_
      exact hK59 x1 (x2 + 1) σ4
    · refine r_bipush hg 16 dX5_firstBar_88 (by decide) ?_
      refine r_iload_n hg 3 dX5_firstBar_90 rfl ?_
      refine r_imul hg dX5_firstBar_91 ?_
      refine r_iload_n hg 0 dX5_firstBar_92 rfl ?_
      refine r_iconst hg 1 dX5_firstBar_93 (by decide) ?_
      refine r_iload_n hg 3 dX5_firstBar_94 rfl ?_
      refine r_ishl hg dX5_firstBar_95 ?_
      refine r_iconst hg (-1) dX5_firstBar_96 (by decide) ?_
      refine r_ixor hg dX5_firstBar_97 ?_
      refine r_iand hg dX5_firstBar_98 ?_
      refine q_calls1 hg (e_J6_numberOfTrailingZeros_0f7a4 N l w (r1 &&& ((1 <<< (x2 &&& 31)) ^^^ (-1))) σ4) kk_RX5_40 kt_J6_numberOfTrailingZeros_0f7a4 np_J6_numberOfTrailingZeros_0f7a4 (Nat.le_trans (by decide) hdp) rfl (m_c1_i m_c1_nil) (Nat.le_of_ble_eq_true rfl) dX5_firstBar_99 (fun r5 σ6 => ?_)
      refine r_iadd hg dX5_firstBar_102 ?_
      exact r_iret hg dX5_firstBar_103 rfl rfl
set_option maxHeartbeats 4000000 in
set_option maxRecDepth 100000 in
theorem vl_X5_firstBar_59 {N : Nat} (hg : m_ok (p, l, e, d, s, m, args, below, meth, c) w shC cX5_firstBar 4 RX5 (some .int)) (hdp : 4 ≤ d) : ∀ (n : Nat) (x1 x2 : Int32) (σ : Mem), Vj (p, l, e, d, s, m, args, below, meth, c) w shC 4 1 σ 59 [(0, .ref (w.2.1 19)), (1, m_rf w.2.1 x1), (2, .int x2)] [] (l_X5_firstBar_59 N n x1 x2 σ)
| 0, _, _, _ => Vj.none
| n + 1, x1, x2, σ => vb_X5_firstBar_59 hg hdp (fun x1 x2 σ => vl_X5_firstBar_59 hg hdp n x1 x2 σ) x1 x2 σ
set_option maxHeartbeats 4000000 in
set_option maxRecDepth 100000 in
theorem vb_X5_firstBar_2 {N : Nat} (hg : m_ok (p, l, e, d, s, m, args, below, meth, c) w shC cX5_firstBar 4 RX5 (some .int)) (hdp : 4 ≤ d) {K2 : Int32 → Int32 → Mem → Option (Int32 × Mem)} (hK2 : ∀ (x1 x2 : Int32) (σ : Mem), Vj (p, l, e, d, s, m, args, below, meth, c) w shC 4 1 σ 2 [(0, .ref (w.2.1 19)), (1, m_rf w.2.1 x1), (2, .int x2)] [] (K2 x1 x2 σ)) (x1 x2 : Int32) (σ : Mem) : Vj (p, l, e, d, s, m, args, below, meth, c) w shC 4 1 σ 2 [(0, .ref (w.2.1 19)), (1, m_rf w.2.1 x1), (2, .int x2)] [] (b_X5_firstBar_2 N K2 x1 x2 σ) := by
  unfold b_X5_firstBar_2
  refine r_iload_n hg 2 dX5_firstBar_2 rfl ?_
  refine r_aload_n hg 0 dX5_firstBar_3 rfl ?_
  refine q_getr (j := 4) hg rfl rfl rfl (by decide) iX5 kf_RX5_9 rfl dX5_firstBar_4 ?_
  refine q_geti (j := 6) hg rfl rfl rfl (by decide) iX1 kf_RX5_22 rfl dX5_firstBar_7 ?_
  refine r_icmp_ge hg 57 dX5_firstBar_10 (by decide) ?_ ?_
  · refine r_iconst hg 0 dX5_firstBar_57 (by decide) ?_
    refine r_istore_n (lv' := [(2, .int 0), (0, .ref (w.2.1 19)), (1, m_rf w.2.1 x1)]) hg dX5_firstBar_58 (by decide) rfl ?_
    refine r_lv [1, 2, 0] rfl ?_
    exact vl_X5_firstBar_59 hg hdp N x1 0 σ
  · refine r_iload_n hg 2 dX5_firstBar_13 rfl ?_
    refine r_iconst hg 1 dX5_firstBar_14 (by decide) ?_
    refine r_iadd hg dX5_firstBar_15 ?_
    refine q_name (fun u1 => ?_)
    refine r_istore_n (lv' := [(3, .int u1), (0, .ref (w.2.1 19)), (1, m_rf w.2.1 x1), (2, .int x2)]) hg dX5_firstBar_16 (by decide) rfl ?_
    refine r_lv [1, 2, 3, 0] rfl ?_
    exact vl_X5_firstBar_17 hg hdp hK2 N x1 x2 u1 σ
set_option maxHeartbeats 4000000 in
set_option maxRecDepth 100000 in
theorem vl_X5_firstBar_2 {N : Nat} (hg : m_ok (p, l, e, d, s, m, args, below, meth, c) w shC cX5_firstBar 4 RX5 (some .int)) (hdp : 4 ≤ d) : ∀ (n : Nat) (x1 x2 : Int32) (σ : Mem), Vj (p, l, e, d, s, m, args, below, meth, c) w shC 4 1 σ 2 [(0, .ref (w.2.1 19)), (1, m_rf w.2.1 x1), (2, .int x2)] [] (l_X5_firstBar_2 N n x1 x2 σ)
| 0, _, _, _ => Vj.none
| n + 1, x1, x2, σ => vb_X5_firstBar_2 hg hdp (fun x1 x2 σ => vl_X5_firstBar_2 hg hdp n x1 x2 σ) x1 x2 σ
set_option maxHeartbeats 4000000 in
set_option maxRecDepth 100000 in
theorem e_X5_firstBar (N : Nat) (l : Launch) (w : mW) (v1 : Int32) (σ : Mem) : Ev l w shC yX5_firstBar cX5_firstBar 4 (some .int) 1 4 [.ref (w.2.1 19), m_rf w.2.1 v1] σ (f_X5_firstBar N v1 σ) := by
  refine Ev.of (by decide) (m_c1_r (m_c1_q m_c1_nil)) (Nat.le_of_ble_eq_true rfl) (fun p e s m args below meth c hg => ?_)
  have hdp := Nat.le_refl 4
  unfold f_X5_firstBar
  show Vj (p, l, e, 4, s, m, args, below, meth, c) w shC 4 1 σ 0 [(0, .ref (w.2.1 19)), (1, m_rf w.2.1 v1)] [] _
  refine r_iconst hg 0 dX5_firstBar_0 (by decide) ?_
  refine r_istore_n (lv' := [(2, .int 0), (0, .ref (w.2.1 19)), (1, m_rf w.2.1 v1)]) hg dX5_firstBar_1 (by decide) rfl ?_
  refine r_lv [1, 2, 0] rfl ?_
  exact vl_X5_firstBar_2 hg hdp N v1 0 σ
set_option maxHeartbeats 4000000 in
set_option maxRecDepth 100000 in
theorem e_X6_judge (N : Nat) (l : Launch) (w : mW) (v1 : Int32) (σ : Mem) : Ev l w shC yX6_judge cX6_judge 3 (some .int) 1 5 [.ref (w.2.1 16), .int v1] σ (f_X6_judge N v1 σ) := by
  refine Ev.of (by decide) (m_c1_r (m_c1_i m_c1_nil)) (Nat.le_of_ble_eq_true rfl) (fun p e s m args below meth c hg => ?_)
  have hdp := Nat.le_refl 5
  unfold f_X6_judge
  show Vj (p, l, e, 5, s, m, args, below, meth, c) w shC 3 1 σ 0 [(0, .ref (w.2.1 16)), (1, .int v1)] [] _
  refine r_aload_n hg 0 dX6_judge_0 rfl ?_
  refine r_iload_n hg 1 dX6_judge_1 rfl ?_
  refine q_callv2 hg (e_X6_coverAt N l w v1 σ) kk_RX6_83 ki_X6_coverAt ks_RX6_X6_coverAt rfl rfl np_X6_coverAt (Nat.le_trans (by decide) hdp) rfl m_c1_nil (Nat.le_of_ble_eq_true rfl) dX6_judge_2 (fun r1 σ2 => ?_)
  refine r_astoreq_n (lv' := [(2, m_rf w.2.1 r1), (0, .ref (w.2.1 16)), (1, .int v1)]) hg dX6_judge_5 (by decide) rfl ?_
  refine r_aloadq_n hg 0 dX6_judge_6 rfl ?_
  refine r_ifnonnull hg 14 dX6_judge_7 (by decide) ?_ ?_
  · refine r_iconst hg (-1) dX6_judge_10 (by decide) ?_
    refine r_goto hg 22 dX6_judge_11 (by decide) ?_
    exact r_iret hg dX6_judge_22 rfl rfl
  · refine r_aload_n hg 1 dX6_judge_14 rfl ?_
    refine q_getr (j := 4) hg rfl rfl rfl (by decide) iX6 kf_RX6_39 rfl dX6_judge_15 ?_
    refine r_aloadq_n hg 0 dX6_judge_18 rfl ?_
    refine q_callv1 hg (e_X5_firstBar N l w r1 σ2) kk_RX6_138 ki_X5_firstBar ks_RX5_X5_firstBar rfl rfl np_X5_firstBar (Nat.le_trans (by decide) hdp) rfl m_c1_nil (Nat.le_of_ble_eq_true rfl) dX6_judge_19 (fun r3 σ4 => ?_)
    exact r_iret hg dX6_judge_22 rfl rfl
set_option maxHeartbeats 4000000 in
set_option maxRecDepth 100000 in
theorem vj_X1_putInRow_33_77 {N : Nat} (hg : m_ok (p, l, e, d, s, m, args, below, meth, c) w shC cX1_putInRow 6 RX1 (some .int)) (hdp : 1 ≤ d) {K5 : Int32 → Int32 → Int32 → Mem → Option (Int32 × Mem)} (hK5 : ∀ (x1 x3 x4 : Int32) (σ : Mem), Vj (p, l, e, d, s, m, args, below, meth, c) w shC 6 1 σ 5 [(0, .ref (w.2.1 18)), (1, .int x1), (2, .ref (w.2.1 33)), (3, .int x3), (4, .int x4)] [] (K5 x1 x3 x4 σ)) (x1 x3 x4 x5 : Int32) (σ : Mem) : Vj (p, l, e, d, s, m, args, below, meth, c) w shC 6 1 σ 77 [(0, .ref (w.2.1 18)), (1, .int x1), (2, .ref (w.2.1 33)), (3, .int x3), (4, .int x4), (5, .int x5)] [] (j_X1_putInRow_33_77 N K5 x1 x3 x4 x5 σ) := by
  unfold j_X1_putInRow_33_77
  refine r_aload_n hg 2 dX1_putInRow_77 rfl ?_
  refine r_iload hg 5 dX1_putInRow_78 rfl ?_
  refine r_iload hg 4 dX1_putInRow_80 rfl ?_
  refine q_iastore (n := 12) hg rfl dX1_putInRow_82 (fun σ1 => ?_)
  refine r_iinc (lv' := [(3, .int (x3 + 1)), (0, .ref (w.2.1 18)), (1, .int x1), (2, .ref (w.2.1 33)), (4, .int x4), (5, .int x5)]) hg 3 (x3 + 1) dX1_putInRow_83 rfl rfl (by decide) rfl ?_
  refine r_iinc (lv' := [(4, .int (x4 + 1)), (3, .int (x3 + 1)), (0, .ref (w.2.1 18)), (1, .int x1), (2, .ref (w.2.1 33)), (5, .int x5)]) hg 4 (x4 + 1) dX1_putInRow_86 rfl rfl (by decide) rfl ?_
  refine r_goto hg 5 dX1_putInRow_89 (by decide) ?_
  refine r_lv [2, 3, 4, 1, 0] rfl ?_
  exact hK5 x1 (x3 + 1) (x4 + 1) σ1
set_option maxHeartbeats 4000000 in
set_option maxRecDepth 100000 in
theorem vb_X1_putInRow_33_35 {N : Nat} (hg : m_ok (p, l, e, d, s, m, args, below, meth, c) w shC cX1_putInRow 6 RX1 (some .int)) (hdp : 1 ≤ d) {K5 : Int32 → Int32 → Int32 → Mem → Option (Int32 × Mem)} (hK5 : ∀ (x1 x3 x4 : Int32) (σ : Mem), Vj (p, l, e, d, s, m, args, below, meth, c) w shC 6 1 σ 5 [(0, .ref (w.2.1 18)), (1, .int x1), (2, .ref (w.2.1 33)), (3, .int x3), (4, .int x4)] [] (K5 x1 x3 x4 σ)) {K35 : Int32 → Int32 → Int32 → Int32 → Mem → Option (Int32 × Mem)} (hK35 : ∀ (x1 x3 x4 x5 : Int32) (σ : Mem), Vj (p, l, e, d, s, m, args, below, meth, c) w shC 6 1 σ 35 [(0, .ref (w.2.1 18)), (1, .int x1), (2, .ref (w.2.1 33)), (3, .int x3), (4, .int x4), (5, .int x5)] [] (K35 x1 x3 x4 x5 σ)) (x1 x3 x4 x5 : Int32) (σ : Mem) : Vj (p, l, e, d, s, m, args, below, meth, c) w shC 6 1 σ 35 [(0, .ref (w.2.1 18)), (1, .int x1), (2, .ref (w.2.1 33)), (3, .int x3), (4, .int x4), (5, .int x5)] [] (b_X1_putInRow_33_35 N K5 K35 x1 x3 x4 x5 σ) := by
  unfold b_X1_putInRow_33_35
  refine r_iload hg 5 dX1_putInRow_35 rfl ?_
  refine r_if_le hg 77 dX1_putInRow_37 (by decide) ?_ ?_
  · exact vj_X1_putInRow_33_77 hg hdp hK5 x1 x3 x4 x5 σ
  · refine r_aload_n hg 0 dX1_putInRow_40 rfl ?_
    refine q_getr (j := 1) hg rfl rfl rfl (by decide) iX1 kf_RX1_15 rfl dX1_putInRow_41 ?_
    refine r_aload_n hg 2 dX1_putInRow_44 rfl ?_
    refine r_iload hg 5 dX1_putInRow_45 rfl ?_
    refine r_iconst hg 1 dX1_putInRow_47 (by decide) ?_
    refine r_isub hg dX1_putInRow_48 ?_
    refine r_iaload (n := 12) hg rfl dX1_putInRow_49 ?_
    refine r_iaload (n := 12) hg rfl dX1_putInRow_50 ?_
    refine r_aload_n hg 0 dX1_putInRow_51 rfl ?_
    refine q_getr (j := 1) hg rfl rfl rfl (by decide) iX1 kf_RX1_15 rfl dX1_putInRow_52 ?_
    refine r_iload hg 4 dX1_putInRow_55 rfl ?_
    refine r_iaload (n := 12) hg rfl dX1_putInRow_57 ?_
    refine r_icmp_le hg 77 dX1_putInRow_58 (by decide) ?_ ?_
    · exact vj_X1_putInRow_33_77 hg hdp hK5 x1 x3 x4 x5 σ
    · refine r_aload_n hg 2 dX1_putInRow_61 rfl ?_
      refine r_iload hg 5 dX1_putInRow_62 rfl ?_
      refine r_aload_n hg 2 dX1_putInRow_64 rfl ?_
      refine r_iload hg 5 dX1_putInRow_65 rfl ?_
      refine r_iconst hg 1 dX1_putInRow_67 (by decide) ?_
      refine r_isub hg dX1_putInRow_68 ?_
      refine r_iaload (n := 12) hg rfl dX1_putInRow_69 ?_
      refine q_iastore (n := 12) hg rfl dX1_putInRow_70 (fun σ1 => ?_)
      refine r_iinc (lv' := [(5, .int (x5 + (-1))), (0, .ref (w.2.1 18)), (1, .int x1), (2, .ref (w.2.1 33)), (3, .int x3), (4, .int x4)]) hg 5 (x5 + (-1)) dX1_putInRow_71 rfl rfl (by decide) rfl ?_
      refine r_goto hg 35 dX1_putInRow_74 (by decide) ?_
      refine r_lv [1, 2, 3, 4, 5, 0] rfl ?_
      exact hK35 x1 x3 x4 (x5 + (-1)) σ1
set_option maxHeartbeats 4000000 in
set_option maxRecDepth 100000 in
theorem vl_X1_putInRow_33_35 {N : Nat} (hg : m_ok (p, l, e, d, s, m, args, below, meth, c) w shC cX1_putInRow 6 RX1 (some .int)) (hdp : 1 ≤ d) {K5 : Int32 → Int32 → Int32 → Mem → Option (Int32 × Mem)} (hK5 : ∀ (x1 x3 x4 : Int32) (σ : Mem), Vj (p, l, e, d, s, m, args, below, meth, c) w shC 6 1 σ 5 [(0, .ref (w.2.1 18)), (1, .int x1), (2, .ref (w.2.1 33)), (3, .int x3), (4, .int x4)] [] (K5 x1 x3 x4 σ)) : ∀ (n : Nat) (x1 x3 x4 x5 : Int32) (σ : Mem), Vj (p, l, e, d, s, m, args, below, meth, c) w shC 6 1 σ 35 [(0, .ref (w.2.1 18)), (1, .int x1), (2, .ref (w.2.1 33)), (3, .int x3), (4, .int x4), (5, .int x5)] [] (l_X1_putInRow_33_35 N K5 n x1 x3 x4 x5 σ)
| 0, _, _, _, _, _ => Vj.none
| n + 1, x1, x3, x4, x5, σ => vb_X1_putInRow_33_35 hg hdp hK5 (fun x1 x3 x4 x5 σ => vl_X1_putInRow_33_35 hg hdp hK5 n x1 x3 x4 x5 σ) x1 x3 x4 x5 σ
set_option maxHeartbeats 4000000 in
set_option maxRecDepth 100000 in
theorem vb_X1_putInRow_33_5 {N : Nat} (hg : m_ok (p, l, e, d, s, m, args, below, meth, c) w shC cX1_putInRow 6 RX1 (some .int)) (hdp : 1 ≤ d) {K5 : Int32 → Int32 → Int32 → Mem → Option (Int32 × Mem)} (hK5 : ∀ (x1 x3 x4 : Int32) (σ : Mem), Vj (p, l, e, d, s, m, args, below, meth, c) w shC 6 1 σ 5 [(0, .ref (w.2.1 18)), (1, .int x1), (2, .ref (w.2.1 33)), (3, .int x3), (4, .int x4)] [] (K5 x1 x3 x4 σ)) (x1 x3 x4 : Int32) (σ : Mem) : Vj (p, l, e, d, s, m, args, below, meth, c) w shC 6 1 σ 5 [(0, .ref (w.2.1 18)), (1, .int x1), (2, .ref (w.2.1 33)), (3, .int x3), (4, .int x4)] [] (b_X1_putInRow_33_5 N K5 x1 x3 x4 σ) := by
  unfold b_X1_putInRow_33_5
  refine r_iload hg 4 dX1_putInRow_5 rfl ?_
  refine r_aload_n hg 0 dX1_putInRow_7 rfl ?_
  refine q_geti (j := 6) hg rfl rfl rfl (by decide) iX1 kf_RX1_30 rfl dX1_putInRow_8 ?_
  refine r_icmp_ge hg 92 dX1_putInRow_11 (by decide) ?_ ?_
  · refine r_iload_n hg 3 dX1_putInRow_92 rfl ?_
    exact r_iret hg dX1_putInRow_93 rfl rfl
  · refine r_iload_n hg 3 dX1_putInRow_14 rfl ?_
    refine r_aload_n hg 2 dX1_putInRow_15 rfl ?_
    refine r_alen (n := 12) hg rfl dX1_putInRow_16 ?_
    refine r_icmp_ge hg 92 dX1_putInRow_17 (by decide) ?_ ?_
    · refine r_iload_n hg 3 dX1_putInRow_92 rfl ?_
      exact r_iret hg dX1_putInRow_93 rfl rfl
    · refine r_iload hg 4 dX1_putInRow_20 rfl ?_
      refine r_iload_n hg 1 dX1_putInRow_22 rfl ?_
      refine q_calls1 hg (e_X1_isIn N l w x4 x1 σ) kk_RX1_42 kt_X1_isIn np_X1_isIn (Nat.le_trans (by decide) hdp) rfl m_c1_nil (Nat.le_of_ble_eq_true rfl) dX1_putInRow_23 (fun r1 σ2 => ?_)
      refine r_if_ne hg 32 dX1_putInRow_26 (by decide) ?_ ?_
      · refine r_iload_n hg 3 dX1_putInRow_32 rfl ?_
        refine r_istore (lv' := [(5, .int x3), (0, .ref (w.2.1 18)), (1, .int x1), (2, .ref (w.2.1 33)), (3, .int x3), (4, .int x4)]) hg dX1_putInRow_33 (by decide) rfl ?_
        refine r_lv [1, 2, 3, 4, 5, 0] rfl ?_
        exact vl_X1_putInRow_33_35 hg hdp hK5 N x1 x3 x4 x3 σ2
      · refine r_goto hg 86 dX1_putInRow_29 (by decide) ?_
        refine r_iinc (lv' := [(4, .int (x4 + 1)), (0, .ref (w.2.1 18)), (1, .int x1), (2, .ref (w.2.1 33)), (3, .int x3)]) hg 4 (x4 + 1) dX1_putInRow_86 rfl rfl (by decide) rfl ?_
        refine r_goto hg 5 dX1_putInRow_89 (by decide) ?_
        refine r_lv [1, 2, 3, 4, 0] rfl ?_
        exact hK5 x1 x3 (x4 + 1) σ2
set_option maxHeartbeats 4000000 in
set_option maxRecDepth 100000 in
theorem vl_X1_putInRow_33_5 {N : Nat} (hg : m_ok (p, l, e, d, s, m, args, below, meth, c) w shC cX1_putInRow 6 RX1 (some .int)) (hdp : 1 ≤ d) : ∀ (n : Nat) (x1 x3 x4 : Int32) (σ : Mem), Vj (p, l, e, d, s, m, args, below, meth, c) w shC 6 1 σ 5 [(0, .ref (w.2.1 18)), (1, .int x1), (2, .ref (w.2.1 33)), (3, .int x3), (4, .int x4)] [] (l_X1_putInRow_33_5 N n x1 x3 x4 σ)
| 0, _, _, _, _ => Vj.none
| n + 1, x1, x3, x4, σ => vb_X1_putInRow_33_5 hg hdp (fun x1 x3 x4 σ => vl_X1_putInRow_33_5 hg hdp n x1 x3 x4 σ) x1 x3 x4 σ
set_option maxHeartbeats 4000000 in
set_option maxRecDepth 100000 in
theorem e_X1_putInRow_33 (N : Nat) (l : Launch) (w : mW) (v1 : Int32) (σ : Mem) : Ev l w shC yX1_putInRow cX1_putInRow 6 (some .int) 1 1 [.ref (w.2.1 18), .int v1, .ref (w.2.1 33)] σ (f_X1_putInRow_33 N v1 σ) := by
  refine Ev.of (by decide) (m_c1_r (m_c1_i (m_c1_r m_c1_nil))) (Nat.le_of_ble_eq_true rfl) (fun p e s m args below meth c hg => ?_)
  have hdp := Nat.le_refl 1
  unfold f_X1_putInRow_33
  show Vj (p, l, e, 1, s, m, args, below, meth, c) w shC 6 1 σ 0 [(0, .ref (w.2.1 18)), (1, .int v1), (2, .ref (w.2.1 33))] [] _
  refine r_iconst hg 0 dX1_putInRow_0 (by decide) ?_
  refine r_istore_n (lv' := [(3, .int 0), (0, .ref (w.2.1 18)), (1, .int v1), (2, .ref (w.2.1 33))]) hg dX1_putInRow_1 (by decide) rfl ?_
  refine r_iconst hg 0 dX1_putInRow_2 (by decide) ?_
  refine r_istore (lv' := [(4, .int 0), (3, .int 0), (0, .ref (w.2.1 18)), (1, .int v1), (2, .ref (w.2.1 33))]) hg dX1_putInRow_3 (by decide) rfl ?_
  refine r_lv [2, 3, 4, 1, 0] rfl ?_
  exact vl_X1_putInRow_33_5 hg hdp N v1 0 0 σ
end CM1
