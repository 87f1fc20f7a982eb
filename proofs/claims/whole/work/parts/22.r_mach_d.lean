section RM3
variable {p : Program} {l : Launch} {e : Env} {d : Nat} {s : State} {m : MethodId} {args : Array Value} {below : List Frame} {meth : Method} {c : Code} {w : mW}
set_option maxHeartbeats 4000000 in
set_option maxRecDepth 100000 in
theorem vb_X7_layPairs_90 {N : Nat} (hg : m_ok (p, l, e, d, s, m, args, below, meth, c) w shR cX7_layPairs 4 RX7 none) (hdp : 3 ≤ d) {K33 : Int32 → Mem → Option (Int32 × Mem)} (hK33 : ∀ (x1 : Int32) (σ : Mem), Vj (p, l, e, d, s, m, args, below, meth, c) w shR 4 0 σ 33 [(0, .ref (w.2.1 0)), (1, .int x1)] [] (K33 x1 σ)) {K80 : Int32 → Int32 → Mem → Option (Int32 × Mem)} (hK80 : ∀ (x1 x2 : Int32) (σ : Mem), Vj (p, l, e, d, s, m, args, below, meth, c) w shR 4 0 σ 80 [(0, .ref (w.2.1 0)), (1, .int x1), (2, .int x2)] [] (K80 x1 x2 σ)) {K90 : Int32 → Int32 → Int32 → Mem → Option (Int32 × Mem)} (hK90 : ∀ (x1 x2 x3 : Int32) (σ : Mem), Vj (p, l, e, d, s, m, args, below, meth, c) w shR 4 0 σ 90 [(0, .ref (w.2.1 0)), (1, .int x1), (2, .int x2), (3, .int x3)] [] (K90 x1 x2 x3 σ)) (x1 x2 x3 : Int32) (σ : Mem) : Vj (p, l, e, d, s, m, args, below, meth, c) w shR 4 0 σ 90 [(0, .ref (w.2.1 0)), (1, .int x1), (2, .int x2), (3, .int x3)] [] (b_X7_layPairs_90 N K33 K80 K90 x1 x2 x3 σ) := by
  unfold b_X7_layPairs_90
  refine r_iload_n hg 3 dX7_layPairs_90 rfl ?_
  refine r_aload_n hg 0 dX7_layPairs_91 rfl ?_
  refine q_geti (j := 15) hg rfl rfl rfl (by decide) iX7 kf_RX7_146 rfl dX7_layPairs_92 ?_
  refine r_icmp_ge hg 138 dX7_layPairs_95 (by decide) ?_ ?_
  · refine r_iinc (lv' := [(2, .int (x2 + 1)), (0, .ref (w.2.1 0)), (1, .int x1), (3, .int x3)]) hg 2 (x2 + 1) dX7_layPairs_138 rfl rfl (by decide) rfl ?_
    refine r_goto hg 80 dX7_layPairs_141 (by decide) ?_
    refine r_lv [1, 2, 0] rfl ?_
    exact hK80 x1 (x2 + 1) σ
  · refine r_iload_n hg 2 dX7_layPairs_98 rfl ?_
    refine r_iload_n hg 3 dX7_layPairs_99 rfl ?_
    refine r_icmp_eq hg 132 dX7_layPairs_100 (by decide) ?_ ?_
    · refine r_iinc (lv' := [(3, .int (x3 + 1)), (0, .ref (w.2.1 0)), (1, .int x1), (2, .int x2)]) hg 3 (x3 + 1) dX7_layPairs_132 rfl rfl (by decide) rfl ?_
      refine r_goto hg 90 dX7_layPairs_135 (by decide) ?_
      refine r_lv [1, 2, 3, 0] rfl ?_
      exact hK90 x1 x2 (x3 + 1) σ
    · refine r_aload_n hg 0 dX7_layPairs_103 rfl ?_
      refine r_iload_n hg 1 dX7_layPairs_104 rfl ?_
      refine r_iconst hg 1 dX7_layPairs_105 (by decide) ?_
      refine r_iload_n hg 2 dX7_layPairs_106 rfl ?_
      refine r_ishl hg dX7_layPairs_107 ?_
      refine r_iconst hg 1 dX7_layPairs_108 (by decide) ?_
      refine r_iload_n hg 3 dX7_layPairs_109 rfl ?_
      refine r_ishl hg dX7_layPairs_110 ?_
      refine r_ior hg dX7_layPairs_111 ?_
      refine q_callv1 hg (e_X7_mayBeOne N l w x1 ((1 <<< (x2 &&& 31)) ||| (1 <<< (x3 &&& 31))) σ) kk_RX7_175 ki_X7_mayBeOne ks_RX7_X7_mayBeOne rfl rfl np_X7_mayBeOne (Nat.le_trans (by decide) hdp) rfl m_c1_nil (Nat.le_of_ble_eq_true rfl) dX7_layPairs_112 (fun r1 σ2 => ?_)
      refine r_if_ne hg 132 dX7_layPairs_115 (by decide) ?_ ?_
      · refine r_iinc (lv' := [(3, .int (x3 + 1)), (0, .ref (w.2.1 0)), (1, .int x1), (2, .int x2)]) hg 3 (x3 + 1) dX7_layPairs_132 rfl rfl (by decide) rfl ?_
        refine r_goto hg 90 dX7_layPairs_135 (by decide) ?_
        refine r_lv [1, 2, 3, 0] rfl ?_
        exact hK90 x1 x2 (x3 + 1) σ2
      · refine r_aload_n hg 0 dX7_layPairs_118 rfl ?_
        refine q_getr (j := 35) hg rfl rfl rfl (by decide) iX7 kf_RX7_56 rfl dX7_layPairs_119 ?_
        refine r_iload_n hg 2 dX7_layPairs_122 rfl ?_
        refine r_dup2 hg dX7_layPairs_123 ?_
        refine r_iaload (n := 12) hg rfl dX7_layPairs_124 ?_
        refine r_iconst hg 1 dX7_layPairs_125 (by decide) ?_
        refine r_iload_n hg 3 dX7_layPairs_126 rfl ?_
        refine r_ishl hg dX7_layPairs_127 ?_
        refine r_iconst hg (-1) dX7_layPairs_128 (by decide) ?_
        refine r_ixor hg dX7_layPairs_129 ?_
        refine r_iand hg dX7_layPairs_130 ?_
        refine q_iastore (n := 12) hg rfl dX7_layPairs_131 (fun σ3 => ?_)
        refine r_iinc (lv' := [(3, .int (x3 + 1)), (0, .ref (w.2.1 0)), (1, .int x1), (2, .int x2)]) hg 3 (x3 + 1) dX7_layPairs_132 rfl rfl (by decide) rfl ?_
        refine r_goto hg 90 dX7_layPairs_135 (by decide) ?_
        refine r_lv [1, 2, 3, 0] rfl ?_
        exact hK90 x1 x2 (x3 + 1) σ3
set_option maxHeartbeats 4000000 in
set_option maxRecDepth 100000 in
theorem vl_X7_layPairs_90 {N : Nat} (hg : m_ok (p, l, e, d, s, m, args, below, meth, c) w shR cX7_layPairs 4 RX7 none) (hdp : 3 ≤ d) {K33 : Int32 → Mem → Option (Int32 × Mem)} (hK33 : ∀ (x1 : Int32) (σ : Mem), Vj (p, l, e, d, s, m, args, below, meth, c) w shR 4 0 σ 33 [(0, .ref (w.2.1 0)), (1, .int x1)] [] (K33 x1 σ)) {K80 : Int32 → Int32 → Mem → Option (Int32 × Mem)} (hK80 : ∀ (x1 x2 : Int32) (σ : Mem), Vj (p, l, e, d, s, m, args, below, meth, c) w shR 4 0 σ 80 [(0, .ref (w.2.1 0)), (1, .int x1), (2, .int x2)] [] (K80 x1 x2 σ)) : ∀ (n : Nat) (x1 x2 x3 : Int32) (σ : Mem), Vj (p, l, e, d, s, m, args, below, meth, c) w shR 4 0 σ 90 [(0, .ref (w.2.1 0)), (1, .int x1), (2, .int x2), (3, .int x3)] [] (l_X7_layPairs_90 N K33 K80 n x1 x2 x3 σ)
| 0, _, _, _, _ => Vj.none
| n + 1, x1, x2, x3, σ => vb_X7_layPairs_90 hg hdp hK33 hK80 (fun x1 x2 x3 σ => vl_X7_layPairs_90 hg hdp hK33 hK80 n x1 x2 x3 σ) x1 x2 x3 σ
set_option maxHeartbeats 4000000 in
set_option maxRecDepth 100000 in
theorem vb_X7_layPairs_80 {N : Nat} (hg : m_ok (p, l, e, d, s, m, args, below, meth, c) w shR cX7_layPairs 4 RX7 none) (hdp : 3 ≤ d) {K33 : Int32 → Mem → Option (Int32 × Mem)} (hK33 : ∀ (x1 : Int32) (σ : Mem), Vj (p, l, e, d, s, m, args, below, meth, c) w shR 4 0 σ 33 [(0, .ref (w.2.1 0)), (1, .int x1)] [] (K33 x1 σ)) {K80 : Int32 → Int32 → Mem → Option (Int32 × Mem)} (hK80 : ∀ (x1 x2 : Int32) (σ : Mem), Vj (p, l, e, d, s, m, args, below, meth, c) w shR 4 0 σ 80 [(0, .ref (w.2.1 0)), (1, .int x1), (2, .int x2)] [] (K80 x1 x2 σ)) (x1 x2 : Int32) (σ : Mem) : Vj (p, l, e, d, s, m, args, below, meth, c) w shR 4 0 σ 80 [(0, .ref (w.2.1 0)), (1, .int x1), (2, .int x2)] [] (b_X7_layPairs_80 N K33 K80 x1 x2 σ) := by
  unfold b_X7_layPairs_80
  refine r_iload_n hg 2 dX7_layPairs_80 rfl ?_
  refine r_aload_n hg 0 dX7_layPairs_81 rfl ?_
  refine q_geti (j := 15) hg rfl rfl rfl (by decide) iX7 kf_RX7_146 rfl dX7_layPairs_82 ?_
  refine r_icmp_ge hg 144 dX7_layPairs_85 (by decide) ?_ ?_
  · refine r_iinc (lv' := [(1, .int (x1 + 1)), (0, .ref (w.2.1 0)), (2, .int x2)]) hg 1 (x1 + 1) dX7_layPairs_144 rfl rfl (by decide) rfl ?_
    refine r_goto hg 33 dX7_layPairs_147 (by decide) ?_
    refine r_lv [1, 0] rfl ?_
    exact hK33 (x1 + 1) σ
  · refine r_iconst hg 0 dX7_layPairs_88 (by decide) ?_
    refine r_istore_n (lv' := [(3, .int 0), (0, .ref (w.2.1 0)), (1, .int x1), (2, .int x2)]) hg dX7_layPairs_89 (by decide) rfl ?_
    refine r_lv [1, 2, 3, 0] rfl ?_
    exact vl_X7_layPairs_90 hg hdp hK33 hK80 N x1 x2 0 σ
set_option maxHeartbeats 4000000 in
set_option maxRecDepth 100000 in
theorem vl_X7_layPairs_80 {N : Nat} (hg : m_ok (p, l, e, d, s, m, args, below, meth, c) w shR cX7_layPairs 4 RX7 none) (hdp : 3 ≤ d) {K33 : Int32 → Mem → Option (Int32 × Mem)} (hK33 : ∀ (x1 : Int32) (σ : Mem), Vj (p, l, e, d, s, m, args, below, meth, c) w shR 4 0 σ 33 [(0, .ref (w.2.1 0)), (1, .int x1)] [] (K33 x1 σ)) : ∀ (n : Nat) (x1 x2 : Int32) (σ : Mem), Vj (p, l, e, d, s, m, args, below, meth, c) w shR 4 0 σ 80 [(0, .ref (w.2.1 0)), (1, .int x1), (2, .int x2)] [] (l_X7_layPairs_80 N K33 n x1 x2 σ)
| 0, _, _, _ => Vj.none
| n + 1, x1, x2, σ => vb_X7_layPairs_80 hg hdp hK33 (fun x1 x2 σ => vl_X7_layPairs_80 hg hdp hK33 n x1 x2 σ) x1 x2 σ
set_option maxHeartbeats 4000000 in
set_option maxRecDepth 100000 in
theorem vb_X7_layPairs_33 {N : Nat} (hg : m_ok (p, l, e, d, s, m, args, below, meth, c) w shR cX7_layPairs 4 RX7 none) (hdp : 3 ≤ d) {K33 : Int32 → Mem → Option (Int32 × Mem)} (hK33 : ∀ (x1 : Int32) (σ : Mem), Vj (p, l, e, d, s, m, args, below, meth, c) w shR 4 0 σ 33 [(0, .ref (w.2.1 0)), (1, .int x1)] [] (K33 x1 σ)) (x1 : Int32) (σ : Mem) : Vj (p, l, e, d, s, m, args, below, meth, c) w shR 4 0 σ 33 [(0, .ref (w.2.1 0)), (1, .int x1)] [] (b_X7_layPairs_33 N K33 x1 σ) := by
  unfold b_X7_layPairs_33
  refine r_iload_n hg 1 dX7_layPairs_33 rfl ?_
  refine r_aload_n hg 0 dX7_layPairs_34 rfl ?_
  refine q_geti (j := 7) hg rfl rfl rfl (by decide) iX7 kf_RX7_120 rfl dX7_layPairs_35 ?_
  refine r_icmp_ge hg 150 dX7_layPairs_38 (by decide) ?_ ?_
  · exact r_ret hg dX7_layPairs_150 rfl rfl
  · refine r_aload_n hg 0 dX7_layPairs_41 rfl ?_
    refine r_iload_n hg 1 dX7_layPairs_42 rfl ?_
    refine q_callv1 hg (e_X7_isAsked N l w x1 σ) kk_RX7_239 ki_X7_isAsked ks_RX7_X7_isAsked rfl rfl np_X7_isAsked (Nat.le_trans (by decide) hdp) rfl m_c1_nil (Nat.le_of_ble_eq_true rfl) dX7_layPairs_43 (fun r1 σ2 => ?_)
    refine r_if_ne hg 52 dX7_layPairs_46 (by decide) ?_ ?_
    · refine r_aload_n hg 0 dX7_layPairs_52 rfl ?_
      refine r_aload_n hg 0 dX7_layPairs_53 rfl ?_
      refine q_geti (j := 37) hg rfl rfl rfl (by decide) iX7 kf_RX7_233 rfl dX7_layPairs_54 ?_
      refine r_if_ne hg 70 dX7_layPairs_57 (by decide) ?_ ?_
      · refine r_iconst hg 1 dX7_layPairs_70 (by decide) ?_
        refine r_goto hg 75 dX7_layPairs_71 (by decide) ?_
        refine q_putz (j := 37) hg rfl rfl rfl (by decide) iX7 kf_RX7_233 rfl tyX7_ok nmX7 rfl rfl dX7_layPairs_75 (fun σ3 => ?_)
        refine r_iconst hg 0 dX7_layPairs_78 (by decide) ?_
        refine r_istore_n (lv' := [(2, .int 0), (0, .ref (w.2.1 0)), (1, .int x1)]) hg dX7_layPairs_79 (by decide) rfl ?_
        refine r_lv [1, 2, 0] rfl ?_
        exact vl_X7_layPairs_80 hg hdp hK33 N x1 0 σ3
      · refine r_aload_n hg 0 dX7_layPairs_60 rfl ?_
        refine r_iload_n hg 1 dX7_layPairs_61 rfl ?_
        refine r_iconst hg 2 dX7_layPairs_62 (by decide) ?_
        refine q_callv1 hg (e_X7_wordOf N l w x1 2 σ2) kk_RX7_142 ki_X7_wordOf ks_RX7_X7_wordOf rfl rfl np_X7_wordOf (Nat.le_trans (by decide) hdp) rfl (m_c1_r m_c1_nil) (Nat.le_of_ble_eq_true rfl) dX7_layPairs_63 (fun r4 σ5 => ?_)
        refine r_iconst hg 1 dX7_layPairs_66 (by decide) ?_
        refine r_icmp_ne hg 74 dX7_layPairs_67 (by decide) ?_ ?_
        · refine r_iconst hg 0 dX7_layPairs_74 (by decide) ?_
          refine q_putz (j := 37) hg rfl rfl rfl (by decide) iX7 kf_RX7_233 rfl tyX7_ok nmX7 rfl rfl dX7_layPairs_75 (fun σ6 => ?_)
          refine r_iconst hg 0 dX7_layPairs_78 (by decide) ?_
          refine r_istore_n (lv' := [(2, .int 0), (0, .ref (w.2.1 0)), (1, .int x1)]) hg dX7_layPairs_79 (by decide) rfl ?_
          refine r_lv [1, 2, 0] rfl ?_
          exact vl_X7_layPairs_80 hg hdp hK33 N x1 0 σ6
        · refine r_iconst hg 1 dX7_layPairs_70 (by decide) ?_
          refine r_goto hg 75 dX7_layPairs_71 (by decide) ?_
          refine q_putz (j := 37) hg rfl rfl rfl (by decide) iX7 kf_RX7_233 rfl tyX7_ok nmX7 rfl rfl dX7_layPairs_75 (fun σ7 => ?_)
          refine r_iconst hg 0 dX7_layPairs_78 (by decide) ?_
          refine r_istore_n (lv' := [(2, .int 0), (0, .ref (w.2.1 0)), (1, .int x1)]) hg dX7_layPairs_79 (by decide) rfl ?_
          refine r_lv [1, 2, 0] rfl ?_
          exact vl_X7_layPairs_80 hg hdp hK33 N x1 0 σ7
    · refine r_goto hg 144 dX7_layPairs_49 (by decide) ?_
      refine r_iinc (lv' := [(1, .int (x1 + 1)), (0, .ref (w.2.1 0))]) hg 1 (x1 + 1) dX7_layPairs_144 rfl rfl (by decide) rfl ?_
      refine r_goto hg 33 dX7_layPairs_147 (by decide) ?_
      refine r_lv [1, 0] rfl ?_
      exact hK33 (x1 + 1) σ2
set_option maxHeartbeats 4000000 in
set_option maxRecDepth 100000 in
theorem vl_X7_layPairs_33 {N : Nat} (hg : m_ok (p, l, e, d, s, m, args, below, meth, c) w shR cX7_layPairs 4 RX7 none) (hdp : 3 ≤ d) : ∀ (n : Nat) (x1 : Int32) (σ : Mem), Vj (p, l, e, d, s, m, args, below, meth, c) w shR 4 0 σ 33 [(0, .ref (w.2.1 0)), (1, .int x1)] [] (l_X7_layPairs_33 N n x1 σ)
| 0, _, _ => Vj.none
| n + 1, x1, σ => vb_X7_layPairs_33 hg hdp (fun x1 σ => vl_X7_layPairs_33 hg hdp n x1 σ) x1 σ
set_option maxHeartbeats 4000000 in
set_option maxRecDepth 100000 in
theorem vb_X7_layPairs_7 {N : Nat} (hg : m_ok (p, l, e, d, s, m, args, below, meth, c) w shR cX7_layPairs 4 RX7 none) (hdp : 3 ≤ d) {K7 : Int32 → Mem → Option (Int32 × Mem)} (hK7 : ∀ (x1 : Int32) (σ : Mem), Vj (p, l, e, d, s, m, args, below, meth, c) w shR 4 0 σ 7 [(0, .ref (w.2.1 0)), (1, .int x1)] [] (K7 x1 σ)) (x1 : Int32) (σ : Mem) : Vj (p, l, e, d, s, m, args, below, meth, c) w shR 4 0 σ 7 [(0, .ref (w.2.1 0)), (1, .int x1)] [] (b_X7_layPairs_7 N K7 x1 σ) := by
  unfold b_X7_layPairs_7
  refine r_iload_n hg 1 dX7_layPairs_7 rfl ?_
  refine r_aload_n hg 0 dX7_layPairs_8 rfl ?_
  refine q_geti (j := 15) hg rfl rfl rfl (by decide) iX7 kf_RX7_146 rfl dX7_layPairs_9 ?_
  refine r_icmp_ge hg 31 dX7_layPairs_12 (by decide) ?_ ?_
  · refine r_iconst hg 0 dX7_layPairs_31 (by decide) ?_
    refine r_istore_n (lv' := [(1, .int 0), (0, .ref (w.2.1 0))]) hg dX7_layPairs_32 (by decide) rfl ?_
    refine r_lv [1, 0] rfl ?_
    exact vl_X7_layPairs_33 hg hdp N 0 σ
  · refine r_aload_n hg 0 dX7_layPairs_15 rfl ?_
    refine q_getr (j := 35) hg rfl rfl rfl (by decide) iX7 kf_RX7_56 rfl dX7_layPairs_16 ?_
    refine r_iload_n hg 1 dX7_layPairs_19 rfl ?_
    refine r_aload_n hg 0 dX7_layPairs_20 rfl ?_
    refine q_callv1 hg (e_X7_every N l w σ) kk_RX7_236 ki_X7_every ks_RX7_X7_every rfl rfl np_X7_every (Nat.le_trans (by decide) hdp) rfl (m_c1_i (m_c1_r m_c1_nil)) (Nat.le_of_ble_eq_true rfl) dX7_layPairs_21 (fun r1 σ2 => ?_)
    refine q_iastore (n := 12) hg rfl dX7_layPairs_24 (fun σ3 => ?_)
    refine r_iinc (lv' := [(1, .int (x1 + 1)), (0, .ref (w.2.1 0))]) hg 1 (x1 + 1) dX7_layPairs_25 rfl rfl (by decide) rfl ?_
    refine r_goto hg 7 dX7_layPairs_28 (by decide) ?_
    refine r_lv [1, 0] rfl ?_
    exact hK7 (x1 + 1) σ3
set_option maxHeartbeats 4000000 in
set_option maxRecDepth 100000 in
theorem vl_X7_layPairs_7 {N : Nat} (hg : m_ok (p, l, e, d, s, m, args, below, meth, c) w shR cX7_layPairs 4 RX7 none) (hdp : 3 ≤ d) : ∀ (n : Nat) (x1 : Int32) (σ : Mem), Vj (p, l, e, d, s, m, args, below, meth, c) w shR 4 0 σ 7 [(0, .ref (w.2.1 0)), (1, .int x1)] [] (l_X7_layPairs_7 N n x1 σ)
| 0, _, _ => Vj.none
| n + 1, x1, σ => vb_X7_layPairs_7 hg hdp (fun x1 σ => vl_X7_layPairs_7 hg hdp n x1 σ) x1 σ
set_option maxHeartbeats 4000000 in
set_option maxRecDepth 100000 in
theorem e_X7_layPairs (N : Nat) (l : Launch) (w : mW) (σ : Mem) : Ev l w shR yX7_layPairs cX7_layPairs 4 none 0 3 [.ref (w.2.1 0)] σ (f_X7_layPairs N σ) := by
  refine Ev.of (by decide) (m_c1_r m_c1_nil) (Nat.le_of_ble_eq_true rfl) (fun p e s m args below meth c hg => ?_)
  have hdp := Nat.le_refl 3
  unfold f_X7_layPairs
  show Vj (p, l, e, 3, s, m, args, below, meth, c) w shR 4 0 σ 0 [(0, .ref (w.2.1 0))] [] _
  refine r_aload_n hg 0 dX7_layPairs_0 rfl ?_
  refine r_iconst hg 0 dX7_layPairs_1 (by decide) ?_
  refine q_putz (j := 37) hg rfl rfl rfl (by decide) iX7 kf_RX7_233 rfl tyX7_ok nmX7 rfl rfl dX7_layPairs_2 (fun σ1 => ?_)
  refine r_iconst hg 0 dX7_layPairs_5 (by decide) ?_
  refine r_istore_n (lv' := [(1, .int 0), (0, .ref (w.2.1 0))]) hg dX7_layPairs_6 (by decide) rfl ?_
  refine r_lv [1, 0] rfl ?_
  exact vl_X7_layPairs_7 hg hdp N 0 σ1
set_option maxHeartbeats 4000000 in
set_option maxRecDepth 100000 in
theorem vb_X7_isRowApart_14 {N : Nat} (hg : m_ok (p, l, e, d, s, m, args, below, meth, c) w shR cX7_isRowApart 3 RX7 (some .boolean)) (hdp : 1 ≤ d) {K14 : Int32 → Int32 → Mem → Option (Int32 × Mem)} (hK14 : ∀ (x1 x2 : Int32) (σ : Mem), Vj (p, l, e, d, s, m, args, below, meth, c) w shR 3 1 σ 14 [(0, .ref (w.2.1 0)), (1, .int x1), (2, .int x2)] [] (K14 x1 x2 σ)) (x1 x2 : Int32) (σ : Mem) : Vj (p, l, e, d, s, m, args, below, meth, c) w shR 3 1 σ 14 [(0, .ref (w.2.1 0)), (1, .int x1), (2, .int x2)] [] (b_X7_isRowApart_14 N K14 x1 x2 σ) := by
  unfold b_X7_isRowApart_14
  refine r_iload_n hg 2 dX7_isRowApart_14 rfl ?_
  refine r_aload_n hg 0 dX7_isRowApart_15 rfl ?_
  refine q_geti (j := 22) hg rfl rfl rfl (by decide) iX7 kf_RX7_184 rfl dX7_isRowApart_16 ?_
  refine r_icmp_ge hg 54 dX7_isRowApart_19 (by decide) ?_ ?_
  · refine r_iconst hg 1 dX7_isRowApart_54 (by decide) ?_
    exact r_zret hg dX7_isRowApart_55 rfl rfl
  · refine r_aload_n hg 0 dX7_isRowApart_22 rfl ?_
    refine q_getr (j := 20) hg rfl rfl rfl (by decide) iX7 kf_RX7_50 rfl dX7_isRowApart_23 ?_
    refine r_iload_n hg 2 dX7_isRowApart_26 rfl ?_
    refine r_iconst hg 1 dX7_isRowApart_27 (by decide) ?_
    refine r_isub hg dX7_isRowApart_28 ?_
    refine r_iaload (n := 12) hg rfl dX7_isRowApart_29 ?_
    refine r_aload_n hg 0 dX7_isRowApart_30 rfl ?_
    refine r_iload_n hg 1 dX7_isRowApart_31 rfl ?_
    refine r_iconst hg 4 dX7_isRowApart_32 (by decide) ?_
    refine q_callv1 hg (e_X7_wordOf N l w x1 4 σ) kk_RX7_142 ki_X7_wordOf ks_RX7_X7_wordOf rfl rfl np_X7_wordOf (Nat.le_trans (by decide) hdp) rfl (m_c1_i m_c1_nil) (Nat.le_of_ble_eq_true rfl) dX7_isRowApart_33 (fun r1 σ2 => ?_)
    refine r_iadd hg dX7_isRowApart_36 ?_
    refine r_aload_n hg 0 dX7_isRowApart_37 rfl ?_
    refine q_getr (j := 19) hg rfl rfl rfl (by decide) iX7 kf_RX7_47 rfl dX7_isRowApart_38 ?_
    refine r_iload_n hg 2 dX7_isRowApart_41 rfl ?_
    refine r_iaload (n := 12) hg rfl dX7_isRowApart_42 ?_
    refine r_icmp_lt hg 48 dX7_isRowApart_43 (by decide) ?_ ?_
    · refine r_iinc (lv' := [(2, .int (x2 + 1)), (0, .ref (w.2.1 0)), (1, .int x1)]) hg 2 (x2 + 1) dX7_isRowApart_48 rfl rfl (by decide) rfl ?_
      refine r_goto hg 14 dX7_isRowApart_51 (by decide) ?_
      refine r_lv [1, 2, 0] rfl ?_
      exact hK14 x1 (x2 + 1) σ2
    · refine r_iconst hg 0 dX7_isRowApart_46 (by decide) ?_
      exact r_zret hg dX7_isRowApart_47 rfl rfl
set_option maxHeartbeats 4000000 in
set_option maxRecDepth 100000 in
theorem vl_X7_isRowApart_14 {N : Nat} (hg : m_ok (p, l, e, d, s, m, args, below, meth, c) w shR cX7_isRowApart 3 RX7 (some .boolean)) (hdp : 1 ≤ d) : ∀ (n : Nat) (x1 x2 : Int32) (σ : Mem), Vj (p, l, e, d, s, m, args, below, meth, c) w shR 3 1 σ 14 [(0, .ref (w.2.1 0)), (1, .int x1), (2, .int x2)] [] (l_X7_isRowApart_14 N n x1 x2 σ)
| 0, _, _, _ => Vj.none
| n + 1, x1, x2, σ => vb_X7_isRowApart_14 hg hdp (fun x1 x2 σ => vl_X7_isRowApart_14 hg hdp n x1 x2 σ) x1 x2 σ
set_option maxHeartbeats 4000000 in
set_option maxRecDepth 100000 in
theorem e_X7_isRowApart (N : Nat) (l : Launch) (w : mW) (v1 : Int32) (σ : Mem) : Ev l w shR yX7_isRowApart cX7_isRowApart 3 (some .boolean) 1 1 [.ref (w.2.1 0), .int v1] σ (f_X7_isRowApart N v1 σ) := by
  refine Ev.of (by decide) (m_c1_r (m_c1_i m_c1_nil)) (Nat.le_of_ble_eq_true rfl) (fun p e s m args below meth c hg => ?_)
  have hdp := Nat.le_refl 1
  unfold f_X7_isRowApart
  show Vj (p, l, e, 1, s, m, args, below, meth, c) w shR 3 1 σ 0 [(0, .ref (w.2.1 0)), (1, .int v1)] [] _
  refine r_aload_n hg 0 dX7_isRowApart_0 rfl ?_
  refine r_iload_n hg 1 dX7_isRowApart_1 rfl ?_
  refine r_iconst hg 3 dX7_isRowApart_2 (by decide) ?_
  refine q_callv1 hg (e_X7_wordOf N l w v1 3 σ) kk_RX7_142 ki_X7_wordOf ks_RX7_X7_wordOf rfl rfl np_X7_wordOf (Nat.le_trans (by decide) hdp) rfl m_c1_nil (Nat.le_of_ble_eq_true rfl) dX7_isRowApart_3 (fun r1 σ2 => ?_)
  refine r_iconst hg 1 dX7_isRowApart_6 (by decide) ?_
  refine r_icmp_ne hg 12 dX7_isRowApart_7 (by decide) ?_ ?_
  · refine r_iconst hg 1 dX7_isRowApart_12 (by decide) ?_
    refine r_istore_n (lv' := [(2, .int 1), (0, .ref (w.2.1 0)), (1, .int v1)]) hg dX7_isRowApart_13 (by decide) rfl ?_
    refine r_lv [1, 2, 0] rfl ?_
    exact vl_X7_isRowApart_14 hg hdp N v1 1 σ2
  · refine r_iconst hg 1 dX7_isRowApart_10 (by decide) ?_
    exact r_zret hg dX7_isRowApart_11 rfl rfl
set_option maxHeartbeats 4000000 in
set_option maxRecDepth 100000 in
theorem vj_X7_counts_233 {N : Nat} (hg : m_ok (p, l, e, d, s, m, args, below, meth, c) w shR cX7_counts 3 RX7 none) (hdp : 4 ≤ d) (x1 y0 : Int32) (σ : Mem) : Vj (p, l, e, d, s, m, args, below, meth, c) w shR 3 0 σ 233 [(0, .ref (w.2.1 0)), (1, .int x1)] [.int y0, .ref (w.2.1 0)] (j_X7_counts_233 N x1 y0 σ) := by
  unfold j_X7_counts_233
  refine q_put (j := 27) hg rfl rfl rfl (by decide) iX7 kf_RX7_248 rfl tyX7_ok nmX7 rfl rfl dX7_counts_233 (fun σ1 => ?_)
  refine r_aload_n hg 0 dX7_counts_236 rfl ?_
  refine r_aload_n hg 0 dX7_counts_237 rfl ?_
  refine q_geti (j := 33) hg rfl rfl rfl (by decide) iX7 kf_RX7_245 rfl dX7_counts_238 ?_
  refine r_if_eq hg 255 dX7_counts_241 (by decide) ?_ ?_
  · refine r_iload_n hg 1 dX7_counts_255 rfl ?_
    refine q_put (j := 28) hg rfl rfl rfl (by decide) iX7 kf_RX7_254 rfl tyX7_ok nmX7 rfl rfl dX7_counts_256 (fun σ2 => ?_)
    refine r_aload_n hg 0 dX7_counts_259 rfl ?_
    refine r_iconst hg 1 dX7_counts_260 (by decide) ?_
    refine q_putz (j := 33) hg rfl rfl rfl (by decide) iX7 kf_RX7_245 rfl tyX7_ok nmX7 rfl rfl dX7_counts_261 (fun σ3 => ?_)
    exact r_ret hg dX7_counts_264 rfl rfl
  · refine r_aload_n hg 0 dX7_counts_244 rfl ?_
    refine q_geti (j := 28) hg rfl rfl rfl (by decide) iX7 kf_RX7_254 rfl dX7_counts_245 ?_
    refine r_iload_n hg 1 dX7_counts_248 rfl ?_
    refine r_min hg km_RX7_160 kt_J9_min_7cf53 kz_RJ9 kc_J9_min_7cf53 (Nat.le_trans (by decide) hdp) (m_c1_r m_c1_nil) (Nat.le_of_ble_eq_true rfl) dX7_counts_249 ?_
    refine r_goto hg 256 dX7_counts_252 (by decide) ?_
    refine q_put (j := 28) hg rfl rfl rfl (by decide) iX7 kf_RX7_254 rfl tyX7_ok nmX7 rfl rfl dX7_counts_256 (fun σ4 => ?_)
    refine r_aload_n hg 0 dX7_counts_259 rfl ?_
    refine r_iconst hg 1 dX7_counts_260 (by decide) ?_
    refine q_putz (j := 33) hg rfl rfl rfl (by decide) iX7 kf_RX7_245 rfl tyX7_ok nmX7 rfl rfl dX7_counts_261 (fun σ5 => ?_)
    exact r_ret hg dX7_counts_264 rfl rfl
set_option maxHeartbeats 4000000 in
set_option maxRecDepth 100000 in
theorem vj_X7_counts_210 {N : Nat} (hg : m_ok (p, l, e, d, s, m, args, below, meth, c) w shR cX7_counts 3 RX7 none) (hdp : 4 ≤ d) (x1 y0 : Int32) (σ : Mem) : Vj (p, l, e, d, s, m, args, below, meth, c) w shR 3 0 σ 210 [(0, .ref (w.2.1 0)), (1, .int x1)] [.int y0, .ref (w.2.1 0)] (j_X7_counts_210 N x1 y0 σ) := by
  unfold j_X7_counts_210
  refine q_put (j := 31) hg rfl rfl rfl (by decide) iX7 kf_RX7_260 rfl tyX7_ok nmX7 rfl rfl dX7_counts_210 (fun σ1 => ?_)
  refine r_aload_n hg 0 dX7_counts_213 rfl ?_
  refine r_aload_n hg 0 dX7_counts_214 rfl ?_
  refine q_geti (j := 33) hg rfl rfl rfl (by decide) iX7 kf_RX7_245 rfl dX7_counts_215 ?_
  refine r_if_eq hg 232 dX7_counts_218 (by decide) ?_ ?_
  · refine r_iload_n hg 1 dX7_counts_232 rfl ?_
    exact vj_X7_counts_233 hg hdp x1 x1 σ1
  · refine r_aload_n hg 0 dX7_counts_221 rfl ?_
    refine q_geti (j := 27) hg rfl rfl rfl (by decide) iX7 kf_RX7_248 rfl dX7_counts_222 ?_
    refine r_iload_n hg 1 dX7_counts_225 rfl ?_
    refine r_max hg km_RX7_152 kt_J9_max_7cf53 kz_RJ9 kc_J9_max_7cf53 (Nat.le_trans (by decide) hdp) (m_c1_r m_c1_nil) (Nat.le_of_ble_eq_true rfl) dX7_counts_226 ?_
    refine r_goto hg 233 dX7_counts_229 (by decide) ?_
    exact vj_X7_counts_233 hg hdp x1 (imax (σ1 0 27) x1) σ1
set_option maxHeartbeats 4000000 in
set_option maxRecDepth 100000 in
theorem vj_X7_counts_190 {N : Nat} (hg : m_ok (p, l, e, d, s, m, args, below, meth, c) w shR cX7_counts 3 RX7 none) (hdp : 4 ≤ d) (x1 x2 : Int32) (σ : Mem) : Vj (p, l, e, d, s, m, args, below, meth, c) w shR 3 0 σ 190 [(0, .ref (w.2.1 0)), (1, .int x1), (2, .int x2)] [] (j_X7_counts_190 N x1 x2 σ) := by
  unfold j_X7_counts_190
  refine r_aload_n hg 0 dX7_counts_190 rfl ?_
  refine r_aload_n hg 0 dX7_counts_191 rfl ?_
  refine q_geti (j := 33) hg rfl rfl rfl (by decide) iX7 kf_RX7_245 rfl dX7_counts_192 ?_
  refine r_if_eq hg 209 dX7_counts_195 (by decide) ?_ ?_
  · refine r_iload_n hg 2 dX7_counts_209 rfl ?_
    refine r_lv [0, 1] rfl ?_
    exact vj_X7_counts_210 hg hdp x1 x2 σ
  · refine r_aload_n hg 0 dX7_counts_198 rfl ?_
    refine q_geti (j := 31) hg rfl rfl rfl (by decide) iX7 kf_RX7_260 rfl dX7_counts_199 ?_
    refine r_iload_n hg 2 dX7_counts_202 rfl ?_
    refine r_max hg km_RX7_152 kt_J9_max_7cf53 kz_RJ9 kc_J9_max_7cf53 (Nat.le_trans (by decide) hdp) (m_c1_r m_c1_nil) (Nat.le_of_ble_eq_true rfl) dX7_counts_203 ?_
    refine r_goto hg 210 dX7_counts_206 (by decide) ?_
    refine r_lv [0, 1] rfl ?_
    exact vj_X7_counts_210 hg hdp x1 (imax (σ 0 31) x2) σ
set_option maxHeartbeats 4000000 in
set_option maxRecDepth 100000 in
theorem vj_X7_counts_185 {N : Nat} (hg : m_ok (p, l, e, d, s, m, args, below, meth, c) w shR cX7_counts 3 RX7 none) (hdp : 4 ≤ d) (x1 x2 : Int32) (σ : Mem) : Vj (p, l, e, d, s, m, args, below, meth, c) w shR 3 0 σ 185 [(0, .ref (w.2.1 0)), (1, .int x1), (2, .int x2)] [] (j_X7_counts_185 N x1 x2 σ) := by
  unfold j_X7_counts_185
  refine r_aload_n hg 0 dX7_counts_185 rfl ?_
  refine r_iload_n hg 1 dX7_counts_186 rfl ?_
  refine q_put (j := 32) hg rfl rfl rfl (by decide) iX7 kf_RX7_263 rfl tyX7_ok nmX7 rfl rfl dX7_counts_187 (fun σ1 => ?_)
  exact vj_X7_counts_190 hg hdp x1 x2 σ1
set_option maxHeartbeats 4000000 in
set_option maxRecDepth 100000 in
theorem vj_X7_counts_146 {N : Nat} (hg : m_ok (p, l, e, d, s, m, args, below, meth, c) w shR cX7_counts 3 RX7 none) (hdp : 4 ≤ d) (x1 x2 : Int32) (σ : Mem) : Vj (p, l, e, d, s, m, args, below, meth, c) w shR 3 0 σ 146 [(0, .ref (w.2.1 0)), (1, .int x1), (2, .int x2)] [] (j_X7_counts_146 N x1 x2 σ) := by
  unfold j_X7_counts_146
  refine r_aload_n hg 0 dX7_counts_146 rfl ?_
  refine r_aload_n hg 0 dX7_counts_147 rfl ?_
  refine q_geti (j := 22) hg rfl rfl rfl (by decide) iX7 kf_RX7_184 rfl dX7_counts_148 ?_
  refine q_put (j := 30) hg rfl rfl rfl (by decide) iX7 kf_RX7_257 rfl tyX7_ok nmX7 rfl rfl dX7_counts_151 (fun σ1 => ?_)
  refine r_aload_n hg 0 dX7_counts_154 rfl ?_
  refine q_geti (j := 33) hg rfl rfl rfl (by decide) iX7 kf_RX7_245 rfl dX7_counts_155 ?_
  refine r_if_eq hg 185 dX7_counts_158 (by decide) ?_ ?_
  · exact vj_X7_counts_185 hg hdp x1 x2 σ1
  · refine r_iload_n hg 2 dX7_counts_161 rfl ?_
    refine r_aload_n hg 0 dX7_counts_162 rfl ?_
    refine q_geti (j := 31) hg rfl rfl rfl (by decide) iX7 kf_RX7_260 rfl dX7_counts_163 ?_
    refine r_icmp_gt hg 185 dX7_counts_166 (by decide) ?_ ?_
    · exact vj_X7_counts_185 hg hdp x1 x2 σ1
    · refine r_iload_n hg 2 dX7_counts_169 rfl ?_
      refine r_aload_n hg 0 dX7_counts_170 rfl ?_
      refine q_geti (j := 31) hg rfl rfl rfl (by decide) iX7 kf_RX7_260 rfl dX7_counts_171 ?_
      refine r_icmp_ne hg 190 dX7_counts_174 (by decide) ?_ ?_
      · exact vj_X7_counts_190 hg hdp x1 x2 σ1
      · refine r_iload_n hg 1 dX7_counts_177 rfl ?_
        refine r_aload_n hg 0 dX7_counts_178 rfl ?_
        refine q_geti (j := 32) hg rfl rfl rfl (by decide) iX7 kf_RX7_263 rfl dX7_counts_179 ?_
        refine r_icmp_le hg 190 dX7_counts_182 (by decide) ?_ ?_
        · exact vj_X7_counts_190 hg hdp x1 x2 σ1
        · exact vj_X7_counts_185 hg hdp x1 x2 σ1
set_option maxHeartbeats 4000000 in
set_option maxRecDepth 100000 in
theorem vj_X7_counts_104 {N : Nat} (hg : m_ok (p, l, e, d, s, m, args, below, meth, c) w shR cX7_counts 3 RX7 none) (hdp : 4 ≤ d) (x1 x2 : Int32) (σ : Mem) : Vj (p, l, e, d, s, m, args, below, meth, c) w shR 3 0 σ 104 [(0, .ref (w.2.1 0)), (1, .int x1), (2, .int x2)] [] (j_X7_counts_104 N x1 x2 σ) := by
  unfold j_X7_counts_104
  refine r_aload_n hg 0 dX7_counts_104 rfl ?_
  refine r_aload_n hg 0 dX7_counts_105 rfl ?_
  refine q_geti (j := 22) hg rfl rfl rfl (by decide) iX7 kf_RX7_184 rfl dX7_counts_106 ?_
  refine q_put (j := 29) hg rfl rfl rfl (by decide) iX7 kf_RX7_251 rfl tyX7_ok nmX7 rfl rfl dX7_counts_109 (fun σ1 => ?_)
  refine r_aload_n hg 0 dX7_counts_112 rfl ?_
  refine q_geti (j := 33) hg rfl rfl rfl (by decide) iX7 kf_RX7_245 rfl dX7_counts_113 ?_
  refine r_if_eq hg 146 dX7_counts_116 (by decide) ?_ ?_
  · exact vj_X7_counts_146 hg hdp x1 x2 σ1
  · refine r_iload_n hg 1 dX7_counts_119 rfl ?_
    refine r_aload_n hg 0 dX7_counts_120 rfl ?_
    refine q_geti (j := 28) hg rfl rfl rfl (by decide) iX7 kf_RX7_254 rfl dX7_counts_121 ?_
    refine r_icmp_lt hg 146 dX7_counts_124 (by decide) ?_ ?_
    · exact vj_X7_counts_146 hg hdp x1 x2 σ1
    · refine r_iload_n hg 1 dX7_counts_127 rfl ?_
      refine r_aload_n hg 0 dX7_counts_128 rfl ?_
      refine q_geti (j := 28) hg rfl rfl rfl (by decide) iX7 kf_RX7_254 rfl dX7_counts_129 ?_
      refine r_icmp_ne hg 154 dX7_counts_132 (by decide) ?_ ?_
      · refine r_aload_n hg 0 dX7_counts_154 rfl ?_
        refine q_geti (j := 33) hg rfl rfl rfl (by decide) iX7 kf_RX7_245 rfl dX7_counts_155 ?_
        refine r_if_eq hg 185 dX7_counts_158 (by decide) ?_ ?_
        · exact vj_X7_counts_185 hg hdp x1 x2 σ1
        · refine r_iload_n hg 2 dX7_counts_161 rfl ?_
          refine r_aload_n hg 0 dX7_counts_162 rfl ?_
          refine q_geti (j := 31) hg rfl rfl rfl (by decide) iX7 kf_RX7_260 rfl dX7_counts_163 ?_
          refine r_icmp_gt hg 185 dX7_counts_166 (by decide) ?_ ?_
          · exact vj_X7_counts_185 hg hdp x1 x2 σ1
          · refine r_iload_n hg 2 dX7_counts_169 rfl ?_
            refine r_aload_n hg 0 dX7_counts_170 rfl ?_
            refine q_geti (j := 31) hg rfl rfl rfl (by decide) iX7 kf_RX7_260 rfl dX7_counts_171 ?_
            refine r_icmp_ne hg 190 dX7_counts_174 (by decide) ?_ ?_
            · exact vj_X7_counts_190 hg hdp x1 x2 σ1
            · refine r_iload_n hg 1 dX7_counts_177 rfl ?_
              refine r_aload_n hg 0 dX7_counts_178 rfl ?_
              refine q_geti (j := 32) hg rfl rfl rfl (by decide) iX7 kf_RX7_263 rfl dX7_counts_179 ?_
              refine r_icmp_le hg 190 dX7_counts_182 (by decide) ?_ ?_
              · exact vj_X7_counts_190 hg hdp x1 x2 σ1
              · exact vj_X7_counts_185 hg hdp x1 x2 σ1
      · refine r_aload_n hg 0 dX7_counts_135 rfl ?_
        refine q_geti (j := 22) hg rfl rfl rfl (by decide) iX7 kf_RX7_184 rfl dX7_counts_136 ?_
        refine r_aload_n hg 0 dX7_counts_139 rfl ?_
        refine q_geti (j := 30) hg rfl rfl rfl (by decide) iX7 kf_RX7_257 rfl dX7_counts_140 ?_
        refine r_icmp_ge hg 154 dX7_counts_143 (by decide) ?_ ?_
        · refine r_aload_n hg 0 dX7_counts_154 rfl ?_
          refine q_geti (j := 33) hg rfl rfl rfl (by decide) iX7 kf_RX7_245 rfl dX7_counts_155 ?_
          refine r_if_eq hg 185 dX7_counts_158 (by decide) ?_ ?_
          · exact vj_X7_counts_185 hg hdp x1 x2 σ1
          · refine r_iload_n hg 2 dX7_counts_161 rfl ?_
            refine r_aload_n hg 0 dX7_counts_162 rfl ?_
            refine q_geti (j := 31) hg rfl rfl rfl (by decide) iX7 kf_RX7_260 rfl dX7_counts_163 ?_
            refine r_icmp_gt hg 185 dX7_counts_166 (by decide) ?_ ?_
            · exact vj_X7_counts_185 hg hdp x1 x2 σ1
            · refine r_iload_n hg 2 dX7_counts_169 rfl ?_
              refine r_aload_n hg 0 dX7_counts_170 rfl ?_
              refine q_geti (j := 31) hg rfl rfl rfl (by decide) iX7 kf_RX7_260 rfl dX7_counts_171 ?_
              refine r_icmp_ne hg 190 dX7_counts_174 (by decide) ?_ ?_
              · exact vj_X7_counts_190 hg hdp x1 x2 σ1
              · refine r_iload_n hg 1 dX7_counts_177 rfl ?_
                refine r_aload_n hg 0 dX7_counts_178 rfl ?_
                refine q_geti (j := 32) hg rfl rfl rfl (by decide) iX7 kf_RX7_263 rfl dX7_counts_179 ?_
                refine r_icmp_le hg 190 dX7_counts_182 (by decide) ?_ ?_
                · exact vj_X7_counts_190 hg hdp x1 x2 σ1
                · exact vj_X7_counts_185 hg hdp x1 x2 σ1
        · exact vj_X7_counts_146 hg hdp x1 x2 σ1
set_option maxHeartbeats 4000000 in
set_option maxRecDepth 100000 in
theorem vj_X7_counts_69 {N : Nat} (hg : m_ok (p, l, e, d, s, m, args, below, meth, c) w shR cX7_counts 3 RX7 none) (hdp : 4 ≤ d) (x1 y0 : Int32) (σ : Mem) : Vj (p, l, e, d, s, m, args, below, meth, c) w shR 3 0 σ 69 [(0, .ref (w.2.1 0)), (1, .int x1)] [.int y0] (j_X7_counts_69 N x1 y0 σ) := by
  unfold j_X7_counts_69
  refine r_istore_n (lv' := [(2, .int y0), (0, .ref (w.2.1 0)), (1, .int x1)]) hg dX7_counts_69 (by decide) rfl ?_
  refine r_aload_n hg 1 dX7_counts_70 rfl ?_
  refine q_geti (j := 33) hg rfl rfl rfl (by decide) iX7 kf_RX7_245 rfl dX7_counts_71 ?_
  refine r_if_eq hg 104 dX7_counts_74 (by decide) ?_ ?_
  · refine r_lv [1, 2, 0] rfl ?_
    exact vj_X7_counts_104 hg hdp x1 y0 σ
  · refine r_iload_n hg 2 dX7_counts_77 rfl ?_
    refine r_aload_n hg 1 dX7_counts_78 rfl ?_
    refine q_geti (j := 27) hg rfl rfl rfl (by decide) iX7 kf_RX7_248 rfl dX7_counts_79 ?_
    refine r_icmp_gt hg 104 dX7_counts_82 (by decide) ?_ ?_
    · refine r_lv [1, 2, 0] rfl ?_
      exact vj_X7_counts_104 hg hdp x1 y0 σ
    · refine r_iload_n hg 2 dX7_counts_85 rfl ?_
      refine r_aload_n hg 1 dX7_counts_86 rfl ?_
      refine q_geti (j := 27) hg rfl rfl rfl (by decide) iX7 kf_RX7_248 rfl dX7_counts_87 ?_
      refine r_icmp_ne hg 112 dX7_counts_90 (by decide) ?_ ?_
      · refine r_aload_n hg 1 dX7_counts_112 rfl ?_
        refine q_geti (j := 33) hg rfl rfl rfl (by decide) iX7 kf_RX7_245 rfl dX7_counts_113 ?_
        refine r_if_eq hg 146 dX7_counts_116 (by decide) ?_ ?_
        · refine r_lv [1, 2, 0] rfl ?_
          exact vj_X7_counts_146 hg hdp x1 y0 σ
        · refine r_iload_n hg 2 dX7_counts_119 rfl ?_
          refine r_aload_n hg 1 dX7_counts_120 rfl ?_
          refine q_geti (j := 28) hg rfl rfl rfl (by decide) iX7 kf_RX7_254 rfl dX7_counts_121 ?_
          refine r_icmp_lt hg 146 dX7_counts_124 (by decide) ?_ ?_
          · refine r_lv [1, 2, 0] rfl ?_
            exact vj_X7_counts_146 hg hdp x1 y0 σ
          · refine r_iload_n hg 2 dX7_counts_127 rfl ?_
            refine r_aload_n hg 1 dX7_counts_128 rfl ?_
            refine q_geti (j := 28) hg rfl rfl rfl (by decide) iX7 kf_RX7_254 rfl dX7_counts_129 ?_
            refine r_icmp_ne hg 154 dX7_counts_132 (by decide) ?_ ?_
            · refine r_aload_n hg 1 dX7_counts_154 rfl ?_
              refine q_geti (j := 33) hg rfl rfl rfl (by decide) iX7 kf_RX7_245 rfl dX7_counts_155 ?_
              refine r_if_eq hg 185 dX7_counts_158 (by decide) ?_ ?_
              · refine r_lv [1, 2, 0] rfl ?_
                exact vj_X7_counts_185 hg hdp x1 y0 σ
              · refine r_iload_n hg 0 dX7_counts_161 rfl ?_
                refine r_aload_n hg 1 dX7_counts_162 rfl ?_
                refine q_geti (j := 31) hg rfl rfl rfl (by decide) iX7 kf_RX7_260 rfl dX7_counts_163 ?_
                refine r_icmp_gt hg 185 dX7_counts_166 (by decide) ?_ ?_
                · refine r_lv [1, 2, 0] rfl ?_
                  exact vj_X7_counts_185 hg hdp x1 y0 σ
                · refine r_iload_n hg 0 dX7_counts_169 rfl ?_
                  refine r_aload_n hg 1 dX7_counts_170 rfl ?_
                  refine q_geti (j := 31) hg rfl rfl rfl (by decide) iX7 kf_RX7_260 rfl dX7_counts_171 ?_
                  refine r_icmp_ne hg 190 dX7_counts_174 (by decide) ?_ ?_
                  · refine r_lv [1, 2, 0] rfl ?_
                    exact vj_X7_counts_190 hg hdp x1 y0 σ
                  · refine r_iload_n hg 2 dX7_counts_177 rfl ?_
                    refine r_aload_n hg 1 dX7_counts_178 rfl ?_
                    refine q_geti (j := 32) hg rfl rfl rfl (by decide) iX7 kf_RX7_263 rfl dX7_counts_179 ?_
                    refine r_icmp_le hg 190 dX7_counts_182 (by decide) ?_ ?_
                    · refine r_lv [1, 2, 0] rfl ?_
                      exact vj_X7_counts_190 hg hdp x1 y0 σ
                    · refine r_lv [1, 2, 0] rfl ?_
                      exact vj_X7_counts_185 hg hdp x1 y0 σ
            · refine r_aload_n hg 1 dX7_counts_135 rfl ?_
              refine q_geti (j := 22) hg rfl rfl rfl (by decide) iX7 kf_RX7_184 rfl dX7_counts_136 ?_
              refine r_aload_n hg 1 dX7_counts_139 rfl ?_
              refine q_geti (j := 30) hg rfl rfl rfl (by decide) iX7 kf_RX7_257 rfl dX7_counts_140 ?_
              refine r_icmp_ge hg 154 dX7_counts_143 (by decide) ?_ ?_
              · refine r_aload_n hg 1 dX7_counts_154 rfl ?_
                refine q_geti (j := 33) hg rfl rfl rfl (by decide) iX7 kf_RX7_245 rfl dX7_counts_155 ?_
                refine r_if_eq hg 185 dX7_counts_158 (by decide) ?_ ?_
                · refine r_lv [1, 2, 0] rfl ?_
                  exact vj_X7_counts_185 hg hdp x1 y0 σ
                · refine r_iload_n hg 0 dX7_counts_161 rfl ?_
                  refine r_aload_n hg 1 dX7_counts_162 rfl ?_
                  refine q_geti (j := 31) hg rfl rfl rfl (by decide) iX7 kf_RX7_260 rfl dX7_counts_163 ?_
                  refine r_icmp_gt hg 185 dX7_counts_166 (by decide) ?_ ?_
                  · refine r_lv [1, 2, 0] rfl ?_
                    exact vj_X7_counts_185 hg hdp x1 y0 σ
                  · refine r_iload_n hg 0 dX7_counts_169 rfl ?_
                    refine r_aload_n hg 1 dX7_counts_170 rfl ?_
                    refine q_geti (j := 31) hg rfl rfl rfl (by decide) iX7 kf_RX7_260 rfl dX7_counts_171 ?_
                    refine r_icmp_ne hg 190 dX7_counts_174 (by decide) ?_ ?_
                    · refine r_lv [1, 2, 0] rfl ?_
                      exact vj_X7_counts_190 hg hdp x1 y0 σ
                    · refine r_iload_n hg 2 dX7_counts_177 rfl ?_
                      refine r_aload_n hg 1 dX7_counts_178 rfl ?_
                      refine q_geti (j := 32) hg rfl rfl rfl (by decide) iX7 kf_RX7_263 rfl dX7_counts_179 ?_
                      refine r_icmp_le hg 190 dX7_counts_182 (by decide) ?_ ?_
                      · refine r_lv [1, 2, 0] rfl ?_
                        exact vj_X7_counts_190 hg hdp x1 y0 σ
                      · refine r_lv [1, 2, 0] rfl ?_
                        exact vj_X7_counts_185 hg hdp x1 y0 σ
              · refine r_lv [1, 2, 0] rfl ?_
                exact vj_X7_counts_146 hg hdp x1 y0 σ
      · refine r_aload_n hg 1 dX7_counts_93 rfl ?_
        refine q_geti (j := 22) hg rfl rfl rfl (by decide) iX7 kf_RX7_184 rfl dX7_counts_94 ?_
        refine r_aload_n hg 1 dX7_counts_97 rfl ?_
        refine q_geti (j := 29) hg rfl rfl rfl (by decide) iX7 kf_RX7_251 rfl dX7_counts_98 ?_
        refine r_icmp_ge hg 112 dX7_counts_101 (by decide) ?_ ?_
        · refine r_aload_n hg 1 dX7_counts_112 rfl ?_
          refine q_geti (j := 33) hg rfl rfl rfl (by decide) iX7 kf_RX7_245 rfl dX7_counts_113 ?_
          refine r_if_eq hg 146 dX7_counts_116 (by decide) ?_ ?_
          · refine r_lv [1, 2, 0] rfl ?_
            exact vj_X7_counts_146 hg hdp x1 y0 σ
          · refine r_iload_n hg 2 dX7_counts_119 rfl ?_
            refine r_aload_n hg 1 dX7_counts_120 rfl ?_
            refine q_geti (j := 28) hg rfl rfl rfl (by decide) iX7 kf_RX7_254 rfl dX7_counts_121 ?_
            refine r_icmp_lt hg 146 dX7_counts_124 (by decide) ?_ ?_
            · refine r_lv [1, 2, 0] rfl ?_
              exact vj_X7_counts_146 hg hdp x1 y0 σ
            · refine r_iload_n hg 2 dX7_counts_127 rfl ?_
              refine r_aload_n hg 1 dX7_counts_128 rfl ?_
              refine q_geti (j := 28) hg rfl rfl rfl (by decide) iX7 kf_RX7_254 rfl dX7_counts_129 ?_
              refine r_icmp_ne hg 154 dX7_counts_132 (by decide) ?_ ?_
              · refine r_aload_n hg 1 dX7_counts_154 rfl ?_
                refine q_geti (j := 33) hg rfl rfl rfl (by decide) iX7 kf_RX7_245 rfl dX7_counts_155 ?_
                refine r_if_eq hg 185 dX7_counts_158 (by decide) ?_ ?_
                · refine r_lv [1, 2, 0] rfl ?_
                  exact vj_X7_counts_185 hg hdp x1 y0 σ
                · refine r_iload_n hg 0 dX7_counts_161 rfl ?_
                  refine r_aload_n hg 1 dX7_counts_162 rfl ?_
                  refine q_geti (j := 31) hg rfl rfl rfl (by decide) iX7 kf_RX7_260 rfl dX7_counts_163 ?_
                  refine r_icmp_gt hg 185 dX7_counts_166 (by decide) ?_ ?_
                  · refine r_lv [1, 2, 0] rfl ?_
                    exact vj_X7_counts_185 hg hdp x1 y0 σ
                  · refine r_iload_n hg 0 dX7_counts_169 rfl ?_
                    refine r_aload_n hg 1 dX7_counts_170 rfl ?_
                    refine q_geti (j := 31) hg rfl rfl rfl (by decide) iX7 kf_RX7_260 rfl dX7_counts_171 ?_
                    refine r_icmp_ne hg 190 dX7_counts_174 (by decide) ?_ ?_
                    · refine r_lv [1, 2, 0] rfl ?_
                      exact vj_X7_counts_190 hg hdp x1 y0 σ
                    · refine r_iload_n hg 2 dX7_counts_177 rfl ?_
                      refine r_aload_n hg 1 dX7_counts_178 rfl ?_
                      refine q_geti (j := 32) hg rfl rfl rfl (by decide) iX7 kf_RX7_263 rfl dX7_counts_179 ?_
                      refine r_icmp_le hg 190 dX7_counts_182 (by decide) ?_ ?_
                      · refine r_lv [1, 2, 0] rfl ?_
                        exact vj_X7_counts_190 hg hdp x1 y0 σ
                      · refine r_lv [1, 2, 0] rfl ?_
                        exact vj_X7_counts_185 hg hdp x1 y0 σ
              · refine r_aload_n hg 1 dX7_counts_135 rfl ?_
                refine q_geti (j := 22) hg rfl rfl rfl (by decide) iX7 kf_RX7_184 rfl dX7_counts_136 ?_
                refine r_aload_n hg 1 dX7_counts_139 rfl ?_
                refine q_geti (j := 30) hg rfl rfl rfl (by decide) iX7 kf_RX7_257 rfl dX7_counts_140 ?_
                refine r_icmp_ge hg 154 dX7_counts_143 (by decide) ?_ ?_
                · refine r_aload_n hg 1 dX7_counts_154 rfl ?_
                  refine q_geti (j := 33) hg rfl rfl rfl (by decide) iX7 kf_RX7_245 rfl dX7_counts_155 ?_
                  refine r_if_eq hg 185 dX7_counts_158 (by decide) ?_ ?_
                  · refine r_lv [1, 2, 0] rfl ?_
                    exact vj_X7_counts_185 hg hdp x1 y0 σ
                  · refine r_iload_n hg 0 dX7_counts_161 rfl ?_
                    refine r_aload_n hg 1 dX7_counts_162 rfl ?_
                    refine q_geti (j := 31) hg rfl rfl rfl (by decide) iX7 kf_RX7_260 rfl dX7_counts_163 ?_
                    refine r_icmp_gt hg 185 dX7_counts_166 (by decide) ?_ ?_
                    · refine r_lv [1, 2, 0] rfl ?_
                      exact vj_X7_counts_185 hg hdp x1 y0 σ
                    · refine r_iload_n hg 0 dX7_counts_169 rfl ?_
                      refine r_aload_n hg 1 dX7_counts_170 rfl ?_
                      refine q_geti (j := 31) hg rfl rfl rfl (by decide) iX7 kf_RX7_260 rfl dX7_counts_171 ?_
                      refine r_icmp_ne hg 190 dX7_counts_174 (by decide) ?_ ?_
                      · refine r_lv [1, 2, 0] rfl ?_
                        exact vj_X7_counts_190 hg hdp x1 y0 σ
                      · refine r_iload_n hg 2 dX7_counts_177 rfl ?_
                        refine r_aload_n hg 1 dX7_counts_178 rfl ?_
                        refine q_geti (j := 32) hg rfl rfl rfl (by decide) iX7 kf_RX7_263 rfl dX7_counts_179 ?_
                        refine r_icmp_le hg 190 dX7_counts_182 (by decide) ?_ ?_
                        · refine r_lv [1, 2, 0] rfl ?_
                          exact vj_X7_counts_190 hg hdp x1 y0 σ
                        · refine r_lv [1, 2, 0] rfl ?_
                          exact vj_X7_counts_185 hg hdp x1 y0 σ
                · refine r_lv [1, 2, 0] rfl ?_
                  exact vj_X7_counts_146 hg hdp x1 y0 σ
        · refine r_lv [1, 2, 0] rfl ?_
          exact vj_X7_counts_104 hg hdp x1 y0 σ
set_option maxHeartbeats 4000000 in
set_option maxRecDepth 100000 in
theorem vb_X7_counts_8 {N : Nat} (hg : m_ok (p, l, e, d, s, m, args, below, meth, c) w shR cX7_counts 3 RX7 none) (hdp : 4 ≤ d) {K8 : Int32 → Int32 → Mem → Option (Int32 × Mem)} (hK8 : ∀ (x1 x2 : Int32) (σ : Mem), Vj (p, l, e, d, s, m, args, below, meth, c) w shR 3 0 σ 8 [(0, .ref (w.2.1 0)), (1, .int x1), (2, .int x2)] [] (K8 x1 x2 σ)) (x1 x2 : Int32) (σ : Mem) : Vj (p, l, e, d, s, m, args, below, meth, c) w shR 3 0 σ 8 [(0, .ref (w.2.1 0)), (1, .int x1), (2, .int x2)] [] (b_X7_counts_8 N K8 x1 x2 σ) := by
  unfold b_X7_counts_8
  refine r_iload_n hg 2 dX7_counts_8 rfl ?_
  refine r_aload_n hg 0 dX7_counts_9 rfl ?_
  refine q_geti (j := 7) hg rfl rfl rfl (by decide) iX7 kf_RX7_120 rfl dX7_counts_10 ?_
  refine r_icmp_ge hg 50 dX7_counts_13 (by decide) ?_ ?_
  · refine r_aload_n hg 0 dX7_counts_50 rfl ?_
    refine q_geti (j := 34) hg rfl rfl rfl (by decide) iX7 kf_RX7_226 rfl dX7_counts_51 ?_
    refine r_if_eq hg 61 dX7_counts_54 (by decide) ?_ ?_
    · refine r_aload_n hg 0 dX7_counts_61 rfl ?_
      refine r_aload_n hg 0 dX7_counts_62 rfl ?_
      refine q_geti (j := 25) hg rfl rfl rfl (by decide) iX7 kf_RX7_230 rfl dX7_counts_63 ?_
      refine q_callv1 hg (e_X7_netBy N l w (σ 0 25) σ) kk_RX7_220 ki_X7_netBy ks_RX7_X7_netBy rfl rfl np_X7_netBy (Nat.le_trans (by decide) hdp) rfl m_c1_nil (Nat.le_of_ble_eq_true rfl) dX7_counts_66 (fun r1 σ2 => ?_)
      refine r_lv [0, 1] rfl ?_
      exact vj_X7_counts_69 hg hdp x1 r1 σ2
    · refine r_iconst hg 0 dX7_counts_57 (by decide) ?_
      refine r_goto hg 69 dX7_counts_58 (by decide) ?_
      refine r_lv [0, 1] rfl ?_
      exact vj_X7_counts_69 hg hdp x1 0 σ
  · refine r_aload_n hg 0 dX7_counts_16 rfl ?_
    refine r_iload_n hg 2 dX7_counts_17 rfl ?_
    refine q_callv1 hg (e_X7_isAsked N l w x2 σ) kk_RX7_239 ki_X7_isAsked ks_RX7_X7_isAsked rfl rfl np_X7_isAsked (Nat.le_trans (by decide) hdp) rfl m_c1_nil (Nat.le_of_ble_eq_true rfl) dX7_counts_18 (fun r3 σ4 => ?_)
    refine r_if_ne hg 27 dX7_counts_21 (by decide) ?_ ?_
    · refine r_aload_n hg 0 dX7_counts_27 rfl ?_
      refine r_iload_n hg 2 dX7_counts_28 rfl ?_
      refine q_callv1 hg (e_X7_isRowApart N l w x2 σ4) kk_RX7_242 ki_X7_isRowApart ks_RX7_X7_isRowApart rfl rfl np_X7_isRowApart (Nat.le_trans (by decide) hdp) rfl m_c1_nil (Nat.le_of_ble_eq_true rfl) dX7_counts_29 (fun r5 σ6 => ?_)
      refine r_if_ne hg 36 dX7_counts_32 (by decide) ?_ ?_
      · refine r_iload_n hg 1 dX7_counts_36 rfl ?_
        refine r_aload_n hg 0 dX7_counts_37 rfl ?_
        refine r_iload_n hg 2 dX7_counts_38 rfl ?_
        refine q_callv1 hg (e_X7_bringsBy N l w x2 σ6) kk_RX7_201 ki_X7_bringsBy ks_RX7_X7_bringsBy rfl rfl np_X7_bringsBy (Nat.le_trans (by decide) hdp) rfl (m_c1_i m_c1_nil) (Nat.le_of_ble_eq_true rfl) dX7_counts_39 (fun r7 σ8 => ?_)
        refine r_iadd hg dX7_counts_42 ?_
        refine q_name (fun u9 => ?_)
        refine r_istore_n (lv' := [(1, .int u9), (0, .ref (w.2.1 0)), (2, .int x2)]) hg dX7_counts_43 (by decide) rfl ?_
        refine r_iinc (lv' := [(2, .int (x2 + 1)), (1, .int u9), (0, .ref (w.2.1 0))]) hg 2 (x2 + 1) dX7_counts_44 rfl rfl (by decide) rfl ?_
        refine r_goto hg 8 dX7_counts_47 (by decide) ?_
        refine r_lv [2, 1, 0] rfl ?_
        exact hK8 u9 (x2 + 1) σ8
      · exact r_ret hg dX7_counts_35 rfl rfl
    · refine r_goto hg 44 dX7_counts_24 (by decide) ?_
      refine r_iinc (lv' := [(2, .int (x2 + 1)), (0, .ref (w.2.1 0)), (1, .int x1)]) hg 2 (x2 + 1) dX7_counts_44 rfl rfl (by decide) rfl ?_
      refine r_goto hg 8 dX7_counts_47 (by decide) ?_
      refine r_lv [1, 2, 0] rfl ?_
      exact hK8 x1 (x2 + 1) σ4
set_option maxHeartbeats 4000000 in
set_option maxRecDepth 100000 in
theorem vl_X7_counts_8 {N : Nat} (hg : m_ok (p, l, e, d, s, m, args, below, meth, c) w shR cX7_counts 3 RX7 none) (hdp : 4 ≤ d) : ∀ (n : Nat) (x1 x2 : Int32) (σ : Mem), Vj (p, l, e, d, s, m, args, below, meth, c) w shR 3 0 σ 8 [(0, .ref (w.2.1 0)), (1, .int x1), (2, .int x2)] [] (l_X7_counts_8 N n x1 x2 σ)
| 0, _, _, _ => Vj.none
| n + 1, x1, x2, σ => vb_X7_counts_8 hg hdp (fun x1 x2 σ => vl_X7_counts_8 hg hdp n x1 x2 σ) x1 x2 σ
set_option maxHeartbeats 4000000 in
set_option maxRecDepth 100000 in
theorem e_X7_counts (N : Nat) (l : Launch) (w : mW) (σ : Mem) : Ev l w shR yX7_counts cX7_counts 3 none 0 4 [.ref (w.2.1 0)] σ (f_X7_counts N σ) := by
  refine Ev.of (by decide) (m_c1_r m_c1_nil) (Nat.le_of_ble_eq_true rfl) (fun p e s m args below meth c hg => ?_)
  have hdp := Nat.le_refl 4
  unfold f_X7_counts
  show Vj (p, l, e, 4, s, m, args, below, meth, c) w shR 3 0 σ 0 [(0, .ref (w.2.1 0))] [] _
  refine r_aload_n hg 0 dX7_counts_0 rfl ?_
  refine q_callv0 hg (e_X7_layRow N l w σ) kk_RX7_217 ki_X7_layRow ks_RX7_X7_layRow rfl rfl np_X7_layRow (Nat.le_trans (by decide) hdp) rfl m_c1_nil (Nat.le_of_ble_eq_true rfl) dX7_counts_1 (fun r1 σ2 => ?_)
  refine r_iconst hg 0 dX7_counts_4 (by decide) ?_
  refine r_istore_n (lv' := [(1, .int 0), (0, .ref (w.2.1 0))]) hg dX7_counts_5 (by decide) rfl ?_
  refine r_iconst hg 0 dX7_counts_6 (by decide) ?_
  refine r_istore_n (lv' := [(2, .int 0), (1, .int 0), (0, .ref (w.2.1 0))]) hg dX7_counts_7 (by decide) rfl ?_
  refine r_lv [2, 1, 0] rfl ?_
  exact vl_X7_counts_8 hg hdp N 0 0 σ2
set_option maxHeartbeats 4000000 in
set_option maxRecDepth 100000 in
theorem vj_X7_part_86 {N : Nat} (hg : m_ok (p, l, e, d, s, m, args, below, meth, c) w shR cX7_part 4 RX7 none) (hdp : 5 ≤ d) {dr : Nat} (hdr : dr + 1 ≤ d) {rec : Int32 → Mem → Option (Int32 × Mem)} (hrec : ∀ (v1 : Int32) (σ : Mem), Ev l w shR yX7_part cX7_part 4 none 0 dr [.ref (w.2.1 0), .int v1] σ (rec v1 σ)) {K34 : Int32 → Int32 → Mem → Option (Int32 × Mem)} (hK34 : ∀ (x1 x2 : Int32) (σ : Mem), Vj (p, l, e, d, s, m, args, below, meth, c) w shR 4 0 σ 34 [(0, .ref (w.2.1 0)), (1, .int x1), (2, .int x2)] [] (K34 x1 x2 σ)) (x1 x2 : Int32) (σ : Mem) : Vj (p, l, e, d, s, m, args, below, meth, c) w shR 4 0 σ 86 [(0, .ref (w.2.1 0)), (1, .int x1), (2, .int x2)] [] (j_X7_part_86 N rec K34 x1 x2 σ) := by
  unfold j_X7_part_86
  refine r_aload_n hg 0 dX7_part_86 rfl ?_
  refine q_getr (j := 36) hg rfl rfl rfl (by decide) iX7 kf_RX7_59 rfl dX7_part_87 ?_
  refine r_iload_n hg 2 dX7_part_90 rfl ?_
  refine r_iaload (n := 12) hg rfl dX7_part_91 ?_
  refine q_name (fun u1 => ?_)
  refine r_istore_n (lv' := [(3, .int u1), (0, .ref (w.2.1 0)), (1, .int x1), (2, .int x2)]) hg dX7_part_92 (by decide) rfl ?_
  refine r_aload_n hg 1 dX7_part_93 rfl ?_
  refine q_getr (j := 36) hg rfl rfl rfl (by decide) iX7 kf_RX7_59 rfl dX7_part_94 ?_
  refine r_iload_n hg 3 dX7_part_97 rfl ?_
  refine r_dup2 hg dX7_part_98 ?_
  refine r_iaload (n := 12) hg rfl dX7_part_99 ?_
  refine r_aload_n hg 1 dX7_part_100 rfl ?_
  refine q_getr (j := 13) hg rfl rfl rfl (by decide) iX7 kf_RX7_32 rfl dX7_part_101 ?_
  refine r_iload_n hg 2 dX7_part_104 rfl ?_
  refine r_iaload (n := 12) hg rfl dX7_part_105 ?_
  refine r_iand hg dX7_part_106 ?_
  refine q_iastore (n := 12) hg rfl dX7_part_107 (fun σ2 => ?_)
  refine r_aload_n hg 1 dX7_part_108 rfl ?_
  refine q_getr (j := 16) hg rfl rfl rfl (by decide) iX7 kf_RX7_38 rfl dX7_part_109 ?_
  refine r_iload_n hg 3 dX7_part_112 rfl ?_
  refine r_dup2 hg dX7_part_113 ?_
  refine r_iaload (n := 12) hg rfl dX7_part_114 ?_
  refine r_iconst hg 1 dX7_part_115 (by decide) ?_
  refine r_iload_n hg 2 dX7_part_116 rfl ?_
  refine r_ishl hg dX7_part_117 ?_
  refine r_ior hg dX7_part_118 ?_
  refine q_iastore (n := 12) hg rfl dX7_part_119 (fun σ3 => ?_)
  refine r_aload_n hg 1 dX7_part_120 rfl ?_
  refine r_iload_n hg 2 dX7_part_121 rfl ?_
  refine r_iconst hg 1 dX7_part_122 (by decide) ?_
  refine r_iadd hg dX7_part_123 ?_
  refine q_callv0 hg (hrec (x1 + 1) σ3) kk_RX7_272 ki_X7_part ks_RX7_X7_part rfl rfl np_X7_part hdr rfl m_c1_nil (Nat.le_of_ble_eq_true rfl) dX7_part_124 (fun r4 σ5 => ?_)
  refine r_aload_n hg 1 dX7_part_127 rfl ?_
  refine q_getr (j := 16) hg rfl rfl rfl (by decide) iX7 kf_RX7_38 rfl dX7_part_128 ?_
  refine r_iload_n hg 3 dX7_part_131 rfl ?_
  refine r_dup2 hg dX7_part_132 ?_
  refine r_iaload (n := 12) hg rfl dX7_part_133 ?_
  refine r_iconst hg 1 dX7_part_134 (by decide) ?_
  refine r_iload_n hg 2 dX7_part_135 rfl ?_
  refine r_ishl hg dX7_part_136 ?_
  refine r_iconst hg (-1) dX7_part_137 (by decide) ?_
  refine r_ixor hg dX7_part_138 ?_
  refine r_iand hg dX7_part_139 ?_
  refine q_iastore (n := 12) hg rfl dX7_part_140 (fun σ6 => ?_)
  refine r_aload_n hg 1 dX7_part_141 rfl ?_
  refine q_getr (j := 36) hg rfl rfl rfl (by decide) iX7 kf_RX7_59 rfl dX7_part_142 ?_
  refine r_iload_n hg 3 dX7_part_145 rfl ?_
  refine r_iload_n hg 0 dX7_part_146 rfl ?_
  refine q_iastore (n := 12) hg rfl dX7_part_147 (fun σ7 => ?_)
  refine r_iinc (lv' := [(2, .int (x2 + 1)), (3, .int u1), (0, .ref (w.2.1 0)), (1, .int x1)]) hg 3 (x2 + 1) dX7_part_148 rfl rfl (by decide) rfl ?_
  refine r_goto hg 34 dX7_part_151 (by decide) ?_
  refine r_lv [2, 3, 0] rfl ?_
  exact hK34 x1 (x2 + 1) σ7
set_option maxHeartbeats 4000000 in
set_option maxRecDepth 100000 in
theorem vb_X7_part_34 {N : Nat} (hg : m_ok (p, l, e, d, s, m, args, below, meth, c) w shR cX7_part 4 RX7 none) (hdp : 5 ≤ d) {dr : Nat} (hdr : dr + 1 ≤ d) {rec : Int32 → Mem → Option (Int32 × Mem)} (hrec : ∀ (v1 : Int32) (σ : Mem), Ev l w shR yX7_part cX7_part 4 none 0 dr [.ref (w.2.1 0), .int v1] σ (rec v1 σ)) {K34 : Int32 → Int32 → Mem → Option (Int32 × Mem)} (hK34 : ∀ (x1 x2 : Int32) (σ : Mem), Vj (p, l, e, d, s, m, args, below, meth, c) w shR 4 0 σ 34 [(0, .ref (w.2.1 0)), (1, .int x1), (2, .int x2)] [] (K34 x1 x2 σ)) (x1 x2 : Int32) (σ : Mem) : Vj (p, l, e, d, s, m, args, below, meth, c) w shR 4 0 σ 34 [(0, .ref (w.2.1 0)), (1, .int x1), (2, .int x2)] [] (b_X7_part_34 N rec K34 x1 x2 σ) := by
  unfold b_X7_part_34
  refine r_iload_n hg 2 dX7_part_34 rfl ?_
  refine r_aload_n hg 0 dX7_part_35 rfl ?_
  refine q_geti (j := 22) hg rfl rfl rfl (by decide) iX7 kf_RX7_184 rfl dX7_part_36 ?_
  refine r_icmp_ge hg 154 dX7_part_39 (by decide) ?_ ?_
  · refine r_aload_n hg 0 dX7_part_154 rfl ?_
    refine q_getr (j := 16) hg rfl rfl rfl (by decide) iX7 kf_RX7_38 rfl dX7_part_155 ?_
    refine r_aload_n hg 0 dX7_part_158 rfl ?_
    refine q_geti (j := 22) hg rfl rfl rfl (by decide) iX7 kf_RX7_184 rfl dX7_part_159 ?_
    refine r_iconst hg 1 dX7_part_162 (by decide) ?_
    refine r_iload_n hg 1 dX7_part_163 rfl ?_
    refine r_ishl hg dX7_part_164 ?_
    refine q_iastore (n := 12) hg rfl dX7_part_165 (fun σ1 => ?_)
    refine r_aload_n hg 0 dX7_part_166 rfl ?_
    refine q_getr (j := 36) hg rfl rfl rfl (by decide) iX7 kf_RX7_59 rfl dX7_part_167 ?_
    refine r_aload_n hg 0 dX7_part_170 rfl ?_
    refine q_geti (j := 22) hg rfl rfl rfl (by decide) iX7 kf_RX7_184 rfl dX7_part_171 ?_
    refine r_aload_n hg 0 dX7_part_174 rfl ?_
    refine q_getr (j := 13) hg rfl rfl rfl (by decide) iX7 kf_RX7_32 rfl dX7_part_175 ?_
    refine r_iload_n hg 1 dX7_part_178 rfl ?_
    refine r_iaload (n := 12) hg rfl dX7_part_179 ?_
    refine q_iastore (n := 12) hg rfl dX7_part_180 (fun σ2 => ?_)
    refine r_aload_n hg 0 dX7_part_181 rfl ?_
    refine r_dupr hg dX7_part_182 ?_
    refine q_geti (j := 22) hg rfl rfl rfl (by decide) iX7 kf_RX7_184 rfl dX7_part_183 ?_
    refine r_iconst hg 1 dX7_part_186 (by decide) ?_
    refine r_iadd hg dX7_part_187 ?_
    refine q_put (j := 22) hg rfl rfl rfl (by decide) iX7 kf_RX7_184 rfl tyX7_ok nmX7 rfl rfl dX7_part_188 (fun σ3 => ?_)
    refine r_aload_n hg 0 dX7_part_191 rfl ?_
    refine r_iload_n hg 1 dX7_part_192 rfl ?_
    refine r_iconst hg 1 dX7_part_193 (by decide) ?_
    refine r_iadd hg dX7_part_194 ?_
    refine q_callv0 hg (hrec (x1 + 1) σ3) kk_RX7_272 ki_X7_part ks_RX7_X7_part rfl rfl np_X7_part hdr rfl m_c1_nil (Nat.le_of_ble_eq_true rfl) dX7_part_195 (fun r4 σ5 => ?_)
    refine r_aload_n hg 0 dX7_part_198 rfl ?_
    refine r_dupr hg dX7_part_199 ?_
    refine q_geti (j := 22) hg rfl rfl rfl (by decide) iX7 kf_RX7_184 rfl dX7_part_200 ?_
    refine r_iconst hg 1 dX7_part_203 (by decide) ?_
    refine r_isub hg dX7_part_204 ?_
    refine q_put (j := 22) hg rfl rfl rfl (by decide) iX7 kf_RX7_184 rfl tyX7_ok nmX7 rfl rfl dX7_part_205 (fun σ6 => ?_)
    exact r_ret hg dX7_part_208 rfl rfl
  · refine r_aload_n hg 0 dX7_part_42 rfl ?_
    refine q_getr (j := 16) hg rfl rfl rfl (by decide) iX7 kf_RX7_38 rfl dX7_part_43 ?_
    refine r_iload_n hg 2 dX7_part_46 rfl ?_
    refine r_iaload (n := 12) hg rfl dX7_part_47 ?_
    refine r_aload_n hg 0 dX7_part_48 rfl ?_
    refine q_getr (j := 35) hg rfl rfl rfl (by decide) iX7 kf_RX7_56 rfl dX7_part_49 ?_
    refine r_iload_n hg 1 dX7_part_52 rfl ?_
    refine r_iaload (n := 12) hg rfl dX7_part_53 ?_
    refine r_iconst hg (-1) dX7_part_54 (by decide) ?_
    refine r_ixor hg dX7_part_55 ?_
    refine r_iand hg dX7_part_56 ?_
    refine r_if_ne hg 148 dX7_part_57 (by decide) ?_ ?_
    · refine r_iinc (lv' := [(2, .int (x2 + 1)), (0, .ref (w.2.1 0)), (1, .int x1)]) hg 2 (x2 + 1) dX7_part_148 rfl rfl (by decide) rfl ?_
      refine r_goto hg 34 dX7_part_151 (by decide) ?_
      refine r_lv [1, 2, 0] rfl ?_
      exact hK34 x1 (x2 + 1) σ
    · refine r_aload_n hg 0 dX7_part_60 rfl ?_
      refine q_geti (j := 37) hg rfl rfl rfl (by decide) iX7 kf_RX7_233 rfl dX7_part_61 ?_
      refine r_if_eq hg 86 dX7_part_64 (by decide) ?_ ?_
      · exact vj_X7_part_86 hg hdp hdr hrec hK34 x1 x2 σ
      · refine r_aload_n hg 0 dX7_part_67 rfl ?_
        refine q_getr (j := 36) hg rfl rfl rfl (by decide) iX7 kf_RX7_59 rfl dX7_part_68 ?_
        refine r_iload_n hg 2 dX7_part_71 rfl ?_
        refine r_iaload (n := 12) hg rfl dX7_part_72 ?_
        refine r_aload_n hg 0 dX7_part_73 rfl ?_
        refine q_getr (j := 13) hg rfl rfl rfl (by decide) iX7 kf_RX7_32 rfl dX7_part_74 ?_
        refine r_iload_n hg 1 dX7_part_77 rfl ?_
        refine r_iaload (n := 12) hg rfl dX7_part_78 ?_
        refine r_iand hg dX7_part_79 ?_
        refine r_if_ne hg 86 dX7_part_80 (by decide) ?_ ?_
        · exact vj_X7_part_86 hg hdp hdr hrec hK34 x1 x2 σ
        · refine r_goto hg 148 dX7_part_83 (by decide) ?_
          refine r_iinc (lv' := [(2, .int (x2 + 1)), (0, .ref (w.2.1 0)), (1, .int x1)]) hg 2 (x2 + 1) dX7_part_148 rfl rfl (by decide) rfl ?_
          refine r_goto hg 34 dX7_part_151 (by decide) ?_
          refine r_lv [1, 2, 0] rfl ?_
          exact hK34 x1 (x2 + 1) σ
set_option maxHeartbeats 4000000 in
set_option maxRecDepth 100000 in
theorem vl_X7_part_34 {N : Nat} (hg : m_ok (p, l, e, d, s, m, args, below, meth, c) w shR cX7_part 4 RX7 none) (hdp : 5 ≤ d) {dr : Nat} (hdr : dr + 1 ≤ d) {rec : Int32 → Mem → Option (Int32 × Mem)} (hrec : ∀ (v1 : Int32) (σ : Mem), Ev l w shR yX7_part cX7_part 4 none 0 dr [.ref (w.2.1 0), .int v1] σ (rec v1 σ)) : ∀ (n : Nat) (x1 x2 : Int32) (σ : Mem), Vj (p, l, e, d, s, m, args, below, meth, c) w shR 4 0 σ 34 [(0, .ref (w.2.1 0)), (1, .int x1), (2, .int x2)] [] (l_X7_part_34 N rec n x1 x2 σ)
| 0, _, _, _ => Vj.none
| n + 1, x1, x2, σ => vb_X7_part_34 hg hdp hdr hrec (fun x1 x2 σ => vl_X7_part_34 hg hdp hdr hrec n x1 x2 σ) x1 x2 σ
set_option maxHeartbeats 4000000 in
set_option maxRecDepth 100000 in
theorem vf_X7_part {N : Nat} (hg : m_ok (p, l, e, d, s, m, args, below, meth, c) w shR cX7_part 4 RX7 none) (hdp : 5 ≤ d) {dr : Nat} (hdr : dr + 1 ≤ d) {rec : Int32 → Mem → Option (Int32 × Mem)} (hrec : ∀ (v1 : Int32) (σ : Mem), Ev l w shR yX7_part cX7_part 4 none 0 dr [.ref (w.2.1 0), .int v1] σ (rec v1 σ)) (v1 : Int32) (σ : Mem) : Vj (p, l, e, d, s, m, args, below, meth, c) w shR 4 0 σ 0 [(0, .ref (w.2.1 0)), (1, .int v1)] [] (fb_X7_part N rec v1 σ) := by
  unfold fb_X7_part
  refine r_iload_n hg 1 dX7_part_0 rfl ?_
  refine r_aload_n hg 0 dX7_part_1 rfl ?_
  refine q_geti (j := 15) hg rfl rfl rfl (by decide) iX7 kf_RX7_146 rfl dX7_part_2 ?_
  refine r_icmp_ne hg 13 dX7_part_5 (by decide) ?_ ?_
  · refine r_aload_n hg 0 dX7_part_13 rfl ?_
    refine q_geti (j := 26) hg rfl rfl rfl (by decide) iX7 kf_RX7_269 rfl dX7_part_14 ?_
    refine r_iload_n hg 1 dX7_part_17 rfl ?_
    refine q_calls1 hg (e_X7_has N l w (σ 0 26) v1 σ) kk_RX7_157 kt_X7_has np_X7_has (Nat.le_trans (by decide) hdp) rfl m_c1_nil (Nat.le_of_ble_eq_true rfl) dX7_part_18 (fun r1 σ2 => ?_)
    refine r_if_ne hg 32 dX7_part_21 (by decide) ?_ ?_
    · refine r_iconst hg 0 dX7_part_32 (by decide) ?_
      refine r_istore_n (lv' := [(2, .int 0), (0, .ref (w.2.1 0)), (1, .int v1)]) hg dX7_part_33 (by decide) rfl ?_
      refine r_lv [1, 2, 0] rfl ?_
      exact vl_X7_part_34 hg hdp hdr hrec N v1 0 σ2
    · refine r_aload_n hg 0 dX7_part_24 rfl ?_
      refine r_iload_n hg 1 dX7_part_25 rfl ?_
      refine r_iconst hg 1 dX7_part_26 (by decide) ?_
      refine r_iadd hg dX7_part_27 ?_
      refine q_callv0 hg (hrec (v1 + 1) σ2) kk_RX7_272 ki_X7_part ks_RX7_X7_part rfl rfl np_X7_part hdr rfl m_c1_nil (Nat.le_of_ble_eq_true rfl) dX7_part_28 (fun r3 σ4 => ?_)
      exact r_ret hg dX7_part_31 rfl rfl
  · refine r_aload_n hg 0 dX7_part_8 rfl ?_
    refine q_callv0 hg (e_X7_counts N l w σ) kk_RX7_266 ki_X7_counts ks_RX7_X7_counts rfl rfl np_X7_counts (Nat.le_trans (by decide) hdp) rfl m_c1_nil (Nat.le_of_ble_eq_true rfl) dX7_part_9 (fun r5 σ6 => ?_)
    exact r_ret hg dX7_part_12 rfl rfl
set_option maxHeartbeats 4000000 in
set_option maxRecDepth 100000 in
theorem e_X7_part (N : Nat) : ∀ (n : Nat) (l : Launch) (w : mW) (v1 : Int32) (σ : Mem), Ev l w shR yX7_part cX7_part 4 none 0 (5 + n) [.ref (w.2.1 0), .int v1] σ (f_X7_part N n v1 σ)
| 0, _, _, _, _ => fun _ _ ho => nomatch ho
| n + 1, l, w, v1, σ => Ev.of (by decide) (m_c1_r (m_c1_i m_c1_nil)) (Nat.le_of_ble_eq_true rfl) (fun p e s m args below meth c hg => vf_X7_part hg (Nat.le_add_right _ _) (dr := 5 + n) (Nat.le_refl _) (fun v1 σ => e_X7_part N n l w v1 σ) v1 σ)
set_option maxHeartbeats 4000000 in
set_option maxRecDepth 100000 in
theorem vb_X7_mayNow_2 {N : Nat} (hg : m_ok (p, l, e, d, s, m, args, below, meth, c) w shR cX7_mayNow 3 RX7 (some .boolean)) (hdp : 3 ≤ d) {K2 : Int32 → Int32 → Mem → Option (Int32 × Mem)} (hK2 : ∀ (x1 x2 : Int32) (σ : Mem), Vj (p, l, e, d, s, m, args, below, meth, c) w shR 3 1 σ 2 [(0, .ref (w.2.1 0)), (1, .int x1), (2, .int x2)] [] (K2 x1 x2 σ)) (x1 x2 : Int32) (σ : Mem) : Vj (p, l, e, d, s, m, args, below, meth, c) w shR 3 1 σ 2 [(0, .ref (w.2.1 0)), (1, .int x1), (2, .int x2)] [] (b_X7_mayNow_2 N K2 x1 x2 σ) := by
  unfold b_X7_mayNow_2
  refine r_iload_n hg 2 dX7_mayNow_2 rfl ?_
  refine r_aload_n hg 0 dX7_mayNow_3 rfl ?_
  refine q_geti (j := 7) hg rfl rfl rfl (by decide) iX7 kf_RX7_120 rfl dX7_mayNow_4 ?_
  refine r_icmp_ge hg 35 dX7_mayNow_7 (by decide) ?_ ?_
  · refine r_iconst hg 1 dX7_mayNow_35 (by decide) ?_
    exact r_zret hg dX7_mayNow_36 rfl rfl
  · refine r_aload_n hg 0 dX7_mayNow_10 rfl ?_
    refine r_iload_n hg 2 dX7_mayNow_11 rfl ?_
    refine q_callv1 hg (e_X7_isAsked N l w x2 σ) kk_RX7_239 ki_X7_isAsked ks_RX7_X7_isAsked rfl rfl np_X7_isAsked (Nat.le_trans (by decide) hdp) rfl m_c1_nil (Nat.le_of_ble_eq_true rfl) dX7_mayNow_12 (fun r1 σ2 => ?_)
    refine r_if_eq hg 29 dX7_mayNow_15 (by decide) ?_ ?_
    · refine r_iinc (lv' := [(2, .int (x2 + 1)), (0, .ref (w.2.1 0)), (1, .int x1)]) hg 2 (x2 + 1) dX7_mayNow_29 rfl rfl (by decide) rfl ?_
      refine r_goto hg 2 dX7_mayNow_32 (by decide) ?_
      refine r_lv [1, 2, 0] rfl ?_
      exact hK2 x1 (x2 + 1) σ2
    · refine r_aload_n hg 0 dX7_mayNow_18 rfl ?_
      refine r_iload_n hg 2 dX7_mayNow_19 rfl ?_
      refine r_iload_n hg 1 dX7_mayNow_20 rfl ?_
      refine q_callv1 hg (e_X7_mayBeOne N l w x2 x1 σ2) kk_RX7_175 ki_X7_mayBeOne ks_RX7_X7_mayBeOne rfl rfl np_X7_mayBeOne (Nat.le_trans (by decide) hdp) rfl m_c1_nil (Nat.le_of_ble_eq_true rfl) dX7_mayNow_21 (fun r3 σ4 => ?_)
      refine r_if_ne hg 29 dX7_mayNow_24 (by decide) ?_ ?_
      · refine r_iinc (lv' := [(2, .int (x2 + 1)), (0, .ref (w.2.1 0)), (1, .int x1)]) hg 2 (x2 + 1) dX7_mayNow_29 rfl rfl (by decide) rfl ?_
        refine r_goto hg 2 dX7_mayNow_32 (by decide) ?_
        refine r_lv [1, 2, 0] rfl ?_
        exact hK2 x1 (x2 + 1) σ4
      · refine r_iconst hg 0 dX7_mayNow_27 (by decide) ?_
        exact r_zret hg dX7_mayNow_28 rfl rfl
set_option maxHeartbeats 4000000 in
set_option maxRecDepth 100000 in
theorem vl_X7_mayNow_2 {N : Nat} (hg : m_ok (p, l, e, d, s, m, args, below, meth, c) w shR cX7_mayNow 3 RX7 (some .boolean)) (hdp : 3 ≤ d) : ∀ (n : Nat) (x1 x2 : Int32) (σ : Mem), Vj (p, l, e, d, s, m, args, below, meth, c) w shR 3 1 σ 2 [(0, .ref (w.2.1 0)), (1, .int x1), (2, .int x2)] [] (l_X7_mayNow_2 N n x1 x2 σ)
| 0, _, _, _ => Vj.none
| n + 1, x1, x2, σ => vb_X7_mayNow_2 hg hdp (fun x1 x2 σ => vl_X7_mayNow_2 hg hdp n x1 x2 σ) x1 x2 σ
set_option maxHeartbeats 4000000 in
set_option maxRecDepth 100000 in
theorem e_X7_mayNow (N : Nat) (l : Launch) (w : mW) (v1 : Int32) (σ : Mem) : Ev l w shR yX7_mayNow cX7_mayNow 3 (some .boolean) 1 3 [.ref (w.2.1 0), .int v1] σ (f_X7_mayNow N v1 σ) := by
  refine Ev.of (by decide) (m_c1_r (m_c1_i m_c1_nil)) (Nat.le_of_ble_eq_true rfl) (fun p e s m args below meth c hg => ?_)
  have hdp := Nat.le_refl 3
  unfold f_X7_mayNow
  show Vj (p, l, e, 3, s, m, args, below, meth, c) w shR 3 1 σ 0 [(0, .ref (w.2.1 0)), (1, .int v1)] [] _
  refine r_iconst hg 0 dX7_mayNow_0 (by decide) ?_
  refine r_istore_n (lv' := [(2, .int 0), (0, .ref (w.2.1 0)), (1, .int v1)]) hg dX7_mayNow_1 (by decide) rfl ?_
  refine r_lv [1, 2, 0] rfl ?_
  exact vl_X7_mayNow_2 hg hdp N v1 0 σ
set_option maxHeartbeats 4000000 in
set_option maxRecDepth 100000 in
theorem vb_X7_partByHours_29 {N : Nat} (hg : m_ok (p, l, e, d, s, m, args, below, meth, c) w shR cX7_partByHours 5 RX7 none) (hdp : 5 ≤ d) {dr : Nat} (hdr : dr + 1 ≤ d) {rec : Int32 → Mem → Option (Int32 × Mem)} (hrec : ∀ (v1 : Int32) (σ : Mem), Ev l w shR yX7_partByHours cX7_partByHours 5 none 0 dr [.ref (w.2.1 0), .int v1] σ (rec v1 σ)) {K11 : Int32 → Int32 → Mem → Option (Int32 × Mem)} (hK11 : ∀ (x1 x2 : Int32) (σ : Mem), Vj (p, l, e, d, s, m, args, below, meth, c) w shR 5 0 σ 11 [(0, .ref (w.2.1 0)), (1, .int x1), (2, .int x2)] [] (K11 x1 x2 σ)) {K29 : Int32 → Int32 → Int32 → Int32 → Mem → Option (Int32 × Mem)} (hK29 : ∀ (x1 x2 x3 x4 : Int32) (σ : Mem), Vj (p, l, e, d, s, m, args, below, meth, c) w shR 5 0 σ 29 [(0, .ref (w.2.1 0)), (1, .int x1), (2, .int x2), (3, .int x3), (4, .int x4)] [] (K29 x1 x2 x3 x4 σ)) (x1 x2 x3 x4 : Int32) (σ : Mem) : Vj (p, l, e, d, s, m, args, below, meth, c) w shR 5 0 σ 29 [(0, .ref (w.2.1 0)), (1, .int x1), (2, .int x2), (3, .int x3), (4, .int x4)] [] (b_X7_partByHours_29 N rec K11 K29 x1 x2 x3 x4 σ) := by
  unfold b_X7_partByHours_29
  refine r_iload hg 4 dX7_partByHours_29 rfl ?_
  refine r_aload_n hg 0 dX7_partByHours_31 rfl ?_
  refine q_geti (j := 15) hg rfl rfl rfl (by decide) iX7 kf_RX7_146 rfl dX7_partByHours_32 ?_
  refine r_icmp_ge hg 75 dX7_partByHours_35 (by decide) ?_ ?_
  · refine r_aload_n hg 0 dX7_partByHours_75 rfl ?_
    refine r_iload_n hg 2 dX7_partByHours_76 rfl ?_
    refine q_callv1 hg (e_X7_mayNow N l w x2 σ) kk_RX7_275 ki_X7_mayNow ks_RX7_X7_mayNow rfl rfl np_X7_mayNow (Nat.le_trans (by decide) hdp) rfl m_c1_nil (Nat.le_of_ble_eq_true rfl) dX7_partByHours_77 (fun r1 σ2 => ?_)
    refine r_if_ne hg 86 dX7_partByHours_80 (by decide) ?_ ?_
    · refine r_aload_n hg 0 dX7_partByHours_86 rfl ?_
      refine q_getr (j := 16) hg rfl rfl rfl (by decide) iX7 kf_RX7_38 rfl dX7_partByHours_87 ?_
      refine r_aload_n hg 0 dX7_partByHours_90 rfl ?_
      refine q_geti (j := 22) hg rfl rfl rfl (by decide) iX7 kf_RX7_184 rfl dX7_partByHours_91 ?_
      refine r_iload_n hg 2 dX7_partByHours_94 rfl ?_
      refine q_iastore (n := 12) hg rfl dX7_partByHours_95 (fun σ3 => ?_)
      refine r_aload_n hg 0 dX7_partByHours_96 rfl ?_
      refine r_dupr hg dX7_partByHours_97 ?_
      refine q_geti (j := 22) hg rfl rfl rfl (by decide) iX7 kf_RX7_184 rfl dX7_partByHours_98 ?_
      refine r_iconst hg 1 dX7_partByHours_101 (by decide) ?_
      refine r_iadd hg dX7_partByHours_102 ?_
      refine q_put (j := 22) hg rfl rfl rfl (by decide) iX7 kf_RX7_184 rfl tyX7_ok nmX7 rfl rfl dX7_partByHours_103 (fun σ4 => ?_)
      refine r_aload_n hg 0 dX7_partByHours_106 rfl ?_
      refine r_iload_n hg 1 dX7_partByHours_107 rfl ?_
      refine r_iload_n hg 2 dX7_partByHours_108 rfl ?_
      refine r_iconst hg (-1) dX7_partByHours_109 (by decide) ?_
      refine r_ixor hg dX7_partByHours_110 ?_
      refine r_iand hg dX7_partByHours_111 ?_
      refine q_callv0 hg (hrec (x1 &&& (x2 ^^^ (-1))) σ4) kk_RX7_278 ki_X7_partByHours ks_RX7_X7_partByHours rfl rfl np_X7_partByHours hdr rfl m_c1_nil (Nat.le_of_ble_eq_true rfl) dX7_partByHours_112 (fun r5 σ6 => ?_)
      refine r_aload_n hg 0 dX7_partByHours_115 rfl ?_
      refine r_dupr hg dX7_partByHours_116 ?_
      refine q_geti (j := 22) hg rfl rfl rfl (by decide) iX7 kf_RX7_184 rfl dX7_partByHours_117 ?_
      refine r_iconst hg 1 dX7_partByHours_120 (by decide) ?_
      refine r_isub hg dX7_partByHours_121 ?_
      refine q_put (j := 22) hg rfl rfl rfl (by decide) iX7 kf_RX7_184 rfl tyX7_ok nmX7 rfl rfl dX7_partByHours_122 (fun σ7 => ?_)
      refine r_goto hg 11 dX7_partByHours_125 (by decide) ?_
      refine r_lv [0, 1, 2] rfl ?_
      exact hK11 x1 x2 σ7
    · refine r_goto hg 11 dX7_partByHours_83 (by decide) ?_
      refine r_lv [0, 1, 2] rfl ?_
      exact hK11 x1 x2 σ2
  · refine r_iload_n hg 2 dX7_partByHours_38 rfl ?_
    refine r_iload_n hg 1 dX7_partByHours_39 rfl ?_
    refine r_iload hg 4 dX7_partByHours_40 rfl ?_
    refine q_calls1 hg (e_X7_has N l w x1 x4 σ) kk_RX7_157 kt_X7_has np_X7_has (Nat.le_trans (by decide) hdp) rfl (m_c1_i m_c1_nil) (Nat.le_of_ble_eq_true rfl) dX7_partByHours_42 (fun r8 σ9 => ?_)
    refine r_if_eq hg 66 dX7_partByHours_45 (by decide) ?_ ?_
    · refine r_iconst hg 0 dX7_partByHours_66 (by decide) ?_
      refine r_ior hg dX7_partByHours_67 ?_
      refine q_name (fun u10 => ?_)
      refine r_istore_n (lv' := [(2, .int u10), (0, .ref (w.2.1 0)), (1, .int x1), (3, .int x3), (4, .int x4)]) hg dX7_partByHours_68 (by decide) rfl ?_
      refine r_iinc (lv' := [(4, .int (x4 + 1)), (2, .int u10), (0, .ref (w.2.1 0)), (1, .int x1), (3, .int x3)]) hg 4 (x4 + 1) dX7_partByHours_69 rfl rfl (by decide) rfl ?_
      refine r_goto hg 29 dX7_partByHours_72 (by decide) ?_
      refine r_lv [2, 3, 1, 4, 0] rfl ?_
      exact hK29 x1 u10 x3 (x4 + 1) σ9
    · refine r_aload_n hg 0 dX7_partByHours_48 rfl ?_
      refine q_getr (j := 9) hg rfl rfl rfl (by decide) iX7 kf_RX7_20 rfl dX7_partByHours_49 ?_
      refine r_iload hg 4 dX7_partByHours_52 rfl ?_
      refine r_iaload (n := 12) hg rfl dX7_partByHours_54 ?_
      refine r_iload_n hg 3 dX7_partByHours_55 rfl ?_
      refine r_icmp_ne hg 66 dX7_partByHours_56 (by decide) ?_ ?_
      · refine r_iconst hg 0 dX7_partByHours_66 (by decide) ?_
        refine r_ior hg dX7_partByHours_67 ?_
        refine q_name (fun u11 => ?_)
        refine r_istore_n (lv' := [(2, .int u11), (0, .ref (w.2.1 0)), (1, .int x1), (3, .int x3), (4, .int x4)]) hg dX7_partByHours_68 (by decide) rfl ?_
        refine r_iinc (lv' := [(4, .int (x4 + 1)), (2, .int u11), (0, .ref (w.2.1 0)), (1, .int x1), (3, .int x3)]) hg 4 (x4 + 1) dX7_partByHours_69 rfl rfl (by decide) rfl ?_
        refine r_goto hg 29 dX7_partByHours_72 (by decide) ?_
        refine r_lv [2, 3, 1, 4, 0] rfl ?_
        exact hK29 x1 u11 x3 (x4 + 1) σ9
      · refine r_iconst hg 1 dX7_partByHours_59 (by decide) ?_
        refine r_iload hg 4 dX7_partByHours_60 rfl ?_
        refine r_ishl hg dX7_partByHours_62 ?_
        refine r_goto hg 67 dX7_partByHours_63 (by decide) ?_
        refine r_ior hg dX7_partByHours_67 ?_
        refine q_name (fun u12 => ?_)
        refine r_istore_n (lv' := [(2, .int u12), (0, .ref (w.2.1 0)), (1, .int x1), (3, .int x3), (4, .int x4)]) hg dX7_partByHours_68 (by decide) rfl ?_
        refine r_iinc (lv' := [(4, .int (x4 + 1)), (2, .int u12), (0, .ref (w.2.1 0)), (1, .int x1), (3, .int x3)]) hg 4 (x4 + 1) dX7_partByHours_69 rfl rfl (by decide) rfl ?_
        refine r_goto hg 29 dX7_partByHours_72 (by decide) ?_
        refine r_lv [2, 3, 1, 4, 0] rfl ?_
        exact hK29 x1 u12 x3 (x4 + 1) σ9
set_option maxHeartbeats 4000000 in
set_option maxRecDepth 100000 in
theorem vl_X7_partByHours_29 {N : Nat} (hg : m_ok (p, l, e, d, s, m, args, below, meth, c) w shR cX7_partByHours 5 RX7 none) (hdp : 5 ≤ d) {dr : Nat} (hdr : dr + 1 ≤ d) {rec : Int32 → Mem → Option (Int32 × Mem)} (hrec : ∀ (v1 : Int32) (σ : Mem), Ev l w shR yX7_partByHours cX7_partByHours 5 none 0 dr [.ref (w.2.1 0), .int v1] σ (rec v1 σ)) {K11 : Int32 → Int32 → Mem → Option (Int32 × Mem)} (hK11 : ∀ (x1 x2 : Int32) (σ : Mem), Vj (p, l, e, d, s, m, args, below, meth, c) w shR 5 0 σ 11 [(0, .ref (w.2.1 0)), (1, .int x1), (2, .int x2)] [] (K11 x1 x2 σ)) : ∀ (n : Nat) (x1 x2 x3 x4 : Int32) (σ : Mem), Vj (p, l, e, d, s, m, args, below, meth, c) w shR 5 0 σ 29 [(0, .ref (w.2.1 0)), (1, .int x1), (2, .int x2), (3, .int x3), (4, .int x4)] [] (l_X7_partByHours_29 N rec K11 n x1 x2 x3 x4 σ)
| 0, _, _, _, _, _ => Vj.none
| n + 1, x1, x2, x3, x4, σ => vb_X7_partByHours_29 hg hdp hdr hrec hK11 (fun x1 x2 x3 x4 σ => vl_X7_partByHours_29 hg hdp hdr hrec hK11 n x1 x2 x3 x4 σ) x1 x2 x3 x4 σ
set_option maxHeartbeats 4000000 in
set_option maxRecDepth 100000 in
theorem vb_X7_partByHours_11 {N : Nat} (hg : m_ok (p, l, e, d, s, m, args, below, meth, c) w shR cX7_partByHours 5 RX7 none) (hdp : 5 ≤ d) {dr : Nat} (hdr : dr + 1 ≤ d) {rec : Int32 → Mem → Option (Int32 × Mem)} (hrec : ∀ (v1 : Int32) (σ : Mem), Ev l w shR yX7_partByHours cX7_partByHours 5 none 0 dr [.ref (w.2.1 0), .int v1] σ (rec v1 σ)) {K11 : Int32 → Int32 → Mem → Option (Int32 × Mem)} (hK11 : ∀ (x1 x2 : Int32) (σ : Mem), Vj (p, l, e, d, s, m, args, below, meth, c) w shR 5 0 σ 11 [(0, .ref (w.2.1 0)), (1, .int x1), (2, .int x2)] [] (K11 x1 x2 σ)) (x1 x2 : Int32) (σ : Mem) : Vj (p, l, e, d, s, m, args, below, meth, c) w shR 5 0 σ 11 [(0, .ref (w.2.1 0)), (1, .int x1), (2, .int x2)] [] (b_X7_partByHours_11 N rec K11 x1 x2 σ) := by
  unfold b_X7_partByHours_11
  refine r_iload_n hg 2 dX7_partByHours_11 rfl ?_
  refine r_iload_n hg 1 dX7_partByHours_12 rfl ?_
  refine r_icmp_eq hg 128 dX7_partByHours_13 (by decide) ?_ ?_
  · exact r_ret hg dX7_partByHours_128 rfl rfl
  · refine r_aload_n hg 0 dX7_partByHours_16 rfl ?_
    refine r_iload_n hg 1 dX7_partByHours_17 rfl ?_
    refine r_iload_n hg 2 dX7_partByHours_18 rfl ?_
    refine r_iconst hg (-1) dX7_partByHours_19 (by decide) ?_
    refine r_ixor hg dX7_partByHours_20 ?_
    refine r_iand hg dX7_partByHours_21 ?_
    refine q_callv1 hg (e_X7_leastHour N l w (x1 &&& (x2 ^^^ (-1))) σ) kk_RX7_166 ki_X7_leastHour ks_RX7_X7_leastHour rfl rfl np_X7_leastHour (Nat.le_trans (by decide) hdp) rfl m_c1_nil (Nat.le_of_ble_eq_true rfl) dX7_partByHours_22 (fun r1 σ2 => ?_)
    refine r_istore_n (lv' := [(3, .int r1), (0, .ref (w.2.1 0)), (1, .int x1), (2, .int x2)]) hg dX7_partByHours_25 (by decide) rfl ?_
    refine r_iconst hg 0 dX7_partByHours_26 (by decide) ?_
    refine r_istore (lv' := [(4, .int 0), (3, .int r1), (0, .ref (w.2.1 0)), (1, .int x1), (2, .int x2)]) hg dX7_partByHours_27 (by decide) rfl ?_
    refine r_lv [2, 3, 4, 1, 0] rfl ?_
    exact vl_X7_partByHours_29 hg hdp hdr hrec hK11 N x1 x2 r1 0 σ2
set_option maxHeartbeats 4000000 in
set_option maxRecDepth 100000 in
theorem vl_X7_partByHours_11 {N : Nat} (hg : m_ok (p, l, e, d, s, m, args, below, meth, c) w shR cX7_partByHours 5 RX7 none) (hdp : 5 ≤ d) {dr : Nat} (hdr : dr + 1 ≤ d) {rec : Int32 → Mem → Option (Int32 × Mem)} (hrec : ∀ (v1 : Int32) (σ : Mem), Ev l w shR yX7_partByHours cX7_partByHours 5 none 0 dr [.ref (w.2.1 0), .int v1] σ (rec v1 σ)) : ∀ (n : Nat) (x1 x2 : Int32) (σ : Mem), Vj (p, l, e, d, s, m, args, below, meth, c) w shR 5 0 σ 11 [(0, .ref (w.2.1 0)), (1, .int x1), (2, .int x2)] [] (l_X7_partByHours_11 N rec n x1 x2 σ)
| 0, _, _, _ => Vj.none
| n + 1, x1, x2, σ => vb_X7_partByHours_11 hg hdp hdr hrec (fun x1 x2 σ => vl_X7_partByHours_11 hg hdp hdr hrec n x1 x2 σ) x1 x2 σ
set_option maxHeartbeats 4000000 in
set_option maxRecDepth 100000 in
theorem vf_X7_partByHours {N : Nat} (hg : m_ok (p, l, e, d, s, m, args, below, meth, c) w shR cX7_partByHours 5 RX7 none) (hdp : 5 ≤ d) {dr : Nat} (hdr : dr + 1 ≤ d) {rec : Int32 → Mem → Option (Int32 × Mem)} (hrec : ∀ (v1 : Int32) (σ : Mem), Ev l w shR yX7_partByHours cX7_partByHours 5 none 0 dr [.ref (w.2.1 0), .int v1] σ (rec v1 σ)) (v1 : Int32) (σ : Mem) : Vj (p, l, e, d, s, m, args, below, meth, c) w shR 5 0 σ 0 [(0, .ref (w.2.1 0)), (1, .int v1)] [] (fb_X7_partByHours N rec v1 σ) := by
  unfold fb_X7_partByHours
  refine r_iload_n hg 1 dX7_partByHours_0 rfl ?_
  refine r_if_ne hg 9 dX7_partByHours_1 (by decide) ?_ ?_
  · refine r_iconst hg 0 dX7_partByHours_9 (by decide) ?_
    refine r_istore_n (lv' := [(2, .int 0), (0, .ref (w.2.1 0)), (1, .int v1)]) hg dX7_partByHours_10 (by decide) rfl ?_
    refine r_lv [1, 2, 0] rfl ?_
    exact vl_X7_partByHours_11 hg hdp hdr hrec N v1 0 σ
  · refine r_aload_n hg 0 dX7_partByHours_4 rfl ?_
    refine q_callv0 hg (e_X7_counts N l w σ) kk_RX7_266 ki_X7_counts ks_RX7_X7_counts rfl rfl np_X7_counts (Nat.le_trans (by decide) hdp) rfl m_c1_nil (Nat.le_of_ble_eq_true rfl) dX7_partByHours_5 (fun r1 σ2 => ?_)
    exact r_ret hg dX7_partByHours_8 rfl rfl
set_option maxHeartbeats 4000000 in
set_option maxRecDepth 100000 in
theorem e_X7_partByHours (N : Nat) : ∀ (n : Nat) (l : Launch) (w : mW) (v1 : Int32) (σ : Mem), Ev l w shR yX7_partByHours cX7_partByHours 5 none 0 (5 + n) [.ref (w.2.1 0), .int v1] σ (f_X7_partByHours N n v1 σ)
| 0, _, _, _, _ => fun _ _ ho => nomatch ho
| n + 1, l, w, v1, σ => Ev.of (by decide) (m_c1_r (m_c1_i m_c1_nil)) (Nat.le_of_ble_eq_true rfl) (fun p e s m args below meth c hg => vf_X7_partByHours hg (Nat.le_add_right _ _) (dr := 5 + n) (Nat.le_refl _) (fun v1 σ => e_X7_partByHours N n l w v1 σ) v1 σ)
end RM3
