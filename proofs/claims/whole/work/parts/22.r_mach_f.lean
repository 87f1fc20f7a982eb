section RM5
variable {p : Program} {l : Launch} {e : Env} {d : Nat} {s : State} {m : MethodId} {args : Array Value} {below : List Frame} {meth : Method} {c : Code} {w : mW}
set_option maxHeartbeats 4000000 in
set_option maxRecDepth 100000 in
theorem vj_X7_worthOf_57 {N : Nat} (hg : m_ok (p, l, e, d, s, m, args, below, meth, c) w shR cX7_worthOf 4 RX7 (some .int)) (hdp : 37 ≤ d) {K9 : Int32 → Int32 → Int32 → Mem → Option (Int32 × Mem)} (hK9 : ∀ (x1 x2 x3 : Int32) (σ : Mem), Vj (p, l, e, d, s, m, args, below, meth, c) w shR 4 1 σ 9 [(0, .ref (w.2.1 0)), (1, .int x1), (2, .int x2), (3, .int x3)] [] (K9 x1 x2 x3 σ)) (x1 x3 : Int32) (σ : Mem) : Vj (p, l, e, d, s, m, args, below, meth, c) w shR 4 1 σ 57 [(0, .ref (w.2.1 0)), (1, .int x1), (3, .int x3)] [] (j_X7_worthOf_57 N K9 x1 x3 σ) := by
  unfold j_X7_worthOf_57
  refine r_aload_n hg 0 dX7_worthOf_57 rfl ?_
  refine r_iload_n hg 2 dX7_worthOf_58 rfl ?_
  refine q_put (j := 41) hg rfl rfl rfl (by decide) iX7 kf_RX7_296 rfl tyX7_ok nmX7 rfl rfl dX7_worthOf_59 (fun σ1 => ?_)
  refine r_aload_n hg 0 dX7_worthOf_62 rfl ?_
  refine q_geti (j := 27) hg rfl rfl rfl (by decide) iX7 kf_RX7_248 rfl dX7_worthOf_63 ?_
  refine q_name (fun u2 => ?_)
  refine r_istore_n (lv' := [(2, .int u2), (0, .ref (w.2.1 0)), (1, .int x1), (3, .int x3)]) hg dX7_worthOf_66 (by decide) rfl ?_
  refine r_iinc (lv' := [(3, .int (x3 + 1)), (2, .int u2), (0, .ref (w.2.1 0)), (1, .int x1)]) hg 3 (x3 + 1) dX7_worthOf_67 rfl rfl (by decide) rfl ?_
  refine r_goto hg 9 dX7_worthOf_70 (by decide) ?_
  refine r_lv [2, 3, 1, 0] rfl ?_
  exact hK9 x1 u2 (x3 + 1) σ1
set_option maxHeartbeats 4000000 in
set_option maxRecDepth 100000 in
theorem vb_X7_worthOf_9 {N : Nat} (hg : m_ok (p, l, e, d, s, m, args, below, meth, c) w shR cX7_worthOf 4 RX7 (some .int)) (hdp : 37 ≤ d) {K9 : Int32 → Int32 → Int32 → Mem → Option (Int32 × Mem)} (hK9 : ∀ (x1 x2 x3 : Int32) (σ : Mem), Vj (p, l, e, d, s, m, args, below, meth, c) w shR 4 1 σ 9 [(0, .ref (w.2.1 0)), (1, .int x1), (2, .int x2), (3, .int x3)] [] (K9 x1 x2 x3 σ)) (x1 x2 x3 : Int32) (σ : Mem) : Vj (p, l, e, d, s, m, args, below, meth, c) w shR 4 1 σ 9 [(0, .ref (w.2.1 0)), (1, .int x1), (2, .int x2), (3, .int x3)] [] (b_X7_worthOf_9 N K9 x1 x2 x3 σ) := by
  unfold b_X7_worthOf_9
  refine r_iload_n hg 3 dX7_worthOf_9 rfl ?_
  refine r_aload_n hg 0 dX7_worthOf_10 rfl ?_
  refine q_geti (j := 15) hg rfl rfl rfl (by decide) iX7 kf_RX7_146 rfl dX7_worthOf_11 ?_
  refine r_icmp_ge hg 73 dX7_worthOf_14 (by decide) ?_ ?_
  · refine r_iload_n hg 2 dX7_worthOf_73 rfl ?_
    exact r_iret hg dX7_worthOf_74 rfl rfl
  · refine r_aload_n hg 0 dX7_worthOf_17 rfl ?_
    refine r_iload_n hg 1 dX7_worthOf_18 rfl ?_
    refine r_aload_n hg 0 dX7_worthOf_19 rfl ?_
    refine q_callv1 hg (e_X7_every N l w σ) kk_RX7_236 ki_X7_every ks_RX7_X7_every rfl rfl np_X7_every (Nat.le_trans (by decide) hdp) rfl (m_c1_i (m_c1_r m_c1_nil)) (Nat.le_of_ble_eq_true rfl) dX7_worthOf_20 (fun r1 σ2 => ?_)
    refine r_iconst hg 1 dX7_worthOf_23 (by decide) ?_
    refine r_iload_n hg 3 dX7_worthOf_24 rfl ?_
    refine r_ishl hg dX7_worthOf_25 ?_
    refine r_iconst hg (-1) dX7_worthOf_26 (by decide) ?_
    refine r_ixor hg dX7_worthOf_27 ?_
    refine r_iand hg dX7_worthOf_28 ?_
    refine q_callv1 hg (e_X7_layAll N l w x1 (r1 &&& ((1 <<< (x3 &&& 31)) ^^^ (-1))) σ2) kk_RX7_287 ki_X7_layAll ks_RX7_X7_layAll rfl rfl np_X7_layAll (Nat.le_trans (by decide) hdp) rfl m_c1_nil (Nat.le_of_ble_eq_true rfl) dX7_worthOf_29 (fun r3 σ4 => ?_)
    refine r_if_ne hg 38 dX7_worthOf_32 (by decide) ?_ ?_
    · refine r_aload_n hg 0 dX7_worthOf_38 rfl ?_
      refine q_geti (j := 41) hg rfl rfl rfl (by decide) iX7 kf_RX7_296 rfl dX7_worthOf_39 ?_
      refine r_iconst hg (-1) dX7_worthOf_42 (by decide) ?_
      refine r_icmp_eq hg 57 dX7_worthOf_43 (by decide) ?_ ?_
      · refine r_lv [0, 1, 3] rfl ?_
        exact vj_X7_worthOf_57 hg hdp hK9 x1 x3 σ4
      · refine r_aload_n hg 0 dX7_worthOf_46 rfl ?_
        refine q_geti (j := 27) hg rfl rfl rfl (by decide) iX7 kf_RX7_248 rfl dX7_worthOf_47 ?_
        refine r_iload_n hg 2 dX7_worthOf_50 rfl ?_
        refine r_icmp_lt hg 57 dX7_worthOf_51 (by decide) ?_ ?_
        · refine r_lv [0, 1, 3] rfl ?_
          exact vj_X7_worthOf_57 hg hdp hK9 x1 x3 σ4
        · refine r_goto hg 67 dX7_worthOf_54 (by decide) ?_
          refine r_iinc (lv' := [(3, .int (x3 + 1)), (0, .ref (w.2.1 0)), (1, .int x1), (2, .int x2)]) hg 3 (x3 + 1) dX7_worthOf_67 rfl rfl (by decide) rfl ?_
          refine r_goto hg 9 dX7_worthOf_70 (by decide) ?_
          refine r_lv [1, 2, 3, 0] rfl ?_
          exact hK9 x1 x2 (x3 + 1) σ4
    · refine r_ldc hg kv_RX7_216 dX7_worthOf_35 ?_
      exact r_iret hg dX7_worthOf_37 rfl rfl
set_option maxHeartbeats 4000000 in
set_option maxRecDepth 100000 in
theorem vl_X7_worthOf_9 {N : Nat} (hg : m_ok (p, l, e, d, s, m, args, below, meth, c) w shR cX7_worthOf 4 RX7 (some .int)) (hdp : 37 ≤ d) : ∀ (n : Nat) (x1 x2 x3 : Int32) (σ : Mem), Vj (p, l, e, d, s, m, args, below, meth, c) w shR 4 1 σ 9 [(0, .ref (w.2.1 0)), (1, .int x1), (2, .int x2), (3, .int x3)] [] (l_X7_worthOf_9 N n x1 x2 x3 σ)
| 0, _, _, _, _ => Vj.none
| n + 1, x1, x2, x3, σ => vb_X7_worthOf_9 hg hdp (fun x1 x2 x3 σ => vl_X7_worthOf_9 hg hdp n x1 x2 x3 σ) x1 x2 x3 σ
set_option maxHeartbeats 4000000 in
set_option maxRecDepth 100000 in
theorem e_X7_worthOf (N : Nat) (l : Launch) (w : mW) (v1 : Int32) (σ : Mem) : Ev l w shR yX7_worthOf cX7_worthOf 4 (some .int) 1 37 [.ref (w.2.1 0), .int v1] σ (f_X7_worthOf N v1 σ) := by
  refine Ev.of (by decide) (m_c1_r (m_c1_i m_c1_nil)) (Nat.le_of_ble_eq_true rfl) (fun p e s m args below meth c hg => ?_)
  have hdp := Nat.le_refl 37
  unfold f_X7_worthOf
  show Vj (p, l, e, 37, s, m, args, below, meth, c) w shR 4 1 σ 0 [(0, .ref (w.2.1 0)), (1, .int v1)] [] _
  refine r_aload_n hg 0 dX7_worthOf_0 rfl ?_
  refine r_iconst hg (-1) dX7_worthOf_1 (by decide) ?_
  refine q_put (j := 41) hg rfl rfl rfl (by decide) iX7 kf_RX7_296 rfl tyX7_ok nmX7 rfl rfl dX7_worthOf_2 (fun σ1 => ?_)
  refine r_iconst hg 0 dX7_worthOf_5 (by decide) ?_
  refine r_istore_n (lv' := [(2, .int 0), (0, .ref (w.2.1 0)), (1, .int v1)]) hg dX7_worthOf_6 (by decide) rfl ?_
  refine r_iconst hg 0 dX7_worthOf_7 (by decide) ?_
  refine r_istore_n (lv' := [(3, .int 0), (2, .int 0), (0, .ref (w.2.1 0)), (1, .int v1)]) hg dX7_worthOf_8 (by decide) rfl ?_
  refine r_lv [2, 3, 1, 0] rfl ?_
  exact vl_X7_worthOf_9 hg hdp N v1 0 0 σ1
set_option maxHeartbeats 4000000 in
set_option maxRecDepth 100000 in
theorem e_X7_game (N : Nat) (l : Launch) (w : mW) (v1 v2 v3 : Int32) (σ : Mem) : Ev l w shR yX7_game cX7_game 8 (some .int) 1 38 [.ref (w.2.1 0), .int v1, .int v2, .int v3] σ (f_X7_game N v1 v2 v3 σ) := by
  refine Ev.of (by decide) (m_c1_r (m_c1_i (m_c1_i (m_c1_i m_c1_nil)))) (Nat.le_of_ble_eq_true rfl) (fun p e s m args below meth c hg => ?_)
  have hdp := Nat.le_refl 38
  unfold f_X7_game
  show Vj (p, l, e, 38, s, m, args, below, meth, c) w shR 8 1 σ 0 [(0, .ref (w.2.1 0)), (1, .int v1), (2, .int v2), (3, .int v3)] [] _
  refine r_aload_n hg 0 dX7_game_0 rfl ?_
  refine r_iconst hg 0 dX7_game_1 (by decide) ?_
  refine q_put (j := 0) hg rfl rfl rfl (by decide) iX7 kf_RX7_68 rfl tyX7_ok nmX7 rfl rfl dX7_game_2 (fun σ1 => ?_)
  refine r_aload_n hg 0 dX7_game_5 rfl ?_
  refine r_iload_n hg 1 dX7_game_6 rfl ?_
  refine q_callv1 hg (e_X7_isCover N l w v1 σ1) kk_RX7_139 ki_X7_isCover ks_RX7_X7_isCover rfl rfl np_X7_isCover (Nat.le_trans (by decide) hdp) rfl m_c1_nil (Nat.le_of_ble_eq_true rfl) dX7_game_7 (fun r2 σ3 => ?_)
  refine r_if_eq hg 37 dX7_game_10 (by decide) ?_ ?_
  · refine r_ldc hg kv_RX7_216 dX7_game_37 ?_
    exact r_iret hg dX7_game_39 rfl rfl
  · refine r_aload_n hg 0 dX7_game_13 rfl ?_
    refine r_iload_n hg 2 dX7_game_14 rfl ?_
    refine q_callv1 hg (e_X7_isCover N l w v2 σ3) kk_RX7_139 ki_X7_isCover ks_RX7_X7_isCover rfl rfl np_X7_isCover (Nat.le_trans (by decide) hdp) rfl m_c1_nil (Nat.le_of_ble_eq_true rfl) dX7_game_15 (fun r4 σ5 => ?_)
    refine r_if_eq hg 37 dX7_game_18 (by decide) ?_ ?_
    · refine r_ldc hg kv_RX7_216 dX7_game_37 ?_
      exact r_iret hg dX7_game_39 rfl rfl
    · refine r_iload_n hg 3 dX7_game_21 rfl ?_
      refine r_iconst hg 0 dX7_game_22 (by decide) ?_
      refine r_iconst hg 2 dX7_game_23 (by decide) ?_
      refine q_calls1 hg (e_X7_isIn N l w v3 0 2 σ5) kk_RX7_107 kt_X7_isIn np_X7_isIn (Nat.le_trans (by decide) hdp) rfl m_c1_nil (Nat.le_of_ble_eq_true rfl) dX7_game_24 (fun r6 σ7 => ?_)
      refine r_if_eq hg 37 dX7_game_27 (by decide) ?_ ?_
      · refine r_ldc hg kv_RX7_216 dX7_game_37 ?_
        exact r_iret hg dX7_game_39 rfl rfl
      · refine r_aload_n hg 0 dX7_game_30 rfl ?_
        refine q_geti (j := 15) hg rfl rfl rfl (by decide) iX7 kf_RX7_146 rfl dX7_game_31 ?_
        refine r_if_ne hg 40 dX7_game_34 (by decide) ?_ ?_
        · refine r_aload_n hg 0 dX7_game_40 rfl ?_
          refine r_iload_n hg 2 dX7_game_41 rfl ?_
          refine q_callv1 hg (e_X7_worthOf N l w v2 σ7) kk_RX7_299 ki_X7_worthOf ks_RX7_X7_worthOf rfl rfl np_X7_worthOf (Nat.le_trans (by decide) hdp) rfl m_c1_nil (Nat.le_of_ble_eq_true rfl) dX7_game_42 (fun r8 σ9 => ?_)
          refine r_istore (lv' := [(4, .int r8), (0, .ref (w.2.1 0)), (1, .int v1), (2, .int v2), (3, .int v3)]) hg dX7_game_45 (by decide) rfl ?_
          refine r_aload_n hg 1 dX7_game_47 rfl ?_
          refine q_geti (j := 41) hg rfl rfl rfl (by decide) iX7 kf_RX7_296 rfl dX7_game_48 ?_
          refine q_name (fun u10 => ?_)
          refine r_istore (lv' := [(5, .int u10), (4, .int r8), (0, .ref (w.2.1 0)), (1, .int v1), (2, .int v2), (3, .int v3)]) hg dX7_game_51 (by decide) rfl ?_
          refine r_aload_n hg 2 dX7_game_53 rfl ?_
          refine r_iload_n hg 3 dX7_game_54 rfl ?_
          refine q_callv1 hg (e_X7_worthOf N l w v1 σ9) kk_RX7_299 ki_X7_worthOf ks_RX7_X7_worthOf rfl rfl np_X7_worthOf (Nat.le_trans (by decide) hdp) rfl m_c1_nil (Nat.le_of_ble_eq_true rfl) dX7_game_55 (fun r11 σ12 => ?_)
          refine r_istore (lv' := [(6, .int r11), (5, .int u10), (4, .int r8), (0, .ref (w.2.1 0)), (1, .int v1), (2, .int v2), (3, .int v3)]) hg dX7_game_58 (by decide) rfl ?_
          refine r_iload hg 0 dX7_game_60 rfl ?_
          refine r_ldc hg kv_RX7_216 dX7_game_62 ?_
          refine r_icmp_eq hg 74 dX7_game_64 (by decide) ?_ ?_
          · refine r_ldc hg kv_RX7_216 dX7_game_74 ?_
            exact r_iret hg dX7_game_76 rfl rfl
          · refine r_iload hg 2 dX7_game_67 rfl ?_
            refine r_ldc hg kv_RX7_216 dX7_game_69 ?_
            refine r_icmp_ne hg 77 dX7_game_71 (by decide) ?_ ?_
            · refine r_iload hg 2 dX7_game_77 rfl ?_
              refine r_iload hg 0 dX7_game_79 rfl ?_
              refine r_icmp_le hg 88 dX7_game_81 (by decide) ?_ ?_
              · refine r_iconst hg 0 dX7_game_88 (by decide) ?_
                refine r_istore (lv' := [(7, .int 0), (6, .int r11), (5, .int u10), (4, .int r8), (0, .ref (w.2.1 0)), (1, .int v1), (2, .int v2), (3, .int v3)]) hg dX7_game_89 (by decide) rfl ?_
                refine r_iload_n hg 7 dX7_game_91 rfl ?_
                refine r_if_ne hg 108 dX7_game_92 (by decide) ?_ ?_
                · refine r_iload_n hg 7 dX7_game_108 rfl ?_
                  refine r_iconst hg 1 dX7_game_109 (by decide) ?_
                  refine r_icmp_ne hg 123 dX7_game_110 (by decide) ?_ ?_
                  · refine r_iload hg 0 dX7_game_123 rfl ?_
                    refine q_name (fun u13 => ?_)
                    refine r_if_eq hg 133 dX7_game_125 (by decide) ?_ ?_
                    · refine r_aload_n hg 4 dX7_game_133 rfl ?_
                      refine q_geti (j := 41) hg rfl rfl rfl (by decide) iX7 kf_RX7_296 rfl dX7_game_134 ?_
                      exact r_iret hg dX7_game_137 rfl rfl
                    · refine r_iload hg 2 dX7_game_128 rfl ?_
                      refine r_goto hg 137 dX7_game_130 (by decide) ?_
                      exact r_iret hg dX7_game_137 rfl rfl
                  · refine r_iload hg 1 dX7_game_113 rfl ?_
                    refine r_iload hg 3 dX7_game_115 rfl ?_
                    refine r_max hg km_RX7_152 kt_J9_max_7cf53 kz_RJ9 kc_J9_max_7cf53 (Nat.le_trans (by decide) hdp) m_c1_nil (Nat.le_of_ble_eq_true rfl) dX7_game_117 ?_
                    refine r_goto hg 137 dX7_game_120 (by decide) ?_
                    exact r_iret hg dX7_game_137 rfl rfl
                · refine r_iload hg 0 dX7_game_95 rfl ?_
                  refine q_name (fun u14 => ?_)
                  refine r_if_eq hg 104 dX7_game_97 (by decide) ?_ ?_
                  · refine r_iconst hg 0 dX7_game_104 (by decide) ?_
                    refine r_goto hg 137 dX7_game_105 (by decide) ?_
                    exact r_iret hg dX7_game_137 rfl rfl
                  · refine r_iconst hg 1 dX7_game_100 (by decide) ?_
                    refine r_goto hg 137 dX7_game_101 (by decide) ?_
                    exact r_iret hg dX7_game_137 rfl rfl
              · refine r_iconst hg 1 dX7_game_84 (by decide) ?_
                refine r_goto hg 89 dX7_game_85 (by decide) ?_
                refine r_istore (lv' := [(7, .int 1), (6, .int r11), (5, .int u10), (4, .int r8), (0, .ref (w.2.1 0)), (1, .int v1), (2, .int v2), (3, .int v3)]) hg dX7_game_89 (by decide) rfl ?_
                refine r_iload_n hg 7 dX7_game_91 rfl ?_
                refine r_if_ne hg 108 dX7_game_92 (by decide) ?_ ?_
                · refine r_iload_n hg 7 dX7_game_108 rfl ?_
                  refine r_iconst hg 1 dX7_game_109 (by decide) ?_
                  refine r_icmp_ne hg 123 dX7_game_110 (by decide) ?_ ?_
                  · refine r_iload hg 0 dX7_game_123 rfl ?_
                    refine q_name (fun u15 => ?_)
                    refine r_if_eq hg 133 dX7_game_125 (by decide) ?_ ?_
                    · refine r_aload_n hg 4 dX7_game_133 rfl ?_
                      refine q_geti (j := 41) hg rfl rfl rfl (by decide) iX7 kf_RX7_296 rfl dX7_game_134 ?_
                      exact r_iret hg dX7_game_137 rfl rfl
                    · refine r_iload hg 2 dX7_game_128 rfl ?_
                      refine r_goto hg 137 dX7_game_130 (by decide) ?_
                      exact r_iret hg dX7_game_137 rfl rfl
                  · refine r_iload hg 1 dX7_game_113 rfl ?_
                    refine r_iload hg 3 dX7_game_115 rfl ?_
                    refine r_max hg km_RX7_152 kt_J9_max_7cf53 kz_RJ9 kc_J9_max_7cf53 (Nat.le_trans (by decide) hdp) m_c1_nil (Nat.le_of_ble_eq_true rfl) dX7_game_117 ?_
                    refine r_goto hg 137 dX7_game_120 (by decide) ?_
                    exact r_iret hg dX7_game_137 rfl rfl
                · refine r_iload hg 0 dX7_game_95 rfl ?_
                  refine q_name (fun u16 => ?_)
                  refine r_if_eq hg 104 dX7_game_97 (by decide) ?_ ?_
                  · refine r_iconst hg 0 dX7_game_104 (by decide) ?_
                    refine r_goto hg 137 dX7_game_105 (by decide) ?_
                    exact r_iret hg dX7_game_137 rfl rfl
                  · refine r_iconst hg 1 dX7_game_100 (by decide) ?_
                    refine r_goto hg 137 dX7_game_101 (by decide) ?_
                    exact r_iret hg dX7_game_137 rfl rfl
            · refine r_ldc hg kv_RX7_216 dX7_game_74 ?_
              exact r_iret hg dX7_game_76 rfl rfl
        · refine r_ldc hg kv_RX7_216 dX7_game_37 ?_
          exact r_iret hg dX7_game_39 rfl rfl
set_option maxHeartbeats 4000000 in
set_option maxRecDepth 100000 in
theorem e_X7_mend (N : Nat) (l : Launch) (w : mW) (v1 v2 v3 : Int32) (σ : Mem) : Ev l w shR yX7_mend cX7_mend 4 (some .boolean) 1 1 [.ref (w.2.1 0), .int v1, .int v2, .int v3] σ (f_X7_mend N v1 v2 v3 σ) := by
  refine Ev.of (by decide) (m_c1_r (m_c1_i (m_c1_i (m_c1_i m_c1_nil)))) (Nat.le_of_ble_eq_true rfl) (fun p e s m args below meth c hg => ?_)
  have hdp := Nat.le_refl 1
  unfold f_X7_mend
  show Vj (p, l, e, 1, s, m, args, below, meth, c) w shR 4 1 σ 0 [(0, .ref (w.2.1 0)), (1, .int v1), (2, .int v2), (3, .int v3)] [] _
  refine r_aload_n hg 0 dX7_mend_0 rfl ?_
  refine r_iconst hg 0 dX7_mend_1 (by decide) ?_
  refine q_put (j := 0) hg rfl rfl rfl (by decide) iX7 kf_RX7_68 rfl tyX7_ok nmX7 rfl rfl dX7_mend_2 (fun σ1 => ?_)
  refine r_aload_n hg 0 dX7_mend_5 rfl ?_
  refine r_iload_n hg 1 dX7_mend_6 rfl ?_
  refine q_callv1 hg (e_X7_isLoss N l w v1 σ1) kk_RX7_149 ki_X7_isLoss ks_RX7_X7_isLoss rfl rfl np_X7_isLoss (Nat.le_trans (by decide) hdp) rfl m_c1_nil (Nat.le_of_ble_eq_true rfl) dX7_mend_7 (fun r2 σ3 => ?_)
  refine r_if_eq hg 34 dX7_mend_10 (by decide) ?_ ?_
  · refine r_iconst hg 0 dX7_mend_34 (by decide) ?_
    exact r_zret hg dX7_mend_35 rfl rfl
  · refine r_iload_n hg 2 dX7_mend_13 rfl ?_
    refine r_iconst hg 0 dX7_mend_14 (by decide) ?_
    refine r_sipush hg 999 dX7_mend_15 (by decide) ?_
    refine q_calls1 hg (e_X7_isIn N l w v2 0 999 σ3) kk_RX7_107 kt_X7_isIn np_X7_isIn (Nat.le_trans (by decide) hdp) rfl m_c1_nil (Nat.le_of_ble_eq_true rfl) dX7_mend_18 (fun r4 σ5 => ?_)
    refine r_if_eq hg 34 dX7_mend_21 (by decide) ?_ ?_
    · refine r_iconst hg 0 dX7_mend_34 (by decide) ?_
      exact r_zret hg dX7_mend_35 rfl rfl
    · refine r_iload_n hg 3 dX7_mend_24 rfl ?_
      refine r_iconst hg 1 dX7_mend_25 (by decide) ?_
      refine r_bipush hg 99 dX7_mend_26 (by decide) ?_
      refine q_calls1 hg (e_X7_isIn N l w v3 1 99 σ5) kk_RX7_107 kt_X7_isIn np_X7_isIn (Nat.le_trans (by decide) hdp) rfl m_c1_nil (Nat.le_of_ble_eq_true rfl) dX7_mend_28 (fun r6 σ7 => ?_)
      refine r_if_ne hg 36 dX7_mend_31 (by decide) ?_ ?_
      · refine r_aload_n hg 0 dX7_mend_36 rfl ?_
        refine q_getr (j := 9) hg rfl rfl rfl (by decide) iX7 kf_RX7_20 rfl dX7_mend_37 ?_
        refine r_iload_n hg 1 dX7_mend_40 rfl ?_
        refine r_iload_n hg 2 dX7_mend_41 rfl ?_
        refine q_iastore (n := 12) hg rfl dX7_mend_42 (fun σ8 => ?_)
        refine r_aload_n hg 0 dX7_mend_43 rfl ?_
        refine q_getr (j := 10) hg rfl rfl rfl (by decide) iX7 kf_RX7_23 rfl dX7_mend_44 ?_
        refine r_iload_n hg 1 dX7_mend_47 rfl ?_
        refine r_aload_n hg 0 dX7_mend_48 rfl ?_
        refine q_getr (j := 10) hg rfl rfl rfl (by decide) iX7 kf_RX7_23 rfl dX7_mend_49 ?_
        refine r_iload_n hg 1 dX7_mend_52 rfl ?_
        refine r_iaload (n := 12) hg rfl dX7_mend_53 ?_
        refine r_iload_n hg 2 dX7_mend_54 rfl ?_
        refine r_max hg km_RX7_152 kt_J9_max_7cf53 kz_RJ9 kc_J9_max_7cf53 (Nat.le_trans (by decide) hdp) (m_c1_i (m_c1_r m_c1_nil)) (Nat.le_of_ble_eq_true rfl) dX7_mend_55 ?_
        refine q_iastore (n := 12) hg rfl dX7_mend_58 (fun σ9 => ?_)
        refine r_aload_n hg 0 dX7_mend_59 rfl ?_
        refine q_getr (j := 8) hg rfl rfl rfl (by decide) iX7 kf_RX7_17 rfl dX7_mend_60 ?_
        refine r_iload_n hg 1 dX7_mend_63 rfl ?_
        refine r_iload_n hg 3 dX7_mend_64 rfl ?_
        refine q_iastore (n := 12) hg rfl dX7_mend_65 (fun σ10 => ?_)
        refine r_iconst hg 1 dX7_mend_66 (by decide) ?_
        exact r_zret hg dX7_mend_67 rfl rfl
      · refine r_iconst hg 0 dX7_mend_34 (by decide) ?_
        exact r_zret hg dX7_mend_35 rfl rfl
set_option maxHeartbeats 4000000 in
set_option maxRecDepth 100000 in
theorem e_X7_count (N : Nat) (l : Launch) (w : mW) (v1 : Int32) (σ : Mem) : Ev l w shR yX7_count cX7_count 2 (some .int) 1 0 [.ref (w.2.1 0), .int v1] σ (f_X7_count N v1 σ) := by
  refine Ev.of (by decide) (m_c1_r (m_c1_i m_c1_nil)) (Nat.le_of_ble_eq_true rfl) (fun p e s m args below meth c hg => ?_)
  have hdp := Nat.le_refl 0
  unfold f_X7_count
  show Vj (p, l, e, 0, s, m, args, below, meth, c) w shR 2 1 σ 0 [(0, .ref (w.2.1 0)), (1, .int v1)] [] _
  refine r_aload_n hg 0 dX7_count_0 rfl ?_
  refine r_iconst hg 0 dX7_count_1 (by decide) ?_
  refine q_put (j := 0) hg rfl rfl rfl (by decide) iX7 kf_RX7_68 rfl tyX7_ok nmX7 rfl rfl dX7_count_2 (fun σ1 => ?_)
  refine r_iload_n hg 1 dX7_count_5 rfl ?_
  refine q_tab4 56 36 41 46 51 hg dX7_count_6 (by decide) (by decide) (by decide) (by decide) (by decide) ?_ ?_ ?_ ?_ ?_
  · refine r_aload_n hg 0 dX7_count_36 rfl ?_
    refine q_geti (j := 7) hg rfl rfl rfl (by decide) iX7 kf_RX7_120 rfl dX7_count_37 ?_
    exact r_iret hg dX7_count_40 rfl rfl
  · refine r_aload_n hg 0 dX7_count_41 rfl ?_
    refine q_geti (j := 15) hg rfl rfl rfl (by decide) iX7 kf_RX7_146 rfl dX7_count_42 ?_
    exact r_iret hg dX7_count_45 rfl rfl
  · refine r_aload_n hg 0 dX7_count_46 rfl ?_
    refine q_geti (j := 40) hg rfl rfl rfl (by decide) iX7 kf_RX7_293 rfl dX7_count_47 ?_
    exact r_iret hg dX7_count_50 rfl rfl
  · refine r_aload_n hg 0 dX7_count_51 rfl ?_
    refine q_geti (j := 2) hg rfl rfl rfl (by decide) iX7 kf_RX7_72 rfl dX7_count_52 ?_
    exact r_iret hg dX7_count_55 rfl rfl
  · refine r_iconst hg (-1) dX7_count_56 (by decide) ?_
    exact r_iret hg dX7_count_57 rfl rfl
set_option maxHeartbeats 4000000 in
set_option maxRecDepth 100000 in
theorem e_X7_thrown (N : Nat) (l : Launch) (w : mW) (σ : Mem) : Ev l w shR yX7_thrown cX7_thrown 1 (some .int) 1 0 [.ref (w.2.1 0)] σ (f_X7_thrown N σ) := by
  refine Ev.of (by decide) (m_c1_r m_c1_nil) (Nat.le_of_ble_eq_true rfl) (fun p e s m args below meth c hg => ?_)
  have hdp := Nat.le_refl 0
  unfold f_X7_thrown
  show Vj (p, l, e, 0, s, m, args, below, meth, c) w shR 1 1 σ 0 [(0, .ref (w.2.1 0))] [] _
  refine r_aload_n hg 0 dX7_thrown_0 rfl ?_
  refine q_geti (j := 0) hg rfl rfl rfl (by decide) iX7 kf_RX7_68 rfl dX7_thrown_1 ?_
  exact r_iret hg dX7_thrown_4 rfl rfl
end RM5
