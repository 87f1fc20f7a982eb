section CM5
variable {p : Program} {l : Launch} {e : Env} {d : Nat} {s : State} {m : MethodId} {args : Array Value} {below : List Frame} {meth : Method} {c : Code} {w : mW}
set_option maxHeartbeats 4000000 in
set_option maxRecDepth 100000 in
theorem e_X6_mend (N : Nat) (l : Launch) (w : mW) (v1 v2 v3 : Int32) (σ : Mem) : Ev l w shC yX6_mend cX6_mend 4 (some .boolean) 1 1 [.ref (w.2.1 16), .int v1, .int v2, .int v3] σ (f_X6_mend N v1 v2 v3 σ) := by
  refine Ev.of (by decide) (m_c1_r (m_c1_i (m_c1_i (m_c1_i m_c1_nil)))) (Nat.le_of_ble_eq_true rfl) (fun p e s m args below meth c hg => ?_)
  have hdp := Nat.le_refl 1
  unfold f_X6_mend
  show Vj (p, l, e, 1, s, m, args, below, meth, c) w shC 4 1 σ 0 [(0, .ref (w.2.1 16)), (1, .int v1), (2, .int v2), (3, .int v3)] [] _
  refine r_aload_n hg 0 dX6_mend_0 rfl ?_
  refine q_getr (j := 3) hg rfl rfl rfl (by decide) iX6 kf_RX6_30 rfl dX6_mend_1 ?_
  refine r_iload_n hg 1 dX6_mend_4 rfl ?_
  refine q_callv1 hg (e_X1_has N l w v1 σ) kk_RX6_132 ki_X1_has ks_RX1_X1_has rfl rfl np_X1_has (Nat.le_trans (by decide) hdp) rfl m_c1_nil (Nat.le_of_ble_eq_true rfl) dX6_mend_5 (fun r1 σ2 => ?_)
  refine r_if_eq hg 32 dX6_mend_8 (by decide) ?_ ?_
  · refine r_iconst hg 0 dX6_mend_32 (by decide) ?_
    exact r_zret hg dX6_mend_33 rfl rfl
  · refine r_iload_n hg 2 dX6_mend_11 rfl ?_
    refine r_iconst hg 0 dX6_mend_12 (by decide) ?_
    refine r_sipush hg 999 dX6_mend_13 (by decide) ?_
    refine q_calls1 hg (e_X6_isWithin N l w v2 0 999 σ2) kk_RX6_87 kt_X6_isWithin np_X6_isWithin (Nat.le_trans (by decide) hdp) rfl m_c1_nil (Nat.le_of_ble_eq_true rfl) dX6_mend_16 (fun r3 σ4 => ?_)
    refine r_if_eq hg 32 dX6_mend_19 (by decide) ?_ ?_
    · refine r_iconst hg 0 dX6_mend_32 (by decide) ?_
      exact r_zret hg dX6_mend_33 rfl rfl
    · refine r_iload_n hg 3 dX6_mend_22 rfl ?_
      refine r_iconst hg 1 dX6_mend_23 (by decide) ?_
      refine r_bipush hg 99 dX6_mend_24 (by decide) ?_
      refine q_calls1 hg (e_X6_isWithin N l w v3 1 99 σ4) kk_RX6_87 kt_X6_isWithin np_X6_isWithin (Nat.le_trans (by decide) hdp) rfl m_c1_nil (Nat.le_of_ble_eq_true rfl) dX6_mend_26 (fun r5 σ6 => ?_)
      refine r_if_ne hg 34 dX6_mend_29 (by decide) ?_ ?_
      · refine r_aload_n hg 0 dX6_mend_34 rfl ?_
        refine q_getr (j := 3) hg rfl rfl rfl (by decide) iX6 kf_RX6_30 rfl dX6_mend_35 ?_
        refine q_getr (j := 1) hg rfl rfl rfl (by decide) iX1 kf_RX6_103 rfl dX6_mend_38 ?_
        refine r_iload_n hg 1 dX6_mend_41 rfl ?_
        refine r_iload_n hg 2 dX6_mend_42 rfl ?_
        refine q_iastore (n := 12) hg rfl dX6_mend_43 (fun σ7 => ?_)
        refine r_aload_n hg 0 dX6_mend_44 rfl ?_
        refine q_getr (j := 3) hg rfl rfl rfl (by decide) iX6 kf_RX6_30 rfl dX6_mend_45 ?_
        refine q_getr (j := 2) hg rfl rfl rfl (by decide) iX1 kf_RX6_106 rfl dX6_mend_48 ?_
        refine r_iload_n hg 1 dX6_mend_51 rfl ?_
        refine r_iload_n hg 2 dX6_mend_52 rfl ?_
        refine r_aload_n hg 0 dX6_mend_53 rfl ?_
        refine q_getr (j := 3) hg rfl rfl rfl (by decide) iX6 kf_RX6_30 rfl dX6_mend_54 ?_
        refine q_getr (j := 2) hg rfl rfl rfl (by decide) iX1 kf_RX6_106 rfl dX6_mend_57 ?_
        refine r_iload_n hg 1 dX6_mend_60 rfl ?_
        refine r_iaload (n := 12) hg rfl dX6_mend_61 ?_
        refine r_max hg km_RX6_209 kt_J9_max_7cf53 kz_RJ9 kc_J9_max_7cf53 (Nat.le_trans (by decide) hdp) (m_c1_i (m_c1_r m_c1_nil)) (Nat.le_of_ble_eq_true rfl) dX6_mend_62 ?_
        refine q_iastore (n := 12) hg rfl dX6_mend_65 (fun σ8 => ?_)
        refine r_aload_n hg 0 dX6_mend_66 rfl ?_
        refine q_getr (j := 3) hg rfl rfl rfl (by decide) iX6 kf_RX6_30 rfl dX6_mend_67 ?_
        refine q_getr (j := 0) hg rfl rfl rfl (by decide) iX1 kf_RX6_100 rfl dX6_mend_70 ?_
        refine r_iload_n hg 1 dX6_mend_73 rfl ?_
        refine r_iload_n hg 3 dX6_mend_74 rfl ?_
        refine q_iastore (n := 12) hg rfl dX6_mend_75 (fun σ9 => ?_)
        refine r_iconst hg 1 dX6_mend_76 (by decide) ?_
        exact r_zret hg dX6_mend_77 rfl rfl
      · refine r_iconst hg 0 dX6_mend_32 (by decide) ?_
        exact r_zret hg dX6_mend_33 rfl rfl
set_option maxHeartbeats 4000000 in
set_option maxRecDepth 100000 in
theorem e_X6_count (N : Nat) (l : Launch) (w : mW) (v1 : Int32) (σ : Mem) : Ev l w shC yX6_count cX6_count 2 (some .int) 1 0 [.ref (w.2.1 16), .int v1] σ (f_X6_count N v1 σ) := by
  refine Ev.of (by decide) (m_c1_r (m_c1_i m_c1_nil)) (Nat.le_of_ble_eq_true rfl) (fun p e s m args below meth c hg => ?_)
  have hdp := Nat.le_refl 0
  unfold f_X6_count
  show Vj (p, l, e, 0, s, m, args, below, meth, c) w shC 2 1 σ 0 [(0, .ref (w.2.1 16)), (1, .int v1)] [] _
  refine r_iload_n hg 1 dX6_count_0 rfl ?_
  refine q_tab4 58 32 37 45 50 hg dX6_count_1 (by decide) (by decide) (by decide) (by decide) (by decide) ?_ ?_ ?_ ?_ ?_
  · refine r_aload_n hg 0 dX6_count_32 rfl ?_
    refine q_geti (j := 8) hg rfl rfl rfl (by decide) iX6 kf_RX6_57 rfl dX6_count_33 ?_
    exact r_iret hg dX6_count_36 rfl rfl
  · refine r_aload_n hg 0 dX6_count_37 rfl ?_
    refine q_getr (j := 3) hg rfl rfl rfl (by decide) iX6 kf_RX6_30 rfl dX6_count_38 ?_
    refine q_geti (j := 6) hg rfl rfl rfl (by decide) iX1 kf_RX6_97 rfl dX6_count_41 ?_
    exact r_iret hg dX6_count_44 rfl rfl
  · refine r_aload_n hg 0 dX6_count_45 rfl ?_
    refine q_geti (j := 9) hg rfl rfl rfl (by decide) iX6 kf_RX6_61 rfl dX6_count_46 ?_
    exact r_iret hg dX6_count_49 rfl rfl
  · refine r_aload_n hg 0 dX6_count_50 rfl ?_
    refine q_getr (j := 0) hg rfl rfl rfl (by decide) iX6 kf_RX6_10 rfl dX6_count_51 ?_
    refine q_geti (j := 1) hg rfl rfl rfl (by decide) iX4 kf_RX6_68 rfl dX6_count_54 ?_
    exact r_iret hg dX6_count_57 rfl rfl
  · refine r_iconst hg (-1) dX6_count_58 (by decide) ?_
    exact r_iret hg dX6_count_59 rfl rfl
end CM5
