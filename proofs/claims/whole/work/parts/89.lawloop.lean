/-! the law's loop -/
theorem l_more {i L : Nat} (hL : L ≤ 3584) (hi : i ≤ 4000) : nI L - 7 < nI i ↔ L < i + 7 := by
  by_cases h : 7 ≤ L
  · obtain ⟨k, rfl⟩ : ∃ k, L = k + 7 := ⟨L - 7, by omega⟩
    have e : nI (k + 7) - 7 = nI k := by
      rw [← nI_add]
      exact Int32.add_sub_cancel _ _
    rw [e, n_lt (by omega) (by omega)]
    omega
  · refine ⟨fun _ => by omega, fun _ => fa_trans (b := 0) ?_ (nI_pos' (by omega))⟩
    rcases (show L = 0 ∨ L = 1 ∨ L = 2 ∨ L = 3 ∨ L = 4 ∨ L = 5 ∨ L = 6 by omega) with rfl | rfl | rfl | rfl | rfl | rfl | rfl <;> decide
theorem l_and31 (x : Int32) : ∃ j, j < 32 ∧ x &&& 31 = nI j := by
  obtain ⟨j, h1, h2⟩ := pk_andE x (m := 31) 5 (by decide)
  exact ⟨j, h1, h2⟩
section LLOOP
variable {p : Program} {l : Launch} {e : Env} {s : State} {m : MethodId} {below : List Frame} {meth : Method} {c : Code} {b L : Nat} {xs : Nat → Int32}
variable {w : lW}
set_option maxHeartbeats 4000000 in
set_option maxRecDepth 100000 in
theorem law_case {σ τ : Mem} {f : Nat → Int64} {n i j : Nat} (hg : l_ok (p, l, e, s, m, below, meth, c, b, L, xs) w) (hn6 : n ≤ 599) (hi : i + 7 ≤ L) (hrel : Rel σ τ) (hj : j < 32) (k : ∀ (σ' τ' : Mem) (f' : Nat → Int64), Rel σ' τ' → Lj (p, l, e, s, m, below, meth, c, b, L, xs) w σ' τ' f' (n + 1) 1177 [(0, .ref b), (1, .ref (w.2.1 16)), (2, .ref (w.2.2.1 0)), (3, .ref (l_q w)), (4, .int (nI i))] []) :
    Lj (p, l, e, s, m, below, meth, c, b, L, xs) w σ τ f n 40 [(0, .ref b), (1, .ref (w.2.1 16)), (2, .ref (w.2.2.1 0)), (3, .ref (l_q w)), (4, .int (nI i))] [.int (nI j)] := by
  rcases (show j = 0 ∨ j = 1 ∨ j = 2 ∨ j = 3 ∨ j = 4 ∨ j = 5 ∨ j = 6 ∨ j = 7 ∨ j = 8 ∨ j = 9 ∨ j = 10 ∨ j = 11 ∨ j = 12 ∨ j = 13 ∨ j = 14 ∨ j = 15 ∨ j = 16 ∨ j = 17 ∨ j = 18 ∨ j = 19 ∨ j = 20 ∨ j = 21 ∨ j = 22 ∨ j = 23 ∨ 24 ≤ j by omega) with rfl | rfl | rfl | rfl | rfl | rfl | rfl | rfl | rfl | rfl | rfl | rfl | rfl | rfl | rfl | rfl | rfl | rfl | rfl | rfl | rfl | rfl | rfl | rfl | hj2
  · exact l_tabIn 152 hg dL_law_40 (by decide) (by decide) rfl (by decide) (lc_0 hg hn6 hi hrel k)
  · exact l_tabIn 225 hg dL_law_40 (by decide) (by decide) rfl (by decide) (lc_1 hg hn6 hi hrel k)
  · exact l_tabIn 250 hg dL_law_40 (by decide) (by decide) rfl (by decide) (lc_2 hg hn6 hi hrel k)
  · exact l_tabIn 263 hg dL_law_40 (by decide) (by decide) rfl (by decide) (lc_3 hg hn6 hi hrel k)
  · exact l_tabIn 276 hg dL_law_40 (by decide) (by decide) rfl (by decide) (lc_4 hg hn6 hi hrel k)
  · exact l_tabIn 344 hg dL_law_40 (by decide) (by decide) rfl (by decide) (lc_5 hg hn6 hi hrel k)
  · exact l_tabIn 431 hg dL_law_40 (by decide) (by decide) rfl (by decide) (lc_6 hg hn6 hi hrel k)
  · exact l_tabIn 468 hg dL_law_40 (by decide) (by decide) rfl (by decide) (lc_7 hg hn6 hi hrel k)
  · exact l_tabIn 505 hg dL_law_40 (by decide) (by decide) rfl (by decide) (lc_8 hg hn6 hi hrel k)
  · exact l_tabIn 542 hg dL_law_40 (by decide) (by decide) rfl (by decide) (lc_9 hg hn6 hi hrel k)
  · exact l_tabIn 567 hg dL_law_40 (by decide) (by decide) rfl (by decide) (lc_10 hg hn6 hi hrel k)
  · exact l_tabIn 604 hg dL_law_40 (by decide) (by decide) rfl (by decide) (lc_11 hg hn6 hi hrel k)
  · exact l_tabIn 669 hg dL_law_40 (by decide) (by decide) rfl (by decide) (lc_12 hg hn6 hi hrel k)
  · exact l_tabIn 718 hg dL_law_40 (by decide) (by decide) rfl (by decide) (lc_13 hg hn6 hi hrel k)
  · exact l_tabIn 767 hg dL_law_40 (by decide) (by decide) rfl (by decide) (lc_14 hg hn6 hi hrel k)
  · exact l_tabIn 816 hg dL_law_40 (by decide) (by decide) rfl (by decide) (lc_15 hg hn6 hi hrel k)
  · exact l_tabIn 841 hg dL_law_40 (by decide) (by decide) rfl (by decide) (lc_16 hg hn6 hi hrel k)
  · exact l_tabIn 890 hg dL_law_40 (by decide) (by decide) rfl (by decide) (lc_17 hg hn6 hi hrel k)
  · exact l_tabIn 943 hg dL_law_40 (by decide) (by decide) rfl (by decide) (lc_18 hg hn6 hi hrel k)
  · exact l_tabIn 980 hg dL_law_40 (by decide) (by decide) rfl (by decide) (lc_19 hg hn6 hi hrel k)
  · exact l_tabIn 1017 hg dL_law_40 (by decide) (by decide) rfl (by decide) (lc_20 hg hn6 hi hrel k)
  · exact l_tabIn 1054 hg dL_law_40 (by decide) (by decide) rfl (by decide) (lc_21 hg hn6 hi hrel k)
  · exact l_tabIn 1103 hg dL_law_40 (by decide) (by decide) rfl (by decide) (lc_22 hg hn6 hi hrel k)
  · exact l_tabIn 1152 hg dL_law_40 (by decide) (by decide) rfl (by decide) (lc_23 hg hn6 hi hrel k)
  · refine l_tabOut 1177 hg dL_law_40 (Or.inr ?_) (by decide) (l_wide (k σ τ f hrel))
    rw [nI_toInt (by omega)]
    omega
set_option maxHeartbeats 4000000 in
set_option maxRecDepth 100000 in
theorem law_loop (hg : l_ok (p, l, e, s, m, below, meth, c, b, L, xs) w) : ∀ (r n : Nat) (σ τ : Mem) (f : Nat → Int64), L < 7 * n + 7 * r + 7 → 7 * n ≤ L → Rel σ τ → Lj (p, l, e, s, m, below, meth, c, b, L, xs) w σ τ f n 23 [(0, .ref b), (1, .ref (w.2.1 16)), (2, .ref (w.2.2.1 0)), (3, .ref (l_q w)), (4, .int (nI (7 * n)))] [] := by
  have hL := hg.2.2.1
  intro r
  induction r with
  | zero =>
    intro n σ τ f h1 h2 hrel
    refine l_iload 4 hg dL_law_23 rfl ?_
    refine l_aload 0 hg dL_law_25 rfl ?_
    refine l_slen hg dL_law_26 ?_
    refine l_bipush 7 hg dL_law_27 (by decide) ?_
    refine l_isub hg dL_law_29 ?_
    refine l_gt 1183 hg dL_law_30 (by decide) (fun _ => ?_) (fun z => absurd ((l_more hL (by omega)).mpr (by omega)) z)
    refine l_iconst 1 hg dL_law_1183 (by decide) ?_
    exact l_end hg (by omega) dL_law_1184
  | succ r ih =>
    intro n σ τ f h1 h2 hrel
    refine l_iload 4 hg dL_law_23 rfl ?_
    refine l_aload 0 hg dL_law_25 rfl ?_
    refine l_slen hg dL_law_26 ?_
    refine l_bipush 7 hg dL_law_27 (by decide) ?_
    refine l_isub hg dL_law_29 ?_
    refine l_gt 1183 hg dL_law_30 (by decide) (fun _ => ?_) (fun z => ?_)
    · refine l_iconst 1 hg dL_law_1183 (by decide) ?_
      exact l_end hg (by omega) dL_law_1184
    · have hi : 7 * n + 7 ≤ L := by
        rcases Nat.lt_or_ge L (7 * n + 7) with q | q
        · exact absurd ((l_more hL (by omega)).mpr q) z
        · exact q
      refine l_aload 0 hg dL_law_33 rfl ?_
      refine l_iload 4 hg dL_law_34 rfl ?_
      refine l_sld hg (vp_in_nI (by omega) (by omega)) dL_law_36 ?_
      refine l_bipush 31 hg dL_law_37 (by decide) ?_
      refine l_iand hg dL_law_39 ?_
      obtain ⟨j, hj, ej⟩ := l_and31 (xs (nI (7 * n)).toNatClampNeg)
      rw [ej]
      refine law_case hg (by omega) hi hrel hj (fun σ' τ' f' hr => ?_)
      have e7 : nI (7 * n) + Int32.ofInt 7 = nI (7 * (n + 1)) := by
        rw [show Int32.ofInt 7 = nI 7 by decide, nI_add, show 7 * n + 7 = 7 * (n + 1) by omega]
      refine l_iinc 4 (nI (7 * (n + 1))) (lv' := [(4, .int (nI (7 * (n + 1)))), (0, .ref b), (1, .ref (w.2.1 16)), (2, .ref (w.2.2.1 0)), (3, .ref (l_q w))]) hg dL_law_1177 rfl e7 (by decide) rfl ?_
      refine l_goto 23 hg dL_law_1180 (by decide) ?_
      refine l_lv [1, 2, 3, 4, 0] rfl ?_
      exact ih (n + 1) σ' τ' f' (by omega) (by omega) hr
end LLOOP
