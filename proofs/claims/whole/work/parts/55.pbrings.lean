def KPart (τ τ' : Mem) : Prop := ∀ a j, ¬ (a = 0 ∧ j = 22) → a ≠ 10 → τ' a j = τ a j
theorem KPart.kr {τ τ' : Mem} (h : KPart τ τ') : KR τ τ' := by
  intro a j q
  rw [h a j (by unfold psR at q; omega) (by unfold psR at q; omega)]
theorem KPart.tr {a b c : Mem} (h : KPart a b) (g : KPart b c) : KPart a c := fun i j q r => (g i j q r).trans (h i j q r)
section PB
variable {N M z : Nat} {D : Nat → Nat → Nat} {T : Nat → Nat} {g : Nat → Int32}
theorem lp_parts (hN : 13 ≤ N) (hM : M ≤ 12) (c w : Int32) : ∀ m k n (τ : Mem), k + m = M → m < n → τ 0 15 = nI M → (∀ j, j < M → τ 9 j = nI (T j) ∧ T j ≤ 15) → τ 0 22 = nI (ptl T M k).length → (∀ j s, (ptl T M k)[j]? = some s → τ 10 j = nI s) →
    ∃ τ', KPart τ τ' ∧ τ' 0 22 = nI (ptl T M M).length ∧ (∀ j s, (ptl T M M)[j]? = some s → τ' 10 j = nI s) ∧ l_X7_brings_41 N n c w (nI k) τ = l_X7_brings_41 N (n - m) c w (nI M) τ' := by
  intro m
  induction m with
  | zero =>
    intro k n τ hk hn _ _ h22 h10
    have e : k = M := by omega
    subst e
    exact ⟨τ, fun _ _ _ _ => rfl, h22, h10, rfl⟩
  | succ m ih =>
    intro k n τ hk hn h15 hT h22 h10
    obtain ⟨n, rfl⟩ : ∃ n', n = n' + 1 := ⟨n - 1, by omega⟩
    have hkM : k < M := by omega
    have hc : ¬ nI M ≤ nI k := fun q => by rw [n_le (by omega) (by omega)] at q; omega
    have hok := hset_ok (T := T) hM hkM
    have h4 := hset_4096 (T := T) hM k
    obtain ⟨z1, -, z3⟩ := ntz_n h4 hok.2
    have hl := ptl_len (T := T) (M := M) k
    have hz := n_eq (a := ctz (hset T M k)) (b := k) (by omega) (by omega)
    rw [show n + 1 - (m + 1) = n - m by omega]
    simp only [l_X7_brings_41, b_X7_brings_41, h15, if_neg hc, e_hapR hN hM h15 hT hkM, bnd_s, e_ntz, show ntzI (nI (orF (same T k) M)) = nI (ctz (hset T M k)) from z1, nI_1]
    by_cases hlow : ctz (hset T M k) = k
    · rw [if_pos (hz.mpr hlow)]
      have g1 (v : Int32) : mu τ 10 (ptl T M k).length v 0 22 = nI (ptl T M k).length := h22
      simp only [h22, inb_n (show (ptl T M k).length < 12 by omega) (by omega), gd_t, m_let, nI_clamp (show (ptl T M k).length < 2 ^ 31 by omega), g1, nI_1]
      have e : ptl T M (k + 1) = ptl T M k ++ [hset T M k] := by rw [ptl_s, if_pos hlow]
      obtain ⟨τ', i1, i2, i3, i4⟩ := ih (k + 1) n (mu (mu τ 10 (ptl T M k).length (nI (orF (same T k) M))) 0 22 (nI ((ptl T M k).length + 1))) (by omega) (by omega) h15 hT (by rw [mu_s, e, List.length_append]; rfl) (fun j s hs => by
        show upd (τ 10) (ptl T M k).length (nI (orF (same T k) M)) j = nI s
        rw [e] at hs
        by_cases hj : j < (ptl T M k).length
        · rw [List.getElem?_append_left hj] at hs
          rw [upd_n _ (by omega)]
          exact h10 j s hs
        · rw [List.getElem?_append_right (by omega)] at hs
          by_cases hj2 : j = (ptl T M k).length
          · subst hj2
            rw [Nat.sub_self] at hs
            cases hs
            rw [upd_s]
            rfl
          · have := (List.getElem?_eq_some_iff.mp hs).1
            rw [List.length_singleton] at this
            omega)
      refine ⟨τ', KPart.tr (fun a j h1 h2 => ?_) i1, i2, i3, i4⟩
      rw [mu_e, if_neg (by omega), mu_e, if_neg (by omega)]
    · rw [if_neg (fun q => hlow (hz.mp q))]
      exact ih (k + 1) n τ (by omega) (by omega) h15 hT (by rw [ptl_s, if_neg hlow]; exact h22) (by rw [ptl_s, if_neg hlow]; exact h10)
theorem lp_reckon (hN : 13 ≤ N) (hD : LD M D) (hg : wfC g) {r : List Nat} (hr : r.length ≤ 12) (hrM : ∀ x ∈ r, x < M) : ∀ (Q : List Nat) (j n seen cnt : Nat) (a : Nat × Nat) (σ : Mem), j + Q.length = r.length → r.drop j = Q → Q.length < n → seen < 4096 → LC σ M D → WC σ z g → (∀ j, j < M → σ 32 j = nI (T j) ∧ T j ≤ 15) → RowC σ 33 r → σ 19 1 = nI cnt → cnt ≤ j → σ 19 2 = nI a.1 → σ 19 3 = nI a.2 → a.1 ≤ wv g 7 → a.2 ≤ 99 * a.1 →
    ∃ σ', l_X5_reckon_39 N n (nI z) (nI r.length) (nI seen) (nI j) σ = some (0, σ') ∧ (∀ a, a ≠ 19 → σ' a = σ a) ∧ σ' 19 1 = nI (cnt + (hapL T M Q seen).length) ∧ σ' 19 2 = nI (prF g ((hapL T M Q seen).map (sumS D M)) a).1 ∧ σ' 19 3 = nI (prF g ((hapL T M Q seen).map (sumS D M)) a).2 := by
  intro Q
  have hM := hD.1
  induction Q with
  | nil =>
    intro j n seen cnt a σ hj hQ hn _ h hw hT hrow h1 _ h2 h3 _ _
    obtain ⟨n, rfl⟩ : ∃ n', n = n' + 1 := ⟨n - 1, by simp at hn; omega⟩
    have e : j = r.length := by simpa using hj
    subst e
    have hc : nI r.length ≤ nI r.length := by rw [n_le (by omega) (by omega)]; omega
    refine ⟨σ, ?_, fun _ _ => rfl, h1, h2, h3⟩
    simp only [l_X5_reckon_39, b_X5_reckon_39, if_pos hc]
  | cons x Q ih =>
    intro j n seen cnt a σ hj hQ hn hse h hw hT hrow h1 hcnt h2 h3 ha1 ha2
    obtain ⟨n, rfl⟩ : ∃ n', n = n' + 1 := ⟨n - 1, by rw [List.length_cons] at hn; omega⟩
    rw [List.length_cons] at hj hn
    have hc : ¬ nI r.length ≤ nI j := fun q => by rw [n_le (by omega) (by omega)] at q; omega
    have hs : r[j]? = some x := by
      have : (r.drop j)[0]? = some x := by rw [hQ]; rfl
      rw [List.getElem?_drop] at this
      simpa using this
    have hQ' : r.drop (j + 1) = Q := by
      rw [← List.drop_drop, hQ]
      rfl
    have e33 := hrow j x hs
    have hxM := hrM x (List.mem_of_getElem? hs)
    have hz := hw.1
    have hx4 := hset_4096 (T := T) hM x
    have hsm := (ent_lt hD (s := hset T M x)).2.2
    have hp := payF_le hg (sumS D M (hset T M x))
    obtain ⟨w1, w2, w3⟩ := wf7 hg
    unfold hapL
    by_cases hb : seen.testBit x = true
    · rw [if_pos hb]
      simp only [l_X5_reckon_39, b_X5_reckon_39, if_neg hc, inb_n (show j < 12 by omega) (by omega), gd_t, nI_clamp (show j < 2 ^ 31 by omega), e33, e_inC N (show x < 31 by omega), bnd_s, hb, b2i_t, nI_1]
      rw [if_neg (by decide)]
      exact ih (j + 1) n seen cnt a σ (by omega) hQ' (by omega) hse h hw hT hrow h1 (by omega) h2 h3 ha1 ha2
    · have hbf : seen.testBit x = false := by simpa using hb
      have hor : seen ||| hset T M x < 4096 := Nat.or_lt_two_pow (n := 12) hse hx4
      rw [if_neg hb, List.map_cons]
      unfold prF
      -- the memory with one happening more
      have hC1 : LC (mu σ 19 1 (nI (cnt + 1))) M D := h
      have hW1 : WC (mu σ 19 1 (nI (cnt + 1))) z g := ⟨hz, fun k hk => by rw [mu_c (by omega)]; exact hw.2 k hk⟩
      have t7 : Int32.toNatClampNeg 7 = 7 := by decide
      have i7 : inb 7 10 = true := by decide
      have q0 := n_le (a := payF g (sumS D M (hset T M x))) (b := 0) (by omega) (by omega)
      have q1 := n_le (a := wv g 7) (b := a.1) (by omega) (by omega)
      have g2 : mu σ 19 1 (nI (cnt + 1)) 19 2 = nI a.1 := h2
      simp only [l_X5_reckon_39, b_X5_reckon_39, if_neg hc, inb_n (show j < 12 by omega) (by omega), gd_t, nI_clamp (show j < 2 ^ 31 by omega), e33, e_inC N (show x < 31 by omega), bnd_s, hbf, b2i_f, nI_1, e_hapC hN hM h.1 hT hxM, m_leti, m_let, fa_or, h1, show ∀ y, f_X1_sumOf N (nI (orF (same T x) M)) y = f_X1_sumOf N (nI (hset T M x)) y from fun _ => rfl, e_sumC hN hD hC1, inb_n hz (by omega), e_payC N hW1 hg (show sumF (D 0) (hset T M x) M < 2 ^ 30 from (by have : sumF (D 0) (hset T M x) M ≤ 99 * M := hsm; omega)), i7, t7, nI_clamp (show z < 2 ^ 31 by omega), hW1.2 7 (by omega), g2, w1, ↓reduceIte]
      by_cases c1 : payF g (sumS D M (hset T M x)) = 0
      · rw [if_pos (show nI (payF g (sumF (D 0) (hset T M x) M)) ≤ 0 from q0.mpr (by omega)), if_pos (Or.inl c1)]
        obtain ⟨σ', i1, i2, i3, i4, i5⟩ := ih (j + 1) n (seen ||| hset T M x) (cnt + 1) a (mu σ 19 1 (nI (cnt + 1))) (by omega) hQ' (by omega) hor hC1 hW1 hT hrow (mu_s _ _ _ _) (by omega) h2 h3 ha1 ha2
        refine ⟨σ', i1, fun a ha => by rw [i2 a ha, mu_c ha], ?_, i4, i5⟩
        rw [i3, List.length_cons]
        congr 1
        omega
      · rw [if_neg (show ¬ nI (payF g (sumF (D 0) (hset T M x) M)) ≤ 0 from fun q => c1 (by have := q0.mp q; omega))]
        by_cases c2 : a.1 = wv g 7
        · rw [if_pos (q1.mpr (by omega)), if_pos (Or.inr c2)]
          obtain ⟨σ', i1, i2, i3, i4, i5⟩ := ih (j + 1) n (seen ||| hset T M x) (cnt + 1) a (mu σ 19 1 (nI (cnt + 1))) (by omega) hQ' (by omega) hor hC1 hW1 hT hrow (mu_s _ _ _ _) (by omega) h2 h3 ha1 ha2
          refine ⟨σ', i1, fun a ha => by rw [i2 a ha, mu_c ha], ?_, i4, i5⟩
          rw [i3, List.length_cons]
          congr 1
          omega
        · rw [if_neg (fun q => c2 (by have := q1.mp q; omega)), if_neg (fun q => q.elim c1 c2)]
          have g3 (v : Int32) : mu (mu σ 19 1 (nI (cnt + 1))) 19 2 v 19 3 = nI a.2 := h3
          simp only [nI_1, g3, nI_add]
          have hW2 : WC (mu (mu (mu σ 19 1 (nI (cnt + 1))) 19 2 (nI (a.1 + 1))) 19 3 (nI (a.2 + payF g (sumF (D 0) (hset T M x) M)))) z g := ⟨hz, fun k hk => by rw [mu_c (by omega), mu_c (by omega), mu_c (by omega)]; exact hw.2 k hk⟩
          obtain ⟨σ', i1, i2, i3, i4, i5⟩ := ih (j + 1) n (seen ||| hset T M x) (cnt + 1) (a.1 + 1, a.2 + payF g (sumS D M (hset T M x))) (mu (mu (mu σ 19 1 (nI (cnt + 1))) 19 2 (nI (a.1 + 1))) 19 3 (nI (a.2 + payF g (sumF (D 0) (hset T M x) M)))) (by omega) hQ' (by omega) hor h hW2 hT hrow (by rw [mu_k (by decide), mu_k (by decide), mu_s]) (by omega) (by rw [mu_k (by decide), mu_s]) (by rw [mu_s]; rfl) (by show a.1 + 1 ≤ _; omega) (by show a.2 + payF g (sumS D M (hset T M x)) ≤ 99 * (a.1 + 1); omega)
          refine ⟨σ', i1, fun a ha => by rw [i2 a ha, mu_c ha, mu_c ha, mu_c ha], ?_, i4, i5⟩
          rw [i3, List.length_cons]
          congr 1
          omega
theorem e_reckon (hN : 13 ≤ N) (hD : LD M D) (hg : wfC g) {σ : Mem} (h : LC σ M D) (hz6 : z < 6) (hw : WC σ z g) (hT : ∀ j, j < M → σ 32 j = nI (T j) ∧ T j ≤ 15) : ∃ σ' r, f_X5_reckon N (nI z) σ = some (0, σ') ∧ KC σ σ' ∧ r.Perm (elems (2 ^ M - 1) M) ∧ r.Pairwise (rlt D) ∧ σ' 19 1 = nI (hapL T M r 0).length ∧ σ' 19 2 = nI (payA g ((hapL T M r 0).map (sumS D M))).1 ∧ σ' 19 3 = nI (payA g ((hapL T M r 0).map (sumS D M))).2 := by
  have hM := hD.1
  obtain ⟨σ1, r, e1, e2, e3, e4, e5⟩ := e_pir_33 (N := N) hN hD (s := 2 ^ M - 1) h
  have hr : r.length ≤ 12 := by
    rw [e3.length_eq]
    exact Nat.le_trans (elems_len _ M) hM
  have hrM : ∀ x ∈ r, x < M := fun x hx => elems_lt (e3.mem_iff.mp hx)
  have h1 : LC σ1 M D := by
    refine ⟨by rw [e2 18 (by decide)]; exact h.1, fun k hk => ?_⟩
    rw [e2 26 (by decide), e2 27 (by decide), e2 29 (by decide), e2 30 (by decide), e2 31 (by decide)]
    exact h.2 k hk
  have hw1 : WC (mu (mu (mu σ1 19 1 0) 19 2 0) 19 3 0) z g := ⟨hw.1, fun k hk => by
    rw [mu_c (by omega), mu_c (by omega), mu_c (by omega), e2 (8 + z) (by omega)]
    exact hw.2 k hk⟩
  have hT1 : ∀ j, j < M → σ1 32 j = nI (T j) ∧ T j ≤ 15 := fun j hj => by rw [e2 32 (by decide)]; exact hT j hj
  obtain ⟨σ', i1, i2, i3, i4, i5⟩ := lp_reckon (N := N) hN hD hg hr hrM r 0 N 0 0 (0, 0) (mu (mu (mu σ1 19 1 0) 19 2 0) 19 3 0) (by omega) rfl (by omega) (by decide) h1 hw1 hT1 e5 (by rw [mu_k (by decide), mu_k (by decide), mu_s]; rfl) (Nat.zero_le _) (by rw [mu_k (by decide), mu_s]; rfl) (by rw [mu_s]; rfl) (Nat.zero_le _) (Nat.zero_le _)
  refine ⟨σ', r, ?_, ?_, e3, e4, by rw [i3, Nat.zero_add], i4, i5⟩
  · simp only [f_X5_reckon, e_all N hM h.1, bnd_s, e1, m_let]
    exact i1
  · intro a j q
    have ha : a ≠ 19 := by unfold psC at q; omega
    have ha2 : a ≠ 33 := by unfold psC at q; omega
    rw [i2 a ha, mu_c ha, mu_c ha, mu_c ha, e2 a ha2]
end PB
theorem p_brings {N : Nat} (hN : 14 ≤ N) {σ τ : Mem} (h : Rel σ τ) (x y : Int32) : Same (f_X6_brings N x y σ) (f_X7_brings N x y τ) := by
  obtain ⟨C, hC, c1, c2, c3⟩ := h.cov
  obtain ⟨M, hD, hLC, hLR, hT⟩ := h.data
  have hM := hD.1
  have hLR' := hLR.keep (KR.th τ 0)
  have k1 : mu τ 0 0 0 0 7 = nI C := c2
  have hr := Same.mk (-100000000) (h.th 0)
  simp only [f_X6_brings, f_X7_brings, m_let, e_coverAt N hC c1 h.2.2.2.2, e_isCover, e_isIn, e_isWithin, bnd_s, k1]
  by_cases h1 : blw x (nI C) = 0
  · rw [if_pos h1, if_pos h1, if_pos (by decide)]
    exact hr
  obtain ⟨c, hc, rfl⟩ := blw_n (by omega) h1
  obtain ⟨g1, g2, g3⟩ := c3 c hc
  rw [if_neg h1, if_neg h1, if_neg (nI_pos (by omega))]
  by_cases h2 : in3 y 0 3 = 0
  · rw [if_pos h2, if_pos h2]
    exact hr
  obtain ⟨w, -, hw, rfl⟩ := in3_n (a := 0) (b := 3) (by omega) (by omega) h2
  rw [if_neg h2, if_neg h2]
  have hTC : ∀ j, j < M → σ 32 j = nI (Dof σ 5 j) ∧ Dof σ 5 j ≤ 15 := fun j hj => ⟨(hT j hj).1, (hT j hj).2.1⟩
  have hTR : ∀ j, j < M → mu τ 0 0 0 9 j = nI (Dof σ 5 j) ∧ Dof σ 5 j ≤ 15 := fun j hj => ⟨(hT j hj).2.2, (hT j hj).2.1⟩
  obtain ⟨v, e1, e2⟩ := e_judge (N := N) (by omega) hD hLC hLR' g2 (g3.keep (KR.th τ 0)) g1 hTC hTR
  rw [e1, e2, bnd_s, bnd_s]
  by_cases hv' : ¬ v = -1
  · rw [if_neg hv', if_neg hv']
    exact hr
  have hv : v = -1 := Classical.byContradiction hv'
  rw [if_pos hv, if_pos hv]
  -- the class
  obtain ⟨σ', r, a1, a2, a3, a4, a5, a6, a7⟩ := e_reckon (N := N) (by omega) hD g1 hLC (show c < 6 by omega) g2 hTC
  -- the reference
  have p22 : mu (mu τ 0 0 0) 0 22 0 0 22 = nI (ptl (Dof σ 5) M 0).length := by rw [mu_s]; rfl
  obtain ⟨τ1, b1, b2, b3, b4⟩ := lp_parts (N := N) (T := Dof σ 5) (by omega) hM (nI c) (nI w) M 0 N (mu (mu τ 0 0 0) 0 22 0) (by omega) (by omega) hLR.1 hTR p22 (fun j s hs => by simp [ptl] at hs)
  have kr1 : KR τ τ1 := ((KR.th τ 0).tr (KR.up _ 0 (by simp [psR]))).tr b1.kr
  have hLR1 := hLR.keep kr1
  have hpl := ptl_len (T := Dof σ 5) (M := M) M
  obtain ⟨τ2, R, d1, d2, d3, d4, d5⟩ := e_layRow (N := N) (by omega) hD (P := ptl (Dof σ 5) M M) (by omega) (fun s hs => by
    obtain ⟨x, x1, -, x3⟩ := (ptl_mem M).mp hs
    rw [x3]
    exact hset_ok hM x1) hLR1 b2 b3
  have hRl : R.length = (ptl (Dof σ 5) M M).length := d3.length_eq
  have kr2 := kr1.tr d2.kr
  have h22 : τ2 0 22 = nI R.length := by rw [d2 0 (by omega), b2, hRl]
  obtain ⟨τ3, f1, f2, f3, f4⟩ := e_bringsBy (N := N) (by omega) hD g1 (show R.length ≤ 12 by omega) (g3.keep kr2) d5 h22
  have hLeq := told_rows hD a3 a4 d3 d4
  rw [hLeq] at a5 a6 a7
  have hk := h.keep a2 (kr2.tr f2.kr)
  have hg2' := g2.keep (show c < 6 by omega) a2
  have hpa := payA_le g1 (R.map (sumS (Dof σ) M))
  have hend : l_X7_brings_41 N N (nI c) (nI w) (nI 0) (mu (mu τ 0 0 0) 0 22 0) = (if nI w = 0 then some (nI (brF (σ (8 + c)) (payA (σ (8 + c)) (R.map (sumS (Dof σ) M))).2), τ3) else if nI w = 1 then m_bnd (f_X7_netBy N (nI c) τ3) (fun r5 σ6 => some (r5, σ6)) else if nI w = 2 then some (τ3 0 22, τ3) else some (τ3 0 23, τ3)) := by
    rw [b4]
    obtain ⟨n, hn⟩ : ∃ n, N - M = n + 1 := ⟨N - M - 1, by omega⟩
    have hcc : nI M ≤ nI M := by rw [n_le (by omega) (by omega)]; omega
    rw [hn]
    simp only [l_X7_brings_41, b_X7_brings_41, hLR1.1, if_pos hcc, d1, bnd_s, f1]
  rw [a1, bnd_s]
  rw [show (0 : Int32) = nI 0 from rfl] at hend ⊢
  rw [show l_X7_brings_41 N N (nI c) (nI w) (nI 0) (mu (mu τ 0 0 (nI 0)) 0 22 (nI 0)) = _ from hend]
  have z0 := n_eq (a := w) (b := 0) (by omega) (by omega)
  have z1 : nI w = 1 ↔ w = 1 := n_eq (a := w) (b := 1) (by omega) (by omega)
  have z2 : nI w = 2 ↔ w = 2 := n_eq (a := w) (b := 2) (by omega) (by omega)
  have z3 : nI w = 3 ↔ w = 3 := n_eq (a := w) (b := 3) (by omega) (by omega)
  have hw4 : w = 0 ∨ w = 1 ∨ w = 2 ∨ w = 3 := by omega
  rcases hw4 with rfl | rfl | rfl | rfl
  · rw [if_neg (by decide), if_neg (by decide), if_pos rfl, a7, inb_n (by omega) (by omega), gd_t, e_bringC hg2' g1, bnd_s, if_pos rfl]
    exact Same.mk _ hk
  · obtain ⟨τ4, n1, n2, n3⟩ := e_netBy (N := N) (by omega) hD g1 (show R.length ≤ 12 by omega) (g3.keep (kr2.tr f2.kr)) (f2.row d5) (by rw [f2 0 22 (by omega)]; exact h22)
    rw [if_neg (by decide), if_neg (by decide), if_neg (by decide), if_pos (by decide), a7, inb_n (by omega) (by omega), gd_t, e_bringC hg2' g1, bnd_s, if_neg (by decide), gd_t, e_netC hg2' g1 hpa.2, bnd_s, n1, bnd_s]
    exact Same.mk _ (h.keep a2 ((kr2.tr f2.kr).tr n2.kr))
  · rw [if_pos (by decide), if_neg (by decide), if_neg (by decide), if_pos (by decide), a5, f2 0 22 (by omega), h22]
    exact Same.mk _ hk
  · rw [if_neg (by decide), if_pos (by decide), if_neg (by decide), if_neg (by decide), if_neg (by decide), a6, f3]
    exact Same.mk _ hk
