/-! nearest -/
/-- all that lasts in the reference but the hours of cover c -/
def KRc (c : Nat) (τ τ' : Mem) : Prop := ∀ a j, psR a j → ¬ (a = 2 ∧ j = 10 * c) → τ' a j = τ a j
def hset0 (g : Nat → Int32) (h : Int32) : Nat → Int32 := fun k => if k = 0 then h else g k
theorem hset0_wf {g : Nat → Int32} (hg : wfC g) {n : Nat} (h1 : 1 ≤ n) (h2 : n ≤ 99) : wfC (hset0 g (nI n)) := ⟨⟨n, h1, h2, rfl⟩, hg.2⟩
section NEAR
variable {N C M c : Nat} {σ0 τ0 : Mem} {D : Nat → Nat → Nat}
theorem lp_nearest (hN : 300 ≤ N) (hC : C ≤ 6) (hD : LD M D) (h0 : Rel σ0 τ0) (hLC : LC σ0 M D) (hLR : LR τ0 M D) (h16 : σ0 16 8 = nI C) (hc : c < C) (w : Int32) : ∀ m hr n n' (σ τ : Mem) (A bC bR : Int32), hr + m = 100 → m < n → m < n' → 1 ≤ hr → KC σ0 σ → (∀ k, 1 ≤ k → k < 10 → σ 14 k = σ0 (8 + c) k) → KRc c τ0 τ → ((A = -100000000 ∧ bC = -100000000) ∨ (¬ A = -100000000 ∧ bC = bR)) →
    Same (l_X6_nearest_41 N n w A bC (nI hr) σ) (l_X7_nearest_42 N n' (nI c) w (σ0 (8 + c) 0) A bR (nI hr) τ) := by
  have hM := hD.1
  obtain ⟨C', hC', c1, c2, c3⟩ := h0.cov
  have eC : C' = C := by rw [h16] at c1; exact ((n_eq (by omega) (by omega)).mp c1).symm
  subst eC
  obtain ⟨g1, g2, g3⟩ := c3 c hc
  have e10 : (10 : Int32) * nI c = nI (10 * c) := by rw [nI_lit 10, pk_mul]
  intro m
  induction m with
  | zero =>
    intro hr n n' σ τ A bC bR hh hn hn' h1 kc hw kr hA
    obtain ⟨n, rfl⟩ : ∃ q, n = q + 1 := ⟨n - 1, by omega⟩
    obtain ⟨n', rfl⟩ : ∃ q, n' = q + 1 := ⟨n' - 1, by omega⟩
    have e : hr = 100 := by omega
    subst e
    have hlt : (99 : Int32) < nI 100 := by decide
    have hk : KR τ0 (mu τ 2 (10 * c) (σ0 (8 + c) 0)) := fun a j q => by
      rw [mu_e]
      by_cases e : a = 2 ∧ j = 10 * c
      · rw [if_pos e, e.1, e.2]
        exact (g3.2 0 (by omega)).symm
      · rw [if_neg e]
        exact kr a j q e
    have hf := h0.keep kc hk
    simp only [l_X6_nearest_41, b_X6_nearest_41, l_X7_nearest_42, b_X7_nearest_42, if_pos hlt, e10, inb_n (show 10 * c < 70 by omega) (show 70 < 2 ^ 31 by omega), gd_t, nI_clamp (show 10 * c < 2 ^ 31 by omega), m_let]
    rcases hA with ⟨q1, q2⟩ | ⟨q1, q2⟩
    · rw [if_pos q1, q2, q1, ite_self]
      exact Same.mk _ hf
    · rw [if_neg q1, q2]
      by_cases q : w = 0
      · rw [if_pos q, if_pos q]
        exact Same.mk _ hf
      · rw [if_neg q, if_neg q]
        exact Same.mk _ hf
  | succ m ih =>
    intro hr n n' σ τ A bC bR hh hn hn' h1 kc hw kr hA
    obtain ⟨n, rfl⟩ : ∃ q, n = q + 1 := ⟨n - 1, by omega⟩
    obtain ⟨n', rfl⟩ : ∃ q, n' = q + 1 := ⟨n' - 1, by omega⟩
    obtain ⟨d, rfl⟩ : ∃ d, hr = d + 1 := ⟨hr - 1, by omega⟩
    have hlt : ¬ (99 : Int32) < nI (d + 1) := fun q => by rw [nI_lit 99, n_lt (by omega) (by omega)] at q; omega
    have lC : LC σ M D := hLC.keep kc
    have lR : LR τ M D := by
      refine ⟨by rw [kr 0 15 (by simp [psR]) (by omega)]; exact hLR.1, fun k hk => ?_⟩
      rw [kr 3 k (by simp [psR]) (by omega), kr 4 k (by simp [psR]) (by omega), kr 6 k (by simp [psR]) (by omega), kr 7 k (by simp [psR]) (by omega), kr 8 k (by simp [psR]) (by omega)]
      exact hLR.2 k hk
    have e162 : σ 16 2 = nI 6 := by rw [kc 16 2 (by simp [psC])]; exact h0.2.2.2.2.1
    have e206 : σ 20 6 = 7 := by rw [kc 20 6 (by simp [psC])]; exact h0.2.2.2.2.2.1
    -- one search
    have hK : ∀ (σ' τ' : Mem) A' bC' bR', KC σ0 σ' → (∀ k, 1 ≤ k → k < 10 → σ' 14 k = σ0 (8 + c) k) → KRc c τ0 τ' → ((A' = -100000000 ∧ bC' = -100000000) ∨ (¬ A' = -100000000 ∧ bC' = bR')) → Same (l_X6_nearest_41 N n w A' bC' (nI (d + 1) + 1) σ') (l_X7_nearest_42 N n' (nI c) w (σ0 (8 + c) 0) A' bR' (nI (d + 1) + 1) τ') := fun σ' τ' A' bC' bR' x1 x2 x3 x4 => by
      rw [nI_1]
      exact ih (d + 1 + 1) n n' σ' τ' A' bC' bR' (by omega) (by omega) (by omega) (by omega) x1 x2 x3 x4
    have hgo : Same (j_X6_nearest_71 N (l_X6_nearest_41 N n) w A bC (nI (d + 1)) σ) (gd (inb (10 * nI c) 70) (m_let (mu τ 2 (10 * nI c).toNatClampNeg (nI (d + 1))) (fun σ4 => m_bnd (f_X7_every N σ4) (fun r5 σ6 => m_bnd (f_X7_layAll N (nI c) r5 σ6) (fun r7 σ8 => (if r7 = 0 then l_X7_nearest_42 N n' (nI c) w (σ0 (8 + c) 0) A bR (nI (d + 1) + 1) σ8 else (if A = (-100000000) then j_X7_nearest_108 N (l_X7_nearest_42 N n') (nI c) w (σ0 (8 + c) 0) (nI (d + 1)) σ8 else (if ((σ8 0 27) - (σ8 0 28)) < bR then j_X7_nearest_108 N (l_X7_nearest_42 N n') (nI c) w (σ0 (8 + c) 0) (nI (d + 1)) σ8 else l_X7_nearest_42 N n' (nI c) w (σ0 (8 + c) 0) A bR (nI (d + 1) + 1) σ8)))))))) := by
      generalize hσ1 : mu σ 14 0 (nI (d + 1)) = σ1
      generalize hτ1 : mu τ 2 (10 * c) (nI (d + 1)) = τ1
      have kc1 : KC σ σ1 := by rw [← hσ1]; exact KC.up σ _ (by unfold psC; omega)
      have kr1 : ∀ a j, ¬ (a = 2 ∧ j = 10 * c) → τ1 a j = τ a j := fun a j q => by rw [← hτ1, mu_e, if_neg q]
      have lC1 : LC σ1 M D := lC.keep kc1
      have lR1 : LR τ1 M D := by
        refine ⟨by rw [kr1 0 15 (by omega)]; exact lR.1, fun k hk => ?_⟩
        rw [kr1 3 k (by omega), kr1 4 k (by omega), kr1 6 k (by omega), kr1 7 k (by omega), kr1 8 k (by omega)]
        exact lR.2 k hk
      have e162' : σ1 16 2 = nI 6 := by rw [kc1 16 2 (by simp [psC])]; exact e162
      have wC1 : WC σ1 6 (hset0 (σ0 (8 + c)) (nI (d + 1))) := ⟨by omega, fun k hk => by
        show σ1 14 k = _
        rw [← hσ1]
        unfold hset0
        by_cases e : k = 0
        · subst e
          rw [mu_s, if_pos rfl]
        · rw [mu_k e, if_neg e]
          exact hw k (by omega) hk⟩
      have hW : ∀ c', c' < C' → wfC ((fun c' => if c' = c then hset0 (σ0 (8 + c)) (nI (d + 1)) else σ0 (8 + c')) c') ∧ WR τ1 c' ((fun c' => if c' = c then hset0 (σ0 (8 + c)) (nI (d + 1)) else σ0 (8 + c')) c') := fun c' hc' => by
        by_cases e : c' = c
        · subst e
          simp only [if_pos]
          refine ⟨hset0_wf g1 (by omega) (by omega), by omega, fun k hk => ?_⟩
          unfold hset0
          by_cases e : k = 0
          · subst e
            rw [← hτ1, if_pos rfl]
            exact mu_s _ _ _ _
          · rw [kr1 2 _ (by omega), if_neg e, kr 2 _ (by simp [psR]) (by omega)]
            exact g3.2 k hk
        · simp only [if_neg e]
          obtain ⟨u1, u2, u3⟩ := c3 c' hc'
          refine ⟨u1, by omega, fun k hk => ?_⟩
          rw [kr1 2 _ (by omega), kr 2 _ (by simp [psR]) (by omega)]
          exact u3.2 k hk
      have t7 : τ1 0 7 = nI C' := by rw [kr1 0 7 (by omega), kr 0 7 (by simp [psR]) (by omega)]; exact c2
      obtain ⟨r, σ2, τ2, a1, a2, a3, a4, -, a6⟩ := e_both (gs := fun c' => if c' = c then hset0 (σ0 (8 + c)) (nI (d + 1)) else σ0 (8 + c')) (c := c) (z := 6) (C := C') (S := 2 ^ M - 1) hN hD lC1 lR1 (by rw [kc1 20 6 (by simp [psC])]; exact e206) (by omega) (by simp only [if_pos]; exact wC1) hC t7 hW hc two_lt
      have kc2 : KC σ0 σ2 := (kc.tr kc1).tr a3.kc
      have w2 : ∀ k, 1 ≤ k → k < 10 → σ2 14 k = σ0 (8 + c) k := fun k k1 k2 => by
        rw [a3 14 k (by unfold psG; omega), ← hσ1, mu_k (by omega)]
        exact hw k k1 k2
      have kr2 : KRc c τ0 τ2 := fun a j q q2 => by
        rw [a4 a j q, kr1 a j q2]
        exact kr a j q q2
      have exC : j_X6_nearest_71 N (l_X6_nearest_41 N n) w A bC (nI (d + 1)) σ = if r = 0 then l_X6_nearest_41 N n w A bC (nI (d + 1) + 1) σ2 else if A = -100000000 then l_X6_nearest_41 N n w (nI (d + 1)) (σ2 20 0 - σ2 20 1) (nI (d + 1) + 1) σ2 else if bC ≤ σ2 20 0 - σ2 20 1 then l_X6_nearest_41 N n w A bC (nI (d + 1) + 1) σ2 else l_X6_nearest_41 N n w (nI (d + 1)) (σ2 20 0 - σ2 20 1) (nI (d + 1) + 1) σ2 := by
        unfold j_X6_nearest_71
        rw [e162, inb_n (show 6 < 8 by omega) (by omega), gd_t, nI_clamp (show 6 < 2 ^ 31 by omega)]
        rw [show inb 0 10 = true from rfl, gd_t]
        rw [show mu σ (8 + 6) (Int32.toNatClampNeg 0) (nI (d + 1)) = σ1 from hσ1]
        simp only [m_let]
        rw [e_all N hM lC1.1, bnd_s, e162', a1, bnd_s]
        rfl
      rw [exC, e10, inb_n (show 10 * c < 70 by omega) (by omega), gd_t, nI_clamp (show 10 * c < 2 ^ 31 by omega)]
      rw [hτ1]
      simp only [m_let]
      rw [e_every N hM lR1.1, bnd_s, a2, bnd_s]
      rcases a6 with ⟨e, -⟩ | ⟨e, -, -, ⟨b, f, x1, x2, -⟩, ⟨b', f', z1, z2, -⟩, -⟩
      · rw [if_pos e, if_pos e]
        exact hK σ2 τ2 A bC bR kc2 w2 kr2 hA
      · have en : ¬ r = 0 := by rw [e]; exact i1_ne0
        rw [if_neg en, if_neg en]
        have hd : nI (d + 1) ≠ -100000000 := nh (by omega)
        have hj : j_X7_nearest_108 N (l_X7_nearest_42 N n') (nI c) w (σ0 (8 + c) 0) (nI (d + 1)) τ2 = l_X7_nearest_42 N n' (nI c) w (σ0 (8 + c) 0) (nI (d + 1)) (nI b - nI b') (nI (d + 1) + 1) τ2 := by
          unfold j_X7_nearest_108 m_leti
          rw [x2, z2]
        rw [hj, x1, x2, z1, z2]
        rcases hA with ⟨q1, q2⟩ | ⟨q1, q2⟩
        · rw [if_pos q1, if_pos q1]
          exact hK σ2 τ2 _ _ _ kc2 w2 kr2 (Or.inr ⟨hd, rfl⟩)
        · rw [if_neg q1, if_neg q1, q2]
          by_cases q : bR ≤ nI b - nI b'
          · rw [if_pos q, if_neg (fun w => (fa_of_lt w).2.1 q)]
            exact hK σ2 τ2 _ _ _ kc2 w2 kr2 (Or.inr ⟨q1, rfl⟩)
          · rw [if_neg q, if_pos (fa_of_nle q)]
            exact hK σ2 τ2 _ _ _ kc2 w2 kr2 (Or.inr ⟨hd, rfl⟩)
    have exR : l_X7_nearest_42 N (n' + 1) (nI c) w (σ0 (8 + c) 0) A bR (nI (d + 1)) τ = if b2i (cdec (d = 0 ∨ turnP D M d 0)) = 0 then l_X7_nearest_42 N n' (nI c) w (σ0 (8 + c) 0) A bR (nI (d + 1) + 1) τ else (gd (inb (10 * nI c) 70) (m_let (mu τ 2 (10 * nI c).toNatClampNeg (nI (d + 1))) (fun σ4 => m_bnd (f_X7_every N σ4) (fun r5 σ6 => m_bnd (f_X7_layAll N (nI c) r5 σ6) (fun r7 σ8 => (if r7 = 0 then l_X7_nearest_42 N n' (nI c) w (σ0 (8 + c) 0) A bR (nI (d + 1) + 1) σ8 else (if A = (-100000000) then j_X7_nearest_108 N (l_X7_nearest_42 N n') (nI c) w (σ0 (8 + c) 0) (nI (d + 1)) σ8 else (if ((σ8 0 27) - (σ8 0 28)) < bR then j_X7_nearest_108 N (l_X7_nearest_42 N n') (nI c) w (σ0 (8 + c) 0) (nI (d + 1)) σ8 else l_X7_nearest_42 N n' (nI c) w (σ0 (8 + c) 0) A bR (nI (d + 1) + 1) σ8)))))))) := by
      simp only [l_X7_nearest_42, b_X7_nearest_42, if_neg hlt, e_turn (N := N) (by omega) hD lR (show d ≤ 999 by omega), bnd_s]
    rw [exR]
    by_cases q0 : d = 0
    · have hle : nI (d + 1) ≤ 1 := by rw [q0]; decide
      simp only [l_X6_nearest_41, b_X6_nearest_41, if_neg hlt, if_pos hle]
      rw [cdec_t (show d = 0 ∨ turnP D M d 0 from Or.inl q0), if_neg b2i_tn]
      exact hgo
    · have hle : ¬ nI (d + 1) ≤ 1 := fun q => by
        have : nI (d + 1) ≤ nI 1 := q
        rw [n_le (by omega) (by omega)] at this
        omega
      simp only [l_X6_nearest_41, b_X6_nearest_41, if_neg hlt, if_neg hle, n_m1, e_apart (N := N) (by omega) hD lC (show d ≤ 999 by omega), bnd_s]
      by_cases qt : turnP D M d 0
      · rw [cdec_t qt, cdec_t (show d = 0 ∨ turnP D M d 0 from Or.inr qt), if_neg b2i_tn, if_neg b2i_tn]
        exact hgo
      · rw [cdec_f qt, cdec_f (show ¬ (d = 0 ∨ turnP D M d 0) from fun w => w.elim q0 qt), if_pos b2i_f, if_pos b2i_f]
        exact hK σ τ A bC bR kc hw kr hA
end NEAR
theorem p_nearest {N : Nat} (hN : 300 ≤ N) {σ τ : Mem} (h : Rel σ τ) (x w : Int32) : Same (f_X6_nearest N x w σ) (f_X7_nearest N x w τ) := by
  obtain ⟨C, hC, c1, c2, c3⟩ := h.cov
  obtain ⟨M, hD, hLC, hLR, -⟩ := h.data
  have k1 : mu τ 0 0 0 0 7 = nI C := c2
  have hr := Same.mk (-100000000) (h.th 0)
  simp only [f_X6_nearest, f_X7_nearest, m_let, m_leti, e_coverAt N hC c1 h.2.2.2.2, e_isCover, e_isIn, e_isWithin, bnd_s, k1]
  by_cases h1 : blw x (nI C) = 0
  · rw [if_pos h1, if_pos h1, if_pos (by decide)]
    exact hr
  obtain ⟨c, hc, rfl⟩ := blw_n (by omega) h1
  obtain ⟨g1, g2, g3⟩ := c3 c hc
  rw [if_neg h1, if_neg h1, if_neg (nI_pos (by omega))]
  by_cases h2 : in3 w 0 1 = 0
  · rw [if_pos h2, if_pos h2]
    exact hr
  have e162 : σ 16 2 = nI 6 := h.2.2.2.2.1
  have hcp : f_X0_copyFrom N (nI 6) (nI c) σ = some (0, m_cp σ 14 (σ (8 + c))) := by
    unfold f_X0_copyFrom
    simp only [inb_n (show c < 8 by omega) (show 8 < 2 ^ 31 by omega), inb_n (show 6 < 8 by omega) (show 8 < 2 ^ 31 by omega), gd_t, m_let, nI_clamp (show c < 2 ^ 31 by omega), nI_clamp (show 6 < 2 ^ 31 by omega)]
  have e0 : f_X7_wordOf N (nI c) 0 (mu τ 0 0 0) = some (σ (8 + c) 0, mu τ 0 0 0) := e_wordOf N (g3.keep (KR.th τ 0)) (k := 0) (by omega)
  rw [if_neg h2, if_neg h2, e162, inb_n (show 6 < 8 by omega) (by omega), gd_t, hcp, bnd_s, e0, bnd_s]
  have hk : ∀ a j, a ≠ 14 → m_cp σ 14 (σ (8 + c)) a j = σ a j := fun a j q => by unfold m_cp; rw [if_neg q]
  refine lp_nearest (C := C) (M := M) (c := c) hN hC hD (h.th 0) hLC (hLR.keep (KR.th τ 0)) c1 hc w 99 1 N N _ _ _ _ 0 (by omega) (by omega) (by omega) (by omega) (fun a j q => hk a j (by unfold psC at q; omega)) (fun k _ k2 => ?_) (fun a j _ _ => rfl) (Or.inl ⟨rfl, rfl⟩)
  unfold m_cp
  rw [if_pos rfl, sb_cpy0 k2]
