/-! game; layers, each by its own words -/
theorem KQ.dof {σ σ' : Mem} (h : KQ σ σ') : Dof σ' = Dof σ := by
  have e : ∀ a k, 22 ≤ a → a ≤ 32 → σ' a k = σ a k := fun a k h1 h2 => h a k (by unfold psG; omega)
  funext a k
  simp only [Dof, e 26 k (by omega) (by omega), e 27 k (by omega) (by omega), e 29 k (by omega) (by omega), e 30 k (by omega) (by omega), e 31 k (by omega) (by omega), e 32 k (by omega) (by omega)]
theorem KQ.cov {σ σ' : Mem} (h : KQ σ σ') {c : Nat} (hc : c < 7) : σ' (8 + c) = σ (8 + c) := funext (fun k => h (8 + c) k (by unfold psG; omega))
theorem Rel.t15 {σ τ : Mem} (h : Rel σ τ) {M : Nat} (h18 : σ 18 6 = nI M) : τ 0 15 = nI M := by
  obtain ⟨M', hM', l1, l2, l3, l4⟩ := h.2.2.1
  rw [l2, ← l1, h18]
theorem Rel.t7 {σ τ : Mem} (h : Rel σ τ) {C : Nat} (h16 : σ 16 8 = nI C) : τ 0 7 = nI C := by
  obtain ⟨C', hC', l1, l2, l3⟩ := h.2.1
  rw [l2, ← l1, h16]
def Wst (D : Nat → Nat → Nat) (M : Nat) (g : Nat → Int32) (A s lR : Int32) : Prop := ∃ j b f, j < M ∧ A = nI j ∧ s = nI j ∧ lR = nI b ∧ b < 2 ^ 30 ∧ toldS g (bdiff (2 ^ M - 1) (2 ^ j)) ∧ bestM (VV D M (bdiff (2 ^ M - 1) (2 ^ j)) g) b f
theorem lp_worth {N : Nat} (hN : 300 ≤ N) {C M c : Nat} (hC : C ≤ 6) (hM : M ≤ 12) (hM0 : 0 < M) (hc : c < C) {D : Nat → Nat → Nat} {g : Nat → Int32} : ∀ m k n n' (σ τ : Mem) (A lC lR : Int32), k + m = M → m < n → m < n' → Rel σ τ → σ 16 8 = nI C → σ 18 6 = nI M → Dof σ = D → σ (8 + c) = g → ((k = 0 ∧ A = -1 ∧ τ 0 41 = -1) ∨ (lC = lR ∧ Wst D M g A (τ 0 41) lR)) →
    ∃ a x σ' τ', l_X6_lossOfGreatestWeight_9 N n (nI c) 1 A lC (nI k) σ = some (a, σ') ∧ l_X7_worthOf_9 N n' (nI c) lR (nI k) τ = some (x, τ') ∧ KQ σ σ' ∧ KR τ τ' ∧ ((a = -1 ∧ x = -100000000) ∨ Wst D M g a (τ' 0 41) x) := by
  intro m
  induction m with
  | zero =>
    intro k n n' σ τ A lC lR hk hn hn' h h16 h18 hd hg hA
    obtain ⟨n, rfl⟩ : ∃ q, n = q + 1 := ⟨n - 1, by omega⟩
    obtain ⟨n', rfl⟩ : ∃ q, n' = q + 1 := ⟨n' - 1, by omega⟩
    have t15 := h.t15 h18
    have e : k = M := by omega
    subst e
    have hle : nI k ≤ nI k := by rw [n_le (by omega) (by omega)]; omega
    refine ⟨A, lR, σ, τ, ?_, ?_, KQ.rf σ, KR.rf τ, ?_⟩
    · simp only [l_X6_lossOfGreatestWeight_9, b_X6_lossOfGreatestWeight_9, h18, if_pos hle]
    · simp only [l_X7_worthOf_9, b_X7_worthOf_9, t15, if_pos hle]
    · rcases hA with ⟨q, -⟩ | ⟨-, q⟩
      · omega
      · exact Or.inr q
  | succ m ih =>
    intro k n n' σ τ A lC lR hk hn hn' h h16 h18 hd hg hA
    obtain ⟨n, rfl⟩ : ∃ q, n = q + 1 := ⟨n - 1, by omega⟩
    obtain ⟨n', rfl⟩ : ∃ q, n' = q + 1 := ⟨n' - 1, by omega⟩
    have t15 := h.t15 h18
    have hle : ¬ nI M ≤ nI k := fun q => by rw [n_le (by omega) (by omega)] at q; omega
    obtain ⟨v, r, σ1, τ1, a1, a2, a3, a4, a5, a6, a7⟩ := h.gr hN (C := C) (c := c) (M := M) h16 h18 hC hM hc (strike_lt (M := M) (k := k))
    have exC : l_X6_lossOfGreatestWeight_9 N (n + 1) (nI c) 1 A lC (nI k) σ = if v = -100000000 then some (-1, σ1) else if A = -1 then l_X6_lossOfGreatestWeight_9 N n (nI c) 1 (nI k) v (nI (k + 1)) σ1 else if lC ≤ v then l_X6_lossOfGreatestWeight_9 N n (nI c) 1 A lC (nI (k + 1)) σ1 else l_X6_lossOfGreatestWeight_9 N n (nI c) 1 (nI k) v (nI (k + 1)) σ1 := by
      simp only [l_X6_lossOfGreatestWeight_9, b_X6_lossOfGreatestWeight_9, h18, if_neg hle, e_all N hM h18, bnd_s, n_shl (show k < 31 by omega), n_xor, strike (show k < M by omega), a1, if_neg i1_ne0, nI_1]
    have exR : l_X7_worthOf_9 N (n' + 1) (nI c) lR (nI k) τ = if r = 0 then some (-100000000, τ1) else if τ1 0 41 = -1 then l_X7_worthOf_9 N n' (nI c) (τ1 0 27) (nI (k + 1)) (mu τ1 0 41 (nI k)) else if τ1 0 27 < lR then l_X7_worthOf_9 N n' (nI c) (τ1 0 27) (nI (k + 1)) (mu τ1 0 41 (nI k)) else l_X7_worthOf_9 N n' (nI c) lR (nI (k + 1)) τ1 := by
      have e27 : mu τ1 0 41 (nI k) 0 27 = τ1 0 27 := rfl
      simp only [l_X7_worthOf_9, b_X7_worthOf_9, t15, if_neg hle, e_every N hM t15, bnd_s, n_shl (show k < 31 by omega), n_andn, a2, j_X7_worthOf_57, m_leti, m_let, nI_1, e27]
    rw [exC, exR, a6]
    have k41 : KR τ1 (mu τ1 0 41 (nI k)) := KR.up τ1 _ (by simp [psR])
    rcases a7 with ⟨e, e2, -⟩ | ⟨e, b, hb, e2, e3, e4, f, e5⟩
    · rw [if_pos e, if_pos e2]
      exact ⟨_, _, σ1, τ1, rfl, rfl, a4, a5, Or.inl ⟨rfl, rfl⟩⟩
    · rw [if_neg (show ¬ r = 0 by rw [e]; exact i1_ne0), if_neg (show ¬ v = -100000000 by rw [e2]; exact nh hb), e2, e3]
      rw [hd, hg] at e5
      rw [hg] at e4
      have hnew : Wst D M g (nI k) (mu τ1 0 41 (nI k) 0 41) (nI b) := ⟨k, b, f, by omega, rfl, mu_s _ _ _ _, rfl, hb, e4, e5⟩
      have d1 : Dof σ1 = D := by rw [a4.dof]; exact hd
      have d2 : σ1 (8 + c) = g := by rw [a4.cov (by omega)]; exact hg
      have d3 : σ1 16 8 = nI C := by rw [a4.c16]; exact h16
      have d4 : σ1 18 6 = nI M := by rw [a4.c18]; exact h18
      have hN1 : ∃ a x σ' τ', l_X6_lossOfGreatestWeight_9 N n (nI c) 1 (nI k) (nI b) (nI (k + 1)) σ1 = some (a, σ') ∧ l_X7_worthOf_9 N n' (nI c) (nI b) (nI (k + 1)) (mu τ1 0 41 (nI k)) = some (x, τ') ∧ KQ σ σ' ∧ KR τ τ' ∧ ((a = -1 ∧ x = -100000000) ∨ Wst D M g a (τ' 0 41) x) := by
        obtain ⟨a, x, σ', τ', b1, b2, b3, b4, b5⟩ := ih (k + 1) n n' σ1 (mu τ1 0 41 (nI k)) (nI k) (nI b) (nI b) (by omega) (by omega) (by omega) (a3.keep (KC.rf σ1) k41) d3 d4 d1 d2 (Or.inr ⟨rfl, hnew⟩)
        exact ⟨a, x, σ', τ', b1, b2, a4.tr b3, (a5.tr k41).tr b4, b5⟩
      rcases hA with ⟨q0, q1, q2⟩ | ⟨q1, q2⟩
      · rw [if_pos q1, if_pos q2]
        exact hN1
      · obtain ⟨j, b0, f0, w1, w2, w3, w4, w5, w6, w7⟩ := id q2
        rw [if_neg (show ¬ A = -1 by rw [w2]; exact nm (by omega)), if_neg (show ¬ τ 0 41 = -1 by rw [w3]; exact nm (by omega)), q1]
        by_cases q : lR ≤ nI b
        · rw [if_pos q, if_neg (fun w => (fa_of_lt w).2.1 q)]
          obtain ⟨a, x, σ', τ', b1, b2, b3, b4, b5⟩ := ih (k + 1) n n' σ1 τ1 A lR lR (by omega) (by omega) (by omega) a3 d3 d4 d1 d2 (Or.inr ⟨rfl, by rw [a6]; exact q2⟩)
          exact ⟨a, x, σ', τ', b1, b2, a4.tr b3, a5.tr b4, b5⟩
        · rw [if_neg q, if_pos (fa_of_nle q)]
          exact hN1
theorem bestM_val {D : Nat → Nat → Nat} {M S : Nat} {g : Nat → Int32} {b f : Nat} (ht : toldS g S) (hb : bestM (VV D M S g) b f) : ¬ noneS D M S g := by
  rintro (q | q)
  · exact q ht
  · obtain ⟨w, q2⟩ := hb.1
    exact q _ q2
theorem p_game {N : Nat} (hN : 300 ≤ N) {σ τ : Mem} (h : Rel σ τ) (x y w : Int32) : Same (f_X6_game N x y w σ) (f_X7_game N x y w τ) := by
  obtain ⟨C, hC, c1, c2, c3⟩ := h.cov
  obtain ⟨M, hM, l1, l2, l3, l4⟩ := h.2.2.1
  have k1 : mu τ 0 0 0 0 7 = nI C := c2
  have k2 : mu τ 0 0 0 0 15 = nI M := l2
  have hr := Same.mk (-100000000) (h.th 0)
  simp only [f_X6_game, f_X7_game, m_let, m_leti, e_coverAt N hC c1 h.2.2.2.2, e_isCover, e_isIn, e_isWithin, bnd_s, k1, k2]
  by_cases h1 : blw x (nI C) = 0
  · rw [if_pos h1, if_pos h1, if_pos (by decide)]
    exact hr
  obtain ⟨c, hc, rfl⟩ := blw_n (by omega) h1
  rw [if_neg h1, if_neg h1, if_neg (nI_pos (show c < 2 ^ 31 by omega))]
  by_cases h2 : blw y (nI C) = 0
  · rw [if_pos h2, if_pos h2, if_pos (by decide)]
    exact hr
  obtain ⟨d, hd, rfl⟩ := blw_n (by omega) h2
  rw [if_neg h2, if_neg h2, if_neg (nI_pos (show d < 2 ^ 31 by omega))]
  by_cases h3 : in3 w 0 2 = 0
  · rw [if_pos h3, if_pos h3]
    exact hr
  rw [if_neg h3, if_neg h3]
  by_cases hM0 : M = 0
  · have hz : nI M = 0 := by rw [hM0]; rfl
    rw [if_pos hz]
    obtain ⟨n, hn⟩ : ∃ n, N = n + 1 := ⟨N - 1, by omega⟩
    have e18 : σ 18 6 ≤ nI 0 := by rw [l1, hM0, n_le (by omega) (by omega)]; omega
    have hl : ∀ v, f_X6_lossOfGreatestWeight N v 1 σ = some (-1, σ) := fun v => by
      unfold f_X6_lossOfGreatestWeight m_leti
      rw [show (0 : Int32) = nI 0 from rfl]
      conv => lhs; rw [hn]
      simp only [l_X6_lossOfGreatestWeight_9, b_X6_lossOfGreatestWeight_9, if_pos e18]
    rw [hl, bnd_s, hl, bnd_s, if_pos rfl]
    exact hr
  have hMp : 0 < M := by omega
  rw [if_neg (n_nz (by omega) hM0)]
  -- the reference takes the other first
  have kth := KR.th τ 0
  have k41 : ∀ t : Mem, KR t (mu t 0 41 (-1)) := fun t => KR.up t _ (by simp [psR])
  have hstart : ∀ {c' : Nat} (hc' : c' < C) {s t : Mem}, Rel s t → KQ σ s → ∃ a v s' t', f_X6_lossOfGreatestWeight N (nI c') 1 s = some (a, s') ∧ f_X7_worthOf N (nI c') t = some (v, t') ∧ KQ s s' ∧ KR t t' ∧ ((a = -1 ∧ v = -100000000) ∨ Wst (Dof σ) M (σ (8 + c')) a (t' 0 41) v) := by
    intro c' hc' s t hst ks
    obtain ⟨a, v, s', t', b1, b2, b3, b4, b5⟩ := lp_worth hN hC hM hMp hc' M 0 N N s (mu t 0 41 (-1)) (-1) (-100000000) 0 (by omega) (by omega) (by omega) (hst.keep (KC.rf s) (k41 t)) (by rw [ks.c16]; exact c1) (by rw [ks.c18]; exact l1) ks.dof (ks.cov (by omega)) (Or.inl ⟨rfl, rfl, mu_s _ _ _ _⟩)
    exact ⟨a, v, s', t', b1, b2, b3, (k41 t).tr b4, b5⟩
  obtain ⟨-, v2, -, τ2, -, p2, -, p4, -⟩ := hstart hd (h.th 0) (KQ.rf σ)
  have hR2 : Rel σ τ2 := h.keep (KC.rf σ) (kth.tr p4)
  obtain ⟨a1, v1, σ1, τ3, q1, q2, q3, q4, q5⟩ := hstart hc hR2 (KQ.rf σ)
  have hR1 : Rel σ1 (mu τ 0 0 0) := h.keep q3.kc kth
  obtain ⟨a2, v2', σ2, τ2', r1, r2, r3, r4, r5⟩ := hstart hd hR1 q3
  rw [p2] at r2
  have er := Prod.mk.inj (Option.some.inj r2)
  rw [← er.1, ← er.2] at r5
  rw [q1, bnd_s, r1, bnd_s, p2, bnd_s, q2, bnd_s]
  have hfin : Rel σ2 τ3 := h.keep (q3.kc.tr r3.kc) ((kth.tr p4).tr q4)
  have kq2 := q3.tr r3
  rcases q5 with ⟨w1, w2⟩ | ⟨j1, b1, f1, x1, x2, x3, x4, x5, x6, x7⟩
  · rw [if_pos w1, if_pos w2]
    exact Same.mk _ hfin
  rw [if_neg (show ¬ a1 = -1 by rw [x2]; exact nm (by omega)), if_neg (show ¬ v1 = -100000000 by rw [x4]; exact nh x5)]
  rcases r5 with ⟨w1, w2⟩ | ⟨j2, b2, f2, y1, y2, y3, y4, y5, y6, y7⟩
  · rw [if_pos w1, if_pos w2]
    exact Same.mk _ hfin
  rw [if_neg (show ¬ a2 = -1 by rw [y2]; exact nm (by omega)), if_neg (show ¬ v2 = -100000000 by rw [y4]; exact nh y5)]
  have g16 : σ2 16 8 = nI C := by rw [kq2.c16]; exact c1
  have g18 : σ2 18 6 = nI M := by rw [kq2.c18]; exact l1
  obtain ⟨u1, s1, σ3, τx, z1, -, z3, z4, -, -, z7⟩ := hfin.gr hN (C := C) (c := c) (M := M) g16 g18 hC hM hc (strike_lt (M := M) (k := j1))
  have g18' : σ3 18 6 = nI M := by rw [z4.c18]; exact g18
  obtain ⟨u2, s2, σ4, τy, m1, -, m3, m4, -, -, m7⟩ := (hfin.keep z4.kc (KR.rf τ3)).gr hN (C := C) (c := d) (M := M) (by rw [z4.c16]; exact g16) g18' hC hM hd (strike_lt (M := M) (k := j2))
  have eu1 : u1 = nI b1 := by
    rw [kq2.dof, kq2.cov (show c < 7 by omega)] at z7
    rcases z7 with ⟨-, -, q⟩ | ⟨-, b, -, q1, -, -, f, q2⟩
    · exact absurd q (bestM_val x6 x7)
    · rw [q1, (bestM_un q2 x7).1]
  have eu2 : u2 = nI b2 := by
    rw [z4.dof, z4.cov (show d < 7 by omega), kq2.dof, kq2.cov (show d < 7 by omega)] at m7
    rcases m7 with ⟨-, -, q⟩ | ⟨-, b, -, q1, -, -, f, q2⟩
    · exact absurd q (bestM_val y6 y7)
    · rw [q1, (bestM_un q2 y7).1]
  rw [e_all N hM g18, bnd_s, x2, n_shl (show j1 < 31 by omega), n_xor, strike x1, z1, bnd_s, e_all N hM g18', bnd_s, y2, n_shl (show j2 < 31 by omega), n_xor, strike y1, m1, bnd_s, eu1, eu2, x4, y4, x3, y3]
  have hfin2 : Rel σ4 τ3 := hfin.keep (z4.kc.tr m4.kc) (KR.rf τ3)
  have n01 : ¬ (1 : Int32) = 0 := i1_ne0
  by_cases q : nI b2 ≤ nI b1
  · have qn := (n_le (by omega) (by omega)).mp q
    rw [if_pos q, if_pos q, n_max (by omega) (by omega), Nat.max_eq_left qn]
    simp only [if_pos]
    by_cases q0 : w = 0
    · rw [if_pos q0, if_pos q0]
      exact Same.mk _ hfin2
    rw [if_neg q0, if_neg q0]
    by_cases q1 : w = 1
    · rw [if_pos q1, if_pos q1]
      exact Same.mk _ hfin2
    rw [if_neg q1, if_neg q1]
    exact Same.mk _ hfin2
  · have qn : b1 ≤ b2 := by
      rcases Nat.lt_or_ge b1 b2 with e | e
      · omega
      · exact absurd ((n_le (by omega) (by omega)).mpr e) q
    rw [if_neg q, if_neg q, n_max (by omega) (by omega), Nat.max_eq_right qn]
    simp only [if_neg n01]
    by_cases q0 : w = 0
    · rw [if_pos q0, if_pos q0]
      exact Same.mk _ hfin2
    rw [if_neg q0, if_neg q0]
    by_cases q1 : w = 1
    · rw [if_pos q1, if_pos q1]
      exact Same.mk _ hfin2
    rw [if_neg q1, if_neg q1]
    exact Same.mk _ hfin2
/-! layers, each by its own words -/
theorem lp_own {N : Nat} (hN : 300 ≤ N) {C M s : Nat} (hC : C ≤ 6) (hM : M ≤ 12) (hs : s < 2 ^ C) : ∀ m c n n' (σ τ : Mem) (x : Int32), c + m = C → m < n → m < n' → Rel σ τ → σ 16 8 = nI C → σ 18 6 = nI M →
    Same (l_X6_greatestByOwnPartings_4 N n (nI s) x (nI c) σ) (l_X7_layers_166 N n' (nI s) x (nI c) τ) := by
  have hs64 : s < 64 := Nat.lt_of_lt_of_le hs (Nat.pow_le_pow_right (show 0 < 2 by decide) hC)
  intro m
  induction m with
  | zero =>
    intro c n n' σ τ x hk hn hn' h h16 h18
    obtain ⟨n, rfl⟩ : ∃ q, n = q + 1 := ⟨n - 1, by omega⟩
    obtain ⟨n', rfl⟩ : ∃ q, n' = q + 1 := ⟨n' - 1, by omega⟩
    have t7 := h.t7 h16
    have e : c = C := by omega
    subst e
    have hle : nI c ≤ nI c := by rw [n_le (by omega) (by omega)]; omega
    simp only [l_X6_greatestByOwnPartings_4, b_X6_greatestByOwnPartings_4, l_X7_layers_166, b_X7_layers_166, h16, t7, if_pos hle]
    exact Same.mk _ h
  | succ m ih =>
    intro c n n' σ τ x hk hn hn' h h16 h18
    obtain ⟨n, rfl⟩ : ∃ q, n = q + 1 := ⟨n - 1, by omega⟩
    obtain ⟨n', rfl⟩ : ∃ q, n' = q + 1 := ⟨n' - 1, by omega⟩
    have t7 := h.t7 h16
    have t15 := h.t15 h18
    have hle : ¬ nI C ≤ nI c := fun q => by rw [n_le (by omega) (by omega)] at q; omega
    have hcv : f_X6_coverAt N (nI c) σ = some (nI c, σ) := by
      rw [e_coverAt N hC h16 h.2.2.2.2, blw_1 (by omega) (by omega), if_neg i1_ne0]
    obtain ⟨v, r, σ1, τ1, a1, a2, a3, a4, a5, a6, a7⟩ := h.gr hN (C := C) (c := c) (M := M) h16 h18 hC hM (by omega) two_lt
    have exC : l_X6_greatestByOwnPartings_4 N (n + 1) (nI s) x (nI c) σ = if nI s &&& nI (2 ^ c) = 0 then l_X6_greatestByOwnPartings_4 N n (nI s) x (nI (c + 1)) σ else if v = -100000000 then some (-100000000, σ1) else l_X6_greatestByOwnPartings_4 N n (nI s) (x + v) (nI (c + 1)) σ1 := by
      simp only [l_X6_greatestByOwnPartings_4, b_X6_greatestByOwnPartings_4, h16, if_neg hle, hcv, bnd_s, if_neg (nI_pos (show c < 2 ^ 31 by omega)), n_shl (show c < 31 by omega), e_all N hM h18, a1, m_leti, nI_1]
    have exR : l_X7_layers_166 N (n' + 1) (nI s) x (nI c) τ = if b2i (s.testBit c) = 0 then l_X7_layers_166 N n' (nI s) x (nI (c + 1)) τ else if r = 0 then some (-100000000, τ1) else l_X7_layers_166 N n' (nI s) (x + τ1 0 27) (nI (c + 1)) τ1 := by
      simp only [l_X7_layers_166, b_X7_layers_166, t7, if_neg hle, e_hasR N (show s < 2 ^ 31 by omega) (show c < 32 by omega), bnd_s, e_every N hM t15, a2, m_leti, nI_1]
    rw [exC, exR]
    cases hb : s.testBit c with
    | false =>
      rw [if_pos ((fa_bit (by omega)).mpr hb), if_pos b2i_f]
      exact ih (c + 1) n n' σ τ x (by omega) (by omega) (by omega) h h16 h18
    | true =>
      rw [if_neg (fun q => by rw [fa_bit (by omega), hb] at q; cases q), if_neg b2i_tn]
      rcases a7 with ⟨e, e2, -⟩ | ⟨e, b, hb2, e2, e3, -⟩
      · rw [if_pos e2, if_pos e]
        exact Same.mk _ a3
      · rw [if_neg (show ¬ v = -100000000 by rw [e2]; exact nh hb2), if_neg (show ¬ r = 0 by rw [e]; exact i1_ne0), e2, e3]
        exact ih (c + 1) n n' σ1 τ1 _ (by omega) (by omega) (by omega) a3 (by rw [a4.c16]; exact h16) (by rw [a4.c18]; exact h18)
