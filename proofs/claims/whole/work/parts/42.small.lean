/-! put, mend, storm, loss, feed -/
theorem n_lt2 {M : Nat} (h : M ≤ 12) : 2 ^ M ≤ 4096 := by
  have : 2 ^ M ≤ 2 ^ 12 := Nat.pow_le_pow_right (by decide) h
  simpa using this
theorem upd_s (f : Nat → Int32) (k : Nat) (v : Int32) : upd f k v k = v := by simp [upd]
theorem upd_n {f : Nat → Int32} {k j : Nat} (v : Int32) (h : j ≠ k) : upd f k v j = f j := by simp [upd, h]
theorem rC.k {σ σ' τ τ' : Mem} (h : rC σ τ) (e1 : σ' 16 8 = σ 16 8) (e2 : ∀ c, c < 6 → σ' (8 + c) = σ (8 + c)) (e3 : τ' 0 7 = τ 0 7) (e4 : τ' 2 = τ 2) : rC σ' τ' := by
  obtain ⟨C, h1, h2, h3, h4⟩ := h
  refine ⟨C, h1, by rw [e1]; exact h2, by rw [e3]; exact h3, fun c hc => ?_⟩
  rw [e2 c (by omega), e4]
  exact h4 c hc
theorem p_put (N : Nat) {σ τ : Mem} (h : Rel σ τ) (x y : Int32) : Same (f_X6_put N x y σ) (f_X7_put_ N x y τ) := by
  obtain ⟨M, hM, l1, l2, l3, l4⟩ := h.2.2.1
  have k2 : mu τ 0 0 0 0 15 = nI M := l2
  simp only [f_X6_put, f_X7_put_, m_let, e_has, e_isLoss, e_isIn, e_isWithin, bnd_s, l1, k2, isb_0, isb_1, gd_t]
  by_cases h1 : blw x (nI M) = 0
  · rw [if_pos h1, if_pos h1]
    exact Same.mk _ (h.th 0)
  rw [if_neg h1, if_neg h1]
  obtain ⟨k, hk, rfl⟩ := blw_n (by omega) h1
  by_cases h2 : in3 y 0 15 = 0
  · rw [if_pos h2, if_pos h2]
    exact Same.mk _ (h.th 0)
  rw [if_neg h2, if_neg h2, inb_n (by omega) (by omega), gd_t, gd_t, nI_clamp (by omega)]
  obtain ⟨n, -, hn, rfl⟩ := in3_n (a := 0) (b := 15) (by omega) (by omega) h2
  refine Same.mk _ ⟨(h.th 0).1, h.2.1.k rfl (fun c hc => mu_c (by omega)) rfl rfl, ⟨M, hM, l1, l2, fun j hj => ?_, fun j hj hj2 => ?_⟩, (h.th 0).2.2.2.1, h.2.2.2.2⟩
  · obtain ⟨⟨w1, w2, w3, w4, w5, w6, w7⟩, q⟩ := l3 j hj
    by_cases e : j = k
    · subst e
      refine ⟨⟨w1, w2, w3, w4, w5, w6, ⟨n, hn, by rw [mu_s]⟩⟩, q.1, q.2.1, q.2.2.1, q.2.2.2.1, q.2.2.2.2.1, q.2.2.2.2.2.1, by rw [mu_s, mu_s]⟩
    · refine ⟨⟨w1, w2, w3, w4, w5, w6, by rw [mu_k e]; exact w7⟩, q.1, q.2.1, q.2.2.1, q.2.2.2.1, q.2.2.2.2.1, q.2.2.2.2.2.1, by rw [mu_k e, mu_k e]; exact q.2.2.2.2.2.2⟩
  · rw [mu_k (by omega)]
    exact l4 j hj hj2
theorem p_mend (N : Nat) {σ τ : Mem} (h : Rel σ τ) (x y z : Int32) : Same (f_X6_mend N x y z σ) (f_X7_mend N x y z τ) := by
  obtain ⟨M, hM, l1, l2, l3, l4⟩ := h.2.2.1
  have k2 : mu τ 0 0 0 0 15 = nI M := l2
  simp only [f_X6_mend, f_X7_mend, m_let, e_has, e_isLoss, e_isIn, e_isWithin, bnd_s, l1, k2, isb_0, isb_1, gd_t]
  by_cases h1 : blw x (nI M) = 0
  · rw [if_pos h1, if_pos h1]
    exact Same.mk _ (h.th 0)
  rw [if_neg h1, if_neg h1]
  obtain ⟨k, hk, rfl⟩ := blw_n (by omega) h1
  by_cases h2 : in3 y 0 999 = 0
  · rw [if_pos h2, if_pos h2]
    exact Same.mk _ (h.th 0)
  by_cases h3 : in3 z 1 99 = 0
  · rw [if_neg h2, if_neg h2, if_pos h3, if_pos h3]
    exact Same.mk _ (h.th 0)
  rw [if_neg h2, if_neg h2, if_neg h3, if_neg h3, inb_n (by omega) (by omega), nI_clamp (by omega)]
  simp only [gd_t]
  obtain ⟨n, -, hn, rfl⟩ := in3_n (a := 0) (b := 999) (by omega) (by omega) h2
  obtain ⟨m, hm1, hm2, rfl⟩ := in3_n (a := 1) (b := 99) (by omega) (by omega) h3
  have e1 : mu σ 27 k (nI n) 28 k = σ 28 k := rfl
  have e2 : mu (mu τ 0 0 0) 4 k (nI n) 5 k = τ 5 k := rfl
  rw [e1, e2]
  refine Same.mk _ ⟨(h.th 0).1, h.2.1.k rfl (fun c hc => by rw [mu_c (by omega), mu_c (by omega), mu_c (by omega)]) rfl rfl, ⟨M, hM, l1, l2, fun j hj => ?_, l4⟩, (h.th 0).2.2.2.1, h.2.2.2.2⟩
  obtain ⟨⟨w1, w2, w3, w4, w5, w6, w7⟩, q1, q2, q3, q⟩ := l3 j hj
  obtain ⟨b, hb, hb2⟩ := w3
  by_cases e : j = k
  · subst e
    rw [q3, hb2, n_max (by omega) (by omega), n_max (by omega) (by omega), Nat.max_comm b n]
    refine ⟨⟨⟨m, hm1, hm2, mu_s _ _ _ _⟩, ⟨n, hn, ?_⟩, ⟨max n b, by omega, ?_⟩, w4, w5, w6, w7⟩, ?_, ?_, ?_, q⟩
    · show upd (σ 27) j (nI n) j = _
      exact upd_s _ _ _
    · show upd (σ 28) j (nI (max n b)) j = _
      exact upd_s _ _ _
    · show upd (τ 3) j (nI m) j = upd (σ 26) j (nI m) j
      rw [upd_s, upd_s]
    · show upd (τ 4) j (nI n) j = upd (σ 27) j (nI n) j
      rw [upd_s, upd_s]
    · show upd (τ 5) j (nI (max n b)) j = upd (σ 28) j (nI (max n b)) j
      rw [upd_s, upd_s]
  · refine ⟨⟨?_, ?_, ?_, w4, w5, w6, w7⟩, ?_, ?_, ?_, q⟩
    · show ∃ n, _ ∧ _ ∧ upd (σ 26) k _ j = _
      rw [upd_n _ e]; exact w1
    · show ∃ n, _ ∧ upd (σ 27) k _ j = _
      rw [upd_n _ e]; exact w2
    · show ∃ n, _ ∧ upd (σ 28) k _ j = _
      rw [upd_n _ e]; exact ⟨b, hb, hb2⟩
    · show upd (τ 3) k _ j = upd (σ 26) k _ j
      rw [upd_n _ e, upd_n _ e]; exact q1
    · show upd (τ 4) k _ j = upd (σ 27) k _ j
      rw [upd_n _ e, upd_n _ e]; exact q2
    · show upd (τ 5) k _ j = upd (σ 28) k _ j
      rw [upd_n _ e, upd_n _ e]; exact q3

/-- a set of losses: below 2 to their number -/
def sub2 (x : Int32) (M : Nat) : Int32 := if x < 0 then 0 else if nI (2 ^ M) ≤ x then 0 else 1
theorem sub2_n {x : Int32} {M : Nat} (hM : M ≤ 12) (h : ¬ sub2 x M = 0) : ∃ n, n < 2 ^ M ∧ x = nI n := by
  have h2 := n_lt2 hM
  exact blw_n (n := 2 ^ M) (by omega) h
theorem sub2_1 {n M : Nat} (hM : M ≤ 12) (h : n < 2 ^ M) : sub2 (nI n) M = 1 := blw_1 (by have := n_lt2 hM; omega) h
theorem e_isSet (N : Nat) (x : Int32) {τ : Mem} {M : Nat} (hM : M ≤ 12) (h : τ 0 15 = nI M) : f_X7_isSet N x τ = some (sub2 x M, τ) := by
  unfold f_X7_isSet sub2
  rw [h, n_shl (by omega)]
  split
  · rfl
  · split <;> rfl
theorem n_m1 {n : Nat} : nI (n + 1) - 1 = nI n := by
  rw [nI_lit 1, pk_sub (by omega)]
  rfl
theorem n_all {M : Nat} (hM : M ≤ 12) : ((1 : Int32) <<< (nI M &&& 31)) - 1 = nI (2 ^ M - 1) := by
  rw [n_shl (by omega), nI_lit 1, pk_sub (Nat.one_le_two_pow)]
theorem e_all (N : Nat) {σ : Mem} {M : Nat} (hM : M ≤ 12) (h : σ 18 6 = nI M) : f_X1_all N σ = some (nI (2 ^ M - 1), σ) := by
  unfold f_X1_all
  rw [h, n_all hM]
theorem e_every (N : Nat) {τ : Mem} {M : Nat} (hM : M ≤ 12) (h : τ 0 15 = nI M) : f_X7_every N τ = some (nI (2 ^ M - 1), τ) := by
  unfold f_X7_every
  rw [h, n_all hM]
/-- no bit beyond the first M: just the numbers below 2 to M -/
theorem sub2_b (x : Int32) {M : Nat} (hM : M ≤ 12) : x &&& (nI (2 ^ M - 1) ^^^ (-1)) = 0 ↔ sub2 x M = 1 := by
  have hb2 (n i : Nat) (hi : i < 32) : bt (nI n) i = n.testBit i := by
    show (BitVec.ofNat 32 n).getLsbD i = _
    rw [BitVec.getLsbD_ofNat]
    simp [hi]
  constructor
  · intro h
    have hb : ∀ i, M ≤ i → i < 32 → bt x i = false := by
      intro i h1 h2
      have e : bt (x &&& (nI (2 ^ M - 1) ^^^ (-1))) i = bt 0 i := by rw [h]
      rw [b_and, b_xor, b_m1 i h2, b_0, hb2 _ _ h2, Nat.testBit_two_pow_sub_one, decide_eq_false (by omega)] at e
      simpa using e
    have hx : x = nI (x.toBitVec.toNat % 2 ^ M) := by
      apply b_ext
      intro i hi
      rw [hb2 _ _ hi, Nat.testBit_mod_two_pow]
      by_cases hiM : i < M
      · rw [decide_eq_true hiM]; rfl
      · rw [decide_eq_false hiM, hb i (by omega) hi]; rfl
    rw [hx]
    exact sub2_1 hM (Nat.mod_lt _ (Nat.two_pow_pos M))
  · intro h
    obtain ⟨n, hn, rfl⟩ := sub2_n hM (by rw [h]; decide)
    rw [n_andn]
    have e : bdiff n (2 ^ M - 1) = 0 := by
      apply Nat.eq_of_testBit_eq
      intro i
      rw [bdiff_tb, Nat.testBit_two_pow_sub_one, Nat.zero_testBit]
      by_cases hi : i < M
      · simp [hi]
      · rw [Nat.testBit_lt_two_pow (Nat.lt_of_lt_of_le hn (Nat.pow_le_pow_right (by decide) (by omega)))]
        rfl
    rw [e]
    rfl
theorem sub2_01 (x : Int32) (M : Nat) : sub2 x M = 0 ∨ sub2 x M = 1 := by
  unfold sub2
  split
  · exact Or.inl rfl
  · split
    · exact Or.inl rfl
    · exact Or.inr rfl
theorem e_hasAll (N : Nat) (x : Int32) {σ : Mem} {M : Nat} (hM : M ≤ 12) (h : σ 18 6 = nI M) : f_X1_hasAll N x σ = some (sub2 x M, σ) := by
  simp only [f_X1_hasAll, e_all N hM h, bnd_s, isb_0, isb_1, gd_t]
  rcases sub2_01 x M with e | e
  · rw [if_neg (fun q => by rw [sub2_b x hM, e] at q; exact absurd q (by decide)), e]
  · rw [if_pos ((sub2_b x hM).mpr e), e]
theorem p_storm (N : Nat) {σ τ : Mem} (h : Rel σ τ) (x y : Int32) : Same (f_X6_storm N x y σ) (f_X7_storm N x y τ) := by
  obtain ⟨S, M, s0, hM, l1, s3, s4, s5⟩ := h.2.2.2.1
  obtain ⟨M', hM', l1', l2, l3⟩ := h.2.2.1
  have e : M' = M := by
    rw [l1] at l1'
    exact ((n_eq (by omega) (by omega)).mp l1').symm
  subst e
  have k2 : mu τ 0 0 0 0 15 = nI M' := l2
  have k3 : mu τ 0 0 0 0 40 = nI S := s4
  simp only [f_X6_storm, f_X7_storm, m_let, e_hasAll N x hM l1, e_isSet N x hM k2, e_isIn, e_isWithin, bnd_s, k3, s3]
  by_cases h0 : S = 12
  · subst h0
    rw [if_pos (by decide), if_pos (by decide)]
    exact Same.mk _ (h.th 0)
  have hA : ¬ (12 : Int32) ≤ nI S := fun q => by rw [nI_lit 12, n_le (by omega) (by omega)] at q; omega
  have hB : ¬ nI S = (12 : Int32) := fun q => by rw [nI_lit 12, n_eq (by omega) (by omega)] at q; omega
  rw [if_neg hA, if_neg hB]
  by_cases h1 : sub2 x M' = 0
  · rw [if_pos h1, if_pos h1]
    exact Same.mk _ (h.th 0)
  rw [if_neg h1, if_neg h1]
  by_cases h2 : in3 y 1 99 = 0
  · rw [if_pos h2, if_pos h2]
    exact Same.mk _ (h.th 0)
  rw [if_neg h2, if_neg h2]
  obtain ⟨n, hn, rfl⟩ := sub2_n hM h1
  obtain ⟨m, hm1, hm2, rfl⟩ := in3_n (a := 1) (b := 99) (by omega) (by omega) h2
  have i1 : inb (nI S) 12 = true := inb_n (by omega) (by omega)
  have c1 : (nI S).toNatClampNeg = S := nI_clamp (by omega)
  have g1 (v : Int32) : mu σ 23 S v 16 9 = nI S := s3
  have g2 (v : Int32) : mu (mu τ 0 0 0) 18 S v 0 40 = nI S := s4
  have g3 (v u : Int32) : mu (mu σ 23 S v) 24 S u 16 9 = nI S := s3
  have g4 (v u : Int32) : mu (mu (mu τ 0 0 0) 18 S v) 19 S u 0 40 = nI S := s4
  simp only [i1, c1, gd_t, g1, g2, g3, g4, mu_s, nI_1]
  refine Same.mk _ ⟨(h.th 0).1, h.2.1.k rfl (fun c hc => by rw [mu_c (by omega), mu_c (by omega), mu_c (by omega)]) rfl rfl, ⟨M', hM', l1', l2, l3⟩, ⟨S + 1, M', by omega, hM, l1, mu_s _ _ _ _, mu_s _ _ _ _, fun k hk => ?_⟩, h.2.2.2.2⟩
  show (∃ n, n < 2 ^ M' ∧ upd (σ 23) S _ k = _) ∧ (∃ n, 1 ≤ n ∧ n ≤ 99 ∧ upd (σ 24) S _ k = _) ∧ upd (τ 18) S _ k = upd (σ 23) S _ k ∧ upd (τ 19) S _ k = upd (σ 24) S _ k
  by_cases e : k = S
  · subst e
    rw [upd_s, upd_s, upd_s, upd_s]
    exact ⟨⟨n, hn, rfl⟩, ⟨m, hm1, hm2, rfl⟩, rfl, rfl⟩
  · rw [upd_n _ e, upd_n _ e, upd_n _ e, upd_n _ e]
    exact s5 k (by omega)

theorem p_loss (N : Nat) {σ τ : Mem} (h : Rel σ τ) (a b c d e f : Int32) : Same (f_X6_loss N a b c d e f σ) (f_X7_loss N a b c d e f τ) := by
  obtain ⟨M, hM, l1, l2, l3, l4⟩ := h.2.2.1
  obtain ⟨S, M', s0, hM', s1, s3, s4, s5⟩ := h.2.2.2.1
  have k2 : mu τ 0 0 0 0 15 = nI M := l2
  have hr := Same.mk (-1) (h.th 0)
  simp only [f_X6_loss, j_X6_loss_34, j_X6_loss_35, j_X6_loss_63, j_X6_loss_64, f_X7_loss, m_let, m_leti, e_isIn, e_isWithin, bnd_s, l1, k2]
  by_cases h0 : M = 12
  · subst h0
    have q1 : (12 : Int32) ≤ nI 12 := by decide
    have q2 : nI 12 = (12 : Int32) := by decide
    simp only [if_pos q1, if_pos q2, ite_self]
    exact hr
  have hA : ¬ (12 : Int32) ≤ nI M := fun q => by rw [nI_lit 12, n_le (by omega) (by omega)] at q; omega
  have hB : ¬ nI M = (12 : Int32) := fun q => by rw [nI_lit 12, n_eq (by omega) (by omega)] at q; omega
  simp only [if_neg hA, if_neg hB]
  by_cases g1 : in3 a 1 99 = 0
  · simp only [if_pos g1, ite_self]
    exact hr
  simp only [if_neg g1]
  by_cases g2 : in3 b 0 999 = 0
  · simp only [if_pos g2, ↓reduceIte, ite_self]
    exact hr
  simp only [if_neg g2]
  by_cases g3 : in3 c 0 99 = 0
  · simp only [if_pos g3, ↓reduceIte, ite_self]
    exact hr
  simp only [if_neg g3]
  have z1 : ¬ (1 : Int32) = 0 := by decide
  by_cases g4 : 999 < b + c
  · simp only [if_pos g4, ↓reduceIte, ite_self]
    exact hr
  simp only [if_neg g4, if_neg z1]
  by_cases g5 : in3 d 0 99 = 0
  · simp only [if_pos g5, ↓reduceIte, ite_self]
    exact hr
  simp only [if_neg g5]
  by_cases g6 : in3 e 0 99 = 0
  · simp only [if_pos g6, ↓reduceIte, ite_self]
    exact hr
  simp only [if_neg g6]
  by_cases g7 : in3 f 1 63 = 0
  · simp only [if_pos g7, ite_self]
    exact hr
  simp only [if_neg g7]
  obtain ⟨a, ha1, ha2, rfl⟩ := in3_n (a := 1) (b := 99) (by omega) (by omega) g1
  obtain ⟨b, -, hb2, rfl⟩ := in3_n (a := 0) (b := 999) (by omega) (by omega) g2
  obtain ⟨c, -, hc2, rfl⟩ := in3_n (a := 0) (b := 99) (by omega) (by omega) g3
  obtain ⟨d, -, hd2, rfl⟩ := in3_n (a := 0) (b := 99) (by omega) (by omega) g5
  obtain ⟨e, -, he2, rfl⟩ := in3_n (a := 0) (b := 99) (by omega) (by omega) g6
  obtain ⟨f, hf1, hf2, rfl⟩ := in3_n (a := 1) (b := 63) (by omega) (by omega) g7
  have hbc : b + c ≤ 999 := by
    rw [nI_add, nI_lit 999, n_lt (by omega) (by omega)] at g4
    omega
  have i1 : inb (nI M) 12 = true := inb_n (by omega) (by omega)
  have c1 : (nI M).toNatClampNeg = M := nI_clamp (by omega)
  have t1 (v : Int32) : mu (mu τ 0 0 0) 3 M v 0 15 = nI M := l2
  have t2 (v u : Int32) : mu (mu (mu τ 0 0 0) 3 M v) 4 M u 0 15 = nI M := l2
  have t3 (v u x : Int32) : mu (mu (mu (mu τ 0 0 0) 3 M v) 4 M u) 5 M x 0 15 = nI M := l2
  have t4 (v u x y : Int32) : mu (mu (mu (mu (mu τ 0 0 0) 3 M v) 4 M u) 5 M x) 6 M y 0 15 = nI M := l2
  have t5 (v u x y z : Int32) : mu (mu (mu (mu (mu (mu τ 0 0 0) 3 M v) 4 M u) 5 M x) 6 M y) 7 M z 0 15 = nI M := l2
  have t6 (v u x y z r : Int32) : mu (mu (mu (mu (mu (mu (mu τ 0 0 0) 3 M v) 4 M u) 5 M x) 6 M y) 7 M z) 8 M r 0 15 = nI M := l2
  have t7 (v u x y z r q : Int32) : mu (mu (mu (mu (mu (mu (mu (mu τ 0 0 0) 3 M v) 4 M u) 5 M x) 6 M y) 7 M z) 8 M r) 9 M q 0 15 = nI M := l2
  simp only [i1, c1, gd_t, t1, t2, t3, t4, t5, t6, t7, mu_s, nI_1, n_m1, nI_add]
  refine Same.mk _ ⟨(h.th 0).1, h.2.1.k rfl (fun c hc => by rw [mu_c (by omega), mu_c (by omega), mu_c (by omega), mu_c (by omega), mu_c (by omega), mu_c (by omega), mu_c (by omega)]) rfl rfl, ⟨M + 1, by omega, mu_s _ _ _ _, mu_s _ _ _ _, fun k hk => ?_, fun k hk hk2 => l4 k (by omega) hk2⟩, ⟨S, M + 1, s0, by omega, mu_s _ _ _ _, s3, s4, fun k hk => ?_⟩, h.2.2.2.2⟩
  · show ((∃ n, _ ∧ _ ∧ upd (σ 26) M _ k = _) ∧ (∃ n, _ ∧ upd (σ 27) M _ k = _) ∧ (∃ n, _ ∧ upd (σ 28) M _ k = _) ∧ (∃ n, _ ∧ upd (σ 29) M _ k = _) ∧ (∃ n, _ ∧ upd (σ 30) M _ k = _) ∧ (∃ n, _ ∧ _ ∧ upd (σ 31) M _ k = _) ∧ (∃ n, _ ∧ σ 32 k = _)) ∧ upd (τ 3) M _ k = upd (σ 26) M _ k ∧ upd (τ 4) M _ k = upd (σ 27) M _ k ∧ upd (τ 5) M _ k = upd (σ 28) M _ k ∧ upd (τ 6) M _ k = upd (σ 29) M _ k ∧ upd (τ 7) M _ k = upd (σ 30) M _ k ∧ upd (τ 8) M _ k = upd (σ 31) M _ k ∧ upd (τ 9) M _ k = σ 32 k
    by_cases e : k = M
    · subst e
      simp only [upd_s]
      exact ⟨⟨⟨_, ha1, ha2, rfl⟩, ⟨_, hb2, rfl⟩, ⟨_, hbc, rfl⟩, ⟨_, hd2, rfl⟩, ⟨_, he2, rfl⟩, ⟨_, hf1, hf2, rfl⟩, ⟨0, by omega, l4 k (by omega) (by omega)⟩⟩, trivial, trivial, trivial, trivial, trivial, trivial, (l4 k (by omega) (by omega)).symm⟩
    · simp only [upd_n _ e]
      exact l3 k (by omega)
  · obtain ⟨⟨n, hn, hn2⟩, q⟩ := s5 k hk
    have e : M' = M := by
      rw [s1] at l1
      exact (n_eq (by omega) (by omega)).mp l1
    exact ⟨⟨n, Nat.lt_of_lt_of_le hn (Nat.pow_le_pow_right (by decide) (by omega)), hn2⟩, q⟩
