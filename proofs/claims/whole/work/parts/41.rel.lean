/-! what ties the class's memory (σ) to the reference's (τ) between calls -/
def wfC (f : Nat → Int32) : Prop := (∃ n, 1 ≤ n ∧ n ≤ 99 ∧ f 0 = nI n) ∧ (f 1 = -1 ∨ ∃ n, n ≤ 99 ∧ f 1 = nI n) ∧ (f 2 = 0 ∨ f 2 = 1) ∧ (f 3 = 0 ∨ f 3 = 1) ∧ (∃ n, n ≤ 99 ∧ f 4 = nI n) ∧ (∃ n, n ≤ 99 ∧ f 5 = nI n) ∧ (∃ n, 1 ≤ n ∧ n ≤ 99 ∧ f 6 = nI n) ∧ (∃ n, 1 ≤ n ∧ n ≤ 9 ∧ f 7 = nI n) ∧ (∃ n, n ≤ 99 ∧ f 8 = nI n) ∧ (∃ n, n ≤ 99 ∧ f 9 = nI n)
def rT (σ τ : Mem) : Prop := ∃ L, L ≤ 120 ∧ σ 17 1 = nI L ∧ τ 0 2 = nI L ∧ ∀ j, j < L → ∃ b, b < 256 ∧ σ 25 j = nI b ∧ τ 1 j = i2b (nI b)
def rC (σ τ : Mem) : Prop := ∃ C, C ≤ 6 ∧ σ 16 8 = nI C ∧ τ 0 7 = nI C ∧ ∀ c, c < C → wfC (σ (8 + c)) ∧ ∀ k, k < 10 → τ 2 (10 * c + k) = σ (8 + c) k
def wfL (σ : Mem) (k : Nat) : Prop := (∃ n, 1 ≤ n ∧ n ≤ 99 ∧ σ 26 k = nI n) ∧ (∃ n, n ≤ 999 ∧ σ 27 k = nI n) ∧ (∃ n, n ≤ 999 ∧ σ 28 k = nI n) ∧ (∃ n, n ≤ 99 ∧ σ 29 k = nI n) ∧ (∃ n, n ≤ 99 ∧ σ 30 k = nI n) ∧ (∃ n, 1 ≤ n ∧ n ≤ 63 ∧ σ 31 k = nI n) ∧ (∃ n, n ≤ 15 ∧ σ 32 k = nI n)
def rL (σ τ : Mem) : Prop := ∃ M, M ≤ 12 ∧ σ 18 6 = nI M ∧ τ 0 15 = nI M ∧ (∀ k, k < M → wfL σ k ∧ τ 3 k = σ 26 k ∧ τ 4 k = σ 27 k ∧ τ 5 k = σ 28 k ∧ τ 6 k = σ 29 k ∧ τ 7 k = σ 30 k ∧ τ 8 k = σ 31 k ∧ τ 9 k = σ 32 k) ∧ ∀ k, M ≤ k → k < 12 → σ 32 k = 0
def rS (σ τ : Mem) : Prop := ∃ S M, S ≤ 12 ∧ M ≤ 12 ∧ σ 18 6 = nI M ∧ σ 16 9 = nI S ∧ τ 0 40 = nI S ∧ ∀ k, k < S → (∃ n, n < 2 ^ M ∧ σ 23 k = nI n) ∧ (∃ n, 1 ≤ n ∧ n ≤ 99 ∧ σ 24 k = nI n) ∧ τ 18 k = σ 23 k ∧ τ 19 k = σ 24 k
def rK (σ : Mem) : Prop := σ 16 2 = 6 ∧ σ 20 6 = 7 ∧ ∀ j, j < 6 → σ 22 j = nI j
def Rel (σ τ : Mem) : Prop := rT σ τ ∧ rC σ τ ∧ rL σ τ ∧ rS σ τ ∧ rK σ
/-- what lasts in the class, and in the reference -/
def psC (a j : Nat) : Prop := (8 ≤ a ∧ a < 14) ∨ (22 ≤ a ∧ a ≤ 32) ∨ (a = 16 ∧ (j = 2 ∨ j = 8 ∨ j = 9)) ∨ (a = 17 ∧ j = 1) ∨ (a = 18 ∧ j = 6) ∨ (a = 20 ∧ j = 6)
def psR (a j : Nat) : Prop := (1 ≤ a ∧ a ≤ 9) ∨ a = 18 ∨ a = 19 ∨ (a = 0 ∧ (j = 2 ∨ j = 7 ∨ j = 15 ∨ j = 40))
def KC (σ σ' : Mem) : Prop := ∀ a j, psC a j → σ' a j = σ a j
def KR (τ τ' : Mem) : Prop := ∀ a j, psR a j → τ' a j = τ a j
theorem KC.rf (σ : Mem) : KC σ σ := fun _ _ _ => rfl
theorem KR.rf (σ : Mem) : KR σ σ := fun _ _ _ => rfl
theorem KC.tr {a b c : Mem} (h : KC a b) (g : KC b c) : KC a c := fun i j q => (g i j q).trans (h i j q)
theorem KR.tr {a b c : Mem} (h : KR a b) (g : KR b c) : KR a c := fun i j q => (g i j q).trans (h i j q)
theorem KC.up (σ : Mem) {i j : Nat} (v : Int32) (h : ¬ psC i j) : KC σ (mu σ i j v) := by
  intro a b q
  rw [mu_e, if_neg]
  rintro ⟨rfl, rfl⟩
  exact h q
theorem KR.up (σ : Mem) {i j : Nat} (v : Int32) (h : ¬ psR i j) : KR σ (mu σ i j v) := by
  intro a b q
  rw [mu_e, if_neg]
  rintro ⟨rfl, rfl⟩
  exact h q
theorem rT.keep {σ σ' τ τ' : Mem} (h : rT σ τ) (hc : KC σ σ') (hr : KR τ τ') : rT σ' τ' := by
  obtain ⟨L, h1, h2, h3, h4⟩ := h
  refine ⟨L, h1, by rw [hc 17 1 (by simp [psC])]; exact h2, by rw [hr 0 2 (by simp [psR])]; exact h3, fun j hj => ?_⟩
  rw [hc 25 j (by simp [psC]), hr 1 j (by simp [psR])]
  exact h4 j hj
theorem wfC.keep {f g : Nat → Int32} (h : wfC f) (e : ∀ k, k < 10 → g k = f k) : wfC g := by
  unfold wfC at *
  rw [e 0 (by omega), e 1 (by omega), e 2 (by omega), e 3 (by omega), e 4 (by omega), e 5 (by omega), e 6 (by omega), e 7 (by omega), e 8 (by omega), e 9 (by omega)]
  exact h
theorem rC.keep {σ σ' τ τ' : Mem} (h : rC σ τ) (hc : KC σ σ') (hr : KR τ τ') : rC σ' τ' := by
  obtain ⟨C, h1, h2, h3, h4⟩ := h
  refine ⟨C, h1, by rw [hc 16 8 (by simp [psC])]; exact h2, by rw [hr 0 7 (by simp [psR])]; exact h3, fun c hj => ?_⟩
  have e : ∀ k, σ' (8 + c) k = σ (8 + c) k := fun k => hc (8 + c) k (by unfold psC; omega)
  refine ⟨(h4 c hj).1.keep (fun k _ => e k), fun k hk => ?_⟩
  rw [hr 2 _ (by simp [psR]), e k]
  exact (h4 c hj).2 k hk
theorem wfL.keep {σ σ' : Mem} {k : Nat} (h : wfL σ k) (hc : KC σ σ') : wfL σ' k := by
  unfold wfL at *
  rw [hc 26 k (by simp [psC]), hc 27 k (by simp [psC]), hc 28 k (by simp [psC]), hc 29 k (by simp [psC]), hc 30 k (by simp [psC]), hc 31 k (by simp [psC]), hc 32 k (by simp [psC])]
  exact h
theorem rL.keep {σ σ' τ τ' : Mem} (h : rL σ τ) (hc : KC σ σ') (hr : KR τ τ') : rL σ' τ' := by
  obtain ⟨M, h1, h2, h3, h4, h5⟩ := h
  refine ⟨M, h1, by rw [hc 18 6 (by simp [psC])]; exact h2, by rw [hr 0 15 (by simp [psR])]; exact h3, fun k hj => ?_, fun k hk hk2 => by rw [hc 32 k (by simp [psC])]; exact h5 k hk hk2⟩
  refine ⟨(h4 k hj).1.keep hc, ?_⟩
  rw [hc 26 k (by simp [psC]), hc 27 k (by simp [psC]), hc 28 k (by simp [psC]), hc 29 k (by simp [psC]), hc 30 k (by simp [psC]), hc 31 k (by simp [psC]), hc 32 k (by simp [psC]), hr 3 k (by simp [psR]), hr 4 k (by simp [psR]), hr 5 k (by simp [psR]), hr 6 k (by simp [psR]), hr 7 k (by simp [psR]), hr 8 k (by simp [psR]), hr 9 k (by simp [psR])]
  exact (h4 k hj).2
theorem rS.keep {σ σ' τ τ' : Mem} (h : rS σ τ) (hc : KC σ σ') (hr : KR τ τ') : rS σ' τ' := by
  obtain ⟨S, M, h1, h2, h3, h4, h5, h6⟩ := h
  refine ⟨S, M, h1, h2, by rw [hc 18 6 (by simp [psC])]; exact h3, by rw [hc 16 9 (by simp [psC])]; exact h4, by rw [hr 0 40 (by simp [psR])]; exact h5, fun k hj => ?_⟩
  rw [hc 23 k (by simp [psC]), hc 24 k (by simp [psC]), hr 18 k (by simp [psR]), hr 19 k (by simp [psR])]
  exact h6 k hj
theorem rK.keep {σ σ' : Mem} (h : rK σ) (hc : KC σ σ') : rK σ' := by
  refine ⟨by rw [hc 16 2 (by simp [psC])]; exact h.1, by rw [hc 20 6 (by simp [psC])]; exact h.2.1, fun j hj => by rw [hc 22 j (by simp [psC])]; exact h.2.2 j hj⟩
theorem Rel.keep {σ σ' τ τ' : Mem} (h : Rel σ τ) (hc : KC σ σ') (hr : KR τ τ') : Rel σ' τ' := ⟨h.1.keep hc hr, h.2.1.keep hc hr, h.2.2.1.keep hc hr, h.2.2.2.1.keep hc hr, h.2.2.2.2.keep hc⟩
theorem KR.th (τ : Mem) (v : Int32) : KR τ (mu τ 0 0 v) := KR.up τ v (by simp [psR])
theorem Rel.th {σ τ : Mem} (h : Rel σ τ) (v : Int32) : Rel σ (mu τ 0 0 v) := h.keep (KC.rf σ) (KR.th τ v)
/-- what a call owes -/
def Same (x y : Option (Int32 × Mem)) : Prop := ∃ v σ' τ', x = some (v, σ') ∧ y = some (v, τ') ∧ Rel σ' τ'
theorem Same.mk {σ τ : Mem} (v : Int32) (h : Rel σ τ) : Same (some (v, σ)) (some (v, τ)) := ⟨v, σ, τ, rfl, rfl, h⟩
/-! the small tests -/
def in3 (x a b : Int32) : Int32 := if x < a then 0 else if b < x then 0 else 1
theorem e_isIn (N : Nat) (x a b : Int32) (τ : Mem) : f_X7_isIn N x a b τ = some (in3 x a b, τ) := by
  unfold f_X7_isIn in3
  split
  · rfl
  · split <;> rfl
theorem e_isWithin (N : Nat) (x a b : Int32) (σ : Mem) : f_X6_isWithin N x a b σ = some (in3 x a b, σ) := by
  unfold f_X6_isWithin in3
  split
  · rfl
  · split <;> rfl
theorem in3_1 {x a b : Int32} (h : ¬ in3 x a b = 0) : a ≤ x ∧ x ≤ b := by
  unfold in3 at h
  split at h
  · exact absurd rfl h
  · split at h
    · exact absurd rfl h
    · exact ⟨fa_of_nlt ‹_›, fa_of_nlt ‹_›⟩
theorem in3_n {x : Int32} {a b : Nat} (ha : a < 2 ^ 31) (hb : b < 2 ^ 31) (h : ¬ in3 x (nI a) (nI b) = 0) : ∃ n, a ≤ n ∧ n ≤ b ∧ x = nI n := n_within ha hb (in3_1 h).1 (in3_1 h).2
/-- a place below a count: 1, else 0 -/
def blw (x : Int32) (n : Int32) : Int32 := if x < 0 then 0 else if n ≤ x then 0 else 1
theorem blw_n {x : Int32} {n : Nat} (hn : n < 2 ^ 31) (h : ¬ blw x (nI n) = 0) : ∃ k, k < n ∧ x = nI k := by
  unfold blw at h
  split at h
  · exact absurd rfl h
  · split at h
    · exact absurd rfl h
    · rename_i h1 h2
      obtain ⟨k, hk, e⟩ := nI_of h1
      subst e
      exact ⟨k, by rcases Nat.lt_or_ge k n with q | q
                   · exact q
                   · exact absurd ((n_le hn hk).mpr q) h2, rfl⟩
theorem blw_1 {k n : Nat} (hn : n < 2 ^ 31) (h : k < n) : blw (nI k) (nI n) = 1 := by
  unfold blw
  rw [if_neg (nI_pos (by omega)), if_neg (fun q => by rw [n_le hn (by omega)] at q; omega)]
theorem e_isLoss (N : Nat) (x : Int32) (τ : Mem) : f_X7_isLoss N x τ = some (blw x (τ 0 15), τ) := by
  unfold f_X7_isLoss blw
  split
  · rfl
  · split <;> rfl
theorem e_has (N : Nat) (x : Int32) (σ : Mem) : f_X1_has N x σ = some (blw x (σ 18 6), σ) := by
  unfold f_X1_has blw
  split
  · rfl
  · split <;> rfl
theorem e_isCover (N : Nat) (x : Int32) (τ : Mem) : f_X7_isCover N x τ = some (blw x (τ 0 7), τ) := by
  unfold f_X7_isCover blw
  split
  · rfl
  · split <;> rfl
theorem e_coverAt (N : Nat) {σ : Mem} {C : Nat} (hC : C ≤ 6) (h1 : σ 16 8 = nI C) (h2 : rK σ) (x : Int32) : f_X6_coverAt N x σ = some (if blw x (nI C) = 0 then -1 else x, σ) := by
  unfold f_X6_coverAt
  by_cases hb : blw x (nI C) = 0
  · rw [if_pos hb, h1]
    unfold blw at hb
    split at hb
    · rw [if_pos ‹_›]
    · split at hb
      · rw [if_neg ‹_›, if_pos ‹_›]
      · exact absurd hb (by decide)
  · rw [if_neg hb]
    obtain ⟨k, hk, rfl⟩ := blw_n (by omega) hb
    rw [h1, if_neg (nI_pos (by omega)), if_neg (fun q => by rw [n_le (by omega) (by omega)] at q; omega), inb_n (by omega) (by omega), gd_t, nI_clamp (by omega), h2.2.2 k (by omega)]
theorem p_count (N : Nat) {σ τ : Mem} (h : Rel σ τ) (x : Int32) : Same (f_X6_count N x σ) (f_X7_count N x τ) := by
  obtain ⟨L, hL, t1, t2, t3⟩ := h.1
  obtain ⟨C, hC, c1, c2, c3⟩ := h.2.1
  obtain ⟨M, hM, l1, l2, l3⟩ := h.2.2.1
  obtain ⟨S, M', s0, s1, s2, s3, s4, s5⟩ := h.2.2.2.1
  simp only [f_X6_count, f_X7_count, m_let]
  have k1 : mu τ 0 0 0 0 7 = nI C := by rw [mu_k (by decide)]; exact c2
  have k2 : mu τ 0 0 0 0 15 = nI M := by rw [mu_k (by decide)]; exact l2
  have k3 : mu τ 0 0 0 0 40 = nI S := by rw [mu_k (by decide)]; exact s4
  have k4 : mu τ 0 0 0 0 2 = nI L := by rw [mu_k (by decide)]; exact t2
  rw [k1, k2, k3, k4, t1, c1, l1, s3]
  split
  · exact Same.mk _ (h.th 0)
  · split
    · exact Same.mk _ (h.th 0)
    · split
      · exact Same.mk _ (h.th 0)
      · split <;> exact Same.mk _ (h.th 0)
theorem p_end (N : Nat) {σ τ : Mem} (h : Rel σ τ) (x : Int32) : Same (f_X6_end N x σ) (f_X7_end N x τ) := by
  obtain ⟨L, hL, t1, t2, t3⟩ := h.1
  simp only [f_X6_end, f_X7_end, m_let]
  have k4 : mu τ 0 0 0 0 2 = nI L := by rw [mu_k (by decide)]; exact t2
  rw [k4, t1]
  split
  · exact Same.mk _ (h.th 0)
  · rename_i h0
    split
    · rename_i h1
      obtain ⟨n, hn, rfl⟩ := nI_of h0
      rw [n_le hn (by omega)] at h1
      refine Same.mk _ ⟨⟨n, by omega, by rw [mu_s], by rw [mu_s], fun j hj => ?_⟩, ?_, ?_, ?_, ?_⟩
      · rw [mu_c (by decide), mu_c (by decide), mu_c (by decide)]
        exact t3 j (by omega)
      · obtain ⟨C, hC, c1, c2, c3⟩ := (h.th 0).2.1
        refine ⟨C, hC, by rw [mu_c (by decide)]; exact c1, by rw [mu_k (by decide)]; exact c2, fun c hc => ?_⟩
        rw [mu_c (by omega), mu_c (by decide)]
        exact c3 c hc
      · obtain ⟨M, hM, l1, l2, l3⟩ := (h.th 0).2.2.1
        refine ⟨M, hM, by rw [mu_c (by decide)]; exact l1, by rw [mu_k (by decide)]; exact l2, ?_⟩
        exact l3
      · exact (h.th 0).2.2.2.1
      · exact h.2.2.2.2
    · exact Same.mk _ (h.th 0)
