/-! mean; nearest -/
theorem Rel.storms {σ τ : Mem} (h : Rel σ τ) {M St : Nat} (hM : M ≤ 12) (hS : St ≤ 12) (h18 : σ 18 6 = nI M) (h9 : σ 16 9 = nI St) : τ 0 40 = nI St ∧ ∀ k, k < St → ∃ n w, n < 2 ^ M ∧ σ 23 k = nI n ∧ τ 18 k = nI n ∧ σ 24 k = w ∧ τ 19 k = w := by
  obtain ⟨S', M', s0, s1, s2, s3, s4, s5⟩ := h.2.2.2.1
  have eS : S' = St := by rw [h9] at s3; exact ((n_eq (by omega) (by omega)).mp s3).symm
  have eM : M' = M := by rw [h18] at s2; exact ((n_eq (by omega) (by omega)).mp s2).symm
  subst eS eM
  refine ⟨s4, fun k hk => ?_⟩
  obtain ⟨⟨n, n1, n2⟩, -, q3, q4⟩ := s5 k hk
  exact ⟨n, σ 24 k, n1, n2, q3.trans n2, rfl, q4⟩
theorem lp_mean {N : Nat} (hN : 300 ≤ N) {C M St c : Nat} (hC : C ≤ 6) (hM : M ≤ 12) (hSt : St ≤ 12) (hc : c < C) (w : Int32) : ∀ m k n n' (σ τ : Mem) (x4 x5 y : Int32), k + m = St → m < n → m < n' → Rel σ τ → σ 16 8 = nI C → σ 18 6 = nI M → σ 16 9 = nI St → (w = 2 → y = x5) → (w ≠ 2 → y = x4) →
    Same (l_X6_mean_31 N n w (nI c) x4 x5 (nI k) σ) (l_X7_mean_30 N n' (nI c) w y (nI k) τ) := by
  intro m
  induction m with
  | zero =>
    intro k n n' σ τ x4 x5 y hk hn hn' h h16 h18 h9 y1 y2
    obtain ⟨n, rfl⟩ : ∃ q, n = q + 1 := ⟨n - 1, by omega⟩
    obtain ⟨n', rfl⟩ : ∃ q, n' = q + 1 := ⟨n' - 1, by omega⟩
    obtain ⟨t40, -⟩ := h.storms hM hSt h18 h9
    have e : k = St := by omega
    subst e
    have hle : nI k ≤ nI k := by rw [n_le (by omega) (by omega)]; omega
    simp only [l_X6_mean_31, b_X6_mean_31, l_X7_mean_30, b_X7_mean_30, h9, t40, if_pos hle]
    by_cases q : w = 2
    · rw [if_pos q, y1 q]
      exact Same.mk _ h
    · rw [if_neg q, y2 q]
      exact Same.mk _ h
  | succ m ih =>
    intro k n n' σ τ x4 x5 y hk hn hn' h h16 h18 h9 y1 y2
    obtain ⟨n, rfl⟩ : ∃ q, n = q + 1 := ⟨n - 1, by omega⟩
    obtain ⟨n', rfl⟩ : ∃ q, n' = q + 1 := ⟨n' - 1, by omega⟩
    obtain ⟨t40, hst⟩ := h.storms hM hSt h18 h9
    obtain ⟨S, v, s1, s2, s3, s4, s5⟩ := hst k (by omega)
    have hle : ¬ nI St ≤ nI k := fun q => by rw [n_le (by omega) (by omega)] at q; omega
    obtain ⟨C', hC', c1, c2, c3⟩ := h.cov
    have eC : C' = C := by rw [h16] at c1; exact ((n_eq (by omega) (by omega)).mp c1).symm
    subst eC
    obtain ⟨g1, g2, g3⟩ := c3 c hc
    have h4096 := Nat.lt_of_lt_of_le s1 (n_lt2 hM)
    have tC := e_isToldC (N := N) g2 g1 h4096
    have tR := e_isTold (N := N) g3 g1 h4096
    obtain ⟨r, σ1, τ1, a1, a2, a3, a4, a5, -, a7⟩ := h.srch hN h16 h18 hC hM hc s1
    have e19 : τ1 19 k = v := by rw [a5 19 k (by simp [psR])]; exact s5
    have exC : l_X6_mean_31 N (n + 1) w (nI c) x4 x5 (nI k) σ = if b2i (cdec (toldS (σ (8 + c)) S)) = 0 then some (-100000000, σ) else if w = 2 then l_X6_mean_31 N n w (nI c) x4 (x5 + v) (nI (k + 1)) σ else if r = 0 then l_X6_mean_31 N n w (nI c) x4 (x5 + v) (nI (k + 1)) σ1 else if w = 0 then l_X6_mean_31 N n w (nI c) (x4 + v * σ1 20 0) (x5 + v) (nI (k + 1)) σ1 else l_X6_mean_31 N n w (nI c) (x4 + v * σ1 20 1) (x5 + v) (nI (k + 1)) σ1 := by
      simp only [l_X6_mean_31, b_X6_mean_31, h9, if_neg hle, inb_n (show k < 12 by omega) (show 12 < 2 ^ 31 by omega), gd_t, nI_clamp (show k < 2 ^ 31 by omega), s2, s4, tC, bnd_s, m_leti, a1, nI_1]
    have exR : l_X7_mean_30 N (n' + 1) (nI c) w y (nI k) τ = if b2i (cdec (toldS (σ (8 + c)) S)) = 0 then some (-100000000, τ) else if w = 2 then l_X7_mean_30 N n' (nI c) w (y + v * 1) (nI (k + 1)) τ1 else if r = 0 then l_X7_mean_30 N n' (nI c) w (y + v * 0) (nI (k + 1)) τ1 else if w = 0 then l_X7_mean_30 N n' (nI c) w (y + v * τ1 0 27) (nI (k + 1)) τ1 else l_X7_mean_30 N n' (nI c) w (y + v * τ1 0 28) (nI (k + 1)) τ1 := by
      simp only [l_X7_mean_30, b_X7_mean_30, t40, if_neg hle, inb_n (show k < 12 by omega) (show 12 < 2 ^ 31 by omega), gd_t, nI_clamp (show k < 2 ^ 31 by omega), s3, tR, bnd_s, m_leti, a2, e19, nI_1]
    rw [exC, exR]
    by_cases hT : toldS (σ (8 + c)) S
    · rw [cdec_t hT, if_neg b2i_tn, if_neg b2i_tn, Int32.mul_one, Int32.mul_zero, Int32.add_zero]
      have d3 : σ1 16 8 = nI C' := by rw [a4.c16]; exact h16
      have d4 : σ1 18 6 = nI M := by rw [a4.c18]; exact h18
      have d5 : σ1 16 9 = nI St := by rw [a4 16 9 (by unfold psG; omega)]; exact h9
      by_cases q : w = 2
      · rw [if_pos q, if_pos q, y1 q]
        exact ih (k + 1) n n' σ τ1 _ _ _ (by omega) (by omega) (by omega) (h.keep (KC.rf σ) a5) h16 h18 h9 (fun _ => rfl) (fun e => absurd q e)
      · rw [if_neg q, if_neg q, y2 q]
        rcases a7 with ⟨e, -⟩ | ⟨e, -, -, ⟨b, f, x1, x2, -⟩, ⟨b', f', z1, z2, -⟩, -⟩
        · rw [if_pos e, if_pos e]
          exact ih (k + 1) n n' σ1 τ1 _ _ _ (by omega) (by omega) (by omega) a3 d3 d4 d5 (fun e => absurd e q) (fun _ => rfl)
        · have en : ¬ r = 0 := by rw [e]; exact i1_ne0
          rw [if_neg en, if_neg en, x1, x2, z1, z2]
          by_cases q0 : w = 0
          · rw [if_pos q0, if_pos q0]
            exact ih (k + 1) n n' σ1 τ1 _ _ _ (by omega) (by omega) (by omega) a3 d3 d4 d5 (fun e => absurd e q) (fun _ => rfl)
          · rw [if_neg q0, if_neg q0]
            exact ih (k + 1) n n' σ1 τ1 _ _ _ (by omega) (by omega) (by omega) a3 d3 d4 d5 (fun e => absurd e q) (fun _ => rfl)
    · rw [cdec_f hT, if_pos b2i_f, if_pos b2i_f]
      exact Same.mk _ h
theorem p_mean {N : Nat} (hN : 300 ≤ N) {σ τ : Mem} (h : Rel σ τ) (x w : Int32) : Same (f_X6_mean N x w σ) (f_X7_mean N x w τ) := by
  obtain ⟨C, hC, c1, c2, c3⟩ := h.cov
  obtain ⟨St, M, s0, s1, s2, s3, s4, s5⟩ := h.2.2.2.1
  have k1 : mu τ 0 0 0 0 7 = nI C := c2
  have hr := Same.mk (-100000000) (h.th 0)
  simp only [f_X6_mean, f_X7_mean, m_let, e_coverAt N hC c1 h.2.2.2.2, e_isCover, e_isIn, e_isWithin, bnd_s, k1]
  by_cases h1 : blw x (nI C) = 0
  · rw [if_pos h1, if_pos h1, if_pos (by decide)]
    exact hr
  obtain ⟨c, hc, rfl⟩ := blw_n (by omega) h1
  rw [if_neg h1, if_neg h1, if_neg (nI_pos (by omega))]
  by_cases h2 : in3 w 0 2 = 0
  · rw [if_pos h2, if_pos h2]
    exact hr
  rw [if_neg h2, if_neg h2]
  exact lp_mean hN hC s1 s0 hc w St 0 N N σ (mu τ 0 0 0) 0 0 0 (by omega) (by omega) (by omega) (h.th 0) c1 s2 s3 (fun _ => rfl) (fun _ => rfl)
/-! the turns of the hours -/
theorem n_sube {a b d : Nat} (ha : a ≤ 999) (hb : b ≤ 999) (hd : d ≤ 999) : nI a - nI b = nI d ↔ a = b + d := by
  rw [fa_eq, Int32.toInt_sub, nI_int (by omega), nI_int (by omega), nI_int (by omega), Int.bmod_eq_of_le (by omega) (by omega)]
  omega
def turnP (D : Nat → Nat → Nat) (M d i : Nat) : Prop := ∃ i' j', i ≤ i' ∧ i' < M ∧ j' < M ∧ D 1 j' = D 1 i' + d
section TURN
variable {N M : Nat} {D : Nat → Nat → Nat} {σ τ : Mem}
theorem lp_apC (hD : LD M D) (h : LC σ M D) {d i : Nat} (hd : d ≤ 999) (hi : i < M) (K : Int32 → Int32 → Mem → Option (Int32 × Mem)) : ∀ m j f, j + m = M → m < f →
    l_X1_someAreApartBy_12 N K f (nI d) (nI i) (nI j) σ = if cdec (∃ j', j ≤ j' ∧ j' < M ∧ D 1 j' = D 1 i + d) = true then some (1, σ) else K (nI d) (nI (i + 1)) σ := by
  have hM := hD.1
  intro m
  induction m with
  | zero =>
    intro j f hj hf
    obtain ⟨f, rfl⟩ : ∃ q, f = q + 1 := ⟨f - 1, by omega⟩
    have e : j = M := by omega
    subst e
    have hle : nI j ≤ nI j := by rw [n_le (by omega) (by omega)]; omega
    simp only [l_X1_someAreApartBy_12, b_X1_someAreApartBy_12, h.1, if_pos hle, nI_1]
    rw [if_neg (nf (fun ⟨j', a, b, _⟩ => by omega))]
  | succ m ih =>
    intro j f hj hf
    obtain ⟨f, rfl⟩ : ∃ q, f = q + 1 := ⟨f - 1, by omega⟩
    have hle : ¬ nI M ≤ nI j := fun q => by rw [n_le (by omega) (by omega)] at q; omega
    have d1 := (hD.2 i hi).2.2.1
    have d2 := (hD.2 j (by omega)).2.2.1
    have ih := ih (j + 1) f (by omega) (by omega)
    simp only [l_X1_someAreApartBy_12, b_X1_someAreApartBy_12, h.1, if_neg hle, inb_n (show i < 12 by omega) (show 12 < 2 ^ 31 by omega), inb_n (show j < 12 by omega) (show 12 < 2 ^ 31 by omega), gd_t, nI_clamp (show i < 2 ^ 31 by omega), nI_clamp (show j < 2 ^ 31 by omega), (h.2 i hi).2.1, (h.2 j (by omega)).2.1, isb_1, nI_1]
    by_cases q : D 1 j = D 1 i + d
    · rw [if_pos ((n_sube d2 d1 hd).mpr q), if_pos (cdec_t ⟨j, Nat.le_refl j, by omega, q⟩)]
    · rw [if_neg (fun w => q ((n_sube d2 d1 hd).mp w)), ih]
      have e : (∃ j', j + 1 ≤ j' ∧ j' < M ∧ D 1 j' = D 1 i + d) ↔ ∃ j', j ≤ j' ∧ j' < M ∧ D 1 j' = D 1 i + d := by
        constructor
        · rintro ⟨j', a, b, c⟩; exact ⟨j', by omega, b, c⟩
        · rintro ⟨j', a, b, c⟩
          refine ⟨j', ?_, b, c⟩
          rcases Nat.lt_or_ge j j' with w | w
          · omega
          · have : j' = j := by omega
            rw [this] at c; exact absurd c q
      rw [show (∃ j', j + 1 ≤ j' ∧ j' < M ∧ D 1 j' = D 1 i + d) = _ from propext e]
theorem lp_apsC (hN : 13 ≤ N) (hD : LD M D) (h : LC σ M D) {d : Nat} (hd : d ≤ 999) : ∀ m i f, i + m = M → m < f → l_X1_someAreApartBy_2 N f (nI d) (nI i) σ = some (b2i (cdec (turnP D M d i)), σ) := by
  have hM := hD.1
  intro m
  induction m with
  | zero =>
    intro i f hi hf
    obtain ⟨f, rfl⟩ : ∃ q, f = q + 1 := ⟨f - 1, by omega⟩
    have e : i = M := by omega
    subst e
    have hle : nI i ≤ nI i := by rw [n_le (by omega) (by omega)]; omega
    simp only [l_X1_someAreApartBy_2, b_X1_someAreApartBy_2, h.1, if_pos hle, isb_0, gd_t]
    rw [cdec_f (show ¬ turnP D i d i from fun ⟨i', j', a, b, _⟩ => by omega)]
    rfl
  | succ m ih =>
    intro i f hi hf
    obtain ⟨f, rfl⟩ : ∃ q, f = q + 1 := ⟨f - 1, by omega⟩
    have hle : ¬ nI M ≤ nI i := fun q => by rw [n_le (by omega) (by omega)] at q; omega
    have hin := lp_apC (N := N) hD h hd (show i < M by omega) (l_X1_someAreApartBy_2 N f) M 0 N (by omega) (by omega)
    simp only [l_X1_someAreApartBy_2, b_X1_someAreApartBy_2, h.1, if_neg hle]
    rw [show (0 : Int32) = nI 0 from rfl, hin]
    by_cases q : ∃ j', 0 ≤ j' ∧ j' < M ∧ D 1 j' = D 1 i + d
    · rw [if_pos (cdec_t q)]
      obtain ⟨j', -, a, b⟩ := q
      rw [cdec_t (show turnP D M d i from ⟨i, j', Nat.le_refl i, by omega, a, b⟩)]
      rfl
    · rw [if_neg (nf q), ih (i + 1) f (by omega) (by omega)]
      have e : turnP D M d (i + 1) ↔ turnP D M d i := by
        constructor
        · rintro ⟨i', j', a, b, c, e⟩; exact ⟨i', j', by omega, b, c, e⟩
        · rintro ⟨i', j', a, b, c, e⟩
          refine ⟨i', j', ?_, b, c, e⟩
          rcases Nat.lt_or_ge i i' with w | w
          · omega
          · have : i' = i := by omega
            rw [this] at e
            exact absurd ⟨j', Nat.zero_le _, c, e⟩ q
      rw [show turnP D M d (i + 1) = _ from propext e]
theorem e_apart (hN : 13 ≤ N) (hD : LD M D) (h : LC σ M D) {d : Nat} (hd : d ≤ 999) : f_X1_someAreApartBy N (nI d) σ = some (b2i (cdec (turnP D M d 0)), σ) := lp_apsC hN hD h hd M 0 N (by omega) (by have := hD.1; omega)
def turnQ (D : Nat → Nat → Nat) (M d i : Nat) : Prop := ∃ i' j', i ≤ i' ∧ i' < M ∧ j' < M ∧ D 1 i' = D 1 j' + d
theorem lp_tuR (hD : LD M D) (h : LR τ M D) {d i : Nat} (hd : d ≤ 999) (hi : i < M) (K : Int32 → Int32 → Mem → Option (Int32 × Mem)) : ∀ m j f, j + m = M → m < f →
    l_X7_isTurn_19 N K f (nI (d + 1)) (nI i) (nI j) τ = if cdec (∃ j', j ≤ j' ∧ j' < M ∧ D 1 i = D 1 j' + d) = true then some (1, τ) else K (nI (d + 1)) (nI (i + 1)) τ := by
  have hM := hD.1
  intro m
  induction m with
  | zero =>
    intro j f hj hf
    obtain ⟨f, rfl⟩ : ∃ q, f = q + 1 := ⟨f - 1, by omega⟩
    have e : j = M := by omega
    subst e
    have hle : nI j ≤ nI j := by rw [n_le (by omega) (by omega)]; omega
    simp only [l_X7_isTurn_19, b_X7_isTurn_19, h.1, if_pos hle, nI_1]
    rw [if_neg (nf (fun ⟨j', a, b, _⟩ => by omega))]
  | succ m ih =>
    intro j f hj hf
    obtain ⟨f, rfl⟩ : ∃ q, f = q + 1 := ⟨f - 1, by omega⟩
    have hle : ¬ nI M ≤ nI j := fun q => by rw [n_le (by omega) (by omega)] at q; omega
    have d1 := (hD.2 i hi).2.2.1
    have d2 := (hD.2 j (by omega)).2.2.1
    have ih := ih (j + 1) f (by omega) (by omega)
    simp only [l_X7_isTurn_19, b_X7_isTurn_19, h.1, if_neg hle, inb_n (show i < 12 by omega) (show 12 < 2 ^ 31 by omega), inb_n (show j < 12 by omega) (show 12 < 2 ^ 31 by omega), gd_t, nI_clamp (show i < 2 ^ 31 by omega), nI_clamp (show j < 2 ^ 31 by omega), (h.2 i hi).2.1, (h.2 j (by omega)).2.1, isb_1, n_m1]
    rw [nI_1 j]
    by_cases q : D 1 i = D 1 j + d
    · rw [if_pos ((n_sube d1 d2 hd).mpr q), if_pos (cdec_t ⟨j, Nat.le_refl j, by omega, q⟩)]
    · rw [if_neg (fun w => q ((n_sube d1 d2 hd).mp w)), ih]
      have e : (∃ j', j + 1 ≤ j' ∧ j' < M ∧ D 1 i = D 1 j' + d) ↔ ∃ j', j ≤ j' ∧ j' < M ∧ D 1 i = D 1 j' + d := by
        constructor
        · rintro ⟨j', a, b, c⟩; exact ⟨j', by omega, b, c⟩
        · rintro ⟨j', a, b, c⟩
          refine ⟨j', ?_, b, c⟩
          rcases Nat.lt_or_ge j j' with w | w
          · omega
          · have : j' = j := by omega
            rw [this] at c; exact absurd c q
      rw [show (∃ j', j + 1 ≤ j' ∧ j' < M ∧ D 1 i = D 1 j' + d) = _ from propext e]
theorem lp_tusR (hN : 13 ≤ N) (hD : LD M D) (h : LR τ M D) {d : Nat} (hd : d ≤ 999) : ∀ m i f, i + m = M → m < f → l_X7_isTurn_9 N f (nI (d + 1)) (nI i) τ = some (b2i (cdec (turnQ D M d i)), τ) := by
  have hM := hD.1
  intro m
  induction m with
  | zero =>
    intro i f hi hf
    obtain ⟨f, rfl⟩ : ∃ q, f = q + 1 := ⟨f - 1, by omega⟩
    have e : i = M := by omega
    subst e
    have hle : nI i ≤ nI i := by rw [n_le (by omega) (by omega)]; omega
    simp only [l_X7_isTurn_9, b_X7_isTurn_9, h.1, if_pos hle, isb_0, gd_t]
    rw [cdec_f (show ¬ turnQ D i d i from fun ⟨i', j', a, b, _⟩ => by omega)]
    rfl
  | succ m ih =>
    intro i f hi hf
    obtain ⟨f, rfl⟩ : ∃ q, f = q + 1 := ⟨f - 1, by omega⟩
    have hle : ¬ nI M ≤ nI i := fun q => by rw [n_le (by omega) (by omega)] at q; omega
    have hin := lp_tuR (N := N) hD h hd (show i < M by omega) (l_X7_isTurn_9 N f) M 0 N (by omega) (by omega)
    simp only [l_X7_isTurn_9, b_X7_isTurn_9, h.1, if_neg hle]
    rw [show (0 : Int32) = nI 0 from rfl, hin]
    by_cases q : ∃ j', 0 ≤ j' ∧ j' < M ∧ D 1 i = D 1 j' + d
    · rw [if_pos (cdec_t q)]
      obtain ⟨j', -, a, b⟩ := q
      rw [cdec_t (show turnQ D M d i from ⟨i, j', Nat.le_refl i, by omega, a, b⟩)]
      rfl
    · rw [if_neg (nf q), ih (i + 1) f (by omega) (by omega)]
      have e : turnQ D M d (i + 1) ↔ turnQ D M d i := by
        constructor
        · rintro ⟨i', j', a, b, c, e⟩; exact ⟨i', j', by omega, b, c, e⟩
        · rintro ⟨i', j', a, b, c, e⟩
          refine ⟨i', j', ?_, b, c, e⟩
          rcases Nat.lt_or_ge i i' with w | w
          · omega
          · have : i' = i := by omega
            rw [this] at e
            exact absurd ⟨j', Nat.zero_le _, c, e⟩ q
      rw [show turnQ D M d (i + 1) = _ from propext e]
theorem turn_pq {d : Nat} : turnQ D M d 0 ↔ turnP D M d 0 := by
  constructor
  · rintro ⟨i', j', a, b, c, e⟩; exact ⟨j', i', Nat.zero_le _, c, b, e⟩
  · rintro ⟨i', j', a, b, c, e⟩; exact ⟨j', i', Nat.zero_le _, c, b, e⟩
theorem e_turn (hN : 13 ≤ N) (hD : LD M D) (h : LR τ M D) {d : Nat} (hd : d ≤ 999) : f_X7_isTurn N (nI (d + 1)) τ = some (b2i (cdec (d = 0 ∨ turnP D M d 0)), τ) := by
  unfold f_X7_isTurn
  by_cases q : d = 0
  · rw [if_pos (by rw [q]; rfl), isb_1, gd_t, cdec_t (show d = 0 ∨ turnP D M d 0 from Or.inl q)]
    rfl
  · rw [if_neg (fun w => by
      have : nI (d + 1) = nI 1 := w
      rw [n_eq (by omega) (by omega)] at this
      omega), show (0 : Int32) = nI 0 from rfl, lp_tusR hN hD h hd M 0 N (by omega) (by have := hD.1; omega)]
    have e : turnQ D M d 0 ↔ (d = 0 ∨ turnP D M d 0) := turn_pq.trans ⟨Or.inr, fun w => w.resolve_left q⟩
    rw [show turnQ D M d 0 = _ from propext e]
end TURN
