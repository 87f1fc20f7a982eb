/-! the same by the reference -/
theorem low_le {h : Nat → Nat} {s a : Nat} : ∀ k j, j < k → s.testBit j = true → lowF h s a k ≤ h j
  | 0, j, hj, _ => absurd hj (Nat.not_lt_zero j)
  | k + 1, j, hj, hs => by
    rw [lowF_s]
    by_cases e : j = k
    · subst e
      rw [if_pos hs]
      exact Nat.min_le_right _ _
    · have := low_le (h := h) (s := s) (a := a) k j (by omega) hs
      split <;> omega
theorem low_at (h : Nat → Nat) (s a : Nat) : ∀ k, lowF h s a k = a ∨ ∃ j, j < k ∧ s.testBit j = true ∧ lowF h s a k = h j
  | 0 => Or.inl rfl
  | k + 1 => by
    rw [lowF_s]
    have ih := low_at h s a k
    by_cases hs : s.testBit k = true
    · rw [if_pos hs]
      rcases Nat.le_total (lowF h s a k) (h k) with q | q
      · rw [Nat.min_eq_left q]
        rcases ih with e | ⟨j, j1, j2, j3⟩
        · exact Or.inl e
        · exact Or.inr ⟨j, by omega, j2, j3⟩
      · rw [Nat.min_eq_right q]
        exact Or.inr ⟨k, by omega, hs, rfl⟩
    · rw [if_neg hs]
      rcases ih with e | ⟨j, j1, j2, j3⟩
      · exact Or.inl e
      · exact Or.inr ⟨j, by omega, j2, j3⟩
theorem high_ge {h : Nat → Nat} {s : Nat} : ∀ k j, j < k → s.testBit j = true → h j ≤ highF h s k
  | 0, j, hj, _ => absurd hj (Nat.not_lt_zero j)
  | k + 1, j, hj, hs => by
    rw [highF_s]
    by_cases e : j = k
    · subst e
      rw [if_pos hs]
      exact Nat.le_max_right _ _
    · have := high_ge (h := h) (s := s) k j (by omega) hs
      split <;> omega
theorem high_at (h : Nat → Nat) (s : Nat) : ∀ k, (∀ j, j < k → s.testBit j = false) ∨ ∃ j, j < k ∧ s.testBit j = true ∧ highF h s k = h j
  | 0 => Or.inl (fun j hj => absurd hj (Nat.not_lt_zero j))
  | k + 1 => by
    rw [highF_s]
    have ih := high_at h s k
    by_cases hs : s.testBit k = true
    · rw [if_pos hs]
      rcases Nat.le_total (h k) (highF h s k) with q | q
      · rw [Nat.max_eq_left q]
        rcases ih with e | ⟨j, j1, j2, j3⟩
        · refine Or.inr ⟨k, by omega, hs, ?_⟩
          have e0 : ∀ m, m ≤ k → highF h s m = 0 := by
            intro m
            induction m with
            | zero => intro _; rfl
            | succ m ih2 =>
              intro hm
              rw [highF_s, if_neg (by rw [e m (by omega)]; decide)]
              exact ih2 (by omega)
          have := e0 k (Nat.le_refl k)
          omega
        · exact Or.inr ⟨j, by omega, j2, j3⟩
      · rw [Nat.max_eq_right q]
        exact Or.inr ⟨k, by omega, hs, rfl⟩
    · rw [if_neg hs]
      rcases ih with e | ⟨j, j1, j2, j3⟩
      · refine Or.inl (fun j hj => ?_)
        by_cases e2 : j = k
        · subst e2; simpa using hs
        · exact e j (by omega)
      · exact Or.inr ⟨j, by omega, j2, j3⟩
/-- the greatest hour less the least -/
theorem span_iff {h : Nat → Nat} {s M H : Nat} (hH1 : 1 ≤ H) (hH : H ≤ 99) (hb : ∀ j, j < M → h j ≤ 999) : highI h s M - nI (lowF h s 1000 M) < nI H ↔ ∀ i j, i < M → j < M → s.testBit i = true → s.testBit j = true → adist (h i) (h j) < H := by
  have hl := lowF_le h s 1000 M
  rcases highI_eq h s M (fun j hj => by have := hb j hj; omega) with ⟨e1, e2⟩ | ⟨⟨j0, j1, j2⟩, e2⟩
  · rw [e2]
    refine ⟨fun _ i j hi hj q => absurd q (by rw [e1 i hi]; decide), fun _ => ?_⟩
    have e3 : lowF h s 1000 M = 1000 := by
      rcases low_at h s 1000 M with e | ⟨j, q1, q2, -⟩
      · exact e
      · rw [e1 j q1] at q2; cases q2
    rw [e3, fa_lt, nI_toInt (by omega)]
    have : (-1 - nI 1000 : Int32).toInt = -1001 := by decide
    rw [this]
    omega
  · rw [e2]
    have hh := highF_le (h := h) (b := 999) s M hb
    rw [fa_lt, pk_sub_toInt (by omega) (by omega), nI_toInt (by omega)]
    have l1 := low_le (h := h) (s := s) (a := 1000) M j0 j1 j2
    have g1 := high_ge (h := h) (s := s) M j0 j1 j2
    constructor
    · intro q i j hi hj si sj
      have a1 := low_le (h := h) (s := s) (a := 1000) M i hi si
      have a2 := low_le (h := h) (s := s) (a := 1000) M j hj sj
      have a3 := high_ge (h := h) (s := s) M i hi si
      have a4 := high_ge (h := h) (s := s) M j hj sj
      unfold adist
      omega
    · intro q
      rcases high_at h s M with e | ⟨i, i1, i2, i3⟩
      · rw [e j0 j1] at j2; cases j2
      · rcases low_at h s 1000 M with e | ⟨j, q1, q2, q3⟩
        · have := hb j0 j1
          omega
        · have := q i j i1 q1 i2 q2
          unfold adist at this
          omega
section ONER
variable {N M s c : Nat} {g : Nat → Int32} {D : Nat → Nat → Nat} {τ : Mem}
theorem lp_oneR_in (hD : LD M D) (h : LR τ M D) (hw : WR τ c g) (hg : wfC g) (hs : s < 2 ^ 31) {i : Nat} (hi : i < M) (K : Int32 → Int32 → Int32 → Int32 → Mem → Option (Int32 × Mem)) (cm : Int32) : ∀ m j n, j + m = i → m < n →
    ((∀ t, j ≤ t → t < i → s.testBit t = true → nearM g D i t) ∧ l_X7_mayBeOne_62 N K n (nI c) (nI s) cm (nI i) (nI j) τ = K (nI c) (nI s) cm (nI (i + 1)) τ) ∨ ((∃ t, j ≤ t ∧ t < i ∧ s.testBit t = true ∧ ¬ nearM g D i t) ∧ l_X7_mayBeOne_62 N K n (nI c) (nI s) cm (nI i) (nI j) τ = some (0, τ)) := by
  intro m
  have hM := hD.1
  induction m with
  | zero =>
    intro j n hk hn
    obtain ⟨n, rfl⟩ : ∃ n', n = n' + 1 := ⟨n - 1, by omega⟩
    have e : j = i := by omega
    subst e
    refine Or.inl ⟨fun t h1 h2 => by omega, ?_⟩
    simp only [l_X7_mayBeOne_62, b_X7_mayBeOne_62, nI_1]
    rw [if_pos (by rw [n_le (by omega) (by omega)]; omega)]
  | succ m ih =>
    intro j n hk hn
    obtain ⟨n, rfl⟩ : ∃ n', n = n' + 1 := ⟨n - 1, by omega⟩
    have hc : ¬ nI i ≤ nI j := fun q => by rw [n_le (by omega) (by omega)] at q; omega
    have ih := ih (j + 1) n (by omega) (by omega)
    have ew : f_X7_wordOf N (nI c) 1 τ = some (g 1, τ) := e_wordOf N hw (k := 1) (by omega)
    by_cases h1 : g 1 = -1
    · refine Or.inl ⟨fun t _ _ _ => Or.inl h1, ?_⟩
      simp only [l_X7_mayBeOne_62, b_X7_mayBeOne_62, if_neg hc, ew, bnd_s, if_pos h1, nI_1]
    have ex : l_X7_mayBeOne_62 N K (n + 1) (nI c) (nI s) cm (nI i) (nI j) τ = if s.testBit j = false then l_X7_mayBeOne_62 N K n (nI c) (nI s) cm (nI i) (nI (j + 1)) τ else if cdec (nearM g D i j) = false then some (0, τ) else l_X7_mayBeOne_62 N K n (nI c) (nI s) cm (nI i) (nI (j + 1)) τ := by
      simp only [l_X7_mayBeOne_62, b_X7_mayBeOne_62, if_neg hc, ew, bnd_s, if_neg h1, e_hasR N hs (show j < 32 by omega), nI_1, b2i_0, e_nearR N hD h hg h1 hi (show j < M by omega), isb_0, gd_t]
    rw [ex]
    by_cases hb : s.testBit j = false
    · rw [if_pos hb]
      rcases ih with ⟨i1, i2⟩ | ⟨⟨t, t1, t2, t3⟩, i2⟩
      · refine Or.inl ⟨fun t h1 h2 h3 => ?_, i2⟩
        by_cases e : t = j
        · subst e; rw [hb] at h3; cases h3
        · exact i1 t (by omega) h2 h3
      · exact Or.inr ⟨⟨t, by omega, t2, t3⟩, i2⟩
    · rw [if_neg hb]
      by_cases hq : nearM g D i j
      · rw [if_neg (by rw [cdec_t hq]; decide)]
        rcases ih with ⟨i1, i2⟩ | ⟨⟨t, t1, t2, t3⟩, i2⟩
        · refine Or.inl ⟨fun t h1 h2 h3 => ?_, i2⟩
          by_cases e : t = j
          · subst e; exact hq
          · exact i1 t (by omega) h2 h3
        · exact Or.inr ⟨⟨t, by omega, t2, t3⟩, i2⟩
      · rw [if_pos (cdec_f hq)]
        exact Or.inr ⟨⟨j, by omega, by omega, by simpa using hb, hq⟩, rfl⟩
theorem nearM_c {i j : Nat} (h : nearM g D i j) : nearM g D j i := by
  unfold nearM at *
  rw [adist_c (D 2 j), adist_c (D 3 j)]
  exact h
theorem nearM_s (i : Nat) : nearM g D i i := by
  unfold nearM adist
  simp
theorem lp_oneR_out (hN : 13 ≤ N) (hD : LD M D) (h : LR τ M D) (hw : WR τ c g) (hg : wfC g) (hs : s < 2 ^ 31) (hH : ∀ i j, i < M → j < M → s.testBit i = true → s.testBit j = true → nearH g D i j) : ∀ m i n, i + m = M → m < n → (∀ a b, a < i → b ≤ a → s.testBit a = true → s.testBit b = true → nearM g D a b) →
    l_X7_mayBeOne_28 N n (nI c) (nI s) (nI (candF (D 4) s i)) (nI i) τ = some (b2i (cdec (ONE g D M s)), τ) := by
  intro m
  have hM := hD.1
  induction m with
  | zero =>
    intro i n hk hn hpre
    obtain ⟨n, rfl⟩ : ∃ n', n = n' + 1 := ⟨n - 1, by omega⟩
    have e : i = M := by omega
    subst e
    have hpairs : ∀ a b, a < i → b < i → s.testBit a = true → s.testBit b = true → near g D a b := by
      intro a b ha hb h1 h2
      refine ⟨hH a b ha hb h1 h2, ?_⟩
      rcases Nat.le_total b a with q | q
      · exact hpre a b ha q h1 h2
      · exact nearM_c (hpre b a hb q h2 h1)
    have hle := candF_le (D 4) s i
    have ew : f_X7_wordOf N (nI c) 2 τ = some (g 2, τ) := e_wordOf N hw (k := 2) (by omega)
    simp only [l_X7_mayBeOne_28, b_X7_mayBeOne_28, h.1, ew, bnd_s, isb_0, isb_1, gd_t]
    rw [if_pos (by rw [n_le (by omega) (by omega)]; omega)]
    by_cases e : g 2 = 0
    · rw [if_pos e, cdec_t (show ONE g D i s from ⟨hpairs, Or.inl e⟩)]
      rfl
    · rw [if_neg e]
      by_cases h0 : candF (D 4) s i = 0
      · rw [if_pos (by rw [h0]; rfl), cdec_f (show ¬ ONE g D i s from fun q => q.2.elim e (fun q => q h0))]
        rfl
      · rw [if_neg (by rw [show (0 : Int32) = nI 0 from rfl, n_eq (by omega) (by omega)]; exact h0), cdec_t (show ONE g D i s from ⟨hpairs, Or.inr h0⟩)]
        rfl
  | succ m ih =>
    intro i n hk hn hpre
    obtain ⟨n, rfl⟩ : ∃ n', n = n' + 1 := ⟨n - 1, by omega⟩
    have hc : ¬ nI M ≤ nI i := fun q => by rw [n_le (by omega) (by omega)] at q; omega
    simp only [l_X7_mayBeOne_28, b_X7_mayBeOne_28, h.1, if_neg hc, e_hasR N hs (show i < 32 by omega), bnd_s, nI_1, b2i_0, m_leti, inb_n (show i < 12 by omega) (by omega), gd_t, nI_clamp (show i < 2 ^ 31 by omega), (h.2 i (by omega)).2.2.2.2, fa_and]
    by_cases hb : s.testBit i = false
    · rw [if_pos hb]
      have ih := ih (i + 1) n (by omega) (by omega) (fun a b ha hb2 h1 h2 => by
        by_cases e : a = i
        · subst e; rw [hb] at h1; cases h1
        · exact hpre a b (by omega) hb2 h1 h2)
      rw [candF_s, if_neg (by rw [hb]; decide)] at ih
      exact ih
    · have hbt : s.testBit i = true := by simpa using hb
      rw [if_neg hb]
      rcases lp_oneR_in (N := N) (s := s) hD h hw hg hs (show i < M by omega) (l_X7_mayBeOne_28 N n) (nI (candF (D 4) s i &&& D 4 i)) i 0 N (by omega) (by omega) with ⟨q1, q2⟩ | ⟨⟨t, t1, t2, t3, t4⟩, q2⟩
      · have ih := ih (i + 1) n (by omega) (by omega) (fun a b ha hb2 h1 h2 => by
          by_cases e : a = i
          · subst e
            by_cases e2 : b = a
            · subst e2; exact nearM_s b
            · exact q1 b (by omega) (by omega) h2
          · exact hpre a b (by omega) hb2 h1 h2)
        rw [candF_s, if_pos hbt] at ih
        rw [show (0 : Int32) = nI 0 from rfl, q2]
        exact ih
      · rw [show (0 : Int32) = nI 0 from rfl, q2, cdec_f (show ¬ ONE g D M s from fun q => t4 (q.1 i t (by omega) (by omega) hbt t3).2)]
        rfl
theorem e_oneR (hN : 13 ≤ N) (hD : LD M D) (h : LR τ M D) (hw : WR τ c g) (hg : wfC g) (hs : s < 2 ^ 31) : f_X7_mayBeOne N (nI c) (nI s) τ = some (b2i (cdec (ONE g D M s)), τ) := by
  obtain ⟨w1, w2, w3⟩ := wf0 hg
  have ew : f_X7_wordOf N (nI c) 0 τ = some (g 0, τ) := e_wordOf N hw (k := 0) (by omega)
  have hsp := span_iff (h := D 1) (s := s) (M := M) w2 w3 (fun j hj => (hD.2 j hj).2.2.1)
  simp only [f_X7_mayBeOne, e_mostR hN hD h hs, e_leastR hN hD h hs, bnd_s, ew, w1, isb_0, gd_t]
  by_cases hH : highI (D 1) s M - nI (lowF (D 1) s 1000 M) < nI (wv g 0)
  · rw [if_pos hH]
    exact lp_oneR_out hN hD h hw hg hs (hsp.mp hH) M 0 N (by omega) (by have := hD.1; omega) (fun a b ha => absurd ha (Nat.not_lt_zero a))
  · rw [if_neg hH, cdec_f (show ¬ ONE g D M s from fun q => hH (hsp.mpr (fun i j hi hj si sj => (q.1 i j hi hj si sj).1)))]
    rfl
end ONER
theorem Rel.cov {σ τ : Mem} (h : Rel σ τ) : ∃ C, C ≤ 6 ∧ σ 16 8 = nI C ∧ τ 0 7 = nI C ∧ ∀ c, c < C → wfC (σ (8 + c)) ∧ WC σ c (σ (8 + c)) ∧ WR τ c (σ (8 + c)) := by
  obtain ⟨C, hC, c1, c2, c3⟩ := h.2.1
  exact ⟨C, hC, c1, c2, fun c hc => ⟨(c3 c hc).1, ⟨by omega, fun _ _ => rfl⟩, ⟨by omega, (c3 c hc).2⟩⟩⟩
theorem WR.keep {τ τ' : Mem} {c : Nat} {g : Nat → Int32} (h : WR τ c g) (hr : KR τ τ') : WR τ' c g := ⟨h.1, fun k hk => by rw [hr 2 _ (by simp [psR])]; exact h.2 k hk⟩
theorem WC.keep {σ σ' : Mem} {c : Nat} {g : Nat → Int32} (h : WC σ c g) (hc : c < 6) (hr : KC σ σ') : WC σ' c g := ⟨h.1, fun k hk => by rw [hr (8 + c) _ (by unfold psC; omega)]; exact h.2 k hk⟩
theorem p_may {N : Nat} (hN : 13 ≤ N) {σ τ : Mem} (h : Rel σ τ) (x y : Int32) : Same (f_X6_may N x y σ) (f_X7_may N x y τ) := by
  obtain ⟨C, hC, c1, c2, c3⟩ := h.cov
  obtain ⟨M, hD, hLC, hLR, -⟩ := h.data
  have hM := hD.1
  have hLR' := hLR.keep (KR.th τ 0)
  have k1 : mu τ 0 0 0 0 7 = nI C := c2
  have hr := Same.mk (-1) (h.th 0)
  simp only [f_X6_may, f_X7_may, m_let, e_coverAt N hC c1 h.2.2.2.2, e_isCover, e_isSet N y hM hLR'.1, e_hasAll N y hM hLC.1, bnd_s, k1]
  by_cases h1 : blw x (nI C) = 0
  · rw [if_pos h1, if_pos h1, if_pos (by decide)]
    exact hr
  obtain ⟨c, hc, rfl⟩ := blw_n (by omega) h1
  obtain ⟨g1, g2, g3⟩ := c3 c hc
  rw [if_neg h1, if_neg h1, if_neg (nI_pos (by omega))]
  by_cases h2 : y = 0
  · rw [if_pos h2, if_pos h2, ite_self]
    exact hr
  rw [if_neg h2, if_neg h2]
  by_cases h3 : sub2 y M = 0
  · rw [if_pos h3, if_pos h3]
    exact hr
  obtain ⟨s, hs, rfl⟩ := sub2_n hM h3
  have h4 := n_lt2 hM
  rw [if_neg h3, if_neg h3, e_oneC hN hD hLC g2 g1, e_oneR hN hD hLR' (g3.keep (KR.th τ 0)) g1 (by omega), bnd_s, bnd_s]
  cases cdec (ONE (σ (8 + c)) (Dof σ) M s)
  · exact Same.mk _ (h.th 0)
  · exact Same.mk _ (h.th 0)
