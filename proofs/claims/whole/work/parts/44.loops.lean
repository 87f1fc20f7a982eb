/-! sets of losses: least and greatest hour, sums; by the class and by the reference -/
def b2i (b : Bool) : Int32 := if b = true then 1 else 0
theorem b2i_t : b2i true = 1 := rfl
theorem b2i_f : b2i false = 0 := rfl
theorem b2i_0 {b : Bool} : b2i b = 0 ↔ b = false := by cases b <;> decide
/-- the losses' data: 0 sums, 1 hours, 2 and 3 places, 4 causes -/
def LD (M : Nat) (D : Nat → Nat → Nat) : Prop := M ≤ 12 ∧ ∀ k, k < M → 1 ≤ D 0 k ∧ D 0 k ≤ 99 ∧ D 1 k ≤ 999 ∧ D 2 k ≤ 99 ∧ D 3 k ≤ 99 ∧ 1 ≤ D 4 k ∧ D 4 k ≤ 63
def LC (σ : Mem) (M : Nat) (D : Nat → Nat → Nat) : Prop := σ 18 6 = nI M ∧ ∀ k, k < M → σ 26 k = nI (D 0 k) ∧ σ 27 k = nI (D 1 k) ∧ σ 29 k = nI (D 2 k) ∧ σ 30 k = nI (D 3 k) ∧ σ 31 k = nI (D 4 k)
def LR (τ : Mem) (M : Nat) (D : Nat → Nat → Nat) : Prop := τ 0 15 = nI M ∧ ∀ k, k < M → τ 3 k = nI (D 0 k) ∧ τ 4 k = nI (D 1 k) ∧ τ 6 k = nI (D 2 k) ∧ τ 7 k = nI (D 3 k) ∧ τ 8 k = nI (D 4 k)
theorem LC.keep {σ σ' : Mem} {M : Nat} {D : Nat → Nat → Nat} (h : LC σ M D) (hc : KC σ σ') : LC σ' M D := by
  refine ⟨by rw [hc 18 6 (by simp [psC])]; exact h.1, fun k hk => ?_⟩
  rw [hc 26 k (by simp [psC]), hc 27 k (by simp [psC]), hc 29 k (by simp [psC]), hc 30 k (by simp [psC]), hc 31 k (by simp [psC])]
  exact h.2 k hk
theorem LR.keep {τ τ' : Mem} {M : Nat} {D : Nat → Nat → Nat} (h : LR τ M D) (hr : KR τ τ') : LR τ' M D := by
  refine ⟨by rw [hr 0 15 (by simp [psR])]; exact h.1, fun k hk => ?_⟩
  rw [hr 3 k (by simp [psR]), hr 4 k (by simp [psR]), hr 6 k (by simp [psR]), hr 7 k (by simp [psR]), hr 8 k (by simp [psR])]
  exact h.2 k hk
/-- the data that the class's memory has -/
def Dof (σ : Mem) : Nat → Nat → Nat := fun a k => match a with
  | 0 => (σ 26 k).toNatClampNeg
  | 1 => (σ 27 k).toNatClampNeg
  | 2 => (σ 29 k).toNatClampNeg
  | 3 => (σ 30 k).toNatClampNeg
  | 4 => (σ 31 k).toNatClampNeg
  | _ => (σ 32 k).toNatClampNeg
theorem cl_e {x : Int32} {n : Nat} (hn : n < 2 ^ 31) (h : x = nI n) : x = nI x.toNatClampNeg ∧ x.toNatClampNeg = n := by
  subst h
  rw [nI_clamp hn]
  exact ⟨rfl, rfl⟩
theorem Rel.data {σ τ : Mem} (h : Rel σ τ) : ∃ M, LD M (Dof σ) ∧ LC σ M (Dof σ) ∧ LR τ M (Dof σ) ∧ (∀ k, k < M → σ 32 k = nI (Dof σ 5 k) ∧ Dof σ 5 k ≤ 15 ∧ τ 9 k = nI (Dof σ 5 k)) := by
  obtain ⟨M, hM, l1, l2, l3, l4⟩ := h.2.2.1
  refine ⟨M, ⟨hM, fun k hk => ?_⟩, ⟨l1, fun k hk => ?_⟩, ⟨l2, fun k hk => ?_⟩, fun k hk => ?_⟩
  · obtain ⟨⟨⟨a, a1, a2, a3⟩, ⟨b, b1, b2⟩, -, ⟨d, d1, d2⟩, ⟨e, e1, e2⟩, ⟨f, f1, f2, f3⟩, -⟩, -⟩ := l3 k hk
    show 1 ≤ (σ 26 k).toNatClampNeg ∧ (σ 26 k).toNatClampNeg ≤ 99 ∧ (σ 27 k).toNatClampNeg ≤ 999 ∧ (σ 29 k).toNatClampNeg ≤ 99 ∧ (σ 30 k).toNatClampNeg ≤ 99 ∧ 1 ≤ (σ 31 k).toNatClampNeg ∧ (σ 31 k).toNatClampNeg ≤ 63
    rw [(cl_e (by omega) a3).2, (cl_e (by omega) b2).2, (cl_e (by omega) d2).2, (cl_e (by omega) e2).2, (cl_e (by omega) f3).2]
    exact ⟨a1, a2, b1, d1, e1, f1, f2⟩
  · obtain ⟨⟨⟨a, a1, a2, a3⟩, ⟨b, b1, b2⟩, -, ⟨d, d1, d2⟩, ⟨e, e1, e2⟩, ⟨f, f1, f2, f3⟩, -⟩, -⟩ := l3 k hk
    exact ⟨(cl_e (by omega) a3).1, (cl_e (by omega) b2).1, (cl_e (by omega) d2).1, (cl_e (by omega) e2).1, (cl_e (by omega) f3).1⟩
  · obtain ⟨⟨⟨a, a1, a2, a3⟩, ⟨b, b1, b2⟩, -, ⟨d, d1, d2⟩, ⟨e, e1, e2⟩, ⟨f, f1, f2, f3⟩, -⟩, q1, q2, q3, q4, q5, q6, q7⟩ := l3 k hk
    rw [q1, q2, q4, q5, q6]
    exact ⟨(cl_e (by omega) a3).1, (cl_e (by omega) b2).1, (cl_e (by omega) d2).1, (cl_e (by omega) e2).1, (cl_e (by omega) f3).1⟩
  · obtain ⟨⟨-, -, -, -, -, -, ⟨g, g1, g2⟩⟩, q1, q2, q3, q4, q5, q6, q7⟩ := l3 k hk
    rw [q7]
    exact ⟨(cl_e (by omega) g2).1, by show (σ 32 k).toNatClampNeg ≤ 15; rw [(cl_e (by omega) g2).2]; exact g1, (cl_e (by omega) g2).1⟩
theorem e_hasR (N : Nat) {s k : Nat} (hs : s < 2 ^ 31) (hk : k < 32) (τ : Mem) : f_X7_has N (nI s) (nI k) τ = some (b2i (s.testBit k), τ) := by
  unfold f_X7_has
  rw [n_bit hs hk]
  cases s.testBit k <;> rfl
theorem e_inC (N : Nat) {s k : Nat} (hk : k < 31) (σ : Mem) : f_X1_isIn N (nI k) (nI s) σ = some (b2i (s.testBit k), σ) := by
  unfold f_X1_isIn
  rw [n_shl hk]
  by_cases h : s.testBit k = false
  · rw [if_pos ((fa_bit hk).mpr h), h]; rfl
  · rw [if_neg (fun q => h ((fa_bit hk).mp q))]
    rw [Bool.not_eq_false] at h
    rw [h]; rfl
def lowF (h : Nat → Nat) (s a : Nat) : Nat → Nat
  | 0 => a
  | k + 1 => if s.testBit k = true then min (lowF h s a k) (h k) else lowF h s a k
def highF (h : Nat → Nat) (s : Nat) : Nat → Nat
  | 0 => 0
  | k + 1 => if s.testBit k = true then max (highF h s k) (h k) else highF h s k
def highI (h : Nat → Nat) (s : Nat) : Nat → Int32
  | 0 => -1
  | k + 1 => if s.testBit k = true then imax (highI h s k) (nI (h k)) else highI h s k
def sumF (f : Nat → Nat) (s : Nat) : Nat → Nat
  | 0 => 0
  | k + 1 => if s.testBit k = true then sumF f s k + f k else sumF f s k
theorem lowF_s (h : Nat → Nat) (s a k : Nat) : lowF h s a (k + 1) = if s.testBit k = true then min (lowF h s a k) (h k) else lowF h s a k := rfl
theorem highF_s (h : Nat → Nat) (s k : Nat) : highF h s (k + 1) = if s.testBit k = true then max (highF h s k) (h k) else highF h s k := rfl
theorem highI_s (h : Nat → Nat) (s k : Nat) : highI h s (k + 1) = if s.testBit k = true then imax (highI h s k) (nI (h k)) else highI h s k := rfl
theorem sumF_s (f : Nat → Nat) (s k : Nat) : sumF f s (k + 1) = if s.testBit k = true then sumF f s k + f k else sumF f s k := rfl
theorem lowF_le (h : Nat → Nat) (s a : Nat) : ∀ k, lowF h s a k ≤ a
  | 0 => Nat.le_refl _
  | k + 1 => by
    have := lowF_le h s a k
    unfold lowF
    split <;> omega
theorem highF_le {h : Nat → Nat} {b : Nat} (s : Nat) : ∀ k, (∀ j, j < k → h j ≤ b) → highF h s k ≤ b
  | 0, _ => Nat.zero_le _
  | k + 1, hb => by
    have := highF_le s k (fun j hj => hb j (by omega))
    have := hb k (by omega)
    unfold highF
    split <;> omega
theorem sumF_le {f : Nat → Nat} {b : Nat} (s : Nat) : ∀ k, (∀ j, j < k → f j ≤ b) → sumF f s k ≤ b * k
  | 0, _ => Nat.zero_le _
  | k + 1, hb => by
    have h1 := sumF_le s k (fun j hj => hb j (by omega))
    have h2 := hb k (by omega)
    have h3 : b * (k + 1) = b * k + b := Nat.mul_succ b k
    unfold sumF
    split <;> omega
theorem highI_eq (h : Nat → Nat) (s : Nat) : ∀ k, (∀ j, j < k → h j < 2 ^ 31) → ((∀ j, j < k → s.testBit j = false) ∧ highI h s k = -1) ∨ ((∃ j, j < k ∧ s.testBit j = true) ∧ highI h s k = nI (highF h s k))
  | 0, _ => Or.inl ⟨fun j hj => absurd hj (Nat.not_lt_zero j), rfl⟩
  | k + 1, hb => by
    have ih := highI_eq h s k (fun j hj => hb j (by omega))
    have hk := hb k (by omega)
    unfold highI highF
    by_cases hs : s.testBit k = true
    · rw [if_pos hs, if_pos hs]
      refine Or.inr ⟨⟨k, by omega, hs⟩, ?_⟩
      rcases ih with ⟨i1, i2⟩ | ⟨i1, i2⟩
      · rw [i2]
        have e0 : highF h s k = 0 := by
          clear i2 hs hk
          have : ∀ m, m ≤ k → highF h s m = 0 := by
            intro m
            induction m with
            | zero => intro _; rfl
            | succ m ih2 =>
              intro hm
              unfold highF
              rw [if_neg (by rw [i1 m (by omega)]; decide)]
              exact ih2 (by omega)
          exact this k (Nat.le_refl k)
        rw [e0, Nat.zero_max]
        unfold imax
        rw [if_pos (by rw [fa_lt, nI_toInt hk]; show (-1 : Int) < _; omega)]
      · rw [i2, n_max (by have := highF_le (h := h) (b := 2 ^ 31 - 1) s k (fun j hj => by have := hb j (by omega); omega); omega) hk]
    · rw [if_neg hs, if_neg hs]
      rcases ih with ⟨i1, i2⟩ | ⟨⟨j, j1, j2⟩, i2⟩
      · refine Or.inl ⟨fun j hj => ?_, i2⟩
        by_cases e : j = k
        · subst e
          simpa using hs
        · exact i1 j (by omega)
      · exact Or.inr ⟨⟨j, by omega, j2⟩, i2⟩
section LOOPS
variable {N M s : Nat} {D : Nat → Nat → Nat} {σ τ : Mem}
theorem lp_leastR (hD : LD M D) (h : LR τ M D) (hs : s < 2 ^ 31) : ∀ m k n, k + m = M → m < n → l_X7_leastHour_6 N n (nI s) (nI (lowF (D 1) s 1000 k)) (nI k) τ = some (nI (lowF (D 1) s 1000 M), τ) := by
  intro m
  have hM := hD.1
  induction m with
  | zero =>
    intro k n hk hn
    obtain ⟨n, rfl⟩ : ∃ n', n = n' + 1 := ⟨n - 1, by omega⟩
    have e : k = M := by omega
    subst e
    simp only [l_X7_leastHour_6, b_X7_leastHour_6, h.1]
    rw [if_pos (by rw [n_le (by omega) (by omega)]; omega)]
  | succ m ih =>
    intro k n hk hn
    obtain ⟨n, rfl⟩ : ∃ n', n = n' + 1 := ⟨n - 1, by omega⟩
    have hc : ¬ nI M ≤ nI k := fun q => by rw [n_le (by omega) (by omega)] at q; omega
    have hl := lowF_le (D 1) s 1000 k
    have hh := (hD.2 k (by omega)).2.2.1
    have ih := ih (k + 1) n (by omega) (by omega)
    rw [lowF_s] at ih
    simp only [l_X7_leastHour_6, b_X7_leastHour_6, h.1, if_neg hc, e_hasR N hs (show k < 32 by omega), bnd_s, nI_1, m_leti, inb_n (show k < 12 by omega) (by omega), gd_t, nI_clamp (show k < 2 ^ 31 by omega), (h.2 k (by omega)).2.1, n_min (show lowF (D 1) s 1000 k < 2 ^ 31 by omega) (show D 1 k < 2 ^ 31 by omega), b2i_0]
    cases hb : s.testBit k with
    | true =>
      rw [hb, if_pos rfl] at ih
      rw [if_neg (by decide)]
      exact ih
    | false =>
      rw [hb, if_neg (by decide)] at ih
      rw [if_pos rfl]
      exact ih
theorem e_leastR (hN : 13 ≤ N) (hD : LD M D) (h : LR τ M D) (hs : s < 2 ^ 31) : f_X7_leastHour N (nI s) τ = some (nI (lowF (D 1) s 1000 M), τ) := lp_leastR hD h hs M 0 N (by omega) (by have := hD.1; omega)
theorem lp_mostR (hD : LD M D) (h : LR τ M D) (hs : s < 2 ^ 31) : ∀ m k n, k + m = M → m < n → l_X7_mostHour_4 N n (nI s) (highI (D 1) s k) (nI k) τ = some (highI (D 1) s M, τ) := by
  intro m
  have hM := hD.1
  induction m with
  | zero =>
    intro k n hk hn
    obtain ⟨n, rfl⟩ : ∃ n', n = n' + 1 := ⟨n - 1, by omega⟩
    have e : k = M := by omega
    subst e
    simp only [l_X7_mostHour_4, b_X7_mostHour_4, h.1]
    rw [if_pos (by rw [n_le (by omega) (by omega)]; omega)]
  | succ m ih =>
    intro k n hk hn
    obtain ⟨n, rfl⟩ : ∃ n', n = n' + 1 := ⟨n - 1, by omega⟩
    have hc : ¬ nI M ≤ nI k := fun q => by rw [n_le (by omega) (by omega)] at q; omega
    have ih := ih (k + 1) n (by omega) (by omega)
    rw [highI_s] at ih
    simp only [l_X7_mostHour_4, b_X7_mostHour_4, h.1, if_neg hc, e_hasR N hs (show k < 32 by omega), bnd_s, nI_1, m_leti, inb_n (show k < 12 by omega) (by omega), gd_t, nI_clamp (show k < 2 ^ 31 by omega), (h.2 k (by omega)).2.1, b2i_0]
    cases hb : s.testBit k with
    | true =>
      rw [hb, if_pos rfl] at ih
      rw [if_neg (by decide)]
      exact ih
    | false =>
      rw [hb, if_neg (by decide)] at ih
      rw [if_pos rfl]
      exact ih
theorem e_mostR (hN : 13 ≤ N) (hD : LD M D) (h : LR τ M D) (hs : s < 2 ^ 31) : f_X7_mostHour N (nI s) τ = some (highI (D 1) s M, τ) := lp_mostR hD h hs M 0 N (by omega) (by have := hD.1; omega)
theorem lp_sumR (hD : LD M D) (h : LR τ M D) (hs : s < 2 ^ 31) : ∀ m k n, k + m = M → m < n → l_X7_sumOf_4 N n (nI s) (nI (sumF (D 0) s k)) (nI k) τ = some (nI (sumF (D 0) s M), τ) := by
  intro m
  have hM := hD.1
  induction m with
  | zero =>
    intro k n hk hn
    obtain ⟨n, rfl⟩ : ∃ n', n = n' + 1 := ⟨n - 1, by omega⟩
    have e : k = M := by omega
    subst e
    simp only [l_X7_sumOf_4, b_X7_sumOf_4, h.1]
    rw [if_pos (by rw [n_le (by omega) (by omega)]; omega)]
  | succ m ih =>
    intro k n hk hn
    obtain ⟨n, rfl⟩ : ∃ n', n = n' + 1 := ⟨n - 1, by omega⟩
    have hc : ¬ nI M ≤ nI k := fun q => by rw [n_le (by omega) (by omega)] at q; omega
    have ih := ih (k + 1) n (by omega) (by omega)
    rw [sumF_s] at ih
    simp only [l_X7_sumOf_4, b_X7_sumOf_4, h.1, if_neg hc, e_hasR N hs (show k < 32 by omega), bnd_s, nI_1, m_leti, inb_n (show k < 12 by omega) (by omega), gd_t, nI_clamp (show k < 2 ^ 31 by omega), (h.2 k (by omega)).1, b2i_0, nI_add, show nI (sumF (D 0) s k) + 0 = nI (sumF (D 0) s k) from nI_add _ 0]
    cases hb : s.testBit k with
    | true =>
      rw [hb, if_pos rfl] at ih
      rw [if_neg (by decide)]
      exact ih
    | false =>
      rw [hb, if_neg (by decide)] at ih
      rw [if_pos rfl]
      exact ih
theorem e_sumR (hN : 13 ≤ N) (hD : LD M D) (h : LR τ M D) (hs : s < 2 ^ 31) : f_X7_sumOf N (nI s) τ = some (nI (sumF (D 0) s M), τ) := lp_sumR hD h hs M 0 N (by omega) (by have := hD.1; omega)
theorem lp_leastC (hD : LD M D) (h : LC σ M D) : ∀ m k n, k + m = M → m < n → l_X1_leastHourOf_6 N n (nI s) (nI (lowF (D 1) s 999 k)) (nI k) σ = some (nI (lowF (D 1) s 999 M), σ) := by
  intro m
  have hM := hD.1
  induction m with
  | zero =>
    intro k n hk hn
    obtain ⟨n, rfl⟩ : ∃ n', n = n' + 1 := ⟨n - 1, by omega⟩
    have e : k = M := by omega
    subst e
    simp only [l_X1_leastHourOf_6, b_X1_leastHourOf_6, h.1]
    rw [if_pos (by rw [n_le (by omega) (by omega)]; omega)]
  | succ m ih =>
    intro k n hk hn
    obtain ⟨n, rfl⟩ : ∃ n', n = n' + 1 := ⟨n - 1, by omega⟩
    have hc : ¬ nI M ≤ nI k := fun q => by rw [n_le (by omega) (by omega)] at q; omega
    have hl := lowF_le (D 1) s 999 k
    have hh := (hD.2 k (by omega)).2.2.1
    have ih := ih (k + 1) n (by omega) (by omega)
    rw [lowF_s] at ih
    simp only [l_X1_leastHourOf_6, b_X1_leastHourOf_6, h.1, if_neg hc, e_inC N (show k < 31 by omega), bnd_s, nI_1, m_leti, inb_n (show k < 12 by omega) (by omega), gd_t, nI_clamp (show k < 2 ^ 31 by omega), (h.2 k (by omega)).2.1, n_min (show lowF (D 1) s 999 k < 2 ^ 31 by omega) (show D 1 k < 2 ^ 31 by omega), b2i_0]
    cases hb : s.testBit k with
    | true =>
      rw [hb, if_pos rfl] at ih
      rw [if_neg (by decide)]
      exact ih
    | false =>
      rw [hb, if_neg (by decide)] at ih
      rw [if_pos rfl]
      exact ih
theorem e_leastC (hN : 13 ≤ N) (hD : LD M D) (h : LC σ M D) : f_X1_leastHourOf N (nI s) σ = some (nI (lowF (D 1) s 999 M), σ) := lp_leastC hD h M 0 N (by omega) (by have := hD.1; omega)
theorem lp_mostC (hD : LD M D) (h : LC σ M D) : ∀ m k n, k + m = M → m < n → l_X1_greatestHourOf_4 N n (nI s) (nI (highF (D 1) s k)) (nI k) σ = some (nI (highF (D 1) s M), σ) := by
  intro m
  have hM := hD.1
  induction m with
  | zero =>
    intro k n hk hn
    obtain ⟨n, rfl⟩ : ∃ n', n = n' + 1 := ⟨n - 1, by omega⟩
    have e : k = M := by omega
    subst e
    simp only [l_X1_greatestHourOf_4, b_X1_greatestHourOf_4, h.1]
    rw [if_pos (by rw [n_le (by omega) (by omega)]; omega)]
  | succ m ih =>
    intro k n hk hn
    obtain ⟨n, rfl⟩ : ∃ n', n = n' + 1 := ⟨n - 1, by omega⟩
    have hc : ¬ nI M ≤ nI k := fun q => by rw [n_le (by omega) (by omega)] at q; omega
    have hl := highF_le (h := D 1) (b := 999) s k (fun j hj => (hD.2 j (by omega)).2.2.1)
    have hh := (hD.2 k (by omega)).2.2.1
    have ih := ih (k + 1) n (by omega) (by omega)
    rw [highF_s] at ih
    simp only [l_X1_greatestHourOf_4, b_X1_greatestHourOf_4, h.1, if_neg hc, e_inC N (show k < 31 by omega), bnd_s, nI_1, m_leti, inb_n (show k < 12 by omega) (by omega), gd_t, nI_clamp (show k < 2 ^ 31 by omega), (h.2 k (by omega)).2.1, n_max (show highF (D 1) s k < 2 ^ 31 by omega) (show D 1 k < 2 ^ 31 by omega), b2i_0]
    cases hb : s.testBit k with
    | true =>
      rw [hb, if_pos rfl] at ih
      rw [if_neg (by decide)]
      exact ih
    | false =>
      rw [hb, if_neg (by decide)] at ih
      rw [if_pos rfl]
      exact ih
theorem e_mostC (hN : 13 ≤ N) (hD : LD M D) (h : LC σ M D) : f_X1_greatestHourOf N (nI s) σ = some (nI (highF (D 1) s M), σ) := lp_mostC hD h M 0 N (by omega) (by have := hD.1; omega)
/-- those of the set that fell before an hour -/
def befF (h : Nat → Nat) (e s : Nat) : Nat → Nat
  | 0 => 0
  | k + 1 => if s.testBit k = true ∧ h k < e then befF h e s k + 2 ^ k else befF h e s k
def sbF (D : Nat → Nat → Nat) (e s : Nat) : Nat → Nat
  | 0 => 0
  | k + 1 => if s.testBit k = true then (if D 1 k < e then sbF D e s k + D 0 k else sbF D e s k) else sbF D e s k
theorem sbF_s (D : Nat → Nat → Nat) (e s k : Nat) : sbF D e s (k + 1) = if s.testBit k = true then (if D 1 k < e then sbF D e s k + D 0 k else sbF D e s k) else sbF D e s k := rfl
theorem lp_sbC (hD : LD M D) (h : LC σ M D) {e : Nat} (he : e < 2 ^ 31) : ∀ m k n, k + m = M → m < n → l_X1_sumBefore_5 N n (nI s) (nI e) (nI (sbF D e s k)) (nI k) σ = some (nI (sbF D e s M), σ) := by
  intro m
  have hM := hD.1
  induction m with
  | zero =>
    intro k n hk hn
    obtain ⟨n, rfl⟩ : ∃ n', n = n' + 1 := ⟨n - 1, by omega⟩
    have e : k = M := by omega
    subst e
    simp only [l_X1_sumBefore_5, b_X1_sumBefore_5, h.1]
    rw [if_pos (by rw [n_le (by omega) (by omega)]; omega)]
  | succ m ih =>
    intro k n hk hn
    obtain ⟨n, rfl⟩ : ∃ n', n = n' + 1 := ⟨n - 1, by omega⟩
    have hc : ¬ nI M ≤ nI k := fun q => by rw [n_le (by omega) (by omega)] at q; omega
    have hh := (hD.2 k (by omega)).2.2.1
    have ih := ih (k + 1) n (by omega) (by omega)
    rw [sbF_s] at ih
    simp only [l_X1_sumBefore_5, b_X1_sumBefore_5, h.1, if_neg hc, e_inC N (show k < 31 by omega), bnd_s, nI_1, m_leti, inb_n (show k < 12 by omega) (by omega), gd_t, nI_clamp (show k < 2 ^ 31 by omega), (h.2 k (by omega)).2.1, (h.2 k (by omega)).1, b2i_0, nI_add, n_le he (show D 1 k < 2 ^ 31 by omega)]
    cases hb : s.testBit k with
    | true =>
      rw [hb, if_pos rfl] at ih
      rw [if_neg (by decide)]
      by_cases hx : D 1 k < e
      · rw [if_pos hx] at ih
        rw [if_neg (by omega)]
        exact ih
      · rw [if_neg hx] at ih
        rw [if_pos (by omega)]
        exact ih
    | false =>
      rw [hb, if_neg (by decide)] at ih
      rw [if_pos rfl]
      exact ih
theorem e_sbC (hN : 13 ≤ N) (hD : LD M D) (h : LC σ M D) {e : Nat} (he : e < 2 ^ 31) : f_X1_sumBefore N (nI s) (nI e) σ = some (nI (sbF D e s M), σ) := lp_sbC hD h he M 0 N (by omega) (by have := hD.1; omega)
theorem sbF_all {D : Nat → Nat → Nat} {e : Nat} (s : Nat) : ∀ k, (∀ j, j < k → D 1 j < e) → sbF D e s k = sumF (D 0) s k
  | 0, _ => rfl
  | k + 1, h => by
    unfold sbF sumF
    rw [sbF_all s k (fun j hj => h j (by omega)), if_pos (h k (by omega))]
theorem e_sumC (hN : 13 ≤ N) (hD : LD M D) (h : LC σ M D) : f_X1_sumOf N (nI s) σ = some (nI (sumF (D 0) s M), σ) := by
  unfold f_X1_sumOf
  rw [nI_lit 1000, e_sbC hN hD h (by omega), bnd_s, sbF_all s M (fun j hj => by have := (hD.2 j hj).2.2.1; omega)]
end LOOPS
