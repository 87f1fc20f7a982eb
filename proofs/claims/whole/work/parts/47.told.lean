/-! paid, year: sets told by hand -/
theorem n_subz {a b : Nat} (ha : a < 2 ^ 30) (hb : b < 2 ^ 30) : imax (nI a - nI b) 0 = nI (a - b) := by
  have hz : (0 : Int32).toInt = 0 := rfl
  unfold imax
  by_cases h : a < b
  · rw [if_pos (by rw [fa_lt, pk_sub_toInt ha hb, hz]; omega), show a - b = 0 by omega]
    rfl
  · rw [if_neg (by rw [fa_lt, pk_sub_toInt ha hb, hz]; omega), pk_sub (by omega)]
theorem n_subz' {a b : Nat} (ha : a < 2 ^ 30) (hb : b < 2 ^ 30) : imax 0 (nI a - nI b) = nI (a - b) := by
  have hz : (0 : Int32).toInt = 0 := rfl
  unfold imax
  by_cases h : b < a
  · rw [if_pos (by rw [fa_lt, pk_sub_toInt ha hb, hz]; omega), pk_sub (by omega)]
  · rw [if_neg (by rw [fa_lt, pk_sub_toInt ha hb, hz]; omega), show a - b = 0 by omega]
    rfl
/-- what is paid for a happening of so much -/
def payF (g : Nat → Int32) (n : Nat) : Nat := min (n - wv g 5) (wv g 6)
theorem e_payC (N : Nat) {σ : Mem} {z n : Nat} {g : Nat → Int32} (hw : WC σ z g) (hg : wfC g) (hn : n < 2 ^ 30) : f_X0_payFor N (nI z) (nI n) σ = some (nI (payF g n), σ) := by
  have hz := hw.1
  obtain ⟨a1, a2⟩ := wf5 hg
  obtain ⟨b1, b2, b3⟩ := wf6 hg
  have t5 : Int32.toNatClampNeg 5 = 5 := by decide
  have t6 : Int32.toNatClampNeg 6 = 6 := by decide
  have i5 : inb 5 10 = true := by decide
  have i6 : inb 6 10 = true := by decide
  have hj : ∀ y : Nat, y < 2 ^ 30 → j_X0_payFor_22 N (nI z) (nI y) σ = some (nI (min y (wv g 6)), σ) := fun y hy => by
    simp only [j_X0_payFor_22, inb_n hz (by omega), i6, gd_t, t6, nI_clamp (show z < 2 ^ 31 by omega), hw.2 6 (by omega)]
    rw [b1]
    by_cases h : wv g 6 ≤ y
    · rw [if_pos ((n_le (by omega) (by omega)).mpr h), Nat.min_eq_right h]
    · rw [if_neg (fun q => h ((n_le (by omega) (by omega)).mp q)), Nat.min_eq_left (by omega)]
  simp only [f_X0_payFor, inb_n hz (by omega), i5, gd_t, t5, nI_clamp (show z < 2 ^ 31 by omega), hw.2 5 (by omega)]
  rw [a1]
  unfold payF
  by_cases h : n ≤ wv g 5
  · rw [if_pos ((n_le (by omega) (by omega)).mpr h), show n - wv g 5 = 0 by omega]
    exact hj 0 (by omega)
  · rw [if_neg (fun q => h ((n_le (by omega) (by omega)).mp q)), pk_sub (by omega)]
    exact hj _ (by omega)
theorem e_payR (N : Nat) {τ : Mem} {c n : Nat} {g : Nat → Int32} (hw : WR τ c g) (hg : wfC g) (hn : n < 2 ^ 30) : f_X7_paidOf N (nI c) (nI n) τ = some (nI (payF g n), τ) := by
  obtain ⟨a1, a2⟩ := wf5 hg
  obtain ⟨b1, b2, b3⟩ := wf6 hg
  have e5 : f_X7_wordOf N (nI c) 5 τ = some (g 5, τ) := e_wordOf N hw (k := 5) (by omega)
  have e6 : f_X7_wordOf N (nI c) 6 τ = some (g 6, τ) := e_wordOf N hw (k := 6) (by omega)
  simp only [f_X7_paidOf, e5, e6, bnd_s]
  rw [a1, b1, n_subz' (by omega) (by omega), n_min (by omega) (by omega), Nat.min_comm]
  rfl
theorem p_paid {N : Nat} (hN : 13 ≤ N) {σ τ : Mem} (h : Rel σ τ) (x y : Int32) : Same (f_X6_paid N x y σ) (f_X7_paid N x y τ) := by
  obtain ⟨C, hC, c1, c2, c3⟩ := h.cov
  obtain ⟨M, hD, hLC, hLR, -⟩ := h.data
  have hM := hD.1
  have hLR' := hLR.keep (KR.th τ 0)
  have k1 : mu τ 0 0 0 0 7 = nI C := c2
  have hr := Same.mk (-1) (h.th 0)
  simp only [f_X6_paid, f_X7_paid, m_let, e_coverAt N hC c1 h.2.2.2.2, e_isCover, e_isSet N y hM hLR'.1, e_hasAll N y hM hLC.1, bnd_s, k1]
  by_cases h1 : blw x (nI C) = 0
  · rw [if_pos h1, if_pos h1, if_pos (by decide)]
    exact hr
  obtain ⟨c, hc, rfl⟩ := blw_n (by omega) h1
  obtain ⟨g1, g2, g3⟩ := c3 c hc
  rw [if_neg h1, if_neg h1, if_neg (nI_pos (by omega))]
  by_cases h2 : y = 0
  · rw [if_pos h2, if_pos h2, ite_self]
    exact hr
  rw [if_neg h2, if_neg h2]
  by_cases h3 : sub2 y M = 0
  · rw [if_pos h3, if_pos h3]
    exact hr
  obtain ⟨s, hs, rfl⟩ := sub2_n hM h3
  have h4 := n_lt2 hM
  have h5 := sumF_le (f := Dof σ 0) (b := 99) s M (fun j hj => (hD.2 j hj).2.1)
  rw [if_neg h3, if_neg h3, e_sumC hN hD hLC, e_sumR hN hD hLR' (by omega), bnd_s, bnd_s, inb_n (by omega) (by omega), gd_t, e_payC N g2 g1 (by omega), e_payR N (g3.keep (KR.th τ 0)) g1 (by omega), bnd_s, bnd_s]
  exact Same.mk _ (h.th 0)
/-- the set of those k below M that p has -/
def orF (p : Nat → Bool) : Nat → Nat
  | 0 => 0
  | k + 1 => if p k = true then orF p k ||| 2 ^ k else orF p k
theorem orF_s (p : Nat → Bool) (k : Nat) : orF p (k + 1) = if p k = true then orF p k ||| 2 ^ k else orF p k := rfl
theorem orF_tb (p : Nat → Bool) (j : Nat) : ∀ k, (orF p k).testBit j = (decide (j < k) && p j)
  | 0 => by simp [orF]
  | k + 1 => by
    rw [orF_s]
    have ih := orF_tb p j k
    by_cases e : j = k
    · subst e
      by_cases hp : p j = true
      · rw [if_pos hp, Nat.testBit_or, Nat.testBit_two_pow_self]
        simp [hp]
      · rw [if_neg hp, ih]
        simp [hp]
    · have e2 : (decide (j < k + 1)) = decide (j < k) := by
        by_cases q : j < k
        · rw [decide_eq_true q, decide_eq_true (by omega)]
        · rw [decide_eq_false q, decide_eq_false (by omega)]
      rw [e2]
      by_cases hp : p k = true
      · rw [if_pos hp, Nat.testBit_or, ih, Nat.testBit_two_pow_of_ne (by omega)]
        simp
      · rw [if_neg hp, ih]
theorem orF_lt (p : Nat → Bool) : ∀ k, orF p k < 2 ^ k
  | 0 => Nat.one_pos
  | k + 1 => by
    rw [orF_s]
    have ih := orF_lt p k
    have e : 2 ^ (k + 1) = 2 ^ k + 2 ^ k := by rw [Nat.pow_succ]; omega
    split
    · exact Nat.or_lt_two_pow (by omega) (by omega)
    · omega
section TOLD
variable {N M k : Nat} {T : Nat → Nat} {σ τ : Mem}
def same (T : Nat → Nat) (k : Nat) : Nat → Bool := fun j => decide (T j = T k)
theorem lp_hapC (hM : M ≤ 12) (h1 : σ 18 6 = nI M) (hT : ∀ j, j < M → σ 32 j = nI (T j) ∧ T j ≤ 15) (hk : k < M) : ∀ m j n, j + m = M → m < n → l_X5_happeningOf_4 N n (nI k) (nI (orF (same T k) j)) (nI j) σ = some (nI (orF (same T k) M), σ) := by
  intro m
  induction m with
  | zero =>
    intro j n hj hn
    obtain ⟨n, rfl⟩ : ∃ n', n = n' + 1 := ⟨n - 1, by omega⟩
    have e : j = M := by omega
    subst e
    simp only [l_X5_happeningOf_4, b_X5_happeningOf_4, h1]
    rw [if_pos (by rw [n_le (by omega) (by omega)]; omega)]
  | succ m ih =>
    intro j n hj hn
    obtain ⟨n, rfl⟩ : ∃ n', n = n' + 1 := ⟨n - 1, by omega⟩
    have hc : ¬ nI M ≤ nI j := fun q => by rw [n_le (by omega) (by omega)] at q; omega
    have ih := ih (j + 1) n (by omega) (by omega)
    rw [orF_s] at ih
    obtain ⟨a1, a2⟩ := hT j (by omega)
    obtain ⟨b1, b2⟩ := hT k hk
    simp only [l_X5_happeningOf_4, b_X5_happeningOf_4, h1, if_neg hc, m_leti, inb_n (show j < 12 by omega) (by omega), inb_n (show k < 12 by omega) (by omega), gd_t, nI_clamp (show j < 2 ^ 31 by omega), nI_clamp (show k < 2 ^ 31 by omega), a1, b1, nI_1, n_shl (show j < 31 by omega), fa_or]
    by_cases e : T j = T k
    · rw [if_pos (show same T k j = true from decide_eq_true e)] at ih
      rw [if_pos (by rw [e])]
      exact ih
    · rw [if_neg (show ¬ same T k j = true from fun q => e (of_decide_eq_true q))] at ih
      rw [if_neg (by rw [n_eq (by omega) (by omega)]; exact e)]
      exact ih
theorem e_hapC (hN : 13 ≤ N) (hM : M ≤ 12) (h1 : σ 18 6 = nI M) (hT : ∀ j, j < M → σ 32 j = nI (T j) ∧ T j ≤ 15) (hk : k < M) : f_X5_happeningOf N (nI k) σ = some (nI (orF (same T k) M), σ) := lp_hapC hM h1 hT hk M 0 N (by omega) (by omega)
theorem lp_hapR (hM : M ≤ 12) (h1 : τ 0 15 = nI M) (hT : ∀ j, j < M → τ 9 j = nI (T j) ∧ T j ≤ 15) (hk : k < M) : ∀ m j n, j + m = M → m < n → l_X7_toldWith_4 N n (nI k) (nI (orF (same T k) j)) (nI j) τ = some (nI (orF (same T k) M), τ) := by
  intro m
  induction m with
  | zero =>
    intro j n hj hn
    obtain ⟨n, rfl⟩ : ∃ n', n = n' + 1 := ⟨n - 1, by omega⟩
    have e : j = M := by omega
    subst e
    simp only [l_X7_toldWith_4, b_X7_toldWith_4, h1]
    rw [if_pos (by rw [n_le (by omega) (by omega)]; omega)]
  | succ m ih =>
    intro j n hj hn
    obtain ⟨n, rfl⟩ : ∃ n', n = n' + 1 := ⟨n - 1, by omega⟩
    have hc : ¬ nI M ≤ nI j := fun q => by rw [n_le (by omega) (by omega)] at q; omega
    have ih := ih (j + 1) n (by omega) (by omega)
    rw [orF_s] at ih
    obtain ⟨a1, a2⟩ := hT j (by omega)
    obtain ⟨b1, b2⟩ := hT k hk
    have z0 : nI (orF (same T k) j) ||| 0 = nI (orF (same T k) j) := by
      rw [show (0 : Int32) = nI 0 from rfl, fa_or, Nat.or_zero]
    simp only [l_X7_toldWith_4, b_X7_toldWith_4, h1, if_neg hc, m_leti, inb_n (show j < 12 by omega) (by omega), inb_n (show k < 12 by omega) (by omega), gd_t, nI_clamp (show j < 2 ^ 31 by omega), nI_clamp (show k < 2 ^ 31 by omega), a1, b1, nI_1, n_shl (show j < 31 by omega), fa_or, z0]
    by_cases e : T j = T k
    · rw [if_pos (show same T k j = true from decide_eq_true e)] at ih
      rw [if_pos (by rw [e])]
      exact ih
    · rw [if_neg (show ¬ same T k j = true from fun q => e (of_decide_eq_true q))] at ih
      rw [if_neg (by rw [n_eq (by omega) (by omega)]; exact e)]
      exact ih
theorem e_hapR (hN : 13 ≤ N) (hM : M ≤ 12) (h1 : τ 0 15 = nI M) (hT : ∀ j, j < M → τ 9 j = nI (T j) ∧ T j ≤ 15) (hk : k < M) : f_X7_toldWith N (nI k) τ = some (nI (orF (same T k) M), τ) := lp_hapR hM h1 hT hk M 0 N (by omega) (by omega)
end TOLD
theorem low_999 {h : Nat → Nat} {s M j : Nat} (hb : ∀ j, j < M → h j ≤ 999) (hj : j < M) (hs : s.testBit j = true) : lowF h s 1000 M = lowF h s 999 M := by
  have a1 := low_le (h := h) (s := s) (a := 1000) M j hj hs
  have a2 := low_le (h := h) (s := s) (a := 999) M j hj hs
  have a3 := hb j hj
  have key : ∀ k, k ≤ M → lowF h s 999 k = min (lowF h s 1000 k) 999 := by
    intro k
    induction k with
    | zero => intro _; rfl
    | succ k ih =>
      intro hk
      have i1 := ih (by omega)
      have i2 := hb k (by omega)
      rw [lowF_s, lowF_s]
      split
      · rw [i1]; omega
      · exact i1
  have := key M (Nat.le_refl M)
  omega
theorem lp_yearR {N M s e : Nat} {D : Nat → Nat → Nat} {τ : Mem} (hN : 13 ≤ N) (hD : LD M D) (h : LR τ M D) (hs : s < 2 ^ 31) (he : e ≤ 999) : ∀ m k n, k + m = M → m < n → l_X7_year_59 N n (nI e) (nI s) (nI (sbF D e s k)) (nI k) τ = some (if 2 * sbF D e s M < sumF (D 0) s M then 1 else 0, τ) := by
  intro m
  have hM := hD.1
  have hs1 := sumF_le (f := D 0) (b := 99) s M (fun j hj => (hD.2 j hj).2.1)
  have hs2 : ∀ k, k ≤ M → sbF D e s k ≤ 99 * k := by
    intro k
    induction k with
    | zero => intro _; exact Nat.zero_le _
    | succ k ih =>
      intro hk
      have i1 := ih (by omega)
      have i2 := (hD.2 k (by omega)).2.1
      rw [sbF_s]
      split
      · split <;> omega
      · omega
  induction m with
  | zero =>
    intro k n hk hn
    obtain ⟨n, rfl⟩ : ∃ n', n = n' + 1 := ⟨n - 1, by omega⟩
    have e : k = M := by omega
    subst e
    have hs3 := hs2 k (Nat.le_refl k)
    simp only [l_X7_year_59, b_X7_year_59, h.1, e_sumR hN hD h hs, bnd_s]
    rw [if_pos (by rw [n_le (by omega) (by omega)]; omega), nI_lit 2, pk_mul]
    have q := n_lt (a := 2 * sbF D e s k) (b := sumF (D 0) s k) (by omega) (by omega)
    by_cases c : 2 * sbF D e s k < sumF (D 0) s k
    · rw [if_pos (q.mpr c), if_pos c]
    · rw [if_neg (fun z => c (q.mp z)), if_neg c]
  | succ m ih =>
    intro k n hk hn
    obtain ⟨n, rfl⟩ : ∃ n', n = n' + 1 := ⟨n - 1, by omega⟩
    have hc : ¬ nI M ≤ nI k := fun q => by rw [n_le (by omega) (by omega)] at q; omega
    have hh := (hD.2 k (by omega)).2.2.1
    have ih := ih (k + 1) n (by omega) (by omega)
    rw [sbF_s] at ih
    simp only [l_X7_year_59, b_X7_year_59, h.1, if_neg hc, e_hasR N hs (show k < 32 by omega), bnd_s, nI_1, m_leti, inb_n (show k < 12 by omega) (by omega), gd_t, nI_clamp (show k < 2 ^ 31 by omega), (h.2 k (by omega)).2.1, (h.2 k (by omega)).1, b2i_0, nI_add, show nI (sbF D e s k) + 0 = nI (sbF D e s k) from nI_add _ 0]
    have q := n_le (a := e) (b := D 1 k) (by omega) (by omega)
    cases hb : s.testBit k with
    | true =>
      rw [hb, if_pos rfl] at ih
      rw [if_neg (by decide)]
      by_cases hx : D 1 k < e
      · rw [if_pos hx] at ih
        rw [if_neg (fun z => by have := q.mp z; omega)]
        exact ih
      · rw [if_neg hx] at ih
        rw [if_pos (q.mpr (by omega))]
        exact ih
    | false =>
      rw [hb, if_neg (by decide)] at ih
      rw [if_pos rfl]
      exact ih
theorem p_year {N : Nat} (hN : 13 ≤ N) {σ τ : Mem} (h : Rel σ τ) (x y z : Int32) : Same (f_X6_year N x y z σ) (f_X7_year N x y z τ) := by
  obtain ⟨M, hD, hLC, hLR, hT⟩ := h.data
  have hM := hD.1
  have hLR' := hLR.keep (KR.th τ 0)
  have hr := Same.mk (-1) (h.th 0)
  simp only [f_X6_year, f_X7_year, m_let, e_has, e_isLoss, e_isIn, e_isWithin, bnd_s, hLC.1, hLR'.1]
  by_cases h1 : blw x (nI M) = 0
  · rw [if_pos h1, if_pos h1]
    exact hr
  obtain ⟨k, hk, rfl⟩ := blw_n (by omega) h1
  rw [if_neg h1, if_neg h1]
  by_cases h2 : in3 y 0 999 = 0
  · rw [if_pos h2, if_pos h2]
    exact hr
  obtain ⟨e, -, he, rfl⟩ := in3_n (a := 0) (b := 999) (by omega) (by omega) h2
  rw [if_neg h2, if_neg h2, e_hapC hN hM hLC.1 (fun j hj => ⟨(hT j hj).1, (hT j hj).2.1⟩) hk, e_hapR hN hM hLR'.1 (fun j hj => ⟨(hT j hj).2.2, (hT j hj).2.1⟩) hk, bnd_s, bnd_s]
  have hs : orF (same (Dof σ 5) k) M < 2 ^ 31 := Nat.lt_of_lt_of_le (orF_lt _ M) (by have := n_lt2 hM; omega)
  have hin : (orF (same (Dof σ 5) k) M).testBit k = true := by
    rw [orF_tb]
    simp [hk, same]
  by_cases h3 : z = 0
  · rw [if_pos h3, if_pos h3, e_leastC hN hD hLC, e_leastR hN hD hLR' hs, bnd_s, bnd_s, low_999 (fun j hj => (hD.2 j hj).2.2.1) hk hin]
    split
    · exact Same.mk _ (h.th 0)
    · exact Same.mk _ (h.th 0)
  · rw [if_neg h3, if_neg h3]
    have e0 := lp_yearR (s := orF (same (Dof σ 5) k) M) hN hD hLR' hs he M 0 N (by omega) (by omega)
    rw [show (0 : Int32) = nI 0 from rfl, show (nI 0 : Int32) = nI (sbF (Dof σ) e (orF (same (Dof σ 5) k) M) 0) from rfl]
    rw [show (nI (sbF (Dof σ) e (orF (same (Dof σ 5) k) M) 0) : Int32) = nI 0 from rfl]
    rw [show l_X7_year_59 N N (nI e) (nI (orF (same (Dof σ 5) k) M)) (nI 0) (nI 0) (mu τ 0 0 (nI 0)) = _ from e0, e_sbC hN hD hLC (by omega), bnd_s, e_sumC hN hD hLC, bnd_s]
    have b1 := sumF_le (f := Dof σ 0) (b := 99) (orF (same (Dof σ 5) k) M) M (fun j hj => (hD.2 j hj).2.1)
    have b2 : ∀ m, m ≤ M → sbF (Dof σ) e (orF (same (Dof σ 5) k) M) m ≤ sumF (Dof σ 0) (orF (same (Dof σ 5) k) M) m := by
      intro m
      induction m with
      | zero => intro _; exact Nat.le_refl _
      | succ m ih =>
        intro hm
        have := ih (by omega)
        rw [sbF_s, sumF_s]
        split
        · split <;> omega
        · omega
    have b3 := b2 M (Nat.le_refl M)
    rw [pk_sub b3]
    have q := n_lt (a := sbF (Dof σ) e (orF (same (Dof σ 5) k) M) M) (b := sumF (Dof σ 0) (orF (same (Dof σ 5) k) M) M - sbF (Dof σ) e (orF (same (Dof σ 5) k) M) M) (by omega) (by omega)
    by_cases c : 2 * sbF (Dof σ) e (orF (same (Dof σ 5) k) M) M < sumF (Dof σ 0) (orF (same (Dof σ 5) k) M) M
    · rw [if_pos (q.mpr (by omega)), if_pos c]
      exact Same.mk _ (h.th 0)
    · rw [if_neg (fun z => c (by have := q.mp z; omega)), if_neg c]
      exact Same.mk _ (h.th 0)
