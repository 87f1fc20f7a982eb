/-! judge -/
def ntzI (x : Int32) : Int32 := ((f_J6_numberOfTrailingZeros_0f7a4 0 x (fun _ _ => 0)).map (fun q => q.1)).getD 0
theorem e_ntz (N : Nat) (x : Int32) (σ : Mem) : f_J6_numberOfTrailingZeros_0f7a4 N x σ = some (ntzI x, σ) := by
  unfold ntzI f_J6_numberOfTrailingZeros_0f7a4
  simp only [m_leti]
  repeat' split
  all_goals rfl
/-- the lowest of a set (12: it has none) -/
def ctz (n : Nat) : Nat := fa_first n.testBit 12
theorem ntz_64 : ∀ a, a < 64 → ∀ b, b < 64 → 64 * a + b ≠ 0 → ntzI (nI (64 * a + b)) = nI (ctz (64 * a + b)) ∧ (64 * a + b) &&& (64 * a + b - 1) = bdiff (64 * a + b) (2 ^ ctz (64 * a + b)) ∧ ctz (64 * a + b) < 12 := by decide +kernel
theorem ntz_n {n : Nat} (h : n < 4096) (h0 : n ≠ 0) : ntzI (nI n) = nI (ctz n) ∧ n &&& (n - 1) = bdiff n (2 ^ ctz n) ∧ ctz n < 12 := by
  have := ntz_64 (n / 64) (by omega) (n % 64) (by omega)
  rw [show 64 * (n / 64) + n % 64 = n by omega] at this
  exact this h0
theorem ctz_tb {n : Nat} (h : n < 4096) (h0 : n ≠ 0) : n.testBit (ctz n) = true := fa_first_yes n.testBit 12 (ntz_n h h0).2.2
theorem ctz_no {n k : Nat} (hk : k < ctz n) : n.testBit k = false := fa_first_no n.testBit 12 k hk
theorem ctz_at {n k : Nat} (h : n < 4096) (h1 : n.testBit k = true) (h2 : ∀ j, j < k → n.testBit j = false) : ctz n = k := by
  have h0 : n ≠ 0 := by
    intro q
    rw [q, Nat.zero_testBit] at h1
    cases h1
  rcases Nat.lt_trichotomy (ctz n) k with q | q | q
  · have := ctz_tb h h0
    rw [h2 _ q] at this
    cases this
  · exact q
  · rw [ctz_no q] at h1
    cases h1
/-- both end with one answer, memories as they were -/
def Two (x y : Option (Int32 × Mem)) (σ τ : Mem) : Prop := ∃ v, x = some (v, σ) ∧ y = some (v, τ)
section JUDGE
variable {N M z : Nat} {g : Nat → Int32} {D : Nat → Nat → Nat} {T : Nat → Nat} {σ τ : Mem}
/-- what bars two losses of a told parting -/
def barP (g : Nat → Int32) (D : Nat → Nat → Nat) (T : Nat → Nat) (M i j : Nat) : Prop :=
  if T i = T j then ¬ ONE g D M (2 ^ i ||| 2 ^ j) else ¬ g 3 = 1 ∧ ¬ (highF (D 1) (orF (same T i) M) M + wv g 4 < lowF (D 1) (orF (same T j) M) 999 M) ∧ ¬ (highF (D 1) (orF (same T j) M) M + wv g 4 < lowF (D 1) (orF (same T i) M) 999 M)
theorem e_overC {N : Nat} (hw : WC σ z g) : f_X0_overlaps N (nI z) σ = some (b2i (cdec (g 3 = 1)), σ) := by
  have hz := hw.1
  have t3 : Int32.toNatClampNeg 3 = 3 := by decide
  have i3 : inb 3 10 = true := by decide
  simp only [f_X0_overlaps, inb_n hz (by omega), i3, gd_t, t3, nI_clamp (show z < 2 ^ 31 by omega), hw.2 3 (by omega), isb_0, isb_1]
  by_cases h : g 3 = 1
  · rw [if_pos h, cdec_t h]; rfl
  · rw [if_neg h, cdec_f h]; rfl
theorem hap_lt {T : Nat → Nat} {M k : Nat} (hM : M ≤ 12) : orF (same T k) M < 2 ^ 31 := Nat.lt_of_lt_of_le (orF_lt _ M) (by have := n_lt2 hM; omega)
theorem hap_in {T : Nat → Nat} {M k : Nat} (hk : k < M) : (orF (same T k) M).testBit k = true := by
  rw [orF_tb]
  simp [hk, same]
theorem e_tooNear {N s t G : Nat} (hN : 13 ≤ N) (hD : LD M D) (h : LC σ M D) (hG : G ≤ 99) : f_X5_areTooNear N (nI s) (nI t) (nI G) σ = some (b2i (cdec (¬ (highF (D 1) s M + G < lowF (D 1) t 999 M) ∧ ¬ (highF (D 1) t M + G < lowF (D 1) s 999 M))), σ) := by
  have b1 := highF_le (h := D 1) (b := 999) s M (fun j hj => (hD.2 j hj).2.2.1)
  have b2 := highF_le (h := D 1) (b := 999) t M (fun j hj => (hD.2 j hj).2.2.1)
  have b3 := lowF_le (D 1) s 999 M
  have b4 := lowF_le (D 1) t 999 M
  have z1 : ¬ (1 : Int32) = 0 := by decide
  simp only [f_X5_areTooNear, j_X5_areTooNear_26, e_mostC hN hD h, e_leastC hN hD h, bnd_s, nI_add, m_leti, isb_0, isb_1, gd_t, ↓reduceIte, if_neg z1]
  have q1 := n_le (a := lowF (D 1) t 999 M) (b := highF (D 1) s M + G) (by omega) (by omega)
  have q2 := n_le (a := lowF (D 1) s 999 M) (b := highF (D 1) t M + G) (by omega) (by omega)
  by_cases c1 : lowF (D 1) t 999 M ≤ highF (D 1) s M + G
  · rw [if_pos (q1.mpr c1)]
    by_cases c2 : lowF (D 1) s 999 M ≤ highF (D 1) t M + G
    · rw [if_pos (q2.mpr c2), cdec_t ⟨by omega, by omega⟩]; rfl
    · rw [if_neg (fun q => c2 (q2.mp q)), cdec_f (fun q => by omega)]; rfl
  · rw [if_neg (fun q => c1 (q1.mp q)), ite_self, cdec_f (fun q => by omega)]; rfl
theorem e_barC (hN : 13 ≤ N) (hD : LD M D) (h : LC σ M D) (hw : WC σ z g) (hg : wfC g) (hT : ∀ j, j < M → σ 32 j = nI (T j) ∧ T j ≤ 15) {i j : Nat} (hi : i < M) (hj : j < M) : f_X5_bar N (nI z) (nI i) (nI j) σ = some (b2i (cdec (barP g D T M i j)), σ) := by
  have hM := hD.1
  have hz := hw.1
  obtain ⟨a1, a2⟩ := hT i hi
  obtain ⟨b1, b2⟩ := hT j hj
  obtain ⟨w1, w2⟩ := wf4 hg
  have t4 : Int32.toNatClampNeg 4 = 4 := by decide
  have i4 : inb 4 10 = true := by decide
  unfold barP
  simp only [f_X5_bar, inb_n (show i < 12 by omega) (by omega), inb_n (show j < 12 by omega) (by omega), inb_n hz (by omega), i4, gd_t, t4, nI_clamp (show i < 2 ^ 31 by omega), nI_clamp (show j < 2 ^ 31 by omega), nI_clamp (show z < 2 ^ 31 by omega), a1, b1, n_shl (show i < 31 by omega), n_shl (show j < 31 by omega), fa_or, e_oneC hN hD h hw hg, bnd_s, e_overC hw, e_hapC hN hM h.1 hT hi, e_hapC hN hM h.1 hT hj, hw.2 4 (by omega), isb_0, isb_1, b2i_0]
  by_cases e : T i = T j
  · rw [if_pos (by rw [e]), if_pos e]
    by_cases ho : ONE g D M (2 ^ i ||| 2 ^ j)
    · rw [if_neg (by rw [cdec_t ho]; decide), cdec_f (fun q => q ho)]; rfl
    · rw [if_pos (cdec_f ho), cdec_t ho]; rfl
  · rw [if_neg (by rw [n_eq (by omega) (by omega)]; exact e), if_neg e]
    by_cases h3 : g 3 = 1
    · rw [if_neg (by rw [cdec_t h3]; decide), cdec_f (fun q => q.1 h3)]; rfl
    · rw [if_pos (cdec_f h3), w1, e_tooNear hN hD h w2, bnd_s]
      by_cases hq : ¬ (highF (D 1) (orF (same T i) M) M + wv g 4 < lowF (D 1) (orF (same T j) M) 999 M) ∧ ¬ (highF (D 1) (orF (same T j) M) M + wv g 4 < lowF (D 1) (orF (same T i) M) 999 M)
      · rw [if_neg (by rw [cdec_t hq]; decide), cdec_t ⟨h3, hq⟩]; rfl
      · rw [if_pos (b2i_0.mpr (cdec_f hq)), cdec_f (fun q => hq q.2)]; rfl
theorem e_apartR {s t i j : Nat} (hN : 13 ≤ N) (hD : LD M D) (h : LR τ M D) (hw : WR τ z g) (hg : wfC g) (hs : s < 2 ^ 31) (ht : t < 2 ^ 31) (hi : i < M) (hi2 : s.testBit i = true) (hj : j < M) (hj2 : t.testBit j = true) : f_X7_areApart N (nI z) (nI s) (nI t) τ = some (b2i (cdec (g 3 = 1 ∨ highF (D 1) s M + wv g 4 < lowF (D 1) t 999 M ∨ highF (D 1) t M + wv g 4 < lowF (D 1) s 999 M)), τ) := by
  obtain ⟨w1, w2⟩ := wf4 hg
  have e3 : f_X7_wordOf N (nI z) 3 τ = some (g 3, τ) := e_wordOf N hw (k := 3) (by omega)
  have e4 : f_X7_wordOf N (nI z) 4 τ = some (g 4, τ) := e_wordOf N hw (k := 4) (by omega)
  have hb : ∀ j, j < M → D 1 j ≤ 999 := fun j hj => (hD.2 j hj).2.2.1
  have b1 := highF_le (h := D 1) (b := 999) s M hb
  have b2 := highF_le (h := D 1) (b := 999) t M hb
  have b3 := lowF_le (D 1) s 999 M
  have b4 := lowF_le (D 1) t 999 M
  have x1 : highI (D 1) s M = nI (highF (D 1) s M) := by
    rcases highI_eq (D 1) s M (fun j hj => by have := hb j hj; omega) with ⟨q, -⟩ | ⟨-, q⟩
    · rw [q i hi] at hi2; cases hi2
    · exact q
  have x2 : highI (D 1) t M = nI (highF (D 1) t M) := by
    rcases highI_eq (D 1) t M (fun j hj => by have := hb j hj; omega) with ⟨q, -⟩ | ⟨-, q⟩
    · rw [q j hj] at hj2; cases hj2
    · exact q
  simp only [f_X7_areApart, e3, e4, bnd_s, e_mostR hN hD h hs, e_mostR hN hD h ht, e_leastR hN hD h hs, e_leastR hN hD h ht, x1, x2, w1, nI_add, low_999 hb hi hi2, low_999 hb hj hj2, isb_0, isb_1, gd_t]
  have q1 := n_lt (a := highF (D 1) s M + wv g 4) (b := lowF (D 1) t 999 M) (by omega) (by omega)
  have q2 := n_le (a := lowF (D 1) s 999 M) (b := highF (D 1) t M + wv g 4) (by omega) (by omega)
  by_cases h3 : g 3 = 1
  · rw [if_pos h3, cdec_t (Or.inl h3)]; rfl
  · rw [if_neg h3]
    by_cases c1 : highF (D 1) s M + wv g 4 < lowF (D 1) t 999 M
    · rw [if_pos (q1.mpr c1), cdec_t (Or.inr (Or.inl c1))]; rfl
    · rw [if_neg (fun q => c1 (q1.mp q))]
      by_cases c2 : lowF (D 1) s 999 M ≤ highF (D 1) t M + wv g 4
      · rw [if_pos (q2.mpr c2), cdec_f (fun q => q.elim h3 (fun q => q.elim c1 (fun q => by omega)))]; rfl
      · rw [if_neg (fun q => c2 (q2.mp q)), cdec_t (Or.inr (Or.inr (by omega)))]; rfl
theorem e_barR (hN : 13 ≤ N) (hD : LD M D) (h : LR τ M D) (hw : WR τ z g) (hg : wfC g) (hT : ∀ j, j < M → τ 9 j = nI (T j) ∧ T j ≤ 15) {i j : Nat} (hi : i < M) (hj : j < M) : f_X7_bars N (nI z) (nI i) (nI j) τ = some (b2i (cdec (barP g D T M i j)), τ) := by
  have hM := hD.1
  obtain ⟨a1, a2⟩ := hT i hi
  obtain ⟨b1, b2⟩ := hT j hj
  have hp : 2 ^ i ||| 2 ^ j < 2 ^ 31 := by
    have h1 : 2 ^ i < 2 ^ 12 := Nat.pow_lt_pow_right (by decide) (by omega)
    have h2 : 2 ^ j < 2 ^ 12 := Nat.pow_lt_pow_right (by decide) (by omega)
    exact Nat.lt_of_lt_of_le (Nat.or_lt_two_pow h1 h2) (by decide)
  unfold barP
  simp only [f_X7_bars, inb_n (show i < 12 by omega) (by omega), inb_n (show j < 12 by omega) (by omega), gd_t, nI_clamp (show i < 2 ^ 31 by omega), nI_clamp (show j < 2 ^ 31 by omega), a1, b1, n_shl (show i < 31 by omega), n_shl (show j < 31 by omega), fa_or, e_oneR hN hD h hw hg hp, bnd_s, e_hapR hN hM h.1 hT hi, e_hapR hN hM h.1 hT hj, e_apartR hN hD h hw hg (hap_lt hM) (hap_lt hM) hi (hap_in hi) hj (hap_in hj), isb_0, isb_1, b2i_0]
  by_cases e : T i = T j
  · rw [if_pos (by rw [e]), if_pos e]
    by_cases ho : ONE g D M (2 ^ i ||| 2 ^ j)
    · rw [if_neg (by rw [cdec_t ho]; decide), cdec_f (fun q => q ho)]; rfl
    · rw [if_pos (cdec_f ho), cdec_t ho]; rfl
  · rw [if_neg (by rw [n_eq (by omega) (by omega)]; exact e), if_neg e]
    by_cases hq : g 3 = 1 ∨ highF (D 1) (orF (same T i) M) M + wv g 4 < lowF (D 1) (orF (same T j) M) 999 M ∨ highF (D 1) (orF (same T j) M) M + wv g 4 < lowF (D 1) (orF (same T i) M) 999 M
    · rw [if_neg (by rw [cdec_t hq]; decide), cdec_f (fun q => hq.elim q.1 (fun r => r.elim q.2.1 q.2.2))]; rfl
    · rw [if_pos (cdec_f hq), cdec_t ⟨fun q => hq (Or.inl q), fun q => hq (Or.inr (Or.inl q)), fun q => hq (Or.inr (Or.inr q))⟩]; rfl
/-- the second loops: the first happening that may not be one -/
theorem lp_judge2 (hN : 13 ≤ N) (hD : LD M D) (hC : LC σ M D) (hR : LR τ M D) (hwC : WC σ z g) (hwR : WR τ z g) (hg : wfC g) (hTC : ∀ j, j < M → σ 32 j = nI (T j) ∧ T j ≤ 15) (hTR : ∀ j, j < M → τ 9 j = nI (T j) ∧ T j ≤ 15) : ∀ m i n n', i + m = M → m < n → m < n' → (∀ a, a < i → ONE g D M (orF (same T a) M)) →
    Two (l_X5_firstBar_59 N n (nI z) (nI i) σ) (l_X7_judged_53 N n' (nI z) (nI i) τ) σ τ := by
  intro m
  have hM := hD.1
  induction m with
  | zero =>
    intro i n n' hi hn hn' _
    obtain ⟨n, rfl⟩ : ∃ q, n = q + 1 := ⟨n - 1, by omega⟩
    obtain ⟨n', rfl⟩ : ∃ q, n' = q + 1 := ⟨n' - 1, by omega⟩
    have e : i = M := by omega
    subst e
    have hc : nI i ≤ nI i := by rw [n_le (by omega) (by omega)]; omega
    simp only [l_X5_firstBar_59, b_X5_firstBar_59, l_X7_judged_53, b_X7_judged_53, hC.1, hR.1, if_pos hc]
    exact ⟨_, rfl, rfl⟩
  | succ m ih =>
    intro i n n' hi hn hn' hpre
    obtain ⟨n, rfl⟩ : ∃ q, n = q + 1 := ⟨n - 1, by omega⟩
    obtain ⟨n', rfl⟩ : ∃ q, n' = q + 1 := ⟨n' - 1, by omega⟩
    have hc : ¬ nI M ≤ nI i := fun q => by rw [n_le (by omega) (by omega)] at q; omega
    have hiM : i < M := by omega
    have ht := hap_in (T := T) hiM
    have hs4 : orF (same T i) M < 4096 := Nat.lt_of_lt_of_le (orF_lt _ M) (n_lt2 hM)
    have hs0 : orF (same T i) M ≠ 0 := by
      intro q
      rw [q, Nat.zero_testBit] at ht
      cases ht
    obtain ⟨z1, z2, z3⟩ := ntz_n hs4 hs0
    have em1 : nI (orF (same T i) M) - 1 = nI (orF (same T i) M - 1) := by
      rw [nI_lit 1, pk_sub (by omega)]
    simp only [l_X5_firstBar_59, b_X5_firstBar_59, l_X7_judged_53, b_X7_judged_53, hC.1, hR.1, if_neg hc, e_hapC hN hM hC.1 hTC hiM, e_hapR hN hM hR.1 hTR hiM, bnd_s, e_oneC hN hD hC hwC hg, e_oneR hN hD hR hwR hg (hap_lt hM), e_ntz, b2i_0, nI_1, m_leti, z1, em1, fa_and, z2, n_shl (show i < 31 by omega), n_andn]
    by_cases hlow : ctz (orF (same T i) M) = i
    · rw [hlow, if_pos rfl]
      by_cases ho : ONE g D M (orF (same T i) M)
      · rw [if_neg (by rw [cdec_t ho]; decide), if_neg (by rw [cdec_t ho]; decide)]
        refine ih (i + 1) n n' (by omega) (by omega) (by omega) (fun a ha => ?_)
        by_cases e : a = i
        · subst e; exact ho
        · exact hpre a (by omega)
      · rw [if_pos (cdec_f ho), if_pos (cdec_f ho)]
        exact ⟨_, rfl, rfl⟩
    · have hlt : ctz (orF (same T i) M) < i := by
        rcases Nat.lt_trichotomy (ctz (orF (same T i) M)) i with q | q | q
        · exact q
        · exact absurd q hlow
        · rw [ctz_no q] at ht; cases ht
      have htb := ctz_tb hs4 hs0
      rw [orF_tb] at htb
      have hsame : T (ctz (orF (same T i) M)) = T i := by
        have := (Bool.and_eq_true _ _).mp htb
        exact of_decide_eq_true this.2
      have ho : ONE g D M (orF (same T i) M) := by
        have := hpre _ hlt
        have e : same T (ctz (orF (same T i) M)) = same T i := by
          funext j
          show decide (T j = T (ctz (orF (same T i) M))) = decide (T j = T i)
          rw [hsame]
        rwa [e] at this
      rw [if_neg (by rw [cdec_t ho]; decide), if_neg (by rw [n_eq (by omega) (by omega)]; exact hlow)]
      refine ih (i + 1) n n' (by omega) (by omega) (by omega) (fun a ha => ?_)
      by_cases e : a = i
      · subst e; exact ho
      · exact hpre a (by omega)
theorem lp_judge1_in (hN : 13 ≤ N) (hD : LD M D) (hC : LC σ M D) (hR : LR τ M D) (hwC : WC σ z g) (hwR : WR τ z g) (hg : wfC g) (hTC : ∀ j, j < M → σ 32 j = nI (T j) ∧ T j ≤ 15) (hTR : ∀ j, j < M → τ 9 j = nI (T j) ∧ T j ≤ 15) {i : Nat} (hi : i < M) {KC' KR' : Int32 → Int32 → Mem → Option (Int32 × Mem)} (hK : Two (KC' (nI z) (nI (i + 1)) σ) (KR' (nI z) (nI (i + 1)) τ) σ τ) : ∀ m j n n', j + m = M → m < n → m < n' →
    Two (l_X5_firstBar_17 N KC' n (nI z) (nI i) (nI j) σ) (l_X7_judged_14 N KR' n' (nI z) (nI i) (nI j) τ) σ τ := by
  intro m
  have hM := hD.1
  induction m with
  | zero =>
    intro j n n' hj hn hn'
    obtain ⟨n, rfl⟩ : ∃ q, n = q + 1 := ⟨n - 1, by omega⟩
    obtain ⟨n', rfl⟩ : ∃ q, n' = q + 1 := ⟨n' - 1, by omega⟩
    have e : j = M := by omega
    subst e
    have hc : nI j ≤ nI j := by rw [n_le (by omega) (by omega)]; omega
    simp only [l_X5_firstBar_17, b_X5_firstBar_17, l_X7_judged_14, b_X7_judged_14, hC.1, hR.1, if_pos hc, nI_1]
    exact hK
  | succ m ih =>
    intro j n n' hj hn hn'
    obtain ⟨n, rfl⟩ : ∃ q, n = q + 1 := ⟨n - 1, by omega⟩
    obtain ⟨n', rfl⟩ : ∃ q, n' = q + 1 := ⟨n' - 1, by omega⟩
    have hc : ¬ nI M ≤ nI j := fun q => by rw [n_le (by omega) (by omega)] at q; omega
    simp only [l_X5_firstBar_17, b_X5_firstBar_17, l_X7_judged_14, b_X7_judged_14, hC.1, hR.1, if_neg hc, e_barC hN hD hC hwC hg hTC hi (show j < M by omega), e_barR hN hD hR hwR hg hTR hi (show j < M by omega), bnd_s, b2i_0, nI_1]
    by_cases hb : cdec (barP g D T M i j) = false
    · rw [if_pos hb, if_pos hb]
      exact ih (j + 1) n n' (by omega) (by omega) (by omega)
    · rw [if_neg hb, if_neg hb]
      exact ⟨_, rfl, rfl⟩
theorem lp_judge1 (hN : 13 ≤ N) (hD : LD M D) (hC : LC σ M D) (hR : LR τ M D) (hwC : WC σ z g) (hwR : WR τ z g) (hg : wfC g) (hTC : ∀ j, j < M → σ 32 j = nI (T j) ∧ T j ≤ 15) (hTR : ∀ j, j < M → τ 9 j = nI (T j) ∧ T j ≤ 15) : ∀ m i n n', i + m = M → m < n → m < n' →
    Two (l_X5_firstBar_2 N n (nI z) (nI i) σ) (l_X7_judged_2 N n' (nI z) (nI i) τ) σ τ := by
  intro m
  have hM := hD.1
  induction m with
  | zero =>
    intro i n n' hi hn hn'
    obtain ⟨n, rfl⟩ : ∃ q, n = q + 1 := ⟨n - 1, by omega⟩
    obtain ⟨n', rfl⟩ : ∃ q, n' = q + 1 := ⟨n' - 1, by omega⟩
    have e : i = M := by omega
    subst e
    have hc : nI i ≤ nI i := by rw [n_le (by omega) (by omega)]; omega
    simp only [l_X5_firstBar_2, b_X5_firstBar_2, l_X7_judged_2, b_X7_judged_2, hC.1, hR.1, if_pos hc]
    exact lp_judge2 hN hD hC hR hwC hwR hg hTC hTR i 0 N N (by omega) (by omega) (by omega) (fun a ha => absurd ha (Nat.not_lt_zero a))
  | succ m ih =>
    intro i n n' hi hn hn'
    obtain ⟨n, rfl⟩ : ∃ q, n = q + 1 := ⟨n - 1, by omega⟩
    obtain ⟨n', rfl⟩ : ∃ q, n' = q + 1 := ⟨n' - 1, by omega⟩
    have hc : ¬ nI M ≤ nI i := fun q => by rw [n_le (by omega) (by omega)] at q; omega
    simp only [l_X5_firstBar_2, b_X5_firstBar_2, l_X7_judged_2, b_X7_judged_2, hC.1, hR.1, if_neg hc, m_leti, nI_1]
    exact lp_judge1_in hN hD hC hR hwC hwR hg hTC hTR (show i < M by omega) (ih (i + 1) n n' (by omega) (by omega) (by omega)) (M - (i + 1)) (i + 1) N N (by omega) (by omega) (by omega)
theorem e_judge (hN : 13 ≤ N) (hD : LD M D) (hC : LC σ M D) (hR : LR τ M D) (hwC : WC σ z g) (hwR : WR τ z g) (hg : wfC g) (hTC : ∀ j, j < M → σ 32 j = nI (T j) ∧ T j ≤ 15) (hTR : ∀ j, j < M → τ 9 j = nI (T j) ∧ T j ≤ 15) :
    Two (f_X5_firstBar N (nI z) σ) (f_X7_judged N (nI z) τ) σ τ := lp_judge1 hN hD hC hR hwC hwR hg hTC hTR M 0 N N (by omega) (by have := hD.1; omega) (by have := hD.1; omega)
end JUDGE
theorem p_judge {N : Nat} (hN : 13 ≤ N) {σ τ : Mem} (h : Rel σ τ) (x : Int32) : Same (f_X6_judge N x σ) (f_X7_judge N x τ) := by
  obtain ⟨C, hC, c1, c2, c3⟩ := h.cov
  obtain ⟨M, hD, hLC, hLR, hT⟩ := h.data
  have hLR' := hLR.keep (KR.th τ 0)
  have k1 : mu τ 0 0 0 0 7 = nI C := c2
  have hr := Same.mk (-1) (h.th 0)
  simp only [f_X6_judge, f_X7_judge, m_let, e_coverAt N hC c1 h.2.2.2.2, e_isCover, bnd_s, k1]
  by_cases h1 : blw x (nI C) = 0
  · rw [if_pos h1, if_pos h1, if_pos (by decide)]
    exact hr
  obtain ⟨c, hc, rfl⟩ := blw_n (by omega) h1
  obtain ⟨g1, g2, g3⟩ := c3 c hc
  rw [if_neg h1, if_neg h1, if_neg (nI_pos (by omega))]
  obtain ⟨v, e1, e2⟩ := e_judge hN hD hLC hLR' g2 (g3.keep (KR.th τ 0)) g1 (fun j hj => ⟨(hT j hj).1, (hT j hj).2.1⟩) (fun j hj => ⟨(hT j hj).2.2, (hT j hj).2.1⟩)
  rw [e1, e2, bnd_s, bnd_s]
  exact Same.mk _ (h.th 0)
