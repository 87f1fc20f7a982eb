/-! which losses may be one happening: class and reference say the same -/
noncomputable def cdec (P : Prop) : Bool := @decide P (Classical.propDecidable P)
theorem cdec_iff {P : Prop} : cdec P = true ↔ P := by
  unfold cdec
  exact @decide_eq_true_iff P (Classical.propDecidable P)
theorem cdec_of {P : Prop} {b : Bool} (h : b = true ↔ P) : b = cdec P := by
  cases hb : b with
  | true => exact (cdec_iff.mpr (h.mp hb)).symm
  | false =>
    cases hc : cdec P with
    | false => rfl
    | true => rw [hb] at h; exact absurd (h.mpr (cdec_iff.mp hc)) (by decide)
theorem cdec_t {P : Prop} (h : P) : cdec P = true := cdec_iff.mpr h
theorem cdec_f {P : Prop} (h : ¬ P) : cdec P = false := by
  cases hc : cdec P with
  | false => rfl
  | true => exact absurd (cdec_iff.mp hc) h
/-- a cover's words, as numbers -/
def wv (g : Nat → Int32) (k : Nat) : Nat := (g k).toNatClampNeg
def WC (σ : Mem) (z : Nat) (g : Nat → Int32) : Prop := z < 8 ∧ ∀ k, k < 10 → σ (8 + z) k = g k
def WR (τ : Mem) (c : Nat) (g : Nat → Int32) : Prop := c < 7 ∧ ∀ k, k < 10 → τ 2 (10 * c + k) = g k
theorem wf0 {g : Nat → Int32} (h : wfC g) : g 0 = nI (wv g 0) ∧ 1 ≤ wv g 0 ∧ wv g 0 ≤ 99 := by
  obtain ⟨n, h1, h2, h3⟩ := h.1
  unfold wv
  rw [(cl_e (by omega) h3).2]
  exact ⟨h3, h1, h2⟩
theorem wf1 {g : Nat → Int32} (h : wfC g) : g 1 = -1 ∨ (g 1 = nI (wv g 1) ∧ wv g 1 ≤ 99 ∧ g 1 ≠ -1) := by
  rcases h.2.1 with h1 | ⟨n, h2, h3⟩
  · exact Or.inl h1
  · refine Or.inr ⟨?_, ?_, ?_⟩
    · exact (cl_e (by omega) h3).1
    · unfold wv; rw [(cl_e (by omega) h3).2]; exact h2
    · rw [h3]
      intro q
      rw [fa_eq, nI_toInt (by omega)] at q
      have : (-1 : Int32).toInt = -1 := by decide
      omega
theorem wfn {x : Int32} {b : Nat} (hb : b < 2 ^ 31) (h : ∃ n, n ≤ b ∧ x = nI n) : x = nI x.toNatClampNeg ∧ x.toNatClampNeg ≤ b := by
  obtain ⟨n, h2, h3⟩ := h
  exact ⟨(cl_e (by omega) h3).1, by rw [(cl_e (by omega) h3).2]; exact h2⟩
theorem wf4 {g : Nat → Int32} (h : wfC g) : g 4 = nI (wv g 4) ∧ wv g 4 ≤ 99 := wfn (by omega) h.2.2.2.2.1
theorem wf5 {g : Nat → Int32} (h : wfC g) : g 5 = nI (wv g 5) ∧ wv g 5 ≤ 99 := wfn (by omega) h.2.2.2.2.2.1
theorem wf6 {g : Nat → Int32} (h : wfC g) : g 6 = nI (wv g 6) ∧ 1 ≤ wv g 6 ∧ wv g 6 ≤ 99 := by
  obtain ⟨n, h1, h2, h3⟩ := h.2.2.2.2.2.2.1
  unfold wv
  rw [(cl_e (by omega) h3).2]
  exact ⟨h3, h1, h2⟩
theorem wf7 {g : Nat → Int32} (h : wfC g) : g 7 = nI (wv g 7) ∧ 1 ≤ wv g 7 ∧ wv g 7 ≤ 9 := by
  obtain ⟨n, h1, h2, h3⟩ := h.2.2.2.2.2.2.2.1
  unfold wv
  rw [(cl_e (by omega) h3).2]
  exact ⟨h3, h1, h2⟩
theorem wf8 {g : Nat → Int32} (h : wfC g) : g 8 = nI (wv g 8) ∧ wv g 8 ≤ 99 := wfn (by omega) h.2.2.2.2.2.2.2.2.1
theorem wf9 {g : Nat → Int32} (h : wfC g) : g 9 = nI (wv g 9) ∧ wv g 9 ≤ 99 := wfn (by omega) h.2.2.2.2.2.2.2.2.2
theorem e_wordOf (N : Nat) {τ : Mem} {c k : Nat} {g : Nat → Int32} (h : WR τ c g) (hk : k < 10) : f_X7_wordOf N (nI c) (nI k) τ = some (g k, τ) := by
  have hc := h.1
  unfold f_X7_wordOf
  rw [nI_lit 10, pk_mul, nI_add, inb_n (by omega) (by omega), gd_t, nI_clamp (by omega), h.2 k hk]
def adist (a b : Nat) : Nat := (a - b) + (b - a)
theorem n_sq {a b : Nat} (ha : a < 2 ^ 15) (hb : b < 2 ^ 15) : (nI a - nI b) * (nI a - nI b) = nI (adist a b * adist a b) := by
  unfold adist
  rcases Nat.le_total b a with h | h
  · rw [pk_sub h, pk_mul, show a - b + (b - a) = a - b by omega]
  · have e : nI a - nI b = -(nI (b - a)) := by
      rw [← pk_sub h]
      exact Int32.neg_sub.symm
    rw [e, Int32.neg_mul, Int32.mul_neg, Int32.neg_neg, pk_mul, show a - b + (b - a) = b - a by omega]
theorem n_abs {a b : Nat} (ha : a < 2 ^ 30) (hb : b < 2 ^ 30) : iabs (nI a - nI b) = nI (adist a b) := by
  unfold iabs adist
  have hz : (0 : Int32).toInt = 0 := rfl
  by_cases h : b ≤ a
  · rw [if_pos (by rw [fa_le, pk_sub_toInt ha hb, hz]; omega), pk_sub h, show a - b + (b - a) = a - b by omega]
  · rw [if_neg (by rw [fa_le, pk_sub_toInt ha hb, hz]; omega)]
    have e : (0 : Int32) - (nI a - nI b) = nI b - nI a := by
      rw [Int32.sub_eq_add_neg 0, Int32.neg_sub, Int32.zero_add]
    rw [e, pk_sub (by omega), show a - b + (b - a) = b - a by omega]
def nearH (g : Nat → Int32) (D : Nat → Nat → Nat) (i j : Nat) : Prop := adist (D 1 i) (D 1 j) < wv g 0
def nearM (g : Nat → Int32) (D : Nat → Nat → Nat) (i j : Nat) : Prop := g 1 = -1 ∨ adist (D 2 i) (D 2 j) * adist (D 2 i) (D 2 j) + adist (D 3 i) (D 3 j) * adist (D 3 i) (D 3 j) ≤ wv g 1 * wv g 1
def near (g : Nat → Int32) (D : Nat → Nat → Nat) (i j : Nat) : Prop := nearH g D i j ∧ nearM g D i j
theorem adist_c (a b : Nat) : adist a b = adist b a := by unfold adist; omega
theorem near_c {g : Nat → Int32} {D : Nat → Nat → Nat} {i j : Nat} (h : near g D i j) : near g D j i := by
  unfold near nearH nearM at *
  rw [adist_c (D 1 j), adist_c (D 2 j), adist_c (D 3 j)]
  exact h
theorem near_s {g : Nat → Int32} {D : Nat → Nat → Nat} (hg : wfC g) (i : Nat) : near g D i i := by
  have h := wf0 hg
  unfold near nearH nearM adist
  simp
  omega
theorem adist_le {a b n : Nat} (ha : a ≤ n) (hb : b ≤ n) : adist a b ≤ n := by unfold adist; omega
theorem sq_le {a b : Nat} (h : a ≤ b) : a * a ≤ b * b := Nat.mul_le_mul h h
theorem e_nearC (N : Nat) {σ : Mem} {M z i j : Nat} {g : Nat → Int32} {D : Nat → Nat → Nat} (hD : LD M D) (h : LC σ M D) (hw : WC σ z g) (hg : wfC g) (hi : i < M) (hj : j < M) : f_X1_areNear N (nI z) (nI i) (nI j) σ = some (b2i (cdec (near g D i j)), σ) := by
  have hM := hD.1
  have hz := hw.1
  obtain ⟨-, -, i1, i2, i3, -, -⟩ := hD.2 i hi
  obtain ⟨-, -, j1, j2, j3, -, -⟩ := hD.2 j hj
  obtain ⟨w1, w2, w3⟩ := wf0 hg
  have t0 : Int32.toNatClampNeg 0 = 0 := by decide
  have t1 : Int32.toNatClampNeg 1 = 1 := by decide
  have b0 : inb 0 10 = true := by decide
  have b1 : inb 1 10 = true := by decide
  have s2 := sq_le (adist_le i2 j2)
  have s3 := sq_le (adist_le i3 j3)
  have s1 := adist_le i1 j1
  simp only [f_X1_areNear, m_leti, inb_n (show i < 12 by omega) (by omega), inb_n (show j < 12 by omega) (by omega), inb_n hz (by omega), b0, b1, gd_t, nI_clamp (show i < 2 ^ 31 by omega), nI_clamp (show j < 2 ^ 31 by omega), nI_clamp (show z < 2 ^ 31 by omega), t0, t1, hw.2 0 (by omega), hw.2 1 (by omega), (h.2 i hi).2.1, (h.2 j hj).2.1, (h.2 i hi).2.2.1, (h.2 j hj).2.2.1, (h.2 i hi).2.2.2.1, (h.2 j hj).2.2.2.1, isb_0, isb_1]
  rw [n_abs (by omega) (by omega), n_sq (by omega) (by omega), n_sq (by omega) (by omega), nI_add, w1]
  have q1 := n_lt (a := adist (D 1 i) (D 1 j)) (b := wv g 0) (by omega) (by omega)
  by_cases hh : adist (D 1 i) (D 1 j) < wv g 0
  · rw [if_pos (q1.mpr hh)]
    rcases wf1 hg with e | ⟨e1, e2, e3⟩
    · have hc : cdec (near g D i j) = true := cdec_t ⟨hh, Or.inl e⟩
      rw [if_pos e, hc]
      rfl
    · have s4 := sq_le e2
      rw [if_neg e3, e1, pk_mul]
      have q2 := n_lt (a := wv g 1 * wv g 1) (b := adist (D 2 i) (D 2 j) * adist (D 2 i) (D 2 j) + adist (D 3 i) (D 3 j) * adist (D 3 i) (D 3 j)) (by omega) (by omega)
      by_cases hm : adist (D 2 i) (D 2 j) * adist (D 2 i) (D 2 j) + adist (D 3 i) (D 3 j) * adist (D 3 i) (D 3 j) ≤ wv g 1 * wv g 1
      · have hc : cdec (near g D i j) = true := cdec_t ⟨hh, Or.inr hm⟩
        rw [if_neg (fun q => by have := q2.mp q; omega), hc]
        rfl
      · have hc : cdec (near g D i j) = false := cdec_f (fun q => q.2.elim e3 hm)
        rw [if_pos (q2.mpr (by omega)), hc]
        rfl
  · have hc : cdec (near g D i j) = false := cdec_f (fun q => hh q.1)
    rw [if_neg (fun q => hh (q1.mp q)), hc]
    rfl
theorem e_nearR (N : Nat) {τ : Mem} {M i j : Nat} {g : Nat → Int32} {D : Nat → Nat → Nat} (hD : LD M D) (h : LR τ M D) (hg : wfC g) (h1 : g 1 ≠ -1) (hi : i < M) (hj : j < M) : f_X7_areNear N (nI i) (nI j) (g 1) τ = some (b2i (cdec (nearM g D i j)), τ) := by
  have hM := hD.1
  obtain ⟨-, -, i1, i2, i3, -, -⟩ := hD.2 i hi
  obtain ⟨-, -, j1, j2, j3, -, -⟩ := hD.2 j hj
  have s2 := sq_le (adist_le i2 j2)
  have s3 := sq_le (adist_le i3 j3)
  rcases wf1 hg with e | ⟨e1, e2, e3⟩
  · exact absurd e h1
  have s4 := sq_le e2
  simp only [f_X7_areNear, m_leti, inb_n (show i < 12 by omega) (by omega), inb_n (show j < 12 by omega) (by omega), gd_t, nI_clamp (show i < 2 ^ 31 by omega), nI_clamp (show j < 2 ^ 31 by omega), (h.2 i hi).2.2.1, (h.2 j hj).2.2.1, (h.2 i hi).2.2.2.1, (h.2 j hj).2.2.2.1, isb_0, isb_1]
  rw [n_sq (by omega) (by omega), n_sq (by omega) (by omega), nI_add, e1, pk_mul]
  have q2 := n_lt (a := wv g 1 * wv g 1) (b := adist (D 2 i) (D 2 j) * adist (D 2 i) (D 2 j) + adist (D 3 i) (D 3 j) * adist (D 3 i) (D 3 j)) (by omega) (by omega)
  by_cases hm : adist (D 2 i) (D 2 j) * adist (D 2 i) (D 2 j) + adist (D 3 i) (D 3 j) * adist (D 3 i) (D 3 j) ≤ wv g 1 * wv g 1
  · have hc : cdec (nearM g D i j) = true := cdec_t (Or.inr hm)
    rw [if_neg (fun q => by have := q2.mp q; omega), hc]
    rfl
  · have hc : cdec (nearM g D i j) = false := cdec_f (fun q => q.elim e3 hm)
    rw [if_pos (q2.mpr (by omega)), hc]
    rfl
/-- the causes that may be that of all -/
def candF (c : Nat → Nat) (s : Nat) : Nat → Nat
  | 0 => 63
  | k + 1 => if s.testBit k = true then candF c s k &&& c k else candF c s k
theorem candF_s (c : Nat → Nat) (s k : Nat) : candF c s (k + 1) = if s.testBit k = true then candF c s k &&& c k else candF c s k := rfl
def ONE (g : Nat → Int32) (D : Nat → Nat → Nat) (M s : Nat) : Prop := (∀ i j, i < M → j < M → s.testBit i = true → s.testBit j = true → near g D i j) ∧ (g 2 = 0 ∨ candF (D 4) s M ≠ 0)
section ONES
variable {N M s z c : Nat} {g : Nat → Int32} {D : Nat → Nat → Nat} {σ τ : Mem}
/-- the class's inner loop -/
theorem lp_one_in (hD : LD M D) (h : LC σ M D) (hw : WC σ z g) (hg : wfC g) {i : Nat} (hi : i < M) (K : Int32 → Int32 → Int32 → Int32 → Mem → Option (Int32 × Mem)) (cm : Int32) : ∀ m j n, j + m = M → m < n →
    ((∀ t, j ≤ t → t < M → s.testBit t = true → near g D i t) ∧ l_X1_areOne_42 N K n (nI z) (nI s) cm (nI i) (nI j) σ = K (nI z) (nI s) cm (nI (i + 1)) σ) ∨ ((∃ t, j ≤ t ∧ t < M ∧ s.testBit t = true ∧ ¬ near g D i t) ∧ l_X1_areOne_42 N K n (nI z) (nI s) cm (nI i) (nI j) σ = some (0, σ)) := by
  intro m
  have hM := hD.1
  induction m with
  | zero =>
    intro j n hk hn
    obtain ⟨n, rfl⟩ : ∃ n', n = n' + 1 := ⟨n - 1, by omega⟩
    have e : j = M := by omega
    subst e
    refine Or.inl ⟨fun t h1 h2 => by omega, ?_⟩
    simp only [l_X1_areOne_42, b_X1_areOne_42, h.1, nI_1]
    rw [if_pos (by rw [n_le (by omega) (by omega)]; omega)]
  | succ m ih =>
    intro j n hk hn
    obtain ⟨n, rfl⟩ : ∃ n', n = n' + 1 := ⟨n - 1, by omega⟩
    have hc : ¬ nI M ≤ nI j := fun q => by rw [n_le (by omega) (by omega)] at q; omega
    have ih := ih (j + 1) n (by omega) (by omega)
    have ex : l_X1_areOne_42 N K (n + 1) (nI z) (nI s) cm (nI i) (nI j) σ = if s.testBit j = false then l_X1_areOne_42 N K n (nI z) (nI s) cm (nI i) (nI (j + 1)) σ else if cdec (near g D i j) = false then some (0, σ) else l_X1_areOne_42 N K n (nI z) (nI s) cm (nI i) (nI (j + 1)) σ := by
      simp only [l_X1_areOne_42, b_X1_areOne_42, h.1, if_neg hc, e_inC N (show j < 31 by omega), bnd_s, nI_1, b2i_0, e_nearC N hD h hw hg hi (show j < M by omega), isb_0, gd_t]
    rw [ex]
    by_cases hb : s.testBit j = false
    · rw [if_pos hb]
      rcases ih with ⟨i1, i2⟩ | ⟨⟨t, t1, t2, t3⟩, i2⟩
      · refine Or.inl ⟨fun t h1 h2 h3 => ?_, i2⟩
        by_cases e : t = j
        · subst e; rw [hb] at h3; cases h3
        · exact i1 t (by omega) h2 h3
      · exact Or.inr ⟨⟨t, by omega, t2, t3⟩, i2⟩
    · rw [if_neg hb]
      by_cases hq : near g D i j
      · rw [if_neg (by rw [cdec_iff.mpr hq]; decide)]
        rcases ih with ⟨i1, i2⟩ | ⟨⟨t, t1, t2, t3⟩, i2⟩
        · refine Or.inl ⟨fun t h1 h2 h3 => ?_, i2⟩
          by_cases e : t = j
          · subst e; exact hq
          · exact i1 t (by omega) h2 h3
        · exact Or.inr ⟨⟨t, by omega, t2, t3⟩, i2⟩
      · have hf : cdec (near g D i j) = false := by
          cases hc : cdec (near g D i j) with
          | false => rfl
          | true => exact absurd (cdec_iff.mp hc) hq
        rw [if_pos hf]
        exact Or.inr ⟨⟨j, by omega, by omega, by simpa using hb, hq⟩, rfl⟩
theorem andz {a : Int32} {b n : Nat} (hb : b ≤ 63) (ha : a = -1 ∧ n = 63 ∨ a = nI n) (hn : n ≤ 63) : a &&& nI b = nI (n &&& b) := by
  rcases ha with ⟨rfl, rfl⟩ | rfl
  · apply b_ext
    intro i hi
    have e : (63 : Nat) &&& b = b := by
      have := Nat.and_two_pow_sub_one_eq_mod b 6
      rw [Nat.and_comm]
      simp at this
      rw [this]
      omega
    rw [b_and, b_m1 i hi, e]
    rfl
  · exact fa_and n b
theorem and63 {a b : Nat} (ha : a ≤ 63) : a &&& b ≤ 63 := Nat.le_trans Nat.and_le_left ha
theorem candF_le (c : Nat → Nat) (s : Nat) : ∀ k, candF c s k ≤ 63
  | 0 => Nat.le_refl _
  | k + 1 => by
    rw [candF_s]
    split
    · exact and63 (candF_le c s k)
    · exact candF_le c s k
/-- the class's outer loop -/
theorem lp_one_out (hN : 13 ≤ N) (hD : LD M D) (h : LC σ M D) (hw : WC σ z g) (hg : wfC g) : ∀ m i n (cm : Int32), i + m = M → m < n → (cm = -1 ∧ candF (D 4) s i = 63 ∨ cm = nI (candF (D 4) s i)) → (∀ a b, a < i → b < M → a ≤ b → s.testBit a = true → s.testBit b = true → near g D a b) →
    l_X1_areOne_5 N n (nI z) (nI s) cm (nI i) σ = some (b2i (cdec (ONE g D M s)), σ) := by
  intro m
  have hM := hD.1
  have hz := hw.1
  induction m with
  | zero =>
    intro i n cm hk hn hcm hpre
    obtain ⟨n, rfl⟩ : ∃ n', n = n' + 1 := ⟨n - 1, by omega⟩
    have e : i = M := by omega
    subst e
    have hpairs : ∀ a b, a < i → b < i → s.testBit a = true → s.testBit b = true → near g D a b := by
      intro a b ha hb h1 h2
      rcases Nat.le_total a b with q | q
      · exact hpre a b ha hb q h1 h2
      · exact near_c (hpre b a hb ha q h2 h1)
    have t2 : Int32.toNatClampNeg 2 = 2 := by decide
    have b2 : inb 2 10 = true := by decide
    have hle := candF_le (D 4) s i
    simp only [l_X1_areOne_5, b_X1_areOne_5, h.1, f_X0_asksCauses, inb_n hz (by omega), b2, gd_t, t2, nI_clamp (show z < 2 ^ 31 by omega), hw.2 2 (by omega), isb_0, isb_1]
    rw [if_pos (by rw [n_le (by omega) (by omega)]; omega)]
    by_cases h0 : cm = 0
    · have hz0 : candF (D 4) s i = 0 := by
        rcases hcm with ⟨e, -⟩ | e
        · rw [e] at h0; exact absurd h0 (by decide)
        · rw [e, show (0 : Int32) = nI 0 from rfl, n_eq (by omega) (by omega)] at h0
          exact h0
      rw [if_pos h0]
      rcases hg.2.2.1 with e | e
      · have hc : cdec (ONE g D i s) = true := cdec_t ⟨hpairs, Or.inl e⟩
        rw [if_neg (by rw [e]; decide), bnd_s, if_pos rfl, hc]
        rfl
      · have hc : cdec (ONE g D i s) = false := cdec_f (fun q => q.2.elim (fun q => by rw [e] at q; exact absurd q (by decide)) (fun q => q hz0))
        rw [if_pos e, bnd_s, if_neg (by decide), hc]
        rfl
    · have hnz : candF (D 4) s i ≠ 0 := by
        rcases hcm with ⟨-, e⟩ | e
        · rw [e]; decide
        · intro q
          rw [e, q] at h0
          exact h0 rfl
      have hc : cdec (ONE g D i s) = true := cdec_t ⟨hpairs, Or.inr hnz⟩
      rw [if_neg h0, hc]
      rfl
  | succ m ih =>
    intro i n cm hk hn hcm hpre
    obtain ⟨n, rfl⟩ : ∃ n', n = n' + 1 := ⟨n - 1, by omega⟩
    have hc : ¬ nI M ≤ nI i := fun q => by rw [n_le (by omega) (by omega)] at q; omega
    have hle := candF_le (D 4) s i
    obtain ⟨-, -, -, -, -, c1, c2⟩ := hD.2 i (by omega)
    simp only [l_X1_areOne_5, b_X1_areOne_5, h.1, if_neg hc, e_inC N (show i < 31 by omega), bnd_s, nI_1, b2i_0, m_leti, inb_n (show i < 12 by omega) (by omega), gd_t, nI_clamp (show i < 2 ^ 31 by omega), (h.2 i (by omega)).2.2.2.2]
    by_cases hb : s.testBit i = false
    · rw [if_pos hb]
      refine ih (i + 1) n cm (by omega) (by omega) ?_ ?_
      · rw [candF_s, if_neg (by rw [hb]; decide)]
        exact hcm
      · intro a b ha hb2 hab h1 h2
        by_cases e : a = i
        · subst e; rw [hb] at h1; cases h1
        · exact hpre a b (by omega) hb2 hab h1 h2
    · have hbt : s.testBit i = true := by simpa using hb
      rw [if_neg hb, andz c2 (hcm.elim (fun q => Or.inl q) Or.inr) hle]
      rcases lp_one_in (s := s) hD h hw hg (show i < M by omega) (l_X1_areOne_5 N n) (nI (candF (D 4) s i &&& D 4 i)) (M - (i + 1)) (i + 1) N (by omega) (by omega) with ⟨q1, q2⟩ | ⟨⟨t, t1, t2, t3, t4⟩, q2⟩
      · rw [q2]
        refine ih (i + 1) n _ (by omega) (by omega) (Or.inr ?_) ?_
        · rw [candF_s, if_pos hbt]
        · intro a b ha hb2 hab h1 h2
          by_cases e : a = i
          · subst e
            by_cases e2 : b = a
            · subst e2; exact near_s hg b
            · exact q1 b (by omega) hb2 h2
          · exact hpre a b (by omega) hb2 hab h1 h2
      · have hc : cdec (ONE g D M s) = false := cdec_f (fun q => t4 (q.1 i t (by omega) t2 hbt t3))
        rw [q2, hc]
        rfl
theorem e_oneC (hN : 13 ≤ N) (hD : LD M D) (h : LC σ M D) (hw : WC σ z g) (hg : wfC g) : f_X1_areOne N (nI z) (nI s) σ = some (b2i (cdec (ONE g D M s)), σ) :=
  lp_one_out hN hD h hw hg M 0 N (-1) (by omega) (by have := hD.1; omega) (Or.inl ⟨rfl, rfl⟩) (fun a b ha => absurd ha (Nat.not_lt_zero a))
end ONES
