/-! the reference lays which two go together -/
def KG (τ τ' : Mem) : Prop := ∀ a j, a ≠ 16 → ¬ (a = 0 ∧ j = 37) → τ' a j = τ a j
theorem KG.rf (τ : Mem) : KG τ τ := fun _ _ _ _ => rfl
theorem KG.tr {a b c : Mem} (h : KG a b) (g : KG b c) : KG a c := fun i j q r => (g i j q r).trans (h i j q r)
theorem KG.kr {τ τ' : Mem} (h : KG τ τ') : KR τ τ' := fun a j q => h a j (by unfold psR at q; omega) (by unfold psR at q; omega)
theorem KG.u16 (τ : Mem) (i : Nat) (v : Int32) : KG τ (mu τ 16 i v) := fun a j q _ => by rw [mu_c q]
theorem KG.u37 (τ : Mem) (v : Int32) : KG τ (mu τ 0 37 v) := fun a j _ q => by rw [mu_e, if_neg q]
section PAIRS
variable {N M C : Nat} {D : Nat → Nat → Nat} {gs : Nat → Nat → Int32} {ask : Nat → Bool} {nt : List Nat → Int32}
theorem SR.kg {τ τ' : Mem} (h : SR τ M D C gs ask nt) (hk : KG τ τ') : SR τ' M D C gs ask nt := by
  obtain ⟨h1, h2, h3, h4, h5, h6⟩ := h
  have e7 := hk 0 7 (by omega) (by omega)
  have e34 := hk 0 34 (by omega) (by omega)
  have e25 := hk 0 25 (by omega) (by omega)
  refine ⟨h1.keep hk.kr, h2, h3, by rw [e7]; exact h4, fun c hc => ⟨(h5 c hc).1, (h5 c hc).2.keep hk.kr⟩, ?_⟩
  unfold AskR at *
  rw [e34, e25]
  exact h6
/-- loss t is still in the set w of those that go with i, from j on by g too -/
theorem lp_pair (hN : 13 ≤ N) (K33 : Int32 → Mem → Option (Int32 × Mem)) (K80 : Int32 → Int32 → Mem → Option (Int32 × Mem)) {c i : Nat} (hc : c < C) (hi : i < M) : ∀ m j n (τ : Mem) (w : Nat), j + m = M → m < n → SR τ M D C gs ask nt → τ 16 i = nI w → w < 2 ^ M →
    ∃ τ' w', l_X7_layPairs_90 N K33 K80 n (nI c) (nI i) (nI j) τ = K80 (nI c) (nI (i + 1)) τ' ∧ τ' 16 i = nI w' ∧ w' < 2 ^ M ∧ (∀ t, w'.testBit t = true ↔ w.testBit t = true ∧ (t < j ∨ t = i ∨ ONE (gs c) D M (2 ^ i ||| 2 ^ t))) ∧ KG τ τ' ∧ τ' 0 37 = τ 0 37 ∧ ∀ k, k ≠ i → τ' 16 k = τ 16 k := by
  intro m
  induction m with
  | zero =>
    intro j n τ w hj hn h hw hwl
    obtain ⟨n, rfl⟩ : ∃ n', n = n' + 1 := ⟨n - 1, by omega⟩
    have hM := h.2.1.1
    have e : j = M := by omega
    subst e
    refine ⟨τ, w, ?_, hw, hwl, fun t => ⟨fun q => ⟨q, Or.inl (lt_of_tb hwl q)⟩, fun q => q.1⟩, KG.rf τ, rfl, fun k _ => rfl⟩
    have hle : nI j ≤ nI j := by rw [n_le (by omega) (by omega)]; omega
    simp only [l_X7_layPairs_90, b_X7_layPairs_90, h.1.1, if_pos hle, nI_1]
  | succ m ih =>
    intro j n τ w hj hn h hw hwl
    obtain ⟨n, rfl⟩ : ∃ n', n = n' + 1 := ⟨n - 1, by omega⟩
    have hM := h.2.1.1
    have hle : ¬ nI M ≤ nI j := fun q => by rw [n_le (by omega) (by omega)] at q; omega
    by_cases e : i = j
    · obtain ⟨τ', w', i1, i2, i3, i4, i5, i6, i7⟩ := ih (j + 1) n τ w (by omega) (by omega) h hw hwl
      refine ⟨τ', w', ?_, i2, i3, fun t => ?_, i5, i6, i7⟩
      · simp only [l_X7_layPairs_90, b_X7_layPairs_90, h.1.1, if_neg hle, nI_1]
        rw [if_pos (by rw [e])]
        exact i1
      · rw [i4 t]
        refine and_congr_right (fun _ => ?_)
        constructor
        · rintro (q | q | q)
          · by_cases w : t = i
            · exact Or.inr (Or.inl w)
            · exact Or.inl (by omega)
          · exact Or.inr (Or.inl q)
          · exact Or.inr (Or.inr q)
        · rintro (q | q)
          · exact Or.inl (by omega)
          · exact Or.inr q
    · have hij : ¬ nI i = nI j := fun q => e ((n_eq (by omega) (by omega)).mp q)
      have hs : 2 ^ i ||| 2 ^ j < 2 ^ 31 := Nat.or_lt_two_pow (Nat.pow_lt_pow_right (by decide) (by omega)) (Nat.pow_lt_pow_right (by decide) (by omega))
      have ex : l_X7_layPairs_90 N K33 K80 (n + 1) (nI c) (nI i) (nI j) τ = if b2i (cdec (ONE (gs c) D M (2 ^ i ||| 2 ^ j))) = 0 then l_X7_layPairs_90 N K33 K80 n (nI c) (nI i) (nI (j + 1)) (mu τ 16 i (nI (bdiff w (2 ^ j)))) else l_X7_layPairs_90 N K33 K80 n (nI c) (nI i) (nI (j + 1)) τ := by
        simp only [l_X7_layPairs_90, b_X7_layPairs_90, h.1.1, if_neg hle, if_neg hij, nI_1, n_shl (show i < 31 by omega), n_shl (show j < 31 by omega), fa_or, e_oneR hN h.2.1 h.1 (h.2.2.2.2.1 c hc).2 (h.2.2.2.2.1 c hc).1 hs, bnd_s, inb_n (show i < 12 by omega) (by omega), gd_t, nI_clamp (show i < 2 ^ 31 by omega), hw, n_andn, m_let]
      rw [ex]
      by_cases hO : ONE (gs c) D M (2 ^ i ||| 2 ^ j)
      · rw [cdec_t hO, if_neg (by decide)]
        obtain ⟨τ', w', i1, i2, i3, i4, i5, i6, i7⟩ := ih (j + 1) n τ w (by omega) (by omega) h hw hwl
        refine ⟨τ', w', i1, i2, i3, fun t => ?_, i5, i6, i7⟩
        rw [i4 t]
        refine and_congr_right (fun _ => ?_)
        constructor
        · rintro (q | q | q)
          · by_cases w : t = j
            · exact Or.inr (Or.inr (by rw [w]; exact hO))
            · exact Or.inl (by omega)
          · exact Or.inr (Or.inl q)
          · exact Or.inr (Or.inr q)
        · rintro (q | q)
          · exact Or.inl (by omega)
          · exact Or.inr q
      · rw [cdec_f hO, if_pos b2i_f]
        obtain ⟨τ', w', i1, i2, i3, i4, i5, i6, i7⟩ := ih (j + 1) n (mu τ 16 i (nI (bdiff w (2 ^ j)))) (bdiff w (2 ^ j)) (by omega) (by omega) (h.kg (KG.u16 τ i _)) (mu_s _ _ _ _) (bdiff_lt hwl)
        refine ⟨τ', w', i1, i2, i3, fun t => ?_, (KG.u16 τ i _).tr i5, by rw [i6, mu_c (by decide)], fun k hk => by rw [i7 k hk, mu_k hk]⟩
        rw [i4 t, bdiff_t, Nat.testBit_two_pow, decide_eq_true_iff]
        constructor
        · rintro ⟨⟨q1, q2⟩, q3⟩
          refine ⟨q1, ?_⟩
          rcases q3 with q | q
          · exact Or.inl (by omega)
          · exact Or.inr q
        · rintro ⟨q1, q2⟩
          have hne : ¬ j = t := fun w => by
            subst w
            rcases q2 with q | q | q
            · omega
            · exact e q.symm
            · exact hO q
          refine ⟨⟨q1, hne⟩, ?_⟩
          rcases q2 with q | q
          · exact Or.inl (by omega)
          · exact Or.inr q
def gwI (D : Nat → Nat → Nat) (M : Nat) (τ : Mem) (i : Nat) (ok : Nat → Prop) : Prop := ∃ w, τ 16 i = nI w ∧ w < 2 ^ M ∧ ∀ t, w.testBit t = true ↔ t < M ∧ (t = i ∨ ok t)
theorem gwI.e {τ : Mem} {i : Nat} {p q : Nat → Prop} (h : gwI D M τ i p) (e : ∀ t, p t ↔ q t) : gwI D M τ i q := by
  obtain ⟨w, h1, h2, h3⟩ := h
  exact ⟨w, h1, h2, fun t => by rw [h3 t, e t]⟩
/-- the loop over i, for one cover -/
theorem lp_pairs (hN : 13 ≤ N) (K33 : Int32 → Mem → Option (Int32 × Mem)) {c : Nat} (hc : c < C) (ok : Nat → Nat → Prop) : ∀ m i n (τ : Mem), i + m = M → m < n → SR τ M D C gs ask nt → (∀ k, i ≤ k → k < M → gwI D M τ k (ok k)) →
    ∃ τ', l_X7_layPairs_80 N K33 n (nI c) (nI i) τ = K33 (nI (c + 1)) τ' ∧ (∀ k, i ≤ k → k < M → gwI D M τ' k (fun t => ok k t ∧ ONE (gs c) D M (2 ^ k ||| 2 ^ t))) ∧ (∀ k, k < i → τ' 16 k = τ 16 k) ∧ KG τ τ' ∧ τ' 0 37 = τ 0 37 := by
  intro m
  induction m with
  | zero =>
    intro i n τ hi hn h hg
    obtain ⟨n, rfl⟩ : ∃ n', n = n' + 1 := ⟨n - 1, by omega⟩
    have hM := h.2.1.1
    have e : i = M := by omega
    subst e
    have hle : nI i ≤ nI i := by rw [n_le (by omega) (by omega)]; omega
    refine ⟨τ, ?_, fun k a b => by omega, fun k _ => rfl, KG.rf τ, rfl⟩
    simp only [l_X7_layPairs_80, b_X7_layPairs_80, h.1.1, if_pos hle, nI_1]
  | succ m ih =>
    intro i n τ hi hn h hg
    obtain ⟨n, rfl⟩ : ∃ n', n = n' + 1 := ⟨n - 1, by omega⟩
    have hM := h.2.1.1
    have hle : ¬ nI M ≤ nI i := fun q => by rw [n_le (by omega) (by omega)] at q; omega
    obtain ⟨w, w1, w2, w3⟩ := hg i (Nat.le_refl i) (by omega)
    obtain ⟨τ1, w', i1, i2, i3, i4, i5, i6, i7⟩ := lp_pair hN K33 (l_X7_layPairs_80 N K33 n) hc (show i < M by omega) M 0 N τ w (by omega) (by omega) h w1 w2
    obtain ⟨τ', j1, j2, j3, j4, j5⟩ := ih (i + 1) n τ1 (by omega) (by omega) (h.kg i5) (fun k a b => by
      obtain ⟨u, u1, u2, u3⟩ := hg k (by omega) b
      exact ⟨u, by rw [i7 k (by omega)]; exact u1, u2, u3⟩)
    refine ⟨τ', ?_, fun k a b => ?_, fun k hk => by rw [j3 k (by omega), i7 k (by omega)], i5.tr j4, by rw [j5, i6]⟩
    · simp only [l_X7_layPairs_80, b_X7_layPairs_80, h.1.1, if_neg hle]
      exact i1.trans j1
    · by_cases e : k = i
      · subst e
        refine ⟨w', by rw [j3 k (by omega)]; exact i2, i3, fun t => ?_⟩
        rw [i4 t, w3 t]
        constructor
        · rintro ⟨⟨q1, q2⟩, q3⟩
          refine ⟨q1, ?_⟩
          rcases q3 with q | q | q
          · omega
          · exact Or.inl q
          · exact q2.imp id (fun r => ⟨r, q⟩)
        · rintro ⟨q1, q2⟩
          exact ⟨⟨q1, q2.imp id (fun r => r.1)⟩, Or.inr (q2.imp id (fun r => r.2))⟩
      · exact j2 k (by omega) b
def ask2 (ask : Nat → Bool) (gs : Nat → Nat → Int32) (c : Nat) : Prop := ∃ c', c' < c ∧ ask c' = true ∧ gs c' 2 = 1
def okp (D : Nat → Nat → Nat) (M : Nat) (ask : Nat → Bool) (gs : Nat → Nat → Int32) (c k t : Nat) : Prop := ∀ c', c' < c → ask c' = true → ONE (gs c') D M (2 ^ k ||| 2 ^ t)
theorem lp_covers (hN : 13 ≤ N) : ∀ m c n (τ : Mem), c + m = C → m < n → SR τ M D C gs ask nt → (∀ k, k < M → gwI D M τ k (okp D M ask gs c k)) → τ 0 37 = b2i (cdec (ask2 ask gs c)) →
    ∃ τ', l_X7_layPairs_33 N n (nI c) τ = some (0, τ') ∧ (∀ k, k < M → gwI D M τ' k (okp D M ask gs C k)) ∧ τ' 0 37 = b2i (cdec (ask2 ask gs C)) ∧ KG τ τ' := by
  intro m
  induction m with
  | zero =>
    intro c n τ hc hn h hg ha
    obtain ⟨n, rfl⟩ : ∃ n', n = n' + 1 := ⟨n - 1, by omega⟩
    have h3 := h.2.2.1
    have e : c = C := by omega
    subst e
    have hle : nI c ≤ nI c := by rw [n_le (by omega) (by omega)]; omega
    refine ⟨τ, ?_, hg, ha, KG.rf τ⟩
    simp only [l_X7_layPairs_33, b_X7_layPairs_33, h.2.2.2.1, if_pos hle]
  | succ m ih =>
    intro c n τ hc hn h hg ha
    obtain ⟨n, rfl⟩ : ∃ n', n = n' + 1 := ⟨n - 1, by omega⟩
    have h3 := h.2.2.1
    have hM := h.2.1.1
    have hcC : c < C := by omega
    have hle : ¬ nI C ≤ nI c := fun q => by rw [n_le (by omega) (by omega)] at q; omega
    have e2 : f_X7_wordOf N (nI c) 2 τ = some (gs c 2, τ) := e_wordOf N (h.2.2.2.2.1 c hcC).2 (k := 2) (by omega)
    cases hk : ask c with
    | false =>
      obtain ⟨τ', i1, i2, i3, i4⟩ := ih (c + 1) n τ (by omega) (by omega) h (fun k hk2 => (hg k hk2).e (fun t => ⟨fun q c' a b => by
          by_cases w : c' = c
          · rw [w, hk] at b; cases b
          · exact q c' (by omega) b, fun q c' a b => q c' (by omega) b⟩)) (by
        rw [ha]
        have e : ask2 ask gs c = ask2 ask gs (c + 1) := propext ⟨fun ⟨c', a, b⟩ => ⟨c', by omega, b⟩, fun ⟨c', a, b1, b2⟩ => by
          by_cases w : c' = c
          · rw [w, hk] at b1; cases b1
          · exact ⟨c', by omega, b1, b2⟩⟩
        rw [e])
      refine ⟨τ', ?_, i2, i3, i4⟩
      simp only [l_X7_layPairs_33, b_X7_layPairs_33, h.2.2.2.1, if_neg hle, e_asked h hcC, bnd_s, hk, nI_1]
      rw [if_pos b2i_f]
      exact i1
    | true =>
      have ex : ∃ v, l_X7_layPairs_33 N (n + 1) (nI c) τ = l_X7_layPairs_80 N (l_X7_layPairs_33 N n) N (nI c) (nI 0) (mu τ 0 37 v) ∧ v = b2i (cdec (ask2 ask gs (c + 1))) := by
        by_cases h2 : ask2 ask gs c
        · refine ⟨1, ?_, ?_⟩
          · simp only [l_X7_layPairs_33, b_X7_layPairs_33, h.2.2.2.1, if_neg hle, e_asked h hcC, bnd_s, hk]
            rw [if_neg (by decide), if_neg (by rw [ha, cdec_t h2]; decide), isb_1, gd_t]
            rfl
          · obtain ⟨c', a, b⟩ := h2
            rw [cdec_t (show ask2 ask gs (c + 1) from ⟨c', by omega, b⟩)]
            rfl
        · by_cases g2 : gs c 2 = 1
          · refine ⟨1, ?_, ?_⟩
            · simp only [l_X7_layPairs_33, b_X7_layPairs_33, h.2.2.2.1, if_neg hle, e_asked h hcC, bnd_s, hk]
              rw [if_neg (by decide), if_pos (by rw [ha, cdec_f h2]; rfl), e2, bnd_s, if_pos g2, isb_1, gd_t]
              rfl
            · rw [cdec_t (show ask2 ask gs (c + 1) from ⟨c, by omega, hk, g2⟩)]
              rfl
          · refine ⟨0, ?_, ?_⟩
            · simp only [l_X7_layPairs_33, b_X7_layPairs_33, h.2.2.2.1, if_neg hle, e_asked h hcC, bnd_s, hk]
              rw [if_neg (by decide), if_pos (by rw [ha, cdec_f h2]; rfl), e2, bnd_s, if_neg g2, isb_0, gd_t]
              rfl
            · rw [cdec_f (show ¬ ask2 ask gs (c + 1) from fun ⟨c', a, b1, b2⟩ => by
                by_cases w : c' = c
                · rw [w] at b2; exact g2 b2
                · exact h2 ⟨c', by omega, b1, b2⟩)]
              rfl
      obtain ⟨v, e1, ev⟩ := ex
      obtain ⟨τ1, j1, j2, j3, j4, j5⟩ := lp_pairs hN (l_X7_layPairs_33 N n) hcC (okp D M ask gs c) M 0 N (mu τ 0 37 v) (by omega) (by omega) (h.kg (KG.u37 τ v)) (fun k _ hk2 => by
        obtain ⟨u, u1, u2, u3⟩ := hg k hk2
        exact ⟨u, by rw [mu_c (by decide)]; exact u1, u2, u3⟩)
      obtain ⟨τ', i1, i2, i3, i4⟩ := ih (c + 1) n τ1 (by omega) (by omega) ((h.kg (KG.u37 τ v)).kg j4) (fun k hk2 => (j2 k (by omega) hk2).e (fun t => ⟨fun q c' a b => by
          by_cases w : c' = c
          · rw [w]; exact q.2
          · exact q.1 c' (by omega) b, fun q => ⟨fun c' a b => q c' (by omega) b, q c (by omega) hk⟩⟩)) (by rw [j5, mu_s]; exact ev)
      refine ⟨τ', ?_, i2, i3, ((KG.u37 τ v).tr j4).tr i4⟩
      rw [e1]
      exact j1.trans i1
theorem lp_all (hN : 13 ≤ N) : ∀ m k n (τ : Mem), k + m = M → m < n → SR τ M D C gs ask nt → (∀ i, i < k → τ 16 i = nI (2 ^ M - 1)) → τ 0 37 = 0 →
    ∃ τ', l_X7_layPairs_7 N n (nI k) τ = some (0, τ') ∧ (∀ k, k < M → gwI D M τ' k (okp D M ask gs C k)) ∧ τ' 0 37 = b2i (cdec (ask2 ask gs C)) ∧ KG τ τ' := by
  intro m
  induction m with
  | zero =>
    intro k n τ hk hn h hg ha
    obtain ⟨n, rfl⟩ : ∃ n', n = n' + 1 := ⟨n - 1, by omega⟩
    have h3 := h.2.2.1
    have hM := h.2.1.1
    have e : k = M := by omega
    subst e
    have hle : nI k ≤ nI k := by rw [n_le (by omega) (by omega)]; omega
    have hp : 2 ^ k - 1 < 2 ^ k := by have := Nat.two_pow_pos k; omega
    obtain ⟨τ', i1, i2, i3, i4⟩ := lp_covers hN C 0 N τ (by omega) (by omega) h (fun i hi => ⟨2 ^ k - 1, hg i hi, hp, fun t => by
      rw [Nat.testBit_two_pow_sub_one, decide_eq_true_iff]
      exact ⟨fun q => ⟨q, Or.inr (fun c' a => by omega)⟩, fun q => q.1⟩⟩) (by
      rw [ha, cdec_f (show ¬ ask2 ask gs 0 from fun ⟨c', a, _⟩ => by omega)]
      rfl)
    refine ⟨τ', ?_, i2, i3, i4⟩
    simp only [l_X7_layPairs_7, b_X7_layPairs_7, h.1.1, if_pos hle]
    exact i1
  | succ m ih =>
    intro k n τ hk hn h hg ha
    obtain ⟨n, rfl⟩ : ∃ n', n = n' + 1 := ⟨n - 1, by omega⟩
    have hM := h.2.1.1
    have hle : ¬ nI M ≤ nI k := fun q => by rw [n_le (by omega) (by omega)] at q; omega
    obtain ⟨τ', i1, i2, i3, i4⟩ := ih (k + 1) n (mu τ 16 k (nI (2 ^ M - 1))) (by omega) (by omega) (h.kg (KG.u16 τ k _)) (fun i hi => by
      by_cases e : i = k
      · subst e; exact mu_s _ _ _ _
      · rw [mu_k e]; exact hg i (by omega)) (by rw [mu_c (by decide)]; exact ha)
    refine ⟨τ', ?_, i2, i3, (KG.u16 τ k _).tr i4⟩
    simp only [l_X7_layPairs_7, b_X7_layPairs_7, h.1.1, if_neg hle, e_every N hM h.1.1, bnd_s, inb_n (show k < 12 by omega) (by omega), gd_t, nI_clamp (show k < 2 ^ 31 by omega), m_let, nI_1]
    exact i1
theorem e_layPairs (hN : 13 ≤ N) {τ : Mem} (h : SR τ M D C gs ask nt) : ∃ τ', f_X7_layPairs N τ = some (0, τ') ∧ (∀ k, k < M → gwI D M τ' k (okp D M ask gs C k)) ∧ τ' 0 37 = b2i (cdec (ask2 ask gs C)) ∧ KG τ τ' := by
  have hM := h.2.1.1
  obtain ⟨τ', i1, i2, i3, i4⟩ := lp_all hN M 0 N (mu τ 0 37 0) (by omega) (by omega) (h.kg (KG.u37 τ 0)) (fun i hi => by omega) (mu_s _ _ _ _)
  refine ⟨τ', ?_, i2, i3, (KG.u37 τ 0).tr i4⟩
  unfold f_X7_layPairs
  rw [isb_0, gd_t]
  exact i1
end PAIRS
