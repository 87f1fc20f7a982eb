/-! layers by one parting -/
theorem cnt_all (M : Nat) : cnt M (2 ^ M - 1) = M := by
  have : ∀ k, k ≤ M → fa_cnt (2 ^ M - 1).testBit k = k := by
    intro k
    induction k with
    | zero => intro _; rfl
    | succ k ih =>
      intro hk
      show fa_cnt _ k + (if (2 ^ M - 1).testBit k then 1 else 0) = k + 1
      rw [ih (by omega), Nat.testBit_two_pow_sub_one, if_pos (by simp; omega)]
  exact this M (Nat.le_refl M)
def mil2 (a b : Int32) : Int32 := if a = -1 then b else if b = -1 then a else if a ≤ b then a else b
def gap2 (f : Nat → Int32) : Int32 := if f 3 = 1 then 0 else f 4
def ovl2 (J g : Nat → Int32) : Int32 := if J 3 = 1 then (if g 3 = 1 then 1 else 0) else 0
def nJ (J g : Nat → Int32) : Nat → Int32
  | 0 => imin (J 0) (g 0)
  | 1 => mil2 (J 1) (g 1)
  | 2 => imax (J 2) (g 2)
  | 3 => ovl2 J g
  | 4 => imax (gap2 J) (gap2 g)
  | k => J k
theorem mil_wf {J g : Nat → Int32} (hJ : wfC J) (hg : wfC g) : mil2 (J 1) (g 1) = -1 ∨ ∃ n, n ≤ 99 ∧ mil2 (J 1) (g 1) = nI n := by
  unfold mil2
  split
  · exact hg.2.1
  · split
    · exact hJ.2.1
    · split
      · exact hJ.2.1
      · exact hg.2.1
theorem gap2_n {g : Nat → Int32} (hg : wfC g) : ∃ n, n ≤ 99 ∧ gap2 g = nI n ∧ (g 3 = 1 → n = 0) ∧ (g 3 ≠ 1 → n = wv g 4) := by
  unfold gap2
  by_cases h : g 3 = 1
  · exact ⟨0, by omega, by rw [if_pos h]; rfl, fun _ => rfl, fun q => absurd h q⟩
  · have w := wf4 hg
    exact ⟨wv g 4, w.2, by rw [if_neg h]; exact w.1, fun q => absurd q h, fun _ => rfl⟩
theorem nJ_0 {J g : Nat → Int32} (hJ : wfC J) (hg : wfC g) : nJ J g 0 = nI (min (wv J 0) (wv g 0)) := by
  have a := wf0 hJ
  have b := wf0 hg
  show imin (J 0) (g 0) = _
  rw [a.1, b.1, n_min (by omega) (by omega)]
theorem nJ_4 {J g : Nat → Int32} (hJ : wfC J) (hg : wfC g) : ∃ n m, n ≤ 99 ∧ m ≤ 99 ∧ nJ J g 4 = nI (max n m) ∧ (J 3 = 1 → n = 0) ∧ (J 3 ≠ 1 → n = wv J 4) ∧ (g 3 = 1 → m = 0) ∧ (g 3 ≠ 1 → m = wv g 4) := by
  obtain ⟨n, n1, n2, n3, n4⟩ := gap2_n hJ
  obtain ⟨m, m1, m2, m3, m4⟩ := gap2_n hg
  refine ⟨n, m, n1, m1, ?_, n3, n4, m3, m4⟩
  show imax (gap2 J) (gap2 g) = _
  rw [n2, m2, n_max (by omega) (by omega)]
theorem nJ_wf {J g : Nat → Int32} (hJ : wfC J) (hg : wfC g) : wfC (nJ J g) := by
  have a := wf0 hJ
  have b := wf0 hg
  obtain ⟨n, m, n1, m1, e4, -⟩ := nJ_4 hJ hg
  obtain ⟨-, -, j2, -, -, j5, j6, j7, j8, j9⟩ := id hJ
  refine ⟨⟨_, by omega, by omega, nJ_0 hJ hg⟩, mil_wf hJ hg, ?_, ?_, ⟨_, by omega, e4⟩, j5, j6, j7, j8, j9⟩
  · show imax (J 2) (g 2) = 0 ∨ imax (J 2) (g 2) = 1
    rcases j2 with e | e <;> rcases hg.2.2.1 with e' | e' <;> rw [e, e'] <;> decide
  · show ovl2 J g = 0 ∨ ovl2 J g = 1
    unfold ovl2
    split
    · split
      · exact Or.inr rfl
      · exact Or.inl rfl
    · exact Or.inl rfl
theorem nJ_nearM {J g : Nat → Int32} (hJ : wfC J) (hg : wfC g) (D : Nat → Nat → Nat) (i j : Nat) : nearM (nJ J g) D i j ↔ nearM J D i j ∧ nearM g D i j := by
  have e1 : nJ J g 1 = mil2 (J 1) (g 1) := rfl
  unfold nearM
  generalize adist (D 2 i) (D 2 j) * adist (D 2 i) (D 2 j) + adist (D 3 i) (D 3 j) * adist (D 3 i) (D 3 j) = d
  rcases wf1 hJ with a | ⟨a1, a2, a3⟩
  · have e : nJ J g 1 = g 1 := by rw [e1]; unfold mil2; rw [if_pos a]
    have e' : wv (nJ J g) 1 = wv g 1 := by unfold wv; rw [e]
    rw [e, e']
    exact ⟨fun q => ⟨Or.inl a, q⟩, fun q => q.2⟩
  · rcases wf1 hg with b | ⟨b1, b2, b3⟩
    · have e : nJ J g 1 = J 1 := by rw [e1]; unfold mil2; rw [if_neg a3, if_pos b]
      have e' : wv (nJ J g) 1 = wv J 1 := by unfold wv; rw [e]
      rw [e, e']
      exact ⟨fun q => ⟨q, Or.inl b⟩, fun q => q.1⟩
    · have hle : J 1 ≤ g 1 ↔ wv J 1 ≤ wv g 1 := by
        rw [a1, b1, n_le (by omega) (by omega)]
      by_cases h : J 1 ≤ g 1
      · have e : nJ J g 1 = J 1 := by rw [e1]; unfold mil2; rw [if_neg a3, if_neg b3, if_pos h]
        have e' : wv (nJ J g) 1 = wv J 1 := by unfold wv; rw [e]
        have hs := sq_le (hle.mp h)
        rw [e, e']
        constructor
        · intro q
          have q' := q.resolve_left a3
          exact ⟨q, Or.inr (by omega)⟩
        · exact fun q => q.1
      · have e : nJ J g 1 = g 1 := by rw [e1]; unfold mil2; rw [if_neg a3, if_neg b3, if_neg h]
        have e' : wv (nJ J g) 1 = wv g 1 := by unfold wv; rw [e]
        have hs : wv g 1 * wv g 1 ≤ wv J 1 * wv J 1 := sq_le (by
          rcases Nat.lt_or_ge (wv g 1) (wv J 1) with w | w
          · omega
          · exact absurd (hle.mpr w) h)
        rw [e, e']
        constructor
        · intro q
          have q' := q.resolve_left b3
          exact ⟨Or.inr (by omega), q⟩
        · exact fun q => q.2
theorem joint_s {J g : Nat → Int32} {G : List (Nat → Int32)} (h : Joint J G) (hg : wfC g) : Joint (nJ J g) (G ++ [g]) := by
  obtain ⟨hJ, h1, h2, h3, h4⟩ := h
  have e0 : wv (nJ J g) 0 = min (wv J 0) (wv g 0) := by
    have a := wf0 hJ
    unfold wv
    rw [nJ_0 hJ hg, nI_clamp (by omega)]
    rfl
  have hm : ∀ (P : (Nat → Int32) → Prop), (∀ g' ∈ G ++ [g], P g') ↔ (∀ g' ∈ G, P g') ∧ P g := fun P => by
    constructor
    · intro q
      exact ⟨fun g' hg' => q g' (List.mem_append_left _ hg'), q g (List.mem_append_right _ (List.mem_singleton.mpr rfl))⟩
    · rintro ⟨q1, q2⟩ g' hg'
      rcases List.mem_append.mp hg' with w | w
      · exact q1 g' w
      · rw [List.mem_singleton.mp w]; exact q2
  have e3 : nJ J g 3 = 1 ↔ J 3 = 1 ∧ g 3 = 1 := by
    show ovl2 J g = 1 ↔ _
    unfold ovl2
    by_cases a : J 3 = 1
    · rw [if_pos a]
      by_cases b : g 3 = 1
      · rw [if_pos b]
        exact ⟨fun _ => ⟨a, b⟩, fun _ => rfl⟩
      · rw [if_neg b]
        exact ⟨fun q => absurd q (by decide), fun q => absurd q.2 b⟩
    · rw [if_neg a]
      exact ⟨fun q => absurd q (by decide), fun q => absurd q.1 a⟩
  refine ⟨nJ_wf hJ hg, fun D i j => ?_, ?_, ?_, fun hh l q => ?_⟩
  · rw [hm (fun g' => near g' D i j), ← h1 D i j]
    unfold near
    rw [nJ_nearM hJ hg D i j]
    unfold nearH
    rw [e0]
    constructor
    · rintro ⟨a, b, c⟩
      exact ⟨⟨by omega, b⟩, by omega, c⟩
    · rintro ⟨⟨a, b⟩, c, d⟩
      exact ⟨by omega, b, d⟩
  · show imax (J 2) (g 2) = 1 ↔ _
    have e : (∃ g' ∈ G ++ [g], g' 2 = 1) ↔ (∃ g' ∈ G, g' 2 = 1) ∨ g 2 = 1 := by
      constructor
      · rintro ⟨g', a, b⟩
        rcases List.mem_append.mp a with w | w
        · exact Or.inl ⟨g', w, b⟩
        · rw [List.mem_singleton.mp w] at b; exact Or.inr b
      · rintro (⟨g', a, b⟩ | b)
        · exact ⟨g', List.mem_append_left _ a, b⟩
        · exact ⟨g, List.mem_append_right _ (List.mem_singleton.mpr rfl), b⟩
    rw [e, ← h2]
    rcases hJ.2.2.1 with a | a <;> rcases hg.2.2.1 with b | b <;> rw [a, b] <;> decide
  · rw [e3, hm (fun g' => g' 3 = 1), h3]
  · rw [hm (fun g' => g' 3 ≠ 1 → hh + wv g' 4 < l)]
    obtain ⟨n, m, n1, m1, e4, a1, a2, b1, b2⟩ := nJ_4 hJ hg
    have ew : wv (nJ J g) 4 = max n m := by
      unfold wv
      rw [e4, nI_clamp (by omega)]
    rw [ew]
    by_cases j3 : J 3 = 1
    · have hn := a1 j3
      have hGa := h3.mp j3
      have g3 : g 3 ≠ 1 := fun w => q (e3.mpr ⟨j3, w⟩)
      have hmm := b2 g3
      constructor
      · intro w
        exact ⟨fun g' hg' w' => absurd (hGa g' hg') w', fun _ => by omega⟩
      · intro w
        have := w.2 g3
        omega
    · have hn := a2 j3
      rw [← h4 hh l j3]
      by_cases g3 : g 3 = 1
      · have hmm := b1 g3
        constructor
        · intro w
          exact ⟨by omega, fun w' => absurd g3 w'⟩
        · intro w
          have := w.1
          omega
      · have hmm := b2 g3
        constructor
        · intro w
          exact ⟨by omega, fun _ => by omega⟩
        · intro w
          have := w.2 g3
          omega
section NARROW
variable {N z : Nat} {J g : Nat → Int32}
theorem e_n121 (hz : z < 7) {σ : Mem} (x2 x3 x4 : Int32) : j_X0_narrowBy_121 N (nI 7) (nI z) x2 x3 x4 σ = some (0, mu (mu (mu σ 15 2 (imax (σ 15 2) (σ (8 + z) 2))) 15 3 (if x2 = 0 then 0 else 1)) 15 4 (imax x3 x4)) := by
  have k2 : (2 : Int32).toNatClampNeg = 2 := rfl
  have k3 : (3 : Int32).toNatClampNeg = 3 := rfl
  have k4 : (4 : Int32).toNatClampNeg = 4 := rfl
  unfold j_X0_narrowBy_121
  simp only [inb_n (show 7 < 8 by omega) (show 8 < 2 ^ 31 by omega), inb_n (show z < 8 by omega) (show 8 < 2 ^ 31 by omega), show inb 2 10 = true from rfl, show inb 3 10 = true from rfl, show inb 4 10 = true from rfl, gd_t, m_let, nI_clamp (show 7 < 2 ^ 31 by omega), nI_clamp (show z < 2 ^ 31 by omega), k2, k3, k4]
  by_cases h : x2 = 0
  · rw [if_pos h, if_pos h]
  · rw [if_neg h, if_neg h]
theorem e_n55 (hz : z < 7) {σ : Mem} (hw7 : WC σ 7 J) (hw : WC σ z g) (x2 x3 y0 : Int32) : ∃ σ', j_X0_narrowBy_55 N (nI 7) (nI z) x2 x3 y0 σ = some (0, σ') ∧ (∀ a j, a ≠ 15 → σ' a j = σ a j) ∧ σ' 15 0 = imin (J 0) (g 0) ∧ σ' 15 1 = mil2 (J 1) (g 1) ∧ σ' 15 2 = imax (J 2) (g 2) ∧ σ' 15 3 = (if x2 = 0 then 0 else 1) ∧ σ' 15 4 = imax x3 y0 ∧ ∀ k, 5 ≤ k → σ' 15 k = σ 15 k := by
  have k0 : (0 : Int32).toNatClampNeg = 0 := rfl
  have k1 : (1 : Int32).toNatClampNeg = 1 := rfl
  have hJ : ∀ k, k < 10 → σ 15 k = J k := hw7.2
  generalize hσ8 : mu σ 15 0 (imin (J 0) (g 0)) = σ8
  have q8 : ∀ a j, ¬ (a = 15 ∧ j = 0) → σ8 a j = σ a j := fun a j q => by rw [← hσ8, mu_e, if_neg q]
  have q80 : σ8 15 0 = imin (J 0) (g 0) := by rw [← hσ8, mu_s]
  have ex : j_X0_narrowBy_55 N (nI 7) (nI z) x2 x3 y0 σ = if J 1 = -1 then j_X0_narrowBy_113 N (nI 7) (nI z) x2 x3 y0 (g 1) σ8 else if g 1 = -1 then j_X0_narrowBy_121 N (nI 7) (nI z) x2 x3 y0 σ8 else if J 1 ≤ g 1 then j_X0_narrowBy_121 N (nI 7) (nI z) x2 x3 y0 σ8 else j_X0_narrowBy_113 N (nI 7) (nI z) x2 x3 y0 (g 1) σ8 := by
    unfold j_X0_narrowBy_55
    simp only [inb_n (show 7 < 8 by omega) (show 8 < 2 ^ 31 by omega), inb_n (show z < 8 by omega) (show 8 < 2 ^ 31 by omega), show inb 0 10 = true from rfl, show inb 1 10 = true from rfl, gd_t, m_let, m_leti, nI_clamp (show 7 < 2 ^ 31 by omega), nI_clamp (show z < 2 ^ 31 by omega), k0, k1]
    rw [show σ (8 + 7) 1 = J 1 from hJ 1 (by omega), show σ (8 + 7) 0 = J 0 from hJ 0 (by omega), hw.2 1 (by omega), hw.2 0 (by omega)]
    rw [show mu σ (8 + 7) 0 (imin (J 0) (g 0)) = σ8 from hσ8]
  have e113 : ∀ v, j_X0_narrowBy_113 N (nI 7) (nI z) x2 x3 y0 v σ8 = j_X0_narrowBy_121 N (nI 7) (nI z) x2 x3 y0 (mu σ8 15 1 v) := fun v => by
    unfold j_X0_narrowBy_113
    simp only [inb_n (show 7 < 8 by omega) (show 8 < 2 ^ 31 by omega), show inb 1 10 = true from rfl, gd_t, m_let, nI_clamp (show 7 < 2 ^ 31 by omega), k1]
  have go : ∀ σ9 : Mem, (∀ a j, ¬ (a = 15 ∧ (j = 0 ∨ j = 1)) → σ9 a j = σ a j) → σ9 15 0 = imin (J 0) (g 0) → σ9 15 1 = mil2 (J 1) (g 1) → ∃ σ', j_X0_narrowBy_121 N (nI 7) (nI z) x2 x3 y0 σ9 = some (0, σ') ∧ (∀ a j, a ≠ 15 → σ' a j = σ a j) ∧ σ' 15 0 = imin (J 0) (g 0) ∧ σ' 15 1 = mil2 (J 1) (g 1) ∧ σ' 15 2 = imax (J 2) (g 2) ∧ σ' 15 3 = (if x2 = 0 then 0 else 1) ∧ σ' 15 4 = imax x3 y0 ∧ ∀ k, 5 ≤ k → σ' 15 k = σ 15 k := by
    intro σ9 h1 h2 h3
    refine ⟨_, e_n121 hz x2 x3 y0, fun a j q => ?_, ?_, ?_, ?_, ?_, ?_, fun k hk => ?_⟩
    · rw [mu_c q, mu_c q, mu_c q]
      exact h1 a j (by omega)
    · rw [mu_k (by decide), mu_k (by decide), mu_k (by decide)]
      exact h2
    · rw [mu_k (by decide), mu_k (by decide), mu_k (by decide)]
      exact h3
    · rw [mu_k (by decide), mu_k (by decide), mu_s, h1 15 2 (by omega), h1 (8 + z) 2 (by omega), hJ 2 (by omega), hw.2 2 (by omega)]
    · rw [mu_k (by decide), mu_s]
    · rw [mu_s]
    · rw [mu_k (by omega), mu_k (by omega), mu_k (by omega)]
      exact h1 15 k (by omega)
  have go8 : mil2 (J 1) (g 1) = J 1 → ∃ σ', j_X0_narrowBy_121 N (nI 7) (nI z) x2 x3 y0 σ8 = some (0, σ') ∧ (∀ a j, a ≠ 15 → σ' a j = σ a j) ∧ σ' 15 0 = imin (J 0) (g 0) ∧ σ' 15 1 = mil2 (J 1) (g 1) ∧ σ' 15 2 = imax (J 2) (g 2) ∧ σ' 15 3 = (if x2 = 0 then 0 else 1) ∧ σ' 15 4 = imax x3 y0 ∧ ∀ k, 5 ≤ k → σ' 15 k = σ 15 k := fun e => go σ8 (fun a j q => q8 a j (by omega)) q80 (by rw [q8 15 1 (by omega), hJ 1 (by omega), e])
  have go9 : mil2 (J 1) (g 1) = g 1 → ∃ σ', j_X0_narrowBy_113 N (nI 7) (nI z) x2 x3 y0 (g 1) σ8 = some (0, σ') ∧ (∀ a j, a ≠ 15 → σ' a j = σ a j) ∧ σ' 15 0 = imin (J 0) (g 0) ∧ σ' 15 1 = mil2 (J 1) (g 1) ∧ σ' 15 2 = imax (J 2) (g 2) ∧ σ' 15 3 = (if x2 = 0 then 0 else 1) ∧ σ' 15 4 = imax x3 y0 ∧ ∀ k, 5 ≤ k → σ' 15 k = σ 15 k := fun e => by
    rw [e113]
    exact go _ (fun a j q => by rw [mu_e, if_neg (by omega)]; exact q8 a j (by omega)) (by rw [mu_k (by decide)]; exact q80) (by rw [mu_s, e])
  rw [ex]
  by_cases a : J 1 = -1
  · rw [if_pos a]
    exact go9 (by unfold mil2; rw [if_pos a])
  · rw [if_neg a]
    by_cases b : g 1 = -1
    · rw [if_pos b]
      exact go8 (by unfold mil2; rw [if_neg a, if_pos b])
    · rw [if_neg b]
      by_cases c : J 1 ≤ g 1
      · rw [if_pos c]
        exact go8 (by unfold mil2; rw [if_neg a, if_neg b, if_pos c])
      · rw [if_neg c]
        exact go9 (by unfold mil2; rw [if_neg a, if_neg b, if_neg c])
theorem e_narrow (hz : z < 7) {σ : Mem} (hw7 : WC σ 7 J) (hw : WC σ z g) : ∃ σ', f_X0_narrowBy N (nI 7) (nI z) σ = some (0, σ') ∧ (∀ a j, a ≠ 15 → σ' a j = σ a j) ∧ WC σ' 7 (nJ J g) := by
  have k4 : (4 : Int32).toNatClampNeg = 4 := rfl
  have hJ : ∀ k, k < 10 → σ 15 k = J k := hw7.2
  have e1 := e_overC (N := N) hw7
  have e2 := e_overC (N := N) hw
  have ex : f_X0_narrowBy N (nI 7) (nI z) σ = j_X0_narrowBy_55 N (nI 7) (nI z) (ovl2 J g) (gap2 J) (gap2 g) σ := by
    unfold f_X0_narrowBy j_X0_narrowBy_18 j_X0_narrowBy_19 j_X0_narrowBy_37
    simp only [inb_n (show 7 < 8 by omega) (show 8 < 2 ^ 31 by omega), inb_n (show z < 8 by omega) (show 8 < 2 ^ 31 by omega), show inb 4 10 = true from rfl, gd_t, e1, e2, bnd_s, nI_clamp (show 7 < 2 ^ 31 by omega), nI_clamp (show z < 2 ^ 31 by omega), k4]
    rw [show σ (8 + 7) 4 = J 4 from hJ 4 (by omega), hw.2 4 (by omega)]
    unfold ovl2 gap2
    by_cases a : J 3 = 1
    · by_cases b : g 3 = 1
      · rw [cdec_t a, cdec_t b]
        simp only [if_neg b2i_tn, if_pos a, if_pos b]
      · rw [cdec_t a, cdec_f b]
        simp only [if_neg b2i_tn, if_pos b2i_f, if_pos a, if_neg b]
    · by_cases b : g 3 = 1
      · rw [cdec_f a, cdec_t b]
        simp only [if_neg b2i_tn, if_pos b2i_f, if_neg a, if_pos b]
      · rw [cdec_f a, cdec_f b]
        simp only [if_pos b2i_f, if_neg a, if_neg b]
  obtain ⟨σ', q1, q2, q3, q4, q5, q6, q7, q8⟩ := e_n55 (N := N) hz hw7 hw (ovl2 J g) (gap2 J) (gap2 g)
  refine ⟨σ', by rw [ex, q1], q2, by omega, fun k hk => ?_⟩
  show σ' 15 k = nJ J g k
  match k, hk with
  | 0, _ => exact q3
  | 1, _ => exact q4
  | 2, _ => exact q5
  | 3, _ =>
    rw [q6]
    show _ = ovl2 J g
    unfold ovl2
    by_cases a : J 3 = 1
    · by_cases b : g 3 = 1
      · simp only [if_pos a, if_pos b, if_neg i1_ne0]
      · simp only [if_pos a, if_neg b, if_pos]
    · simp only [if_neg a, if_pos]
  | 4, _ => exact q7
  | k + 5, hk =>
    rw [q8 (k + 5) (by omega), hJ (k + 5) hk]
    rfl
end NARROW
