/-! the reference parts losses that may overlap -/
def GP (S : Nat) (cp : Nat → Nat → Prop) : Nat → Nat → List Nat → List Nat → Prop
  | 0, _, P, Q => Q = P
  | m + 1, k, P, Q => (S.testBit k = false ∧ GP S cp m (k + 1) P Q) ∨ (S.testBit k = true ∧ ((∃ p s, P[p]? = some s ∧ cp s k ∧ GP S cp m (k + 1) (P.set p (s ||| 2 ^ k)) Q) ∨ GP S cp m (k + 1) (P ++ [2 ^ k]) Q))
theorem GP_s (S : Nat) (cp : Nat → Nat → Prop) (m k : Nat) (P Q : List Nat) : GP S cp (m + 1) k P Q = ((S.testBit k = false ∧ GP S cp m (k + 1) P Q) ∨ (S.testBit k = true ∧ ((∃ p s, P[p]? = some s ∧ cp s k ∧ GP S cp m (k + 1) (P.set p (s ||| 2 ^ k)) Q) ∨ GP S cp m (k + 1) (P ++ [2 ^ k]) Q))) := rfl
def PC (D : Nat → Nat → Nat) (M : Nat) (τ : Mem) (P : List Nat) : Prop := ∀ j s, P[j]? = some s → τ 17 j = nI (candF (D 4) s M)
section PART
variable {N M C S : Nat} {D : Nat → Nat → Nat} {gs : Nat → Nat → Int32} {ask : Nat → Bool} {nt : List Nat → Int32}
def cpR (D : Nat → Nat → Nat) (M : Nat) (ask : Nat → Bool) (gs : Nat → Nat → Int32) (C s k : Nat) : Prop := (∀ t, s.testBit t = true → okp D M ask gs C k t) ∧ (ask2 ask gs C → candF (D 4) s M &&& D 4 k ≠ 0)
/-- what else stands while the reference parts -/
def SG (τ : Mem) (M : Nat) (D : Nat → Nat → Nat) (C : Nat) (gs : Nat → Nat → Int32) (ask : Nat → Bool) (S : Nat) : Prop := (∀ k, k < M → gwI D M τ k (okp D M ask gs C k)) ∧ τ 0 37 = b2i (cdec (ask2 ask gs C)) ∧ τ 0 26 = nI S
theorem SG.keep {τ τ' : Mem} (h : SG τ M D C gs ask S) (hk : KS τ τ') : SG τ' M D C gs ask S := by
  refine ⟨fun k hk2 => ?_, by rw [hk 0 37 (by unfold psS; omega)]; exact h.2.1, by rw [hk 0 26 (by unfold psS; omega)]; exact h.2.2⟩
  obtain ⟨w, w1, w2⟩ := h.1 k hk2
  exact ⟨w, by rw [hk 16 k (by unfold psS; omega)]; exact w1, w2⟩
theorem cand_or (hD : LD M D) {s k : Nat} (hk : k < M) : candF (D 4) (s ||| 2 ^ k) M = candF (D 4) s M &&& D 4 k := by
  refine tb_ext (fun b => ?_)
  rw [Nat.testBit_and, Bool.and_eq_true, candF_tb, candF_tb]
  have h63 := (hD.2 k hk).2.2.2.2.2.2
  constructor
  · rintro ⟨h1, h2⟩
    refine ⟨⟨h1, fun i hi hs => h2 i hi ?_⟩, h2 k hk ?_⟩
    · rw [Nat.testBit_or, hs]; rfl
    · rw [Nat.testBit_or, Nat.testBit_two_pow_self]; simp
  · rintro ⟨⟨h1, h2⟩, h3⟩
    refine ⟨h1, fun i hi hs => ?_⟩
    rw [Nat.testBit_or, Bool.or_eq_true, Nat.testBit_two_pow, decide_eq_true_iff] at hs
    rcases hs with q | q
    · exact h2 i hi q
    · rw [← q]; exact h3
theorem cand_1 (hD : LD M D) {k : Nat} (hk : k < M) : candF (D 4) (2 ^ k) M = D 4 k := by
  refine tb_ext (fun b => ?_)
  rw [candF_tb]
  have h63 := (hD.2 k hk).2.2.2.2.2.2
  constructor
  · rintro ⟨h1, h2⟩
    exact h2 k hk Nat.testBit_two_pow_self
  · intro h
    refine ⟨lt_of_tb (M := 6) (by omega) h, fun i hi hs => ?_⟩
    rw [Nat.testBit_two_pow, decide_eq_true_iff] at hs
    rw [← hs]; exact h
theorem okS_up {k M s : Nat} (h : okS k s) (hk : k ≤ M) : okS M s := ⟨Nat.lt_of_lt_of_le h.1 (Nat.pow_le_pow_right (by decide) hk), h.2⟩
theorem okS_or {k s : Nat} (h : okS k s) : okS (k + 1) (s ||| 2 ^ k) := by
  refine ⟨Nat.or_lt_two_pow (okS_up h (by omega)).1 (Nat.pow_lt_pow_right (by decide) (by omega)), fun e => ?_⟩
  obtain ⟨j, -, hj⟩ := okS_j h
  have : (s ||| 2 ^ k).testBit j = true := by rw [Nat.testBit_or, hj]; rfl
  rw [e, Nat.zero_testBit] at this
  cases this
theorem okS_2 (k : Nat) : okS (k + 1) (2 ^ k) := ⟨Nat.pow_lt_pow_right (by decide) (by omega), by have := Nat.two_pow_pos k; omega⟩
theorem or_t {s k j : Nat} : (s ||| 2 ^ k).testBit j = true ↔ s.testBit j = true ∨ k = j := by
  rw [Nat.testBit_or, Bool.or_eq_true, Nat.testBit_two_pow, decide_eq_true_iff]
theorem two_t {k j : Nat} : (2 ^ k).testBit j = true ↔ k = j := by
  rw [Nat.testBit_two_pow, decide_eq_true_iff]
theorem bdis_lt {k a : Nat} (h : a < 2 ^ k) : bdis a (2 ^ k) := fun j q1 q2 => by
  have := lt_of_tb h q1
  rw [two_t] at q2
  omega
theorem set_mem {P : List Nat} {p x t : Nat} (h : t ∈ P.set p x) : t ∈ P ∨ t = x := List.mem_or_eq_of_mem_set h
theorem set_pw {P : List Nat} {p s k : Nat} (hp : P[p]? = some s) (hd : P.Pairwise bdis) (hk : ∀ t ∈ P, t < 2 ^ k) : (P.set p (s ||| 2 ^ k)).Pairwise bdis := by
  rw [List.pairwise_iff_getElem] at *
  intro i j hi hj hij
  rw [List.length_set] at hi hj
  rw [List.getElem_set, List.getElem_set]
  have hpl : p < P.length := by
    rcases Nat.lt_or_ge p P.length with q | q
    · exact q
    · rw [List.getElem?_eq_none q] at hp; cases hp
  have hps : P[p] = s := by
    rw [List.getElem?_eq_getElem hpl] at hp
    exact Option.some.inj hp
  split
  · rename_i e
    rw [if_neg (by omega)]
    subst e
    intro t q1 q2
    rcases or_t.mp q1 with q | q
    · exact hd p j hi hj hij t (by rw [hps]; exact q) q2
    · have := lt_of_tb (hk _ (List.getElem_mem hj)) q2
      omega
  · split
    · rename_i e
      subst e
      intro t q1 q2
      rcases or_t.mp q2 with q | q
      · exact hd i p hi hj hij t q1 (by rw [hps]; exact q)
      · have := lt_of_tb (hk _ (List.getElem_mem hi)) q1
        omega
    · exact hd i j hi hj hij
def partSpec (N M : Nat) (D : Nat → Nat → Nat) (C : Nat) (gs : Nat → Nat → Int32) (ask : Nat → Bool) (nt : List Nat → Int32) (S : Nat) (rec : Int32 → Mem → Option (Int32 × Mem)) (f : Nat) : Prop :=
  ∀ (P : List Nat) (k : Nat) (τ : Mem) (V : VS), k ≤ M → M - k < f → (∀ s ∈ P, okS k s) → P.Pairwise bdis → P.length ≤ k → SR τ M D C gs ask nt → SG τ M D C gs ask S → PI τ P → PC D M τ P → AccR τ V →
    ∃ τ', rec (nI k) τ = some (0, τ') ∧ AccR τ' (vor V (Vl D M (askG ask gs C) nt (fun P' => GP S (cpR D M ask gs C) (M - k) k P P'))) ∧ PI τ' P ∧ PC D M τ' P ∧ KS τ τ'
theorem lt_get {P : List Nat} {p s : Nat} (h : P[p]? = some s) : p < P.length := by
  rcases Nat.lt_or_ge p P.length with q | q
  · exact q
  · rw [List.getElem?_eq_none q] at h; cases h
theorem set_get {P : List Nat} {p x j t : Nat} (h : (P.set p x)[j]? = some t) : (j = p ∧ t = x) ∨ (j ≠ p ∧ P[j]? = some t) := by
  by_cases e : j = p
  · subst e
    have := lt_get h
    rw [List.length_set] at this
    rw [List.getElem?_set_self this] at h
    exact Or.inl ⟨rfl, (Option.some.inj h).symm⟩
  · rw [List.getElem?_set_ne (fun w => e w.symm)] at h
    exact Or.inr ⟨e, h⟩
theorem set_of {P : List Nat} {p x j t : Nat} (hp : p < P.length) (h : P[j]? = some t) (hj : j ≠ p) : (P.set p x)[j]? = some t := by
  rw [List.getElem?_set_ne (fun w => hj w.symm)]
  exact h
/-- the loop over the parts that are there -/
theorem lp_part (hN : 14 ≤ N) (hS : S < 2 ^ M) {rec : Int32 → Mem → Option (Int32 × Mem)} {f : Nat} (hrec : partSpec N M D C gs ask nt S rec f) {P : List Nat} {k : Nat} (hk : k < M) (hf : M - k < f + 1) (hok : ∀ s ∈ P, okS k s) (hd : P.Pairwise bdis) (hPl : P.length ≤ k) : ∀ m p n (τ : Mem) (V : VS), p + m = P.length → m < n → SR τ M D C gs ask nt → SG τ M D C gs ask S → PI τ P → PC D M τ P → AccR τ V →
    ∃ τ', l_X7_part_34 N rec n (nI k) (nI p) τ = some (0, τ') ∧ AccR τ' (vor V (Vl D M (askG ask gs C) nt (fun P' => (∃ p' s, p ≤ p' ∧ P[p']? = some s ∧ cpR D M ask gs C s k ∧ GP S (cpR D M ask gs C) (M - (k + 1)) (k + 1) (P.set p' (s ||| 2 ^ k)) P') ∨ GP S (cpR D M ask gs C) (M - (k + 1)) (k + 1) (P ++ [2 ^ k]) P'))) ∧ PI τ' P ∧ PC D M τ' P ∧ KS τ τ' := by
  intro m
  induction m with
  | zero =>
    intro p n τ V hp hn h hg hpi hpc ha
    obtain ⟨n, rfl⟩ : ∃ n', n = n' + 1 := ⟨n - 1, by omega⟩
    have hM := h.2.1.1
    have e : p = P.length := by omega
    subst e
    have hle : nI P.length ≤ nI P.length := by rw [n_le (by omega) (by omega)]; omega
    have hks : KS τ (mu (mu (mu τ 10 P.length (nI (2 ^ k))) 17 P.length (nI (D 4 k))) 0 22 (nI (P.length + 1))) := ((KS.up τ _ (by unfold psS; omega)).tr (KS.up _ _ (by unfold psS; omega))).tr (KS.up _ _ (by unfold psS; omega))
    have hpi' : PI (mu (mu (mu τ 10 P.length (nI (2 ^ k))) 17 P.length (nI (D 4 k))) 0 22 (nI (P.length + 1))) (P ++ [2 ^ k]) := by
      have q := hpi.put (s := 2 ^ k) (by omega)
      refine ⟨by rw [mu_s, List.length_append]; rfl, fun j t ht => ?_⟩
      have := q.2 j t ht
      rw [mu_c (by decide)] at this
      rw [mu_c (by decide), mu_c (by decide)]
      exact this
    have hpc' : PC D M (mu (mu (mu τ 10 P.length (nI (2 ^ k))) 17 P.length (nI (D 4 k))) 0 22 (nI (P.length + 1))) (P ++ [2 ^ k]) := by
      intro j t ht
      rw [mu_c (by decide)]
      rcases Nat.lt_trichotomy j P.length with q | q | q
      · rw [List.getElem?_append_left q] at ht
        rw [mu_k (by omega), mu_c (by decide)]
        exact hpc j t ht
      · subst q
        rw [List.getElem?_append_right (Nat.le_refl _), Nat.sub_self] at ht
        have e : 2 ^ k = t := by simpa using ht
        rw [mu_s, ← e, cand_1 h.2.1 hk]
      · rw [List.getElem?_eq_none (by rw [List.length_append]; simp; omega)] at ht
        cases ht
    obtain ⟨τ5, a1, a2, a3, a4, a5⟩ := hrec (P ++ [2 ^ k]) (k + 1) (mu (mu (mu τ 10 P.length (nI (2 ^ k))) 17 P.length (nI (D 4 k))) 0 22 (nI (P.length + 1))) V (by omega) (by omega)
      (fun t ht => by
        rcases List.mem_append.mp ht with w | w
        · exact okS_up (hok t w) (by omega)
        · rw [List.mem_singleton.mp w]; exact okS_2 k)
      (List.pairwise_append.mpr ⟨hd, List.pairwise_singleton _ _, fun a ha b hb => by
        rw [List.mem_singleton.mp hb]
        exact bdis_lt (hok a ha).1⟩)
      (by rw [List.length_append]; simp; omega) (h.keep hks) (hg.keep hks) hpi' hpc' (ha.keep (fun j q1 q2 => by rw [mu_k (by omega), mu_c (by decide), mu_c (by decide)]))
    refine ⟨mu τ5 0 22 (τ5 0 22 - 1), ?_, ?_, a3.pop, fun j t ht => ?_, (hks.tr a5).tr (KS.pop _ _)⟩
    · simp only [l_X7_part_34, b_X7_part_34, hpi.1, if_pos hle, inb_n (show P.length < 12 by omega) (by omega), inb_n (show k < 12 by omega) (by omega), gd_t, m_let, nI_clamp (show P.length < 2 ^ 31 by omega), nI_clamp (show k < 2 ^ 31 by omega), n_shl (show k < 31 by omega), mu_c (show (0 : Nat) ≠ 10 by decide), mu_c (show (0 : Nat) ≠ 17 by decide), mu_c (show (8 : Nat) ≠ 10 by decide), (h.1.2 k hk).2.2.2.2, nI_1, a1, bnd_s]
    · refine (AccR.keep ?_ (τ := τ5) (fun j q1 q2 => by rw [mu_k (by omega)]))
      rw [vor_e (W' := Vl D M (askG ask gs C) nt (fun P' => (∃ p' s, P.length ≤ p' ∧ P[p']? = some s ∧ cpR D M ask gs C s k ∧ GP S (cpR D M ask gs C) (M - (k + 1)) (k + 1) (P.set p' (s ||| 2 ^ k)) P') ∨ GP S (cpR D M ask gs C) (M - (k + 1)) (k + 1) (P ++ [2 ^ k]) P'))] at a2
      · exact a2
      · intro v
        constructor
        · rintro ⟨P', R, c1, c2⟩
          exact ⟨P', R, Or.inr c1, c2⟩
        · rintro ⟨P', R, ⟨p', s, q1, q2, -⟩ | c1, c2⟩
          · have := lt_get q2
            omega
          · exact ⟨P', R, c1, c2⟩
    · rw [mu_c (by decide)]
      refine a4 j t ?_
      rw [List.getElem?_append_left (lt_get ht)]
      exact ht
  | succ m ih =>
    intro p n τ V hp hn h hg hpi hpc ha
    obtain ⟨n, rfl⟩ : ∃ n', n = n' + 1 := ⟨n - 1, by omega⟩
    have hM := h.2.1.1
    have hpl : p < P.length := by omega
    obtain ⟨s, hs⟩ : ∃ s, P[p]? = some s := ⟨P[p], List.getElem?_eq_getElem hpl⟩
    have hsm : s ∈ P := List.mem_of_getElem? hs
    have hsk := hok s hsm
    have hsM := okS_up hsk (show k ≤ M by omega)
    have h4 : ∀ x, x < 2 ^ M → x < 2 ^ 31 := fun x hx => Nat.lt_of_lt_of_le hx (Nat.le_trans (n_lt2 hM) (by omega))
    have hle : ¬ nI P.length ≤ nI p := fun q => by rw [n_le (by omega) (by omega)] at q; omega
    obtain ⟨w, w1, w2, w3⟩ := hg.1 k hk
    have hcl := candF_le (D 4) s M
    have hd63 := (h.2.1.2 k hk).2.2.2.2.2.2
    have ex : l_X7_part_34 N rec (n + 1) (nI k) (nI p) τ = if nI (bdiff s w) = 0 then (if τ 0 37 = 0 then j_X7_part_86 N rec (l_X7_part_34 N rec n) (nI k) (nI p) τ else if nI (candF (D 4) s M &&& D 4 k) = 0 then l_X7_part_34 N rec n (nI k) (nI (p + 1)) τ else j_X7_part_86 N rec (l_X7_part_34 N rec n) (nI k) (nI p) τ) else l_X7_part_34 N rec n (nI k) (nI (p + 1)) τ := by
      simp only [l_X7_part_34, b_X7_part_34, hpi.1, if_neg hle, inb_n (show p < 12 by omega) (by omega), inb_n (show k < 12 by omega) (by omega), gd_t, nI_clamp (show p < 2 ^ 31 by omega), nI_clamp (show k < 2 ^ 31 by omega), hpi.2 p s hs, w1, n_andn, hpc p s hs, (h.1.2 k hk).2.2.2.2, fa_and, nI_1]
    have hbw : bdiff s w = 0 ↔ ∀ t, s.testBit t = true → okp D M ask gs C k t := by
      constructor
      · intro q t ht
        have : ¬ (bdiff s w).testBit t = true := by rw [q, Nat.zero_testBit]; decide
        rw [bdiff_t] at this
        have hwt : w.testBit t = true := Classical.byContradiction (fun r => this ⟨ht, r⟩)
        rcases ((w3 t).mp hwt).2 with r | r
        · have := lt_of_tb hsk.1 ht
          omega
        · exact r
      · intro q
        refine tb_ext (fun t => ?_)
        rw [bdiff_t, Nat.zero_testBit]
        constructor
        · rintro ⟨r1, r2⟩
          exact absurd ((w3 t).mpr ⟨lt_of_tb hsM.1 r1, Or.inr (q t r1)⟩) r2
        · intro r; cases r
    have hex : (cpR D M ask gs C s k ∧ l_X7_part_34 N rec (n + 1) (nI k) (nI p) τ = j_X7_part_86 N rec (l_X7_part_34 N rec n) (nI k) (nI p) τ) ∨ (¬ cpR D M ask gs C s k ∧ l_X7_part_34 N rec (n + 1) (nI k) (nI p) τ = l_X7_part_34 N rec n (nI k) (nI (p + 1)) τ) := by
      rw [ex]
      by_cases q : bdiff s w = 0
      · rw [if_pos (by rw [q]; rfl)]
        by_cases q2 : ask2 ask gs C
        · rw [if_neg (by rw [hg.2.1, cdec_t q2]; decide)]
          by_cases q3 : candF (D 4) s M &&& D 4 k = 0
          · rw [if_pos (by rw [q3]; rfl)]
            exact Or.inr ⟨fun r => r.2 q2 q3, rfl⟩
          · rw [if_neg (n_nz (by have := and63 (b := D 4 k) hcl; omega) q3)]
            exact Or.inl ⟨⟨hbw.mp q, fun _ => q3⟩, rfl⟩
        · rw [if_pos (by rw [hg.2.1, cdec_f q2]; rfl)]
          exact Or.inl ⟨⟨hbw.mp q, fun r => absurd r q2⟩, rfl⟩
      · rw [if_neg (n_nz (h4 _ (bdiff_lt hsM.1)) q)]
        exact Or.inr ⟨fun r => q (hbw.mpr r.1), rfl⟩
    rcases hex with ⟨hcp, e1⟩ | ⟨hcp, e1⟩
    · rw [e1]
      have hks : KS τ (mu (mu τ 17 p (nI (candF (D 4) s M &&& D 4 k))) 10 p (nI (s ||| 2 ^ k))) := (KS.up τ _ (by unfold psS; omega)).tr (KS.up _ _ (by unfold psS; omega))
      obtain ⟨τ5, a1, a2, a3, a4, a5⟩ := hrec (P.set p (s ||| 2 ^ k)) (k + 1) (mu (mu τ 17 p (nI (candF (D 4) s M &&& D 4 k))) 10 p (nI (s ||| 2 ^ k))) V (by omega) (by omega)
        (fun t ht => by
          rcases set_mem ht with q | q
          · exact okS_up (hok t q) (by omega)
          · rw [q]; exact okS_or hsk)
        (set_pw hs hd (fun t ht => (hok t ht).1)) (by rw [List.length_set]; omega) (h.keep hks) (hg.keep hks)
        ⟨by rw [mu_c (by decide), mu_c (by decide), List.length_set]; exact hpi.1, fun j t ht => by
          rcases set_get ht with ⟨q1, q2⟩ | ⟨q1, q2⟩
          · rw [q1, q2, mu_s]
          · rw [mu_k q1, mu_c (by decide)]; exact hpi.2 j t q2⟩
        (fun j t ht => by
          rw [mu_c (by decide)]
          rcases set_get ht with ⟨q1, q2⟩ | ⟨q1, q2⟩
          · rw [q1, q2, mu_s, cand_or h.2.1 hk]
          · rw [mu_k q1]; exact hpc j t q2)
        (ha.keep (fun j q1 q2 => by rw [mu_c (by decide), mu_c (by decide)]))
      have h10 : τ5 10 p = nI (s ||| 2 ^ k) := a3.2 p _ (List.getElem?_set_self hpl)
      have hback : bdiff (s ||| 2 ^ k) (2 ^ k) = s := by
        refine tb_ext (fun t => ?_)
        rw [bdiff_t, or_t, two_t]
        constructor
        · rintro ⟨q1 | q1, q2⟩
          · exact q1
          · exact absurd q1 q2
        · intro q
          have := lt_of_tb hsk.1 q
          exact ⟨Or.inl q, by omega⟩
      have hks2 : KS τ5 (mu (mu τ5 10 p (nI s)) 17 p (nI (candF (D 4) s M))) := (KS.up τ5 _ (by unfold psS; omega)).tr (KS.up _ _ (by unfold psS; omega))
      have hpi7 : PI (mu (mu τ5 10 p (nI s)) 17 p (nI (candF (D 4) s M))) P := by
        refine ⟨by rw [mu_c (by decide), mu_c (by decide), a3.1, List.length_set], fun j t ht => ?_⟩
        rw [mu_c (by decide)]
        by_cases e : j = p
        · subst e
          rw [mu_s]
          rw [hs] at ht
          rw [Option.some.inj ht]
        · rw [mu_k e]
          exact a3.2 j t (set_of hpl ht e)
      have hpc7 : PC D M (mu (mu τ5 10 p (nI s)) 17 p (nI (candF (D 4) s M))) P := by
        intro j t ht
        by_cases e : j = p
        · subst e
          rw [mu_s]
          rw [hs] at ht
          rw [Option.some.inj ht]
        · rw [mu_k e, mu_c (by decide)]
          exact a4 j t (set_of hpl ht e)
      obtain ⟨τ', b1, b2, b3, b4, b5⟩ := ih (p + 1) n (mu (mu τ5 10 p (nI s)) 17 p (nI (candF (D 4) s M))) _ (by omega) (by omega) ((h.keep (hks.tr a5)).keep hks2) ((hg.keep (hks.tr a5)).keep hks2) hpi7 hpc7 (a2.keep (fun j q1 q2 => by rw [mu_c (by decide), mu_c (by decide)]))
      refine ⟨τ', ?_, ?_, b3, b4, ((hks.tr a5).tr hks2).tr b5⟩
      · simp only [j_X7_part_86, inb_n (show p < 12 by omega) (by omega), inb_n (show k < 12 by omega) (by omega), gd_t, m_let, m_leti, nI_clamp (show p < 2 ^ 31 by omega), nI_clamp (show k < 2 ^ 31 by omega), hpc p s hs, (h.1.2 k hk).2.2.2.2, fa_and, mu_c (show (10 : Nat) ≠ 17 by decide), hpi.2 p s hs, n_shl (show k < 31 by omega), fa_or, nI_1, a1, bnd_s, h10, n_andn, hback]
        exact b1
      · rw [vor_vor (U := Vl D M (askG ask gs C) nt (fun P' => (∃ p' s, p ≤ p' ∧ P[p']? = some s ∧ cpR D M ask gs C s k ∧ GP S (cpR D M ask gs C) (M - (k + 1)) (k + 1) (P.set p' (s ||| 2 ^ k)) P') ∨ GP S (cpR D M ask gs C) (M - (k + 1)) (k + 1) (P ++ [2 ^ k]) P'))] at b2
        · exact b2
        · intro v
          constructor
          · rintro ⟨P', R, ⟨p', t, q1, q2, q3, q4⟩ | c1, c2⟩
            · by_cases e : p' = p
              · subst e
                rw [hs] at q2
                cases q2
                exact Or.inl ⟨P', R, q4, c2⟩
              · exact Or.inr ⟨P', R, Or.inl ⟨p', t, by omega, q2, q3, q4⟩, c2⟩
            · exact Or.inr ⟨P', R, Or.inr c1, c2⟩
          · rintro (⟨P', R, q4, c2⟩ | ⟨P', R, ⟨p', t, q1, q2, q3, q4⟩ | c1, c2⟩)
            · exact ⟨P', R, Or.inl ⟨p, s, Nat.le_refl p, hs, hcp, q4⟩, c2⟩
            · exact ⟨P', R, Or.inl ⟨p', t, by omega, q2, q3, q4⟩, c2⟩
            · exact ⟨P', R, Or.inr c1, c2⟩
    · rw [e1]
      obtain ⟨τ', b1, b2, b3, b4, b5⟩ := ih (p + 1) n τ V (by omega) (by omega) h hg hpi hpc ha
      refine ⟨τ', b1, ?_, b3, b4, b5⟩
      rw [vor_e (W' := Vl D M (askG ask gs C) nt (fun P' => (∃ p' s, p ≤ p' ∧ P[p']? = some s ∧ cpR D M ask gs C s k ∧ GP S (cpR D M ask gs C) (M - (k + 1)) (k + 1) (P.set p' (s ||| 2 ^ k)) P') ∨ GP S (cpR D M ask gs C) (M - (k + 1)) (k + 1) (P ++ [2 ^ k]) P'))] at b2
      · exact b2
      · intro v
        constructor
        · rintro ⟨P', R, ⟨p', t, q1, q2, q3, q4⟩ | c1, c2⟩
          · exact ⟨P', R, Or.inl ⟨p', t, by omega, q2, q3, q4⟩, c2⟩
          · exact ⟨P', R, Or.inr c1, c2⟩
        · rintro ⟨P', R, ⟨p', t, q1, q2, q3, q4⟩ | c1, c2⟩
          · by_cases e : p' = p
            · subst e
              rw [hs] at q2
              cases q2
              exact absurd q3 hcp
            · exact ⟨P', R, Or.inl ⟨p', t, by omega, q2, q3, q4⟩, c2⟩
          · exact ⟨P', R, Or.inr c1, c2⟩
theorem e_part (hN : 14 ≤ N) (hS : S < 2 ^ M) : ∀ f, partSpec N M D C gs ask nt S (f_X7_part N f) f
  | 0 => by
    intro P k τ V _ hf
    omega
  | f + 1 => by
    intro P k τ V hk hf hok hd hPl h hg hpi hpc ha
    have hM := h.2.1.1
    by_cases hkM : k = M
    · subst hkM
      obtain ⟨τ', i1, i2, i3⟩ := e_leaf (show 13 ≤ N by omega) (by omega) hok hd h hpi ha
      refine ⟨τ', ?_, ?_, i3.pi hpi, fun j t ht => by rw [i3 17 j (by omega) (by omega)]; exact hpc j t ht, i3.ks⟩
      · simp only [f_X7_part, fb_X7_part, h.1.1, if_true, i1, bnd_s]
      · rw [Nat.sub_self]
        exact i2
    · have hlt : k < M := by omega
      have hne : ¬ nI k = nI M := fun q => hkM ((n_eq (by omega) (by omega)).mp q)
      have hS' : S < 2 ^ 31 := Nat.lt_of_lt_of_le hS (Nat.le_trans (n_lt2 hM) (by omega))
      have em : M - k = (M - (k + 1)) + 1 := by omega
      cases hb : S.testBit k with
      | false =>
        obtain ⟨τ', b1, b2, b3, b4, b5⟩ := e_part hN hS f P (k + 1) τ V (by omega) (by omega) (fun s hs => okS_up (hok s hs) (by omega)) hd (by omega) h hg hpi hpc ha
        refine ⟨τ', ?_, ?_, b3, b4, b5⟩
        · simp only [f_X7_part, fb_X7_part, h.1.1, if_neg hne, hg.2.2, e_hasR N hS' (show k < 32 by omega), bnd_s, hb, nI_1]
          rw [if_pos b2i_f, b1, bnd_s]
        · rw [vor_e (W' := Vl D M (askG ask gs C) nt (fun P' => GP S (cpR D M ask gs C) (M - k) k P P'))] at b2
          · exact b2
          · intro v
            rw [em]
            constructor
            · rintro ⟨P', R, c1, c2⟩
              exact ⟨P', R, Or.inl ⟨hb, c1⟩, c2⟩
            · rintro ⟨P', R, c1, c2⟩
              rw [GP_s, hb] at c1
              rcases c1 with c1 | c1
              · exact ⟨P', R, c1.2, c2⟩
              · cases c1.1
      | true =>
        obtain ⟨τ', b1, b2, b3, b4, b5⟩ := lp_part hN hS (e_part hN hS f) hlt hf hok hd hPl P.length 0 N τ V (by omega) (by omega) h hg hpi hpc ha
        refine ⟨τ', ?_, ?_, b3, b4, b5⟩
        · simp only [f_X7_part, fb_X7_part, h.1.1, if_neg hne, hg.2.2, e_hasR N hS' (show k < 32 by omega), bnd_s, hb]
          rw [if_neg (by decide)]
          exact b1
        · rw [vor_e (W' := Vl D M (askG ask gs C) nt (fun P' => GP S (cpR D M ask gs C) (M - k) k P P'))] at b2
          · exact b2
          · intro v
            rw [em]
            constructor
            · rintro ⟨P', R, c1, c2⟩
              refine ⟨P', R, Or.inr ⟨hb, ?_⟩, c2⟩
              rcases c1 with ⟨p', t, q1, q2, q3, q4⟩ | c1
              · exact Or.inl ⟨p', t, q2, q3, q4⟩
              · exact Or.inr c1
            · rintro ⟨P', R, c1, c2⟩
              rw [GP_s, hb] at c1
              rcases c1 with c1 | c1
              · cases c1.1
              · refine ⟨P', R, ?_, c2⟩
                rcases c1.2 with ⟨p', t, q2, q3, q4⟩ | c1
                · exact Or.inl ⟨p', t, Nat.zero_le _, q2, q3, q4⟩
                · exact Or.inr c1
end PART
