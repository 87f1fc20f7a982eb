/-! what is noted of the partings gone through -/
def VS : Type := Nat × Nat × Int32 → Prop
def vadd (V : VS) (v : Nat × Nat × Int32) : VS := fun x => V x ∨ x = v
def bestM (V : VS) (b f : Nat) : Prop := (∃ w, V (b, f, w)) ∧ ∀ b' f' w', V (b', f', w') → b' < b ∨ (b' = b ∧ f ≤ f')
def bestL (V : VS) (b f : Nat) : Prop := (∃ w, V (b, f, w)) ∧ ∀ b' f' w', V (b', f', w') → b < b' ∨ (b' = b ∧ f ≤ f')
def bestN (V : VS) (w : Int32) (b : Nat) : Prop := (∃ f, V (b, f, w)) ∧ ∀ b' f' w', V (b', f', w') → w' < w ∨ (w' = w ∧ b' ≤ b)
def vbd (V : VS) : Prop := ∀ b f w, V (b, f, w) → b < 2 ^ 30 ∧ f ≤ 12
def AccR (τ : Mem) (V : VS) : Prop := vbd V ∧ (((∀ v, ¬ V v) ∧ τ 0 33 = 0) ∨ (τ 0 33 = 1 ∧ (∃ b f, τ 0 27 = nI b ∧ τ 0 29 = nI f ∧ bestM V b f) ∧ (∃ b f, τ 0 28 = nI b ∧ τ 0 30 = nI f ∧ bestL V b f) ∧ ∃ b, τ 0 32 = nI b ∧ bestN V (τ 0 31) b))
def AccC (σ : Mem) (V : VS) : Prop := vbd V ∧ (((∀ v, ¬ V v) ∧ σ 20 4 = 0) ∨ (σ 20 4 = 1 ∧ (∃ b f, σ 20 0 = nI b ∧ σ 20 2 = nI f ∧ bestM V b f) ∧ (∃ b f, σ 20 1 = nI b ∧ σ 20 3 = nI f ∧ bestL V b f)))
theorem vbd_add {V : VS} {b f : Nat} {w : Int32} (h : vbd V) (hb : b < 2 ^ 30) (hf : f ≤ 12) : vbd (vadd V (b, f, w)) := by
  intro b' f' w' q
  rcases q with q | q
  · exact h b' f' w' q
  · cases q; exact ⟨hb, hf⟩
section ACC
variable {V : VS} {b f : Nat} {w : Int32}
theorem bestM_first (h : ∀ v, ¬ V v) : bestM (vadd V (b, f, w)) b f := by
  refine ⟨⟨w, Or.inr rfl⟩, fun b' f' w' q => ?_⟩
  rcases q with q | q
  · exact absurd q (h _)
  · cases q; exact Or.inr ⟨rfl, Nat.le_refl _⟩
theorem bestL_first (h : ∀ v, ¬ V v) : bestL (vadd V (b, f, w)) b f := by
  refine ⟨⟨w, Or.inr rfl⟩, fun b' f' w' q => ?_⟩
  rcases q with q | q
  · exact absurd q (h _)
  · cases q; exact Or.inr ⟨rfl, Nat.le_refl _⟩
theorem bestN_first (h : ∀ v, ¬ V v) : bestN (vadd V (b, f, w)) w b := by
  refine ⟨⟨f, Or.inr rfl⟩, fun b' f' w' q => ?_⟩
  rcases q with q | q
  · exact absurd q (h _)
  · cases q; exact Or.inr ⟨rfl, Nat.le_refl _⟩
theorem bestM_new {b0 f0 : Nat} (h : bestM V b0 f0) (q : b0 < b ∨ (b = b0 ∧ f < f0)) : bestM (vadd V (b, f, w)) b f := by
  refine ⟨⟨w, Or.inr rfl⟩, fun b' f' w' q' => ?_⟩
  rcases q' with q' | q'
  · have := h.2 b' f' w' q'; omega
  · cases q'; exact Or.inr ⟨rfl, Nat.le_refl _⟩
theorem bestM_old {b0 f0 : Nat} (h : bestM V b0 f0) (q : ¬ (b0 < b ∨ (b = b0 ∧ f < f0))) : bestM (vadd V (b, f, w)) b0 f0 := by
  obtain ⟨⟨w0, h1⟩, h2⟩ := h
  refine ⟨⟨w0, Or.inl h1⟩, fun b' f' w' q' => ?_⟩
  rcases q' with q' | q'
  · exact h2 b' f' w' q'
  · cases q'; omega
theorem bestL_new {b0 f0 : Nat} (h : bestL V b0 f0) (q : b < b0 ∨ (b = b0 ∧ f < f0)) : bestL (vadd V (b, f, w)) b f := by
  refine ⟨⟨w, Or.inr rfl⟩, fun b' f' w' q' => ?_⟩
  rcases q' with q' | q'
  · have := h.2 b' f' w' q'; omega
  · cases q'; exact Or.inr ⟨rfl, Nat.le_refl _⟩
theorem bestL_old {b0 f0 : Nat} (h : bestL V b0 f0) (q : ¬ (b < b0 ∨ (b = b0 ∧ f < f0))) : bestL (vadd V (b, f, w)) b0 f0 := by
  obtain ⟨⟨w0, h1⟩, h2⟩ := h
  refine ⟨⟨w0, Or.inl h1⟩, fun b' f' w' q' => ?_⟩
  rcases q' with q' | q'
  · exact h2 b' f' w' q'
  · cases q'; omega
theorem bestN_new {w0 : Int32} {b0 : Nat} (h : bestN V w0 b0) (q : w0 < w ∨ (w = w0 ∧ b0 < b)) : bestN (vadd V (b, f, w)) w b := by
  refine ⟨⟨f, Or.inr rfl⟩, fun b' f' w' q' => ?_⟩
  rcases q' with q' | q'
  · have h2 := h.2 b' f' w' q'
    simp only [fa_lt, fa_eq] at *
    omega
  · cases q'; exact Or.inr ⟨rfl, Nat.le_refl _⟩
theorem bestN_old {w0 : Int32} {b0 : Nat} (h : bestN V w0 b0) (q : ¬ (w0 < w ∨ (w = w0 ∧ b0 < b))) : bestN (vadd V (b, f, w)) w0 b0 := by
  obtain ⟨⟨f0, h1⟩, h2⟩ := h
  refine ⟨⟨f0, Or.inl h1⟩, fun b' f' w' q' => ?_⟩
  rcases q' with q' | q'
  · exact h2 b' f' w' q'
  · cases q'
    simp only [fa_lt, fa_eq] at *
    omega
end ACC
/-! the reference notes -/
theorem nf {P : Prop} (h : ¬ P) : ¬ cdec P = true := fun q => h (cdec_iff.mp q)
def n_fin (x1 x2 : Int32) (σ : Mem) : Mem :=
  mu (mu (mu (mu σ 0 31 (if σ 0 33 = 0 then x2 else imax (σ 0 31) x2)) 0 27 (if σ 0 33 = 0 then x1 else imax (σ 0 27) x1)) 0 28 (if σ 0 33 = 0 then x1 else imin (σ 0 28) x1)) 0 33 1
def n_cN (x1 x2 : Int32) (σ : Mem) : Prop := σ 0 33 = 0 ∨ σ 0 31 < x2 ∨ (x2 = σ 0 31 ∧ ¬ x1 ≤ σ 0 32)
def n_cL (x1 : Int32) (σ : Mem) : Prop := σ 0 33 = 0 ∨ x1 < σ 0 28 ∨ (x1 = σ 0 28 ∧ ¬ σ 0 30 ≤ σ 0 22)
def n_cM (x1 : Int32) (σ : Mem) : Prop := σ 0 33 = 0 ∨ σ 0 27 < x1 ∨ (x1 = σ 0 27 ∧ ¬ σ 0 29 ≤ σ 0 22)
theorem j_190 (N : Nat) (x1 x2 : Int32) (σ : Mem) : j_X7_counts_190 N x1 x2 σ = some (0, n_fin x1 x2 σ) := by
  have e : ∀ v, mu σ 0 31 v 0 33 = σ 0 33 := fun v => mu_k (by decide)
  have e7 : ∀ v, mu σ 0 31 v 0 27 = σ 0 27 := fun v => mu_k (by decide)
  have e2 : ∀ v u, mu (mu σ 0 31 v) 0 27 u 0 33 = σ 0 33 := fun v u => by rw [mu_k (by decide), e]
  have e8 : ∀ v u, mu (mu σ 0 31 v) 0 27 u 0 28 = σ 0 28 := fun v u => by rw [mu_k (by decide), mu_k (by decide)]
  unfold n_fin
  by_cases h : σ 0 33 = 0
  · simp only [j_X7_counts_190, j_X7_counts_210, j_X7_counts_233, m_let, isb_1, gd_t, e, e7, e2, e8, if_pos h]
  · simp only [j_X7_counts_190, j_X7_counts_210, j_X7_counts_233, m_let, isb_1, gd_t, e, e7, e2, e8, if_neg h]
def q185 (N : Nat) (x1 x2 : Int32) (σ : Mem) : Option (Int32 × Mem) := if σ 0 33 = 0 then j_X7_counts_185 N x1 x2 σ else (if (σ 0 31) < x2 then j_X7_counts_185 N x1 x2 σ else (if x2 = (σ 0 31) then (if x1 ≤ (σ 0 32) then j_X7_counts_190 N x1 x2 σ else j_X7_counts_185 N x1 x2 σ) else j_X7_counts_190 N x1 x2 σ))
theorem q185_e (N : Nat) (x1 x2 : Int32) (σ : Mem) : q185 N x1 x2 σ = some (0, n_fin x1 x2 (if cdec (n_cN x1 x2 σ) = true then mu σ 0 32 x1 else σ)) := by
  unfold q185
  have j5 : j_X7_counts_185 N x1 x2 σ = some (0, n_fin x1 x2 (mu σ 0 32 x1)) := by
    show j_X7_counts_190 N x1 x2 (mu σ 0 32 x1) = _
    rw [j_190]
  rw [j5, j_190]
  by_cases h : n_cN x1 x2 σ
  · rw [if_pos (cdec_t h)]
    unfold n_cN at h
    repeat' split
    all_goals first | rfl | exact absurd h (by simp_all)
  · rw [if_neg (nf h)]
    unfold n_cN at h
    repeat' split
    all_goals first | rfl | exact absurd (by simp_all) h
def q146 (N : Nat) (x1 x2 : Int32) (σ : Mem) : Option (Int32 × Mem) := if σ 0 33 = 0 then j_X7_counts_146 N x1 x2 σ else (if x1 < (σ 0 28) then j_X7_counts_146 N x1 x2 σ else (if x1 = (σ 0 28) then (if (σ 0 30) ≤ (σ 0 22) then q185 N x1 x2 σ else j_X7_counts_146 N x1 x2 σ) else q185 N x1 x2 σ))
theorem q146_e (N : Nat) (x1 x2 : Int32) (σ : Mem) : q146 N x1 x2 σ = q185 N x1 x2 (if cdec (n_cL x1 σ) = true then mu σ 0 30 (σ 0 22) else σ) := by
  unfold q146
  have j5 : j_X7_counts_146 N x1 x2 σ = q185 N x1 x2 (mu σ 0 30 (σ 0 22)) := rfl
  rw [j5]
  by_cases h : n_cL x1 σ
  · rw [if_pos (cdec_t h)]
    unfold n_cL at h
    repeat' split
    all_goals first | rfl | exact absurd h (by simp_all)
  · rw [if_neg (nf h)]
    unfold n_cL at h
    repeat' split
    all_goals first | rfl | exact absurd (by simp_all) h
theorem j_69 (N : Nat) (x1 x2 : Int32) (σ : Mem) : j_X7_counts_69 N x1 x2 σ = q146 N x1 x2 (if cdec (n_cM x1 σ) = true then mu σ 0 29 (σ 0 22) else σ) := by
  have j5 : j_X7_counts_104 N x1 x2 σ = q146 N x1 x2 (mu σ 0 29 (σ 0 22)) := rfl
  have j6 : j_X7_counts_69 N x1 x2 σ = if σ 0 33 = 0 then j_X7_counts_104 N x1 x2 σ else (if (σ 0 27) < x1 then j_X7_counts_104 N x1 x2 σ else (if x1 = (σ 0 27) then (if (σ 0 29) ≤ (σ 0 22) then q146 N x1 x2 σ else j_X7_counts_104 N x1 x2 σ) else q146 N x1 x2 σ)) := rfl
  rw [j6, j5]
  by_cases h : n_cM x1 σ
  · rw [if_pos (cdec_t h)]
    unfold n_cM at h
    repeat' split
    all_goals first | rfl | exact absurd h (by simp_all)
  · rw [if_neg (nf h)]
    unfold n_cM at h
    repeat' split
    all_goals first | rfl | exact absurd (by simp_all) h
/-- only what is noted changes -/
def KNote (τ τ' : Mem) : Prop := ∀ a j, ¬ (a = 0 ∧ 27 ≤ j ∧ j ≤ 33) → τ' a j = τ a j
theorem KNote.rf (τ : Mem) : KNote τ τ := fun _ _ _ => rfl
theorem KNote.tr {a b c : Mem} (h : KNote a b) (g : KNote b c) : KNote a c := fun i j q => (g i j q).trans (h i j q)
theorem KNote.up (σ : Mem) {j : Nat} (v : Int32) (h : 27 ≤ j ∧ j ≤ 33) : KNote σ (mu σ 0 j v) := by
  intro a b q
  rw [mu_e, if_neg]
  rintro ⟨rfl, rfl⟩
  exact q ⟨rfl, h⟩
theorem KNote.ite {σ : Mem} {c : Prop} [Decidable c] {j : Nat} (v : Int32) (h : 27 ≤ j ∧ j ≤ 33) : KNote σ (if c then mu σ 0 j v else σ) := by
  split
  · exact KNote.up σ v h
  · exact KNote.rf σ
theorem KNote.fin (x1 x2 : Int32) (σ : Mem) : KNote σ (n_fin x1 x2 σ) := by
  unfold n_fin
  exact (((KNote.up σ _ (by omega)).tr (KNote.up _ _ (by omega))).tr (KNote.up _ _ (by omega))).tr (KNote.up _ _ (by omega))
theorem ite_mu {σ : Mem} {c : Prop} [Decidable c] {i j a b : Nat} {v : Int32} : (if c then mu σ i j v else σ) a b = if c then mu σ i j v a b else σ a b := by split <;> rfl
/-- one parting more is noted -/
theorem e_note {N b n : Nat} {w : Int32} {V : VS} {τ : Mem} (h : AccR τ V) (h22 : τ 0 22 = nI n) (hb : b < 2 ^ 30) (hn : n ≤ 12) : ∃ τ', j_X7_counts_69 N (nI b) w τ = some (0, τ') ∧ AccR τ' (vadd V (b, n, w)) ∧ KNote τ τ' := by
  rw [j_69, q146_e, q185_e]
  refine ⟨_, rfl, ?_, ?_⟩
  · generalize h1 : (if cdec (n_cM (nI b) τ) = true then mu τ 0 29 (τ 0 22) else τ) = τ1
    generalize h2 : (if cdec (n_cL (nI b) τ1) = true then mu τ1 0 30 (τ1 0 22) else τ1) = τ2
    generalize h3 : (if cdec (n_cN (nI b) w τ2) = true then mu τ2 0 32 (nI b) else τ2) = τ3
    have k1 : ∀ j, j ≠ 29 → τ1 0 j = τ 0 j := fun j hj => by rw [← h1, ite_mu, mu_k hj]; split <;> rfl
    have k2 : ∀ j, j ≠ 30 → τ2 0 j = τ1 0 j := fun j hj => by rw [← h2, ite_mu, mu_k hj]; split <;> rfl
    have k3 : ∀ j, j ≠ 32 → τ3 0 j = τ2 0 j := fun j hj => by rw [← h3, ite_mu, mu_k hj]; split <;> rfl
    have v29 : τ3 0 29 = if cdec (n_cM (nI b) τ) = true then nI n else τ 0 29 := by
      rw [k3 29 (by omega), k2 29 (by omega), ← h1, ite_mu, mu_s, h22]
    have v30 : τ3 0 30 = if cdec (n_cL (nI b) τ1) = true then nI n else τ 0 30 := by
      rw [k3 30 (by omega), ← h2, ite_mu, mu_s, k1 22 (by omega), k1 30 (by omega), h22]
    have v32 : τ3 0 32 = if cdec (n_cN (nI b) w τ2) = true then nI b else τ 0 32 := by
      rw [← h3, ite_mu, mu_s, k2 32 (by omega), k1 32 (by omega)]
    have v33 : τ3 0 33 = τ 0 33 := by rw [k3 33 (by omega), k2 33 (by omega), k1 33 (by omega)]
    have v31 : τ3 0 31 = τ 0 31 := by rw [k3 31 (by omega), k2 31 (by omega), k1 31 (by omega)]
    have v27 : τ3 0 27 = τ 0 27 := by rw [k3 27 (by omega), k2 27 (by omega), k1 27 (by omega)]
    have v28 : τ3 0 28 = τ 0 28 := by rw [k3 28 (by omega), k2 28 (by omega), k1 28 (by omega)]
    have cL : n_cL (nI b) τ1 ↔ n_cL (nI b) τ := by
      unfold n_cL
      rw [k1 33 (by omega), k1 28 (by omega), k1 30 (by omega), k1 22 (by omega)]
    have cN : n_cN (nI b) w τ2 ↔ n_cN (nI b) w τ := by
      unfold n_cN
      rw [k2 33 (by omega), k2 31 (by omega), k2 32 (by omega), k1 33 (by omega), k1 31 (by omega), k1 32 (by omega)]
    have u33 : n_fin (nI b) w τ3 0 33 = 1 := by unfold n_fin; rw [mu_s]
    have u27 : n_fin (nI b) w τ3 0 27 = if τ 0 33 = 0 then nI b else imax (τ 0 27) (nI b) := by unfold n_fin; rw [mu_k (by decide), mu_k (by decide), mu_s, v33, v27]
    have u28 : n_fin (nI b) w τ3 0 28 = if τ 0 33 = 0 then nI b else imin (τ 0 28) (nI b) := by unfold n_fin; rw [mu_k (by decide), mu_s, v33, v28]
    have u31 : n_fin (nI b) w τ3 0 31 = if τ 0 33 = 0 then w else imax (τ 0 31) w := by unfold n_fin; rw [mu_k (by decide), mu_k (by decide), mu_k (by decide), mu_s, v33, v31]
    have u29 : n_fin (nI b) w τ3 0 29 = τ3 0 29 := by unfold n_fin; rw [mu_k (by decide), mu_k (by decide), mu_k (by decide), mu_k (by decide)]
    have u30 : n_fin (nI b) w τ3 0 30 = τ3 0 30 := by unfold n_fin; rw [mu_k (by decide), mu_k (by decide), mu_k (by decide), mu_k (by decide)]
    have u32 : n_fin (nI b) w τ3 0 32 = τ3 0 32 := by unfold n_fin; rw [mu_k (by decide), mu_k (by decide), mu_k (by decide), mu_k (by decide)]
    refine ⟨vbd_add h.1 hb hn, Or.inr ⟨u33, ?_, ?_, ?_⟩⟩
    · rw [u27, u29, v29]
      rcases h.2 with ⟨e, h0⟩ | ⟨h0, ⟨b0, f0, a1, a2, a3⟩, -, -⟩
      · rw [if_pos h0, if_pos (cdec_t (show n_cM (nI b) τ from Or.inl h0))]
        exact ⟨b, n, rfl, rfl, bestM_first e⟩
      · obtain ⟨w0, a4⟩ := a3.1
        have a5 := h.1 _ _ _ a4
        have hz : ¬ τ 0 33 = 0 := by rw [h0]; decide
        have hq : n_cM (nI b) τ ↔ (b0 < b ∨ (b = b0 ∧ n < f0)) := by
          unfold n_cM
          rw [a1, a2, h22, n_lt (by omega) (by omega), n_eq (by omega) (by omega), n_le (by omega) (by omega)]
          simp only [hz, false_or]
          omega
        rw [if_neg hz, a1, a2, n_max (by omega) (by omega)]
        by_cases q : b0 < b ∨ (b = b0 ∧ n < f0)
        · rw [if_pos (cdec_t (hq.mpr q)), Nat.max_eq_right (by omega)]
          exact ⟨b, n, rfl, rfl, bestM_new a3 q⟩
        · rw [if_neg (nf (fun t => q (hq.mp t))), Nat.max_eq_left (by omega)]
          exact ⟨b0, f0, rfl, rfl, bestM_old a3 q⟩
    · rw [u28, u30, v30]
      rcases h.2 with ⟨e, h0⟩ | ⟨h0, -, ⟨b0, f0, a1, a2, a3⟩, -⟩
      · rw [if_pos h0, if_pos (cdec_t (cL.mpr (Or.inl h0)))]
        exact ⟨b, n, rfl, rfl, bestL_first e⟩
      · obtain ⟨w0, a4⟩ := a3.1
        have a5 := h.1 _ _ _ a4
        have hz : ¬ τ 0 33 = 0 := by rw [h0]; decide
        have hq : n_cL (nI b) τ ↔ (b < b0 ∨ (b = b0 ∧ n < f0)) := by
          unfold n_cL
          rw [a1, a2, h22, n_lt (by omega) (by omega), n_eq (by omega) (by omega), n_le (by omega) (by omega)]
          simp only [hz, false_or]
          omega
        rw [if_neg hz, a1, a2, n_min (by omega) (by omega)]
        by_cases q : b < b0 ∨ (b = b0 ∧ n < f0)
        · rw [if_pos (cdec_t (cL.mpr (hq.mpr q))), Nat.min_eq_right (by omega)]
          exact ⟨b, n, rfl, rfl, bestL_new a3 q⟩
        · rw [if_neg (nf (fun t => q (hq.mp (cL.mp t)))), Nat.min_eq_left (by omega)]
          exact ⟨b0, f0, rfl, rfl, bestL_old a3 q⟩
    · rw [u31, u32, v32]
      rcases h.2 with ⟨e, h0⟩ | ⟨h0, -, -, ⟨b0, a1, a3⟩⟩
      · rw [if_pos h0, if_pos (cdec_t (cN.mpr (Or.inl h0)))]
        exact ⟨b, rfl, bestN_first e⟩
      · obtain ⟨f0, a4⟩ := a3.1
        have a5 := h.1 _ _ _ a4
        have hz : ¬ τ 0 33 = 0 := by rw [h0]; decide
        have hq : n_cN (nI b) w τ ↔ (τ 0 31 < w ∨ (w = τ 0 31 ∧ b0 < b)) := by
          unfold n_cN
          rw [a1, n_le (by omega) (by omega)]
          simp only [hz, false_or]
          rw [Nat.not_le]
        rw [if_neg hz, a1]
        unfold imax
        by_cases q : τ 0 31 < w ∨ (w = τ 0 31 ∧ b0 < b)
        · rw [if_pos (cdec_t (cN.mpr (hq.mpr q)))]
          have e : (if τ 0 31 < w then w else τ 0 31) = w := by
            rcases q with q | ⟨q, -⟩
            · rw [if_pos q]
            · rw [q]; split <;> rfl
          rw [e]
          exact ⟨b, rfl, bestN_new a3 q⟩
        · rw [if_neg (nf (fun t => q (hq.mp (cN.mp t)))), if_neg (fun t => q (Or.inl t))]
          exact ⟨b0, rfl, bestN_old a3 q⟩
  · exact (((KNote.ite _ (by omega)).tr (KNote.ite _ (by omega))).tr (KNote.ite _ (by omega))).tr (KNote.fin _ _ _)
