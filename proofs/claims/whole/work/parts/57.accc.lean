/-! the class notes -/
def m_cL (x1 x2 : Int32) (σ : Mem) : Prop := σ 20 4 = 0 ∨ x1 < σ 20 1 ∨ (x1 = σ 20 1 ∧ ¬ σ 20 3 ≤ x2)
def m_cM (x1 x2 : Int32) (σ : Mem) : Prop := σ 20 4 = 0 ∨ σ 20 0 < x1 ∨ (x1 = σ 20 0 ∧ ¬ σ 20 2 ≤ x2)
def q72 (N : Nat) (x1 x2 : Int32) (σ : Mem) : Option (Int32 × Mem) := if σ 20 4 = 0 then j_X3_note_72 N x1 x2 σ else (if x1 < (σ 20 1) then j_X3_note_72 N x1 x2 σ else (if x1 = (σ 20 1) then (if (σ 20 3) ≤ x2 then some (0, mu σ 20 4 1) else j_X3_note_72 N x1 x2 σ) else some (0, mu σ 20 4 1)))
theorem q72_e (N : Nat) (x1 x2 : Int32) (σ : Mem) : q72 N x1 x2 σ = some (0, mu (if cdec (m_cL x1 x2 σ) = true then mu (mu σ 20 1 x1) 20 3 x2 else σ) 20 4 1) := by
  unfold q72
  have j5 : j_X3_note_72 N x1 x2 σ = some (0, mu (mu (mu σ 20 1 x1) 20 3 x2) 20 4 1) := rfl
  rw [j5]
  by_cases h : m_cL x1 x2 σ
  · rw [if_pos (cdec_t h)]
    unfold m_cL at h
    repeat' split
    all_goals first | rfl | exact absurd h (by simp_all)
  · rw [if_neg (nf h)]
    unfold m_cL at h
    repeat' split
    all_goals first | rfl | exact absurd (by simp_all) h
theorem note_e (N : Nat) (x1 x2 : Int32) (σ : Mem) : f_X3_note N x1 x2 σ = q72 N x1 x2 (if cdec (m_cM x1 x2 σ) = true then mu (mu σ 20 0 x1) 20 2 x2 else σ) := by
  have j5 : j_X3_note_31 N x1 x2 σ = q72 N x1 x2 (mu (mu σ 20 0 x1) 20 2 x2) := rfl
  have j6 : f_X3_note N x1 x2 σ = if σ 20 4 = 0 then j_X3_note_31 N x1 x2 σ else (if (σ 20 0) < x1 then j_X3_note_31 N x1 x2 σ else (if x1 = (σ 20 0) then (if (σ 20 2) ≤ x2 then q72 N x1 x2 σ else j_X3_note_31 N x1 x2 σ) else q72 N x1 x2 σ)) := rfl
  rw [j6, j5]
  by_cases h : m_cM x1 x2 σ
  · rw [if_pos (cdec_t h)]
    unfold m_cM at h
    repeat' split
    all_goals first | rfl | exact absurd h (by simp_all)
  · rw [if_neg (nf h)]
    unfold m_cM at h
    repeat' split
    all_goals first | rfl | exact absurd (by simp_all) h
def KNC (σ σ' : Mem) : Prop := ∀ a j, ¬ (a = 20 ∧ j < 5) → σ' a j = σ a j
theorem KNC.rf (σ : Mem) : KNC σ σ := fun _ _ _ => rfl
theorem KNC.tr {a b c : Mem} (h : KNC a b) (g : KNC b c) : KNC a c := fun i j q => (g i j q).trans (h i j q)
theorem KNC.up (σ : Mem) {j : Nat} (v : Int32) (h : j < 5) : KNC σ (mu σ 20 j v) := by
  intro a b q
  rw [mu_e, if_neg]
  rintro ⟨rfl, rfl⟩
  exact q ⟨rfl, h⟩
theorem KNC.ite2 {σ : Mem} {c : Prop} [Decidable c] {j j' : Nat} {v v' : Int32} (h : j < 5) (h' : j' < 5) : KNC σ (if c then mu (mu σ 20 j v) 20 j' v' else σ) := by
  split
  · exact (KNC.up σ v h).tr (KNC.up _ v' h')
  · exact KNC.rf σ
theorem ite_mu2 {σ : Mem} {c : Prop} [Decidable c] {i j j' a b : Nat} {v v' : Int32} : (if c then mu (mu σ i j v) i j' v' else σ) a b = if c then mu (mu σ i j v) i j' v' a b else σ a b := by split <;> rfl
theorem e_noteC {N b n : Nat} {w : Int32} {V : VS} {σ : Mem} (h : AccC σ V) (hb : b < 2 ^ 30) (hn : n ≤ 12) : ∃ σ', f_X3_note N (nI b) (nI n) σ = some (0, σ') ∧ AccC σ' (vadd V (b, n, w)) ∧ KNC σ σ' := by
  rw [note_e, q72_e]
  refine ⟨_, rfl, ?_, ?_⟩
  · generalize h1 : (if cdec (m_cM (nI b) (nI n) σ) = true then mu (mu σ 20 0 (nI b)) 20 2 (nI n) else σ) = σ1
    generalize h2 : (if cdec (m_cL (nI b) (nI n) σ1) = true then mu (mu σ1 20 1 (nI b)) 20 3 (nI n) else σ1) = σ2
    have k1 : ∀ j, j ≠ 0 → j ≠ 2 → σ1 20 j = σ 20 j := fun j hj hj2 => by rw [← h1, ite_mu2, mu_k hj2, mu_k hj]; split <;> rfl
    have k2 : ∀ j, j ≠ 1 → j ≠ 3 → σ2 20 j = σ1 20 j := fun j hj hj2 => by rw [← h2, ite_mu2, mu_k hj2, mu_k hj]; split <;> rfl
    have cL : m_cL (nI b) (nI n) σ1 ↔ m_cL (nI b) (nI n) σ := by
      unfold m_cL
      rw [k1 4 (by omega) (by omega), k1 1 (by omega) (by omega), k1 3 (by omega) (by omega)]
    have v0 : σ2 20 0 = if cdec (m_cM (nI b) (nI n) σ) = true then nI b else σ 20 0 := by
      rw [k2 0 (by omega) (by omega), ← h1, ite_mu2, mu_k (by decide), mu_s]
    have v2 : σ2 20 2 = if cdec (m_cM (nI b) (nI n) σ) = true then nI n else σ 20 2 := by
      rw [k2 2 (by omega) (by omega), ← h1, ite_mu2, mu_s]
    have v1 : σ2 20 1 = if cdec (m_cL (nI b) (nI n) σ1) = true then nI b else σ 20 1 := by
      rw [← h2, ite_mu2, mu_k (by decide), mu_s, k1 1 (by omega) (by omega)]
    have v3 : σ2 20 3 = if cdec (m_cL (nI b) (nI n) σ1) = true then nI n else σ 20 3 := by
      rw [← h2, ite_mu2, mu_s, k1 3 (by omega) (by omega)]
    refine ⟨vbd_add h.1 hb hn, Or.inr ⟨mu_s _ _ _ _, ?_, ?_⟩⟩
    · rw [mu_k (by decide), mu_k (by decide), v0, v2]
      rcases h.2 with ⟨e, h0⟩ | ⟨h0, ⟨b0, f0, a1, a2, a3⟩, -⟩
      · have hq : m_cM (nI b) (nI n) σ := Or.inl h0
        rw [if_pos (cdec_t hq), if_pos (cdec_t hq)]
        exact ⟨b, n, rfl, rfl, bestM_first e⟩
      · obtain ⟨w0, a4⟩ := a3.1
        have a5 := h.1 _ _ _ a4
        have hz : ¬ σ 20 4 = 0 := by rw [h0]; decide
        have hq : m_cM (nI b) (nI n) σ ↔ (b0 < b ∨ (b = b0 ∧ n < f0)) := by
          unfold m_cM
          rw [a1, a2, n_lt (by omega) (by omega), n_eq (by omega) (by omega), n_le (by omega) (by omega)]
          simp only [hz, false_or]
          omega
        by_cases q : b0 < b ∨ (b = b0 ∧ n < f0)
        · rw [if_pos (cdec_t (hq.mpr q)), if_pos (cdec_t (hq.mpr q))]
          exact ⟨b, n, rfl, rfl, bestM_new a3 q⟩
        · rw [if_neg (nf (fun t => q (hq.mp t))), if_neg (nf (fun t => q (hq.mp t)))]
          exact ⟨b0, f0, a1, a2, bestM_old a3 q⟩
    · rw [mu_k (by decide), mu_k (by decide), v1, v3]
      rcases h.2 with ⟨e, h0⟩ | ⟨h0, -, ⟨b0, f0, a1, a2, a3⟩⟩
      · have hq : m_cL (nI b) (nI n) σ1 := cL.mpr (Or.inl h0)
        rw [if_pos (cdec_t hq), if_pos (cdec_t hq)]
        exact ⟨b, n, rfl, rfl, bestL_first e⟩
      · obtain ⟨w0, a4⟩ := a3.1
        have a5 := h.1 _ _ _ a4
        have hz : ¬ σ 20 4 = 0 := by rw [h0]; decide
        have hq : m_cL (nI b) (nI n) σ1 ↔ (b < b0 ∨ (b = b0 ∧ n < f0)) := by
          rw [cL]
          unfold m_cL
          rw [a1, a2, n_lt (by omega) (by omega), n_eq (by omega) (by omega), n_le (by omega) (by omega)]
          simp only [hz, false_or]
          omega
        by_cases q : b < b0 ∨ (b = b0 ∧ n < f0)
        · rw [if_pos (cdec_t (hq.mpr q)), if_pos (cdec_t (hq.mpr q))]
          exact ⟨b, n, rfl, rfl, bestL_new a3 q⟩
        · rw [if_neg (nf (fun t => q (hq.mp t))), if_neg (nf (fun t => q (hq.mp t)))]
          exact ⟨b0, f0, a1, a2, bestL_old a3 q⟩
  · exact ((KNC.ite2 (by omega) (by omega)).tr (KNC.ite2 (by omega) (by omega))).tr (KNC.up _ _ (by omega))
/-- the same values, the same notes -/
theorem bestM_un {V : VS} {b f b' f' : Nat} (h : bestM V b f) (h' : bestM V b' f') : b = b' ∧ f = f' := by
  obtain ⟨⟨w, q⟩, p⟩ := h
  obtain ⟨⟨w', q'⟩, p'⟩ := h'
  have := p _ _ _ q'
  have := p' _ _ _ q
  omega
theorem bestL_un {V : VS} {b f b' f' : Nat} (h : bestL V b f) (h' : bestL V b' f') : b = b' ∧ f = f' := by
  obtain ⟨⟨w, q⟩, p⟩ := h
  obtain ⟨⟨w', q'⟩, p'⟩ := h'
  have := p _ _ _ q'
  have := p' _ _ _ q
  omega
theorem acc_same {V : VS} {σ τ : Mem} (h : AccC σ V) (h' : AccR τ V) : (σ 20 4 = 0 ∧ τ 0 33 = 0) ∨ (σ 20 4 = 1 ∧ τ 0 33 = 1 ∧ σ 20 0 = τ 0 27 ∧ σ 20 1 = τ 0 28 ∧ σ 20 2 = τ 0 29 ∧ σ 20 3 = τ 0 30 ∧ ∃ b f, σ 20 0 = nI b ∧ bestM V b f ∧ ∃ c e, σ 20 1 = nI c ∧ bestL V c e) := by
  rcases h.2 with ⟨e, h0⟩ | ⟨h0, ⟨b, f, a1, a2, a3⟩, ⟨c, e, d1, d2, d3⟩⟩
  · rcases h'.2 with ⟨-, g0⟩ | ⟨-, ⟨b, f, -, -, ⟨w, q⟩, -⟩, -⟩
    · exact Or.inl ⟨h0, g0⟩
    · exact absurd q (e _)
  · rcases h'.2 with ⟨e', -⟩ | ⟨g0, ⟨b', f', a1', a2', a3'⟩, ⟨c', e', d1', d2', d3'⟩, -⟩
    · obtain ⟨w, q⟩ := a3.1
      exact absurd q (e' _)
    · obtain ⟨r1, r2⟩ := bestM_un a3 a3'
      obtain ⟨r3, r4⟩ := bestL_un d3 d3'
      subst r1 r2 r3 r4
      exact Or.inr ⟨h0, g0, by rw [a1, a1'], by rw [d1, d1'], by rw [a2, a2'], by rw [d2, d2'], b, f, a1, a3, c, e, d1, d3⟩
