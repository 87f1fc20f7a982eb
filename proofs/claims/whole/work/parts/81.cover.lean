/-! fault, cover: the whole text, and what both make of it -/
def RO (C : Nat) (σ τ : Mem) (x y : Option (Int32 × Mem)) : Prop := ∃ σ' τ', SC14 σ σ' ∧ SRc C τ τ' ∧ ((∃ f, f ≤ 120 ∧ x = some (nI f, σ') ∧ y = some (0, τ') ∧ τ' 0 4 = nI f) ∨ (x = some (-1, σ') ∧ y = some (1, τ') ∧ τ' 0 4 = -1 ∧ wfC (σ' 14) ∧ ∀ k, k < 10 → τ' 2 (10 * C + k) = σ' 14 k))
theorem RO.bad {C f : Nat} {σ τ σ' τ' : Mem} {x y : Option (Int32 × Mem)} (h1 : SC14 σ σ') (h2 : SRc C τ τ') (hf : f ≤ 120) (hx : x = some (nI f, σ')) (hy : y = some (0, τ')) (h4 : τ' 0 4 = nI f) : RO C σ τ x y := ⟨σ', τ', h1, h2, Or.inl ⟨f, hf, hx, hy, h4⟩⟩
theorem RO.tr {C : Nat} {σ τ σ1 τ1 : Mem} {x y : Option (Int32 × Mem)} (h1 : SC14 σ σ1) (h2 : SRc C τ τ1) (h : RO C σ1 τ1 x y) : RO C σ τ x y := by
  obtain ⟨σ', τ', a1, a2, a3⟩ := h
  exact ⟨σ', τ', h1.tr a1, h2.tr a2, a3⟩
section TAPE3
variable {N L C : Nat} {B : Nat → Nat}
theorem w_read {σ τ : Mem} (hN : 122 ≤ N) (hC : C ≤ 6) (hT : TC σ L B) (hR : TR τ L B) {k q : Nat} (hk : k < 10) (hq : q < L) (ht : τ 0 3 = nI q) (h4 : τ 0 4 = -1) (h7 : τ 0 7 = nI C) (K8 : Int32 → Int32 → Int32 → Mem → Option (Int32 × Mem)) (x3 : Int32) :
    (∃ f σ' τ', f ≤ 120 ∧ SC14 σ σ' ∧ SRc C τ τ' ∧ tailC N K8 6 (nI q) x3 (nI k) σ = some (nI f, σ') ∧ f_X7_readWord N (nI k) τ = some (0, τ') ∧ τ' 0 4 = nI f) ∨
    (∃ e v τ', q + 3 ≤ e ∧ e ≤ L ∧ ¬ in3 v (m_le.getD k 0) (m_gr.getD k 0) = 0 ∧ SRc C τ τ' ∧ τ' 0 3 = nI e ∧ τ' 0 4 = -1 ∧ (∀ j, τ' 2 j = if j = 10 * C + k then v else τ 2 j) ∧ tailC N K8 6 (nI q) x3 (nI k) σ = aftC B L K8 (pz B L e) x3 (mu σ 14 k v) ∧ f_X7_readWord N (nI k) τ = some (1, τ')) := by
  have hR1 : TR (mu τ 0 3 (nI (q + 1))) L B := hR.u (by decide) _
  have s1 : SR0 τ (mu τ 0 3 (nI (q + 1))) := SR0.u τ (by omega) _
  have e10 : (10 : Int32) * nI C + nI k = nI (10 * C + k) := by rw [nI_lit 10, pk_mul, nI_add]
  rcases w_both hN hT hR1 hk hq (mu_s _ _ _ _) (by rw [mu_k (by decide)]; exact h4) K8 x3 with ⟨f, σ', τ', a1, a2, a3, a4, a5, a6⟩ | ⟨e, v, τ', a1, a2, a3, a4, a5, a6, a7, a8, a9⟩
  · refine Or.inl ⟨f, σ', τ', a1, a2, (s1.tr a3).c C, a4, ?_, a6⟩
    simp only [f_X7_readWord, m_let, ht, nI_1, e_leastOf hk, bnd_s, e_mostOf hk, a5, if_pos, isb_0, gd_t]
  · have s2 := s1.tr a4
    have h72 : τ' 0 7 = nI C := by rw [s2 0 7 (by omega)]; exact h7
    refine Or.inr ⟨e, v, mu τ' 2 (10 * C + k) v, a1, a2, a3, fun a j q1 q2 => ?_, by rw [mu_c (by decide)]; exact a5, by rw [mu_c (by decide)]; exact a6, fun j => ?_, a8, ?_⟩
    · rw [mu_e, if_neg (by omega)]
      exact s2 a j q1
    · rw [mu_e]
      by_cases ej : j = 10 * C + k
      · rw [if_pos ej, if_pos ⟨rfl, ej⟩]
      · rw [if_neg ej, if_neg (fun z => ej z.2)]
        exact s2 2 j (by omega)
    · simp only [f_X7_readWord, m_let, ht, nI_1, e_leastOf hk, bnd_s, e_mostOf hk, a9, if_neg (show ¬ (1 : Int32) = 0 by decide), h72, e10, inb_n (show 10 * C + k < 70 by omega) (show 70 < 2 ^ 31 by omega), gd_t, nI_clamp (show 10 * C + k < 2 ^ 31 by omega), a7, isb_1]
theorem j41_n (K8 : Int32 → Int32 → Int32 → Mem → Option (Int32 × Mem)) (x2 x3 : Int32) (σ : Mem) : j_X4_readInto_41 N K8 6 x2 x3 (-1) σ = some (x2, σ) := by
  unfold j_X4_readInto_41
  rw [if_pos rfl]
theorem j41_b (K8 : Int32 → Int32 → Int32 → Mem → Option (Int32 × Mem)) (x2 : Int32) {x3 y0 : Int32} (h1 : ¬ y0 = -1) (h : ¬ (y0 = 0 ↔ x3 = 0)) (σ : Mem) : j_X4_readInto_41 N K8 6 x2 x3 y0 σ = some (x2, σ) := by
  by_cases a : y0 = 0
  · have b : ¬ x3 = 0 := fun z => h ⟨fun _ => z, fun _ => a⟩
    simp only [j_X4_readInto_41, m_leti, if_neg h1, if_pos a, if_neg b, if_neg (show ¬ (1 : Int32) = 0 by decide)]
  · have b : x3 = 0 := by
      by_cases z : x3 = 0
      · exact z
      · exact absurd ⟨fun q => absurd q a, fun q => absurd q z⟩ h
    simp only [j_X4_readInto_41, m_leti, if_neg h1, if_neg a, if_pos b, if_neg (show ¬ (0 : Int32) = 1 by decide)]
theorem j41_t (K8 : Int32 → Int32 → Int32 → Mem → Option (Int32 × Mem)) (x2 : Int32) {x3 y0 : Int32} (h1 : ¬ y0 = -1) (h : y0 = 0 ↔ x3 = 0) (σ : Mem) : j_X4_readInto_41 N K8 6 x2 x3 y0 σ = tailC N K8 6 x2 x3 y0 σ := by
  by_cases a : y0 = 0
  · have b : x3 = 0 := h.mp a
    simp only [j_X4_readInto_41, tailC, m_leti, if_neg h1, if_pos a, if_pos b, if_pos]
  · have b : ¬ x3 = 0 := fun z => a (h.mpr z)
    simp only [j_X4_readInto_41, tailC, m_leti, if_neg h1, if_neg a, if_neg b, if_pos]
theorem e_b8 {σ : Mem} (hN : 122 ≤ N) (hT : TC σ L B) {p s : Nat} (hp : p ≤ L) (hs : s ≤ 120) (K8 : Int32 → Int32 → Int32 → Mem → Option (Int32 × Mem)) :
    b_X4_readInto_8 N K8 6 (nI p) (nI s) σ = if L ≤ pz B L p then some (nI (pz B L p), σ) else j_X4_readInto_41 N K8 6 (nI (pz B L p)) (nI s) (letB (B (pz B L p))) σ := by
  have hL := hT.1
  have z1 := pz_le (B := B) hp
  unfold b_X4_readInto_8
  rw [if_neg (fun q => by rw [nI_lit 120, n_lt (by omega) (by omega)] at q; omega), e_past hN hT hp, bnd_s, hT.2.1]
  by_cases g : L ≤ pz B L p
  · rw [if_pos g, if_pos ((n_le (by omega) (by omega)).mpr g), j41_n]
  · obtain ⟨hb, hs⟩ := hT.2.2 (pz B L p) (by omega)
    rw [if_neg g, if_neg (fun q => g ((n_le (by omega) (by omega)).mp q)), inb_n (show pz B L p < 120 by omega) (by omega), gd_t, nI_clamp (by omega), hs, e_what (by omega) hb, bnd_s]
theorem lp_tape (hN : 122 ≤ N) (hC : C ≤ 6) : ∀ m e n n' s (σ τ : Mem), L < e + m → e ≤ L → s + 1 ≤ e → m ≤ n → m ≤ n' → TC σ L B → TR τ L B → τ 0 3 = nI e → τ 0 4 = -1 → τ 0 7 = nI C → wfC (σ 14) → (∀ k, k < 10 → τ 2 (10 * C + k) = σ 14 k) →
    RO C σ τ (aftC B L (l_X4_readInto_8 N n) (pz B L e) (nI s) σ) (l_X7_readCover_70 N n' τ) := by
  intro m
  induction m with
  | zero =>
    intro e n n' s σ τ h1 h2
    omega
  | succ m ih =>
    intro e n n' s σ τ h1 h2 h3 h5 h6 hT hR ht h4 h7 hw hk
    obtain ⟨n, rfl⟩ : ∃ q, n = q + 1 := ⟨n - 1, by omega⟩
    obtain ⟨n', rfl⟩ : ∃ q, n' = q + 1 := ⟨n' - 1, by omega⟩
    have hL := hT.1
    have z0 := pz_ge (B := B) h2
    have z1 := pz_le (B := B) h2
    have hlk := e_look hN hR h2 ht
    generalize pz B L e = z at z0 z1 hlk
    generalize hτ1 : mu τ 0 3 (nI z) = τ1 at hlk
    have s1 : SR0 τ τ1 := by rw [← hτ1]; exact SR0.u τ (by omega) _
    have hR1 : TR τ1 L B := s1.t hR
    have t1 : τ1 0 3 = nI z := by rw [← hτ1, mu_s]
    have t4 : τ1 0 4 = -1 := by rw [← hτ1, mu_k (by decide)]; exact h4
    have e59 : hrB B L z = 59 ↔ z < L ∧ B z = 59 := hrB_eq hR (k := 59) (by decide)
    show RO C σ τ _ (b_X7_readCover_70 N (l_X7_readCover_70 N n') τ)
    unfold b_X7_readCover_70
    rw [hlk, bnd_s]
    by_cases g1 : L ≤ z
    · have ez : z = L := by omega
      rw [if_neg (fun q => by have := (e59.mp q).1; omega), t1, hR1.2.1, if_pos (by rw [ez]), isb_1, gd_t]
      unfold aftC
      rw [if_pos g1]
      exact ⟨σ, τ1, SC14.rf σ, s1.c C, Or.inr ⟨rfl, rfl, t4, hw, fun k hk' => by rw [s1 2 _ (by omega)]; exact hk k hk'⟩⟩
    by_cases g2 : B z = 59
    · unfold aftC
      rw [if_neg g1, if_pos g2, if_pos (e59.mpr ⟨by omega, g2⟩), nI_1]
      show RO C σ τ (b_X4_readInto_8 N (l_X4_readInto_8 N n) 6 (nI (z + 1)) (nI (s + 1)) σ) _
      rw [e_b8 hN hT (show z + 1 ≤ L by omega) (by omega)]
      unfold m_let
      rw [t1, nI_1]
      generalize hτ2 : mu τ1 0 3 (nI (z + 1)) = τ2
      have s2 : SR0 τ1 τ2 := by rw [← hτ2]; exact SR0.u τ1 (by omega) _
      have hR2 : TR τ2 L B := s2.t hR1
      have t2 : τ2 0 3 = nI (z + 1) := by rw [← hτ2, mu_s]
      have q0 := pz_ge (B := B) (show z + 1 ≤ L by omega)
      have q1 := pz_le (B := B) (show z + 1 ≤ L by omega)
      have qq := pz_pz (B := B) (show z + 1 ≤ L by omega)
      show RO C σ τ _ (m_bnd (f_X7_look N τ2) _)
      rw [e_look hN hR2 (show z + 1 ≤ L by omega) t2, bnd_s]
      generalize pz B L (z + 1) = q at q0 q1 qq
      generalize hτ3 : mu τ2 0 3 (nI q) = τ3
      have s3 : SR0 τ τ3 := (s1.tr s2).tr (by rw [← hτ3]; exact SR0.u τ2 (by omega) _)
      have hR3 : TR τ3 L B := s3.t hR
      have t3 : τ3 0 3 = nI q := by rw [← hτ3, mu_s]
      have f3 : τ3 0 4 = -1 := by rw [← hτ3, mu_k (by decide), ← hτ2, mu_k (by decide)]; exact t4
      have v3 : τ3 0 7 = nI C := by rw [s3 0 7 (by omega)]; exact h7
      have hbad : RO C σ τ (some (nI q, σ)) (m_bnd (f_X7_fails N (τ3 0 3) τ3) (fun r3 σ4 => gd (isb r3) (some (r3, σ4)))) := by
        rw [t3, e_fails f3, bnd_s, isb_0, gd_t]
        exact RO.bad (SC14.rf σ) ((s3.tr (SR0.u τ3 (by omega) _)).c C) (by omega) rfl rfl (mu_s _ _ _ _)
      by_cases g3 : L ≤ q
      · rw [if_pos g3, hrB_out g3, if_pos rfl]
        unfold j_X7_readCover_110
        rw [if_neg (by decide)]
        exact hbad
      · have hbq := (hR3.2.2 q (by omega)).1
        have hm : hrB B L q = nI (B q) := hrB_in (by omega)
        rw [if_neg g3, hm, if_neg (fun z => absurd z (by
          intro z
          have := nI_pos (show B q < 2 ^ 31 by omega)
          rw [z] at this
          exact this (by decide))), e_look hN hR3 (by omega) t3, bnd_s, qq, mu_id t3, hm, e_index (by omega) hbq, bnd_s]
        unfold j_X7_readCover_110
        rcases letB_in (B q) with el | ⟨k, hk10, el⟩
        · rw [el, j41_n, if_neg (by decide)]
          exact hbad
        · rw [el]
          have hn1 : ¬ nI k = -1 := fun z => by
            have := nI_pos (show k < 2 ^ 31 by omega)
            rw [z] at this
            exact this (by decide)
          have hs0 : ¬ nI (s + 1) = 0 := fun z => by
            have := (n_eq (b := 0) (by omega) (by omega)).mp z
            omega
          by_cases k0 : k = 0
          · subst k0
            rw [j41_b _ _ hn1 (fun z => hs0 (z.mp rfl)), if_neg (by decide)]
            exact hbad
          · have hk0 : ¬ nI k = 0 := fun z => k0 ((n_eq (b := 0) (by omega) (by omega)).mp z)
            rw [j41_t _ _ hn1 ⟨fun z => absurd z hk0, fun z => absurd z hs0⟩, if_pos (show (1 : Int32) ≤ nI k from (n_le (a := 1) (b := k) (by omega) (by omega)).mpr (by omega))]
            rcases w_read hN hC hT hR3 hk10 (show q < L by omega) t3 f3 v3 (l_X4_readInto_8 N n) (nI (s + 1)) with ⟨f, σ', τ', a1, a2, a3, a4, a5, a6⟩ | ⟨e', v, τ', a1, a2, a3, a4, a5, a6, a7, a8, a9⟩
            · rw [a4, a5, bnd_s, if_pos rfl, isb_0, gd_t]
              exact RO.bad a2 ((s3.c C).tr a3) a1 rfl rfl a6
            · rw [a8, a9, bnd_s, if_neg (by decide)]
              have kk := (s3.c C).tr a4
              refine RO.tr (SC14.u σ k v) kk (ih e' n n' (s + 1) _ τ' (by omega) a2 (by omega) (by omega) (by omega) ((SC14.u σ k v).t hT) (kk.t hR) a5 a6 (by rw [kk 0 7 (by omega) (by omega)]; exact h7) ?_ (fun j hj => ?_))
              · rw [mu_self]
                exact wfC_up hw hk10 a3
              · rw [a7, s3 2 _ (by omega), hk j hj, mu_self]
                by_cases ej : j = k
                · subst ej
                  rw [if_pos rfl, upd_s]
                · rw [if_neg (by omega), upd_n _ ej]
    · unfold aftC
      rw [if_neg g1, if_neg g2, if_neg (fun q => g2 (e59.mp q).2), t1, hR1.2.1, if_neg (fun q => by rw [n_eq (by omega) (by omega)] at q; omega), e_fails t4, bnd_s, if_pos rfl, isb_0, gd_t]
      exact RO.bad (SC14.rf σ) ((s1.tr (SR0.u τ1 (by omega) _)).c C) (by omega) rfl rfl (mu_s _ _ _ _)
/-- the reference behind its first words -/
def rdH (N : Nat) (τ : Mem) : Option (Int32 × Mem) := m_bnd (f_X7_look N τ) (fun r1 σ2 => (if r1 = 104 then m_bnd (f_X7_readWord N 0 σ2) (fun r3 σ4 => (if r3 = 0 then gd (isb 0) (some (0, σ4)) else l_X7_readCover_70 N N σ4)) else m_bnd (f_X7_fails N (σ2 0 3) σ2) (fun r5 σ6 => gd (isb r5) (some (r5, σ6)))))
theorem e_firstOf {k : Nat} (hk : k < 10) (τ : Mem) : ∃ v, f_X7_firstOf N (nI k) τ = some (v, τ) ∧ (1 ≤ k → v = m_fi.getD k 0) := by
  rcases (show k = 0 ∨ k = 1 ∨ k = 2 ∨ k = 3 ∨ k = 4 ∨ k = 5 ∨ k = 6 ∨ k = 7 ∨ k = 8 ∨ k = 9 by omega) with rfl | rfl | rfl | rfl | rfl | rfl | rfl | rfl | rfl | rfl <;> first | exact ⟨_, rfl, fun _ => rfl⟩ | exact ⟨_, rfl, fun q => absurd q (by decide)⟩
theorem lp_first (hC : C ≤ 6) : ∀ m k n (τ : Mem), k + m = 10 → m < n → τ 0 7 = nI C → ∃ τ', (∀ a j, ¬ (a = 2 ∧ 10 * C + k ≤ j) → τ' a j = τ a j) ∧ (∀ j, k ≤ j → j < 10 → 1 ≤ j → τ' 2 (10 * C + j) = m_fi.getD j 0) ∧ l_X7_readCover_12 N n (nI k) τ = rdH N τ' := by
  intro m
  induction m with
  | zero =>
    intro k n τ hk hn h7
    obtain ⟨n, rfl⟩ : ∃ q, n = q + 1 := ⟨n - 1, by omega⟩
    have e : k = 10 := by omega
    subst e
    refine ⟨τ, fun _ _ _ => rfl, fun j q1 q2 => by omega, ?_⟩
    simp only [l_X7_readCover_12, b_X7_readCover_12]
    rw [if_pos (by decide)]
    rfl
  | succ m ih =>
    intro k n τ hk hn h7
    obtain ⟨n, rfl⟩ : ∃ q, n = q + 1 := ⟨n - 1, by omega⟩
    obtain ⟨v, ev, hv⟩ := e_firstOf (N := N) (show k < 10 by omega) τ
    have e10 : (10 : Int32) * nI C + nI k = nI (10 * C + k) := by rw [nI_lit 10, pk_mul, nI_add]
    obtain ⟨τ', a1, a2, a3⟩ := ih (k + 1) n (mu τ 2 (10 * C + k) v) (by omega) (by omega) (by rw [mu_c (by decide)]; exact h7)
    refine ⟨τ', fun a j q => ?_, fun j q1 q2 q3 => ?_, ?_⟩
    · rw [a1 a j (by omega), mu_e, if_neg (by omega)]
    · by_cases ej : j = k
      · subst ej
        rw [a1 2 _ (by omega), mu_s]
        exact hv q3
      · exact a2 j (by omega) q2 q3
    · rw [← a3]
      simp only [l_X7_readCover_12, b_X7_readCover_12, ev, bnd_s, h7, e10, inb_n (show 10 * C + k < 70 by omega) (show 70 < 2 ^ 31 by omega), gd_t, nI_clamp (show 10 * C + k < 2 ^ 31 by omega), m_let, nI_1]
      rw [if_neg (fun q => by rw [nI_lit 10, n_le (by omega) (by omega)] at q; omega)]
theorem wfC_fi {f : Nat → Int32} (h : ∀ k, k < 10 → f k = m_fi.getD k 0) : wfC f := by
  have h0 : wfC (fun k => m_fi.getD k 0) := ⟨⟨99, by decide, by decide, rfl⟩, Or.inl rfl, Or.inl rfl, Or.inl rfl, ⟨0, by decide, rfl⟩, ⟨0, by decide, rfl⟩, ⟨99, by decide, by decide, rfl⟩, ⟨9, by decide, by decide, rfl⟩, ⟨0, by decide, rfl⟩, ⟨0, by decide, rfl⟩⟩
  exact h0.keep h
/-- both read the tape -/
theorem e_read {σ τ : Mem} (hN : 130 ≤ N) (hC : C ≤ 6) (hT : TC σ L B) (hR : TR τ L B) (h7 : τ 0 7 = nI C) : RO C σ τ (f_X4_readInto N 6 σ) (f_X7_readCover N τ) := by
  have hL := hT.1
  have i6 : inb 6 8 = true := by decide
  -- the class forgets
  generalize hσ1 : m_cp σ 14 (fun k => m_fi.getD k 0) = σ1
  have c1 : SC14 σ σ1 := fun a j q => by rw [← hσ1]; unfold m_cp; rw [if_neg q]
  have c2 : ∀ k, k < 10 → σ1 14 k = m_fi.getD k 0 := fun k hk => by
    rw [← hσ1]
    unfold m_cp
    rw [if_pos rfl, sb_cpy0 hk]
  have eC : f_X4_readInto N 6 σ = l_X4_readInto_8 N N 6 (nI 0) (nI 0) σ1 := by
    have ef : f_X0_forget N 6 σ = some (0, σ1) := by
      unfold f_X0_forget m_let
      rw [i6, gd_t, ← hσ1]
      rfl
    unfold f_X4_readInto
    rw [i6, gd_t, ef, bnd_s]
    rfl
  -- the reference lays its first words
  generalize hτ1 : mu (mu τ 0 3 0) 0 4 (-1) = τ1
  have r1 : SR0 τ τ1 := by rw [← hτ1]; exact (SR0.u τ (by omega) _).tr (SR0.u _ (by omega) _)
  have r13 : τ1 0 3 = nI 0 := by rw [← hτ1, mu_k (by decide), mu_s]; rfl
  have r14 : τ1 0 4 = -1 := by rw [← hτ1, mu_s]
  obtain ⟨τ2, a1, a2, a3⟩ := lp_first (N := N) hC 10 0 N τ1 rfl (by omega) (by rw [r1 0 7 (by omega)]; exact h7)
  have eR : f_X7_readCover N τ = rdH N τ2 := by
    rw [← a3, ← hτ1]
    rfl
  have r2 : SRc C τ τ2 := (r1.c C).tr (fun a j _ q => a1 a j (by omega))
  have hR2 := r2.t hR
  have t2 : τ2 0 3 = nI 0 := by rw [a1 0 3 (by omega)]; exact r13
  have f2 : τ2 0 4 = -1 := by rw [a1 0 4 (by omega)]; exact r14
  have v2 : τ2 0 7 = nI C := by rw [r2 0 7 (by omega) (by omega)]; exact h7
  have hT1 := c1.t hT
  rw [eC, eR]
  refine RO.tr c1 r2 ?_
  obtain ⟨n, rfl⟩ : ∃ q, N = q + 1 := ⟨N - 1, by omega⟩
  show RO C σ1 τ2 (b_X4_readInto_8 (n + 1) (l_X4_readInto_8 (n + 1) n) 6 (nI 0) (nI 0) σ1) _
  rw [e_b8 (by omega) hT1 (Nat.zero_le L) (by omega)]
  unfold rdH
  have q1 := pz_le (B := B) (Nat.zero_le L)
  rw [e_look (by omega) hR2 (Nat.zero_le L) t2, bnd_s]
  generalize pz B L 0 = q at q1
  generalize hτ3 : mu τ2 0 3 (nI q) = τ3
  have s3 : SR0 τ2 τ3 := by rw [← hτ3]; exact SR0.u τ2 (by omega) _
  have hR3 : TR τ3 L B := s3.t hR2
  have t3 : τ3 0 3 = nI q := by rw [← hτ3, mu_s]
  have f3 : τ3 0 4 = -1 := by rw [← hτ3, mu_k (by decide)]; exact f2
  have v3 : τ3 0 7 = nI C := by rw [s3 0 7 (by omega)]; exact v2
  have hbad : RO C σ1 τ2 (some (nI q, σ1)) (m_bnd (f_X7_fails (n + 1) (τ3 0 3) τ3) (fun r3 σ4 => gd (isb r3) (some (r3, σ4)))) := by
    rw [t3, e_fails f3, bnd_s, isb_0, gd_t]
    exact RO.bad (SC14.rf σ1) ((s3.tr (SR0.u τ3 (by omega) _)).c C) (by omega) rfl rfl (mu_s _ _ _ _)
  have e104 : hrB B L q = 104 ↔ q < L ∧ B q = 104 := hrB_eq hR (k := 104) (by decide)
  by_cases g3 : L ≤ q
  · rw [if_pos g3, if_neg (fun z => by have := (e104.mp z).1; omega)]
    exact hbad
  have hbq := (hR3.2.2 q (by omega)).1
  rw [if_neg g3]
  by_cases g4 : B q = 104
  · have hl0 := (letB_0 hbq).mpr g4
    rw [if_pos (e104.mpr ⟨by omega, g4⟩), hl0, j41_t (x3 := nI 0) _ _ (by decide) ⟨fun _ => rfl, fun _ => rfl⟩]
    rcases w_read (k := 0) (N := n + 1) (by omega) hC hT1 hR3 (by omega) (show q < L by omega) t3 f3 v3 (l_X4_readInto_8 (n + 1) n) (nI 0) with ⟨f, σ', τ', a1, a2, a3, a4, a5, a6⟩ | ⟨e', v, τ', b1, b2, b3, b4, b5, b6, b7, b8, b9⟩
    · rw [show tailC (n + 1) (l_X4_readInto_8 (n + 1) n) 6 (nI q) (nI 0) 0 σ1 = _ from a4, show f_X7_readWord (n + 1) 0 τ3 = _ from a5, bnd_s, if_pos rfl]
      exact RO.bad a2 ((s3.c C).tr a3) a1 rfl rfl a6
    · rw [show tailC (n + 1) (l_X4_readInto_8 (n + 1) n) 6 (nI q) (nI 0) 0 σ1 = _ from b8, show f_X7_readWord (n + 1) 0 τ3 = _ from b9, bnd_s, if_neg (show ¬ (1 : Int32) = 0 by decide)]
      have kk := (s3.c C).tr b4
      refine RO.tr (SC14.u σ1 0 v) kk (lp_tape (by omega) hC (L + 1) e' n (n + 1) 0 _ τ' (by omega) b2 (by omega) (by omega) (by omega) ((SC14.u σ1 0 v).t hT1) (kk.t hR2) b5 b6 (by rw [kk 0 7 (by omega) (by omega)]; exact v2) ?_ (fun j hj => ?_))
      · rw [mu_self]
        exact wfC_up (wfC_fi c2) (by omega) b3
      · rw [b7, s3 2 _ (by omega), mu_self]
        by_cases ej : j = 0
        · subst ej
          rw [if_pos rfl, upd_s]
        · rw [if_neg (by omega), upd_n _ ej, c2 j hj]
          exact a2 j (by omega) hj (by omega)
  · rw [if_neg (fun z => g4 (e104.mp z).2)]
    rcases letB_in (B q) with el | ⟨k, hk10, el⟩
    · rw [el, j41_n]
      exact hbad
    · have hk0 : ¬ letB (B q) = 0 := fun z => g4 ((letB_0 hbq).mp z)
      have hn1 : ¬ letB (B q) = -1 := fun z => by
        rw [el] at z
        have := nI_pos (show k < 2 ^ 31 by omega)
        rw [z] at this
        exact this (by decide)
      rw [j41_b (x3 := nI 0) _ _ hn1 (fun z => hk0 (z.mpr rfl))]
      exact hbad
end TAPE3
theorem Rel.tape {σ τ : Mem} (h : Rel σ τ) : ∃ L B, TC σ L B ∧ TR τ L B := by
  obtain ⟨L, hL, t1, t2, t3⟩ := h.1
  refine ⟨L, fun j => if q : j < L then (t3 j q).choose else 0, ⟨hL, t1, fun j hj => ?_⟩, ⟨hL, t2, fun j hj => ?_⟩⟩
  · simp only [dif_pos hj]
    exact ⟨(t3 j hj).choose_spec.1, (t3 j hj).choose_spec.2.1⟩
  · simp only [dif_pos hj]
    exact ⟨(t3 j hj).choose_spec.1, (t3 j hj).choose_spec.2.2⟩
/-- what both have written while they read is not what lasts -/
theorem Rel.read {C : Nat} {σ τ σ' τ' : Mem} (h : Rel σ τ) (h7 : τ 0 7 = nI C) (hC : C ≤ 6) (h1 : SC14 σ σ') (h2 : SRc C τ τ') : Rel σ' τ' := by
  have kc : KC σ σ' := fun a j q => h1 a j (by unfold psC at q; omega)
  have kr : KR τ (fun a j => if a = 2 then τ a j else τ' a j) := fun a j q => by
    show (if a = 2 then τ a j else τ' a j) = τ a j
    by_cases e : a = 2
    · rw [if_pos e]
    · rw [if_neg e]
      exact h2 a j (by unfold psR at q; omega) (by omega)
  have hr := h.keep kc kr
  obtain ⟨C', hC', c1, c2, c3⟩ := h.2.1
  have eC : C' = C := by rw [h7] at c2; exact ((n_eq (by omega) (by omega)).mp c2).symm
  subst eC
  refine ⟨hr.1, ⟨C', hC', by rw [h1 16 8 (by decide)]; exact c1, by rw [h2 0 7 (by omega) (by omega)]; exact c2, fun c hc => ?_⟩, hr.2.2.1, hr.2.2.2.1, hr.2.2.2.2⟩
  obtain ⟨d1, d2⟩ := c3 c hc
  refine ⟨d1.keep (fun k _ => h1 (8 + c) k (by omega)), fun k hk => ?_⟩
  rw [h2 2 _ (by omega) (by omega), h1 (8 + c) k (by omega)]
  exact d2 k hk
theorem p_fault {N : Nat} (hN : 130 ≤ N) {σ τ : Mem} (h : Rel σ τ) : Same (f_X6_fault N σ) (f_X7_fault N τ) := by
  obtain ⟨L, B, hT, hR⟩ := (h.th 0).tape
  obtain ⟨C, hC, c1, c2, c3⟩ := (h.th 0).2.1
  obtain ⟨σ', τ', a1, a2, a3⟩ := e_read hN hC hT hR c2
  have hr := (h.th 0).read c2 hC a1 a2
  simp only [f_X6_fault, f_X7_fault, m_let, h.2.2.2.2.1]
  rcases a3 with ⟨f, hf, hx, hy, h4⟩ | ⟨hx, hy, h4, -, -⟩
  · rw [hx, hy, bnd_s, bnd_s, h4]
    exact Same.mk _ hr
  · rw [hx, hy, bnd_s, bnd_s, h4]
    exact Same.mk _ hr
theorem p_cover {N : Nat} (hN : 130 ≤ N) {σ τ : Mem} (h : Rel σ τ) : Same (f_X6_cover N σ) (f_X7_cover N τ) := by
  obtain ⟨L, B, hT, hR⟩ := (h.th 0).tape
  obtain ⟨C, hC, c1, c2, c3⟩ := (h.th 0).2.1
  obtain ⟨σ', τ', a1, a2, a3⟩ := e_read hN hC hT hR c2
  have hr := (h.th 0).read c2 hC a1 a2
  simp only [f_X6_cover, f_X7_cover, m_let, h.2.2.2.2.1]
  rw [c1, c2]
  by_cases g : C = 6
  · subst g
    rw [if_pos (by decide), if_pos (by decide)]
    exact Same.mk _ (h.th 0)
  rw [if_neg (fun q => by rw [nI_lit 6, n_le (by omega) (by omega)] at q; omega), if_neg (fun q => by rw [nI_lit 6, n_eq (by omega) (by omega)] at q; omega)]
  rcases a3 with ⟨f, hf, hx, hy, h4⟩ | ⟨hx, hy, h4, hw, hk⟩
  · rw [hx, hy, bnd_s, bnd_s, if_pos rfl, if_neg (fun z => by
      have := nI_pos (show f < 2 ^ 31 by omega)
      rw [z] at this
      exact this (by decide))]
    exact Same.mk _ hr
  · rw [hx, hy, bnd_s, bnd_s, if_pos rfl, if_neg (show ¬ (1 : Int32) = 0 by decide)]
    have k1 : σ' 16 8 = nI C := by rw [a1 16 8 (by decide)]; exact c1
    have k2 : σ' 22 C = nI C := by rw [a1 22 C (by decide)]; exact h.2.2.2.2.2.2 C (by omega)
    have k3 : σ' 16 2 = nI 6 := by rw [a1 16 2 (by decide)]; exact h.2.2.2.2.1
    have k4 : τ' 0 7 = nI C := by rw [a2 0 7 (by omega) (by omega)]; exact c2
    rw [k1, inb_n (show C < 6 by omega) (by omega), gd_t, nI_clamp (show C < 2 ^ 31 by omega), k2, if_neg (nI_pos (by omega)), inb_n (show C < 8 by omega) (by omega), gd_t, k3]
    have hcopy : f_X0_copyFrom N (nI C) (nI 6) σ' = some (0, m_cp σ' (8 + C) (σ' 14)) := by
      unfold f_X0_copyFrom m_let
      rw [inb_n (show 6 < 8 by omega) (by omega), inb_n (show C < 8 by omega) (by omega), gd_t, gd_t, nI_clamp (show C < 2 ^ 31 by omega), nI_clamp (show 6 < 2 ^ 31 by omega)]
    rw [hcopy, bnd_s]
    generalize hσ2 : m_cp σ' (8 + C) (σ' 14) = σ2
    have g1 : ∀ a j, a ≠ 8 + C → σ2 a j = σ' a j := fun a j q => by rw [← hσ2]; unfold m_cp; rw [if_neg q]
    have g2 : ∀ k, k < 10 → σ2 (8 + C) k = σ' 14 k := fun k hk => by rw [← hσ2]; unfold m_cp; rw [if_pos rfl, sb_cpy0 hk]
    have e1 : mu σ2 17 1 0 16 8 = nI C := by rw [mu_c (by decide), g1 16 8 (by omega)]; exact k1
    have e2 : mu τ' 0 2 0 0 7 = nI C := by rw [mu_k (by decide)]; exact k4
    have e3 : nI (C + 1) - 1 = nI C := by rw [← nI_1]; exact Int32.add_sub_cancel _ _
    rw [e1, e2, nI_1, mu_s, mu_s, e3]
    obtain ⟨r1, ⟨C', hC', d1, d2, d3⟩, ⟨M, hM, l1, l2, l3, l4⟩, ⟨S, M', s1, s2, s3, s4, s5, s6⟩, r5⟩ := hr
    have eC : C' = C := by rw [k4] at d2; exact ((n_eq (by omega) (by omega)).mp d2).symm
    subst eC
    have gg : ∀ a j, a ≠ 8 + C' → a ≠ 17 → a ≠ 16 → mu (mu σ2 17 1 0) 16 8 (nI (C' + 1)) a j = σ' a j := fun a j q1 q2 q3 => by rw [mu_c q3, mu_c q2, g1 a j q1]
    refine Same.mk _ ⟨⟨0, by omega, by rw [mu_c (by decide), mu_s]; rfl, by rw [mu_k (by decide), mu_s]; rfl, fun j hj => by omega⟩, ⟨C' + 1, by omega, mu_s _ _ _ _, mu_s _ _ _ _, fun c hc => ?_⟩, ⟨M, hM, ?_, ?_, fun k hk => ?_, fun k hk hk2 => ?_⟩, ⟨S, M', s1, s2, ?_, ?_, ?_, fun k hk => ?_⟩, ?_⟩
    · by_cases ec : c = C'
      · subst ec
        refine ⟨hw.keep (fun k hk => ?_), fun k hk' => ?_⟩
        · rw [mu_c (by omega), mu_c (by omega)]
          exact g2 k hk
        · rw [mu_c (by omega), mu_c (by omega), mu_c (by omega), mu_c (by omega), g2 k hk']
          exact hk k hk'
      · obtain ⟨w1, w2⟩ := d3 c (by omega)
        refine ⟨w1.keep (fun k hk => gg _ _ (by omega) (by omega) (by omega)), fun k hk => ?_⟩
        rw [gg _ _ (by omega) (by omega) (by omega), mu_c (by decide), mu_c (by decide)]
        exact w2 k hk
    · rw [gg 18 6 (by omega) (by omega) (by omega)]
      exact l1
    · rw [mu_k (by decide), mu_k (by decide)]
      exact l2
    · have e := l3 k hk
      refine ⟨?_, ?_⟩
      · unfold wfL
        rw [gg 26 k (by omega) (by omega) (by omega), gg 27 k (by omega) (by omega) (by omega), gg 28 k (by omega) (by omega) (by omega), gg 29 k (by omega) (by omega) (by omega), gg 30 k (by omega) (by omega) (by omega), gg 31 k (by omega) (by omega) (by omega), gg 32 k (by omega) (by omega) (by omega)]
        exact e.1
      · rw [gg 26 k (by omega) (by omega) (by omega), gg 27 k (by omega) (by omega) (by omega), gg 28 k (by omega) (by omega) (by omega), gg 29 k (by omega) (by omega) (by omega), gg 30 k (by omega) (by omega) (by omega), gg 31 k (by omega) (by omega) (by omega), gg 32 k (by omega) (by omega) (by omega)]
        exact e.2
    · rw [gg 32 k (by omega) (by omega) (by omega)]
      exact l4 k hk hk2
    · rw [gg 18 6 (by omega) (by omega) (by omega)]
      exact s3
    · rw [mu_k (by decide), mu_c (by decide), g1 16 9 (by omega)]
      exact s4
    · rw [mu_k (by decide), mu_k (by decide)]
      exact s5
    · rw [gg 23 k (by omega) (by omega) (by omega), gg 24 k (by omega) (by omega) (by omega)]
      exact s6 k hk
    · refine ⟨?_, ?_, fun j hj => ?_⟩
      · rw [mu_k (by decide), mu_c (by decide), g1 16 2 (by omega)]
        exact r5.1
      · rw [gg 20 6 (by omega) (by omega) (by omega)]
        exact r5.2.1
      · rw [gg 22 j (by omega) (by omega) (by omega)]
        exact r5.2.2 j hj
