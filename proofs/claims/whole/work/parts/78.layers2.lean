/-! layers by one parting: the covers join, both search -/
def JI (σ : Mem) (G : List (Nat → Int32)) : Prop := PayC σ G ∧ (∀ p g, G[p]? = some g → σ 41 p = 0) ∧ (G = [] ∨ ∃ J, WC σ 7 J ∧ Joint J G)
section JOIN
variable {N z : Nat} {g : Nat → Int32} {G : List (Nat → Int32)}
theorem e_joinJ {σ : Mem} (h6 : σ 20 6 = 7) (hz : z < 7) (hw : WC σ z g) (hg : wfC g) (h : JI σ G) (hG : G.length < 6) : ∃ σ', f_X3_join N (nI z) σ = some (0, σ') ∧ KQ σ σ' ∧ JI σ' (G ++ [g]) := by
  obtain ⟨hP, hT, hJ⟩ := h
  have e206 : σ 20 6 = nI 7 := h6
  -- the joint words first
  have hfst : ∃ σ2, f_X3_join N (nI z) σ = m_bnd (f_X2_join N (nI z) σ2) (fun r1 σ2 => some (0, σ2)) ∧ (∀ a j, a ≠ 15 → σ2 a j = σ a j) ∧ ∃ J', WC σ2 7 J' ∧ Joint J' (G ++ [g]) := by
    by_cases hn : G = []
    · have em : f_X2_isEmpty N σ = some (1, σ) := by
        unfold f_X2_isEmpty
        rw [hP.1, hn, if_pos (show nI ([] : List (Nat → Int32)).length = 0 from rfl), isb_1, gd_t]
      refine ⟨m_cp σ 15 (σ (8 + z)), ?_, fun a j q => by unfold m_cp; rw [if_neg q], g, ⟨by omega, fun k hk => ?_⟩, by rw [hn]; exact joint_1 hg⟩
      · have hcp : f_X0_copyFrom N (nI 7) (nI z) σ = some (0, m_cp σ 15 (σ (8 + z))) := by
          unfold f_X0_copyFrom
          simp only [inb_n hw.1 (show 8 < 2 ^ 31 by omega), inb_n (show 7 < 8 by omega) (show 8 < 2 ^ 31 by omega), gd_t, m_let, nI_clamp (show z < 2 ^ 31 by omega), nI_clamp (show 7 < 2 ^ 31 by omega)]
        unfold f_X3_join j_X3_join_29
        rw [em, bnd_s, if_neg i1_ne0, e206, inb_n (show 7 < 8 by omega) (by omega), gd_t, hcp, bnd_s]
      · show m_cp σ 15 (σ (8 + z)) 15 k = g k
        unfold m_cp
        rw [if_pos rfl, sb_cpy0 hk]
        exact hw.2 k hk
    · have hl : 0 < G.length := List.length_pos_iff.mpr hn
      have em : f_X2_isEmpty N σ = some (0, σ) := by
        unfold f_X2_isEmpty
        rw [hP.1, if_neg (n_nz (by omega) (by omega)), isb_0, gd_t]
      obtain ⟨J, j1, j2⟩ := hJ.resolve_left hn
      obtain ⟨σ2, n1, n2, n3⟩ := e_narrow (N := N) hz j1 hw
      refine ⟨σ2, ?_, n2, nJ J g, n3, joint_s j2 hg⟩
      unfold f_X3_join j_X3_join_29
      rw [em, bnd_s, if_pos rfl, e206, inb_n (show 7 < 8 by omega) (by omega), gd_t, n1, bnd_s]
  obtain ⟨σ2, ex, k2, J', w7, hJ'⟩ := hfst
  have w2 : WC σ2 z g := ⟨hw.1, fun k hk => by rw [k2 (8 + z) k (by omega)]; exact hw.2 k hk⟩
  have hpj := e_payJoin (N := N) w2 hg hG (by rw [k2 21 5 (by omega)]; exact hP.1)
  generalize hσ3 : mu (mu (mu (mu (mu σ2 42 G.length (nI z)) 39 G.length (g 7)) 40 G.length (nI (100 - wv g 8))) 41 G.length 0) 21 5 (nI (G.length + 1)) = σ3 at hpj
  have k3 : ∀ a j, a ≠ 42 → a ≠ 39 → a ≠ 40 → a ≠ 41 → a ≠ 21 → σ3 a j = σ2 a j := fun a j q1 q2 q3 q4 q5 => by rw [← hσ3, mu_c q5, mu_c q4, mu_c q3, mu_c q2, mu_c q1]
  have k3j : ∀ a j, j ≠ G.length → a ≠ 21 → σ3 a j = σ2 a j := fun a j q1 q5 => by
    rw [← hσ3, mu_c q5, mu_e, if_neg (by omega), mu_e, if_neg (by omega), mu_e, if_neg (by omega), mu_e, if_neg (by omega)]
  have kq : KQ σ σ3 := fun a j q => by
    unfold psG at q
    rw [k3 a j (by omega) (by omega) (by omega) (by omega) (by omega), k2 a j (by omega)]
  refine ⟨σ3, by rw [ex, hpj, bnd_s], kq, ⟨?_, ?_, fun p g' hp => ?_⟩, fun p g' hp => ?_, Or.inr ⟨J', ⟨by omega, fun k hk => by rw [k3 (8 + 7) k (by omega) (by omega) (by omega) (by omega) (by omega)]; exact w7.2 k hk⟩, hJ'⟩⟩
  · rw [← hσ3, mu_s, List.length_append]
    rfl
  · rw [List.length_append]
    show G.length + 1 ≤ 6
    omega
  · rw [List.getElem?_append] at hp
    by_cases q : p < G.length
    · rw [if_pos q] at hp
      obtain ⟨a, z', z1, z2, z3, z4, z5⟩ := hP.2.2 p g' hp
      refine ⟨a, z', z1, ?_, ⟨z3.1, fun k hk => ?_⟩, ?_, ?_⟩
      · rw [k3j 42 p (by omega) (by omega), k2 42 p (by omega)]; exact z2
      · rw [k3 (8 + z') k (by omega) (by omega) (by omega) (by omega) (by omega), k2 (8 + z') k (by omega)]; exact z3.2 k hk
      · rw [k3j 39 p (by omega) (by omega), k2 39 p (by omega)]; exact z4
      · rw [k3j 40 p (by omega) (by omega), k2 40 p (by omega)]; exact z5
    · rw [if_neg q] at hp
      have hp0 : p - G.length = 0 ∧ g = g' := by
        rcases hq : p - G.length with _ | r
        · rw [hq] at hp
          exact ⟨rfl, by simpa using hp⟩
        · rw [hq] at hp
          simp at hp
      obtain ⟨hq, rfl⟩ := hp0
      have e : p = G.length := by omega
      subst e
      refine ⟨hg, z, hz, ?_, ⟨hw.1, fun k hk => by rw [k3 (8 + z) k (by omega) (by omega) (by omega) (by omega) (by omega)]; exact w2.2 k hk⟩, ?_, ?_⟩
      · rw [← hσ3, mu_c (by decide), mu_c (by decide), mu_c (by decide), mu_c (by decide), mu_s]
      · rw [← hσ3, mu_c (by decide), mu_c (by decide), mu_c (by decide), mu_s]
      · rw [← hσ3, mu_c (by decide), mu_c (by decide), mu_s]
  · rw [List.getElem?_append] at hp
    by_cases q : p < G.length
    · rw [if_pos q] at hp
      rw [k3j 41 p (by omega) (by omega), k2 41 p (by omega)]
      exact hT p g' hp
    · rw [if_neg q] at hp
      have e : p = G.length := by
        rcases hq : p - G.length with _ | r
        · omega
        · rw [hq] at hp
          simp at hp
      subst e
      rw [← hσ3, mu_c (by decide), mu_s]
end JOIN
theorem KQ.c206 {σ σ' : Mem} (h : KQ σ σ') : σ' 20 6 = σ 20 6 := h 20 6 (by unfold psG; omega)
theorem rK.kq {σ σ' : Mem} (h : rK σ) (k : KQ σ σ') : rK σ' := h.keep k.kc
section ONEP
variable {N C M s : Nat} {σ0 τ0 : Mem}
def endC (N : Nat) (σ : Mem) : Option (Int32 × Mem) := m_bnd (f_X1_all N σ) (fun r1 σ2 => m_bnd (f_X3_findForJoined N r1 σ2) (fun r3 σ4 => (if r3 = 0 then some ((-100000000), σ4) else some (σ4 20 0, σ4))))
theorem lp_onep (hC : C ≤ 6) (h0 : Rel σ0 τ0) (h16 : σ0 16 8 = nI C) (hs : s < 2 ^ C) : ∀ m c n (σ : Mem), c + m = C → m < n → KQ σ0 σ → JI σ (askG s.testBit (fun c => σ0 (8 + c)) c) →
    ∃ σ1, l_X6_greatestByOneParting_9 N n (nI s) (nI c) σ = endC N σ1 ∧ KQ σ0 σ1 ∧ JI σ1 (askG s.testBit (fun c => σ0 (8 + c)) C) := by
  obtain ⟨C', hC', c1, c2, c3⟩ := h0.cov
  have eC : C' = C := by rw [h16] at c1; exact ((n_eq (by omega) (by omega)).mp c1).symm
  subst eC
  intro m
  induction m with
  | zero =>
    intro c n σ hk hn kq hJ
    obtain ⟨n, rfl⟩ : ∃ q, n = q + 1 := ⟨n - 1, by omega⟩
    have e : c = C' := by omega
    subst e
    have hle : nI c ≤ nI c := by rw [n_le (by omega) (by omega)]; omega
    refine ⟨σ, ?_, kq, hJ⟩
    simp only [l_X6_greatestByOneParting_9, b_X6_greatestByOneParting_9, kq.c16, h16, if_pos hle]
    rfl
  | succ m ih =>
    intro c n σ hk hn kq hJ
    obtain ⟨n, rfl⟩ : ∃ q, n = q + 1 := ⟨n - 1, by omega⟩
    have h16' : σ 16 8 = nI C' := by rw [kq.c16]; exact h16
    have hle : ¬ nI C' ≤ nI c := fun q => by rw [n_le (by omega) (by omega)] at q; omega
    have hcv : f_X6_coverAt N (nI c) σ = some (nI c, σ) := by
      rw [e_coverAt N hC h16' (h0.2.2.2.2.kq kq), blw_1 (by omega) (by omega), if_neg i1_ne0]
    obtain ⟨g1, g2, -⟩ := c3 c (by omega)
    have exC : l_X6_greatestByOneParting_9 N (n + 1) (nI s) (nI c) σ = if nI s &&& nI (2 ^ c) = 0 then l_X6_greatestByOneParting_9 N n (nI s) (nI (c + 1)) σ else m_bnd (f_X3_join N (nI c) σ) (fun r7 σ8 => l_X6_greatestByOneParting_9 N n (nI s) (nI (c + 1)) σ8) := by
      simp only [l_X6_greatestByOneParting_9, b_X6_greatestByOneParting_9, h16', if_neg hle, hcv, bnd_s, if_neg (nI_pos (show c < 2 ^ 31 by omega)), n_shl (show c < 31 by omega), nI_1]
    rw [exC]
    cases hb : s.testBit c with
    | false =>
      rw [if_pos ((fa_bit (by omega)).mpr hb)]
      exact ih (c + 1) n σ (by omega) (by omega) kq (by rw [askG_s, if_neg (by rw [hb]; decide)]; exact hJ)
    | true =>
      rw [if_neg (fun q => by rw [fa_bit (by omega), hb] at q; cases q)]
      have hl := askG_len s.testBit (fun c => σ0 (8 + c)) c
      obtain ⟨σ1, j1, j2, j3⟩ := e_joinJ (N := N) (z := c) (g := σ0 (8 + c)) (by rw [kq.c206]; exact h0.2.2.2.2.2.1) (by omega) ⟨by omega, fun k _ => kq (8 + c) k (by unfold psG; omega)⟩ g1 hJ (by omega)
      rw [j1, bnd_s]
      exact ih (c + 1) n σ1 (by omega) (by omega) (kq.tr j2) (by rw [askG_s, if_pos hb]; exact j3)
def apR (s : Nat) (gs : Nat → Nat → Int32) (c : Nat) : Prop := ∃ c', c' < c ∧ s.testBit c' = true ∧ gs c' 3 = 0
theorem lp_apR {τ : Mem} {gs : Nat → Nat → Int32} (hC : C ≤ 6) (h7 : τ 0 7 = nI C) (hW : ∀ c, c < C → wfC (gs c) ∧ WR τ c (gs c)) (hs : s < 2 ^ 31) : ∀ m c n, c + m = C → m < n →
    l_X7_layers_32 N n (nI s) (b2i (cdec (apR s gs c))) (nI c) τ = if τ 0 15 ≤ 8 then j_X7_layers_92 N (nI s) (b2i (cdec (apR s gs C))) τ else if b2i (cdec (apR s gs C)) = 0 then some (-100000000, τ) else j_X7_layers_92 N (nI s) (b2i (cdec (apR s gs C))) τ := by
  intro m
  induction m with
  | zero =>
    intro c n hk hn
    obtain ⟨n, rfl⟩ : ∃ q, n = q + 1 := ⟨n - 1, by omega⟩
    have e : c = C := by omega
    subst e
    have hle : nI c ≤ nI c := by rw [n_le (by omega) (by omega)]; omega
    simp only [l_X7_layers_32, b_X7_layers_32, h7, if_pos hle]
  | succ m ih =>
    intro c n hk hn
    obtain ⟨n, rfl⟩ : ∃ q, n = q + 1 := ⟨n - 1, by omega⟩
    have hle : ¬ nI C ≤ nI c := fun q => by rw [n_le (by omega) (by omega)] at q; omega
    have ih := ih (c + 1) n (by omega) (by omega)
    have e3 : f_X7_wordOf N (nI c) 3 τ = some (gs c 3, τ) := e_wordOf N (hW c (by omega)).2 (k := 3) (by omega)
    simp only [l_X7_layers_32, b_X7_layers_32, h7, if_neg hle, e_hasR N hs (show c < 32 by omega), bnd_s, e3, nI_1]
    rw [← ih]
    by_cases q : apR s gs c
    · rw [cdec_t q, if_neg b2i_tn, cdec_t (show apR s gs (c + 1) from by obtain ⟨c', a, b⟩ := q; exact ⟨c', by omega, b⟩)]
      rfl
    · rw [cdec_f q, if_pos b2i_f]
      cases hb : s.testBit c with
      | false =>
        rw [if_pos b2i_f, cdec_f (show ¬ apR s gs (c + 1) from fun ⟨c', a, b, d⟩ => by
          rcases Nat.lt_or_ge c' c with w | w
          · exact q ⟨c', w, b, d⟩
          · have e : c' = c := by omega
            rw [e, hb] at b; cases b)]
        rfl
      | true =>
        rw [if_neg b2i_tn]
        by_cases q3 : gs c 3 = 0
        · rw [if_pos q3, cdec_t (show apR s gs (c + 1) from ⟨c, by omega, hb, q3⟩)]
          rfl
        · rw [if_neg q3, cdec_f (show ¬ apR s gs (c + 1) from fun ⟨c', a, b, d⟩ => by
            rcases Nat.lt_or_ge c' c with w | w
            · exact q ⟨c', w, b, d⟩
            · have e : c' = c := by omega
              rw [e] at d; exact q3 d)]
          rfl
end ONEP
theorem p_layers {N : Nat} (hN : 300 ≤ N) {σ τ : Mem} (h : Rel σ τ) (x w : Int32) : Same (f_X6_layers N x w σ) (f_X7_layers N x w τ) := by
  obtain ⟨C, hC, c1, c2, c3⟩ := h.cov
  obtain ⟨M, hD, hLC, hLR, -⟩ := h.data
  have hM := hD.1
  have k1 : mu τ 0 0 0 0 7 = nI C := c2
  have hr := Same.mk (-100000000) (h.th 0)
  have e1 : nI (2 ^ C) - 1 = nI (2 ^ C - 1) := by rw [nI_lit 1, pk_sub Nat.one_le_two_pow]
  simp only [f_X6_layers, f_X7_layers, m_let, m_leti, c1, k1, n_shl (show C < 31 by omega)]
  rw [e1]
  have h64 : 2 ^ C ≤ 64 := Nat.pow_le_pow_right (show 0 < 2 by decide) hC
  by_cases h1 : sub2 x C = 0
  · have hb : ¬ x &&& (nI (2 ^ C - 1) ^^^ (-1)) = 0 := fun q => by
      rw [sub2_b x (by omega), h1] at q
      exact absurd q (by decide)
    rw [if_neg hb, ite_self]
    by_cases q : x < 1
    · rw [if_pos q]
      exact hr
    · rw [if_neg q]
      have h0 : ¬ x < 0 := fun w => q (by rw [fa_lt] at w ⊢; have e : (1 : Int32).toInt = 1 := rfl; have e' : (0 : Int32).toInt = 0 := rfl; omega)
      unfold sub2 at h1
      rw [if_neg h0] at h1
      have hge : nI (2 ^ C) ≤ x := by
        by_cases e : nI (2 ^ C) ≤ x
        · exact e
        · rw [if_neg e] at h1
          exact absurd h1 (by decide)
      rw [if_neg (fun w => (fa_of_lt w).2.1 hge)]
      exact hr
  have h1' : sub2 x C = 1 := (sub2_01 x C).resolve_left h1
  rw [if_pos ((sub2_b x (show C ≤ 12 by omega)).mpr h1')]
  obtain ⟨s, hs, rfl⟩ := sub2_n (show C ≤ 12 by omega) h1
  by_cases hs0 : s = 0
  · rw [if_pos (by rw [hs0]; rfl), if_pos (by rw [hs0]; decide)]
    exact hr
  have n1 : ¬ nI s < 1 := fun q => by
    have : nI s < nI 1 := q
    rw [n_lt (by omega) (by omega)] at this
    omega
  rw [if_neg (n_nz (by omega) hs0), if_neg n1, if_pos ((n_lt (by omega) (by omega)).mpr hs)]
  by_cases hw : w = 0
  · rw [if_pos hw, if_pos hw]
    obtain ⟨v, σ', τ', b1, b2, b3⟩ := lp_own hN hC hM hs C 0 N N σ (mu τ 0 0 0) 0 (by omega) (by omega) (by omega) (h.th 0) c1 hLC.1
    unfold f_X6_greatestByOwnPartings
    rw [show (0 : Int32) = nI 0 from rfl] at b1 b2 ⊢
    rw [b1, b2, bnd_s]
    exact Same.mk _ b3
  rw [if_neg hw, if_neg hw]
  generalize hgs : (fun c => σ (8 + c)) = gs
  have hW : ∀ c, c < C → wfC (gs c) ∧ WR (mu τ 0 0 0) c (gs c) := fun c hc => by
    rw [← hgs]
    exact ⟨(c3 c hc).1, (c3 c hc).2.2.keep (KR.th τ 0)⟩
  have hbit : ∃ c, c < C ∧ s.testBit c = true := by
    obtain ⟨c, hc⟩ := nz_tb hs0
    exact ⟨c, lt_of_tb hs hc, hc⟩
  have hGne : askG s.testBit gs C ≠ [] := fun e => by
    obtain ⟨c, q1, q2⟩ := hbit
    have : gs c ∈ askG s.testBit gs C := (askG_mem C).mpr ⟨c, q1, q2, rfl⟩
    rw [e] at this
    cases this
  have hGw : ∀ g ∈ askG s.testBit gs C, wfC g := fun g hg => by
    obtain ⟨c, q1, -, q3⟩ := (askG_mem C).mp hg
    rw [q3]
    exact (hW c q1).1
  -- the class
  generalize hσ1 : mu σ 21 5 0 = σ1
  have k21 : KQ σ σ1 := fun a j q => by
    rw [← hσ1, mu_c]
    unfold psG at q
    omega
  have s1 : f_X3_startJoining N σ = some (0, σ1) := by
    unfold f_X3_startJoining f_X2_clear
    simp only [m_let, bnd_s]
    rw [hσ1]
  have hJ0 : JI σ1 (askG s.testBit gs 0) := by
    refine ⟨⟨?_, ?_, fun p g hp => ?_⟩, fun p g hp => ?_, Or.inl rfl⟩
    · rw [← hσ1, mu_s]; rfl
    · exact Nat.zero_le 6
    · simp [askG] at hp
    · simp [askG] at hp
  obtain ⟨σ2, a1, a2, a3⟩ := lp_onep (N := N) (C := C) (s := s) (σ0 := σ) hC h c1 hs C 0 N σ1 (by omega) (by omega) k21 (by rw [hgs]; exact hJ0)
  rw [hgs] at a3
  obtain ⟨hP, hT, hJJ⟩ := a3
  obtain ⟨J, w7, hJt⟩ := hJJ.resolve_left hGne
  have e6 : σ2 20 6 = 7 := by rw [a2.c206]; exact h.2.2.2.2.2.1
  have hLC2 : LC σ2 M (Dof σ) := hLC.keep a2.kc
  have hfd := e_found (S := 2 ^ M - 1) hN hD hLC2 e6 w7 hP hT hJt two_lt hGne (fun _ => 0)
  have exC : f_X6_greatestByOneParting N (nI s) σ = m_bnd (f_X3_findForJoined N (nI (2 ^ M - 1)) σ2) (fun r3 σ4 => (if r3 = 0 then some ((-100000000), σ4) else some (σ4 20 0, σ4))) := by
    unfold f_X6_greatestByOneParting
    rw [s1, bnd_s]
    rw [show (0 : Int32) = nI 0 from rfl, a1]
    unfold endC
    rw [e_all N hM hLC2.1, bnd_s]
    rfl
  -- the reference
  have hap := lp_apR (N := N) (C := C) (s := s) (τ := mu τ 0 0 0) hC k1 hW (by omega) C 0 N (by omega) (by omega)
  have e00 : b2i (cdec (apR s gs 0)) = 0 := by
    rw [cdec_f (fun ⟨c', a, _⟩ => absurd a (Nat.not_lt_zero c'))]
    rfl
  rw [e00] at hap
  have h15 : mu τ 0 0 0 0 15 = nI M := hLR.1
  rw [exC]
  rw [show l_X7_layers_32 N N (nI s) 0 0 (mu τ 0 0 0) = _ from hap, h15]
  have hap3 : apR s gs C ↔ ∃ g ∈ askG s.testBit gs C, g 3 ≠ 1 := by
    constructor
    · rintro ⟨c, q1, q2, q3⟩
      exact ⟨gs c, (askG_mem C).mpr ⟨c, q1, q2, rfl⟩, by rw [q3]; decide⟩
    · rintro ⟨g, q1, q2⟩
      obtain ⟨c, p1, p2, p3⟩ := (askG_mem C).mp q1
      rw [p3] at q2
      rcases wf3 (hW c p1).1 with ⟨w1, -⟩ | ⟨w1, -⟩
      · exact ⟨c, p1, p2, w1⟩
      · exact absurd w1 q2
  have hJ3 : J 3 = 0 ↔ apR s gs C := by
    rw [hap3]
    constructor
    · intro e
      refine Classical.byContradiction (fun q => ?_)
      have : J 3 = 1 := hJt.2.2.2.1.mpr (fun g hg => Classical.byContradiction (fun w => q ⟨g, hg, w⟩))
      rw [e] at this
      exact absurd this (by decide)
    · rintro ⟨g, q1, q2⟩
      rcases wf3 hJt.1 with ⟨w1, -⟩ | ⟨w1, -⟩
      · exact w1
      · exact absurd (hJt.2.2.2.1.mp w1 g q1) q2
  have htd : toldS J (2 ^ M - 1) ↔ M ≤ 8 ∨ apR s gs C := by
    unfold toldS
    rw [cnt_12 hM two_lt, cnt_all, hJ3]
  have hkA : KR τ (mu τ 0 0 0) := KR.th τ 0
  by_cases ht : toldS J (2 ^ M - 1)
  · rcases hfd with ⟨-, σ', f1, f2, f3⟩ | ⟨q, -⟩
    · -- told
      have hgoR : ∃ τ', j_X7_layers_92 N (nI s) (b2i (cdec (apR s gs C))) (mu τ 0 0 0) = (if τ' 0 33 = 0 then some (-100000000, τ') else some (τ' 0 27, τ')) ∧ AccR τ' (LawV (Dof σ) M (2 ^ M - 1) (askG s.testBit gs C) (fun _ => 0)) ∧ KR τ τ' := by
        generalize hτ0 : mu τ 0 0 0 = τ0 at *
        have hk : ∀ a j, ¬ (a = 0 ∧ (j = 25 ∨ j = 34 ∨ j = 26 ∨ j = 33 ∨ j = 22)) → mu (mu (mu (mu (mu τ0 0 25 (nI s)) 0 34 1) 0 26 (nI (2 ^ M - 1))) 0 33 0) 0 22 0 a j = τ0 a j := by
          intro a j q
          rw [mu_e, if_neg (by omega), mu_e, if_neg (by omega), mu_e, if_neg (by omega), mu_e, if_neg (by omega), mu_e, if_neg (by omega)]
        have e15 : mu (mu τ0 0 25 (nI s)) 0 34 1 0 15 = nI M := h15
        generalize hτ : mu (mu (mu (mu (mu τ0 0 25 (nI s)) 0 34 1) 0 26 (nI (2 ^ M - 1))) 0 33 0) 0 22 0 = τ7 at hk
        have hkr : KR τ0 τ7 := fun a j q => hk a j (by unfold psR at q; omega)
        have k25 : τ7 0 25 = nI s := by rw [← hτ, mu_k (by decide), mu_k (by decide), mu_k (by decide), mu_k (by decide), mu_s]
        have k34 : τ7 0 34 = 1 := by rw [← hτ, mu_k (by decide), mu_k (by decide), mu_k (by decide), mu_s]
        have k26 : τ7 0 26 = nI (2 ^ M - 1) := by rw [← hτ, mu_k (by decide), mu_k (by decide), mu_s]
        have k33 : τ7 0 33 = 0 := by rw [← hτ, mu_k (by decide), mu_s]
        have k22 : τ7 0 22 = 0 := by rw [← hτ, mu_s]
        have hSR : SR τ7 M (Dof σ) C gs s.testBit (fun _ => 0) := ⟨(hLR.keep (hkA.tr hkr)), hD, hC, by rw [hk 0 7 (by omega)]; exact k1, fun c hc => ⟨(hW c hc).1, (hW c hc).2.keep hkr⟩, Or.inr ⟨k34, ⟨s, by omega, k25, fun _ => rfl⟩, rfl⟩⟩
        obtain ⟨τ9, i1, i2, i3, i4⟩ := e_run (N := N) (by omega) two_lt hSR k26 k33 k22
        have h915 : τ9 0 15 = nI M := by rw [i2 0 15 (by omega) (by omega), hk 0 15 (by omega)]; exact h15
        by_cases q : apR s gs C
        · obtain ⟨τ', j1, j2, j3⟩ := i3 (hap3.mp q)
          refine ⟨τ', ?_, j2, ((hkA.tr hkr).tr i2.kr).tr j3.kr⟩
          unfold j_X7_layers_92
          simp only [m_let, isb_0, isb_1, gd_t]
          rw [e_every N hM e15, bnd_s, hτ, i1, bnd_s, cdec_t q, if_neg b2i_tn, e_every N hM h915, bnd_s, j1, bnd_s]
        · obtain ⟨τ', j1, j2, j3⟩ := i4 (fun g hg => Classical.byContradiction (fun w => q (hap3.mpr ⟨g, hg, w⟩)))
          refine ⟨τ', ?_, j2, ((hkA.tr hkr).tr i2.kr).tr j3.kr⟩
          unfold j_X7_layers_92
          simp only [m_let, isb_0, isb_1, gd_t]
          rw [e_every N hM e15, bnd_s, hτ, i1, bnd_s, cdec_f q, if_pos b2i_f, j1, bnd_s]
      obtain ⟨τ', r1, r2, r3⟩ := hgoR
      have hfin : Rel σ' τ' := h.keep (a2.kc.tr f3.kc) r3
      have hR : (if nI M ≤ 8 then j_X7_layers_92 N (nI s) (b2i (cdec (apR s gs C))) (mu τ 0 0 0) else if b2i (cdec (apR s gs C)) = 0 then some (-100000000, mu τ 0 0 0) else j_X7_layers_92 N (nI s) (b2i (cdec (apR s gs C))) (mu τ 0 0 0)) = j_X7_layers_92 N (nI s) (b2i (cdec (apR s gs C))) (mu τ 0 0 0) := by
        by_cases q8 : nI M ≤ 8
        · rw [if_pos q8]
        · rw [if_neg q8]
          have : apR s gs C := (htd.mp ht).resolve_left (fun e => q8 (by rw [nI_lit 8]; exact (n_le (by omega) (by omega)).mpr e))
          rw [if_neg (by rw [cdec_t this]; exact b2i_tn)]
      rw [hR, r1, f1, bnd_s]
      rcases acc_same f2 r2 with ⟨e1, e2⟩ | ⟨e1, e2, e3, -⟩
      · rw [if_pos e1, if_pos e2, bnd_s]
        exact Same.mk _ hfin
      · rw [if_neg (by rw [e1]; exact i1_ne0), if_neg (by rw [e2]; exact i1_ne0), bnd_s, e3]
        exact Same.mk _ hfin
    · exact absurd ht q
  · rcases hfd with ⟨q, -⟩ | ⟨-, σ', f1, f3⟩
    · exact absurd q ht
    · have q8 : ¬ nI M ≤ 8 := fun e => ht (htd.mpr (Or.inl ((n_le (by omega) (by omega)).mp (show nI M ≤ nI 8 from e))))
      have qa : ¬ apR s gs C := fun e => ht (htd.mpr (Or.inr e))
      rw [f1, bnd_s, if_pos rfl, bnd_s, if_neg q8, if_pos (by rw [cdec_f qa]; rfl)]
      exact Same.mk _ (h.keep (a2.kc.tr f3.kc) hkA)
