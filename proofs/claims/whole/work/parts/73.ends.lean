/-! told, ends, hangs -/
def HID : Int32 := -100000000
theorem nI_int {n : Nat} (h : n < 2 ^ 31) : (nI n).toInt = (n : Int) := nI_toInt h
theorem nh {n : Nat} (h : n < 2 ^ 30) : ¬ nI n = -100000000 := fun q => by
  have := congrArg Int32.toInt q
  rw [nI_int (by omega)] at this
  have e : (-100000000 : Int32).toInt = -100000000 := rfl
  omega
theorem nm {n : Nat} (h : n < 2 ^ 30) : ¬ nI n = -1 := fun q => by
  have := congrArg Int32.toInt q
  rw [nI_int (by omega)] at this
  have e : (-1 : Int32).toInt = -1 := rfl
  omega
theorem Rel.hour {σ τ : Mem} (h : Rel σ τ) (k : Nat) {n : Nat} (hn : n ≤ 999) : Rel (mu σ 27 k (nI n)) (mu τ 4 k (nI n)) := by
  obtain ⟨M, hM, l1, l2, l3, l4⟩ := h.2.2.1
  refine ⟨h.1, h.2.1.k rfl (fun c hc => mu_c (by omega)) rfl rfl, ⟨M, hM, l1, l2, fun j hj => ?_, l4⟩, h.2.2.2.1, h.2.2.2.2⟩
  obtain ⟨⟨w1, w2, w3, w4, w5, w6, w7⟩, q1, q2, q⟩ := l3 j hj
  refine ⟨⟨w1, ?_, w3, w4, w5, w6, w7⟩, q1, ?_, q⟩
  · show ∃ n', _ ∧ upd (σ 27) k _ j = _
    by_cases e : j = k
    · subst e
      exact ⟨n, hn, upd_s _ _ _⟩
    · rw [upd_n _ e]
      exact w2
  · show upd (τ 4) k _ j = upd (σ 27) k _ j
    by_cases e : j = k
    · subst e
      rw [upd_s, upd_s]
    · rw [upd_n _ e, upd_n _ e]
      exact q2
theorem Rel.cause {σ τ : Mem} (h : Rel σ τ) (k : Nat) {n : Nat} (hn1 : 1 ≤ n) (hn : n ≤ 63) : Rel (mu σ 31 k (nI n)) (mu τ 8 k (nI n)) := by
  obtain ⟨M, hM, l1, l2, l3, l4⟩ := h.2.2.1
  refine ⟨h.1, h.2.1.k rfl (fun c hc => mu_c (by omega)) rfl rfl, ⟨M, hM, l1, l2, fun j hj => ?_, l4⟩, h.2.2.2.1, h.2.2.2.2⟩
  obtain ⟨⟨w1, w2, w3, w4, w5, w6, w7⟩, q1, q2, q3, q4, q5, q6, q7⟩ := l3 j hj
  refine ⟨⟨w1, w2, w3, w4, w5, ?_, w7⟩, q1, q2, q3, q4, q5, ?_, q7⟩
  · show ∃ n', _ ∧ _ ∧ upd (σ 31) k _ j = _
    by_cases e : j = k
    · subst e
      exact ⟨n, hn1, hn, upd_s _ _ _⟩
    · rw [upd_n _ e]
      exact w6
  · show upd (τ 8) k _ j = upd (σ 31) k _ j
    by_cases e : j = k
    · subst e
      rw [upd_s, upd_s]
    · rw [upd_n _ e, upd_n _ e]
      exact q6
section SRCH
variable {N M C S c : Nat} {σ τ : Mem}
theorem Rel.srch (hN : 300 ≤ N) (h : Rel σ τ) (h16 : σ 16 8 = nI C) (h18 : σ 18 6 = nI M) (hC : C ≤ 6) (hM : M ≤ 12) (hc : c < C) (hS : S < 2 ^ M) :
    ∃ r σ' τ', f_X3_findFor N (nI c) (nI S) σ = some (r, σ') ∧ f_X7_layAll N (nI c) (nI S) τ = some (r, τ') ∧ Rel σ' τ' ∧ KQ σ σ' ∧ KR τ τ' ∧ τ' 0 41 = τ 0 41 ∧ ((r = 0 ∧ noneS (Dof σ) M S (σ (8 + c))) ∨ (r = 1 ∧ toldS (σ (8 + c)) S ∧ Fnd (Dof σ) M S (σ (8 + c)) σ' τ')) := by
  obtain ⟨C', hC', c1, c2, c3⟩ := h.cov
  obtain ⟨M', hD, hLC, hLR, -⟩ := h.data
  have eC : C' = C := by rw [h16] at c1; exact ((n_eq (by omega) (by omega)).mp c1).symm
  have eM : M' = M := by
    have := hD.1
    have e := hLC.1
    rw [h18] at e
    exact ((n_eq (by omega) (by omega)).mp e).symm
  subst eC eM
  obtain ⟨g1, g2, g3⟩ := c3 c hc
  obtain ⟨r, σ', τ', a1, a2, a3, a4, a5, a6⟩ := e_both (gs := fun c => σ (8 + c)) hN hD hLC hLR h.2.2.2.2.2.1 (show c < 7 by omega) g2 hC c2 (fun c' hc' => ⟨(c3 c' hc').1, (c3 c' hc').2.2⟩) hc hS
  exact ⟨r, σ', τ', a1, a2, h.keep a3.kc a4, a3, a4, a5, a6⟩
/-- what both find as most -/
theorem Rel.gr (hN : 300 ≤ N) (h : Rel σ τ) (h16 : σ 16 8 = nI C) (h18 : σ 18 6 = nI M) (hC : C ≤ 6) (hM : M ≤ 12) (hc : c < C) (hS : S < 2 ^ M) :
    ∃ x r σ' τ', f_X6_greatestFor N (nI c) (nI S) σ = some (x, σ') ∧ f_X7_layAll N (nI c) (nI S) τ = some (r, τ') ∧ Rel σ' τ' ∧ KQ σ σ' ∧ KR τ τ' ∧ τ' 0 41 = τ 0 41 ∧ ((r = 0 ∧ x = -100000000 ∧ noneS (Dof σ) M S (σ (8 + c))) ∨ (r = 1 ∧ ∃ b, b < 2 ^ 30 ∧ x = nI b ∧ τ' 0 27 = nI b ∧ toldS (σ (8 + c)) S ∧ ∃ f, bestM (VV (Dof σ) M S (σ (8 + c))) b f)) := by
  obtain ⟨r, σ', τ', a1, a2, a3, a4, a5, a6, a7⟩ := h.srch hN h16 h18 hC hM hc hS
  rcases a7 with ⟨e, a7⟩ | ⟨e, a7, v, ⟨b, f, x1, x2, -, -, x5⟩, -⟩
  · refine ⟨-100000000, r, σ', τ', ?_, a2, a3, a4, a5, a6, Or.inl ⟨e, rfl, a7⟩⟩
    unfold f_X6_greatestFor
    rw [a1, bnd_s, if_pos e]
  · refine ⟨nI b, r, σ', τ', ?_, a2, a3, a4, a5, a6, Or.inr ⟨e, b, ?_, rfl, x2, a7, f, x5⟩⟩
    · unfold f_X6_greatestFor
      rw [a1, bnd_s, if_neg (by rw [e]; exact i1_ne0), x1]
    · obtain ⟨w, q⟩ := x5.1
      exact (v _ _ _ q).1
end SRCH
theorem KQ.c16 {σ σ' : Mem} (h : KQ σ σ') : σ' 16 8 = σ 16 8 := h 16 8 (by unfold psG; omega)
theorem KQ.c18 {σ σ' : Mem} (h : KQ σ σ') : σ' 18 6 = σ 18 6 := h 18 6 (by unfold psG; omega)
theorem two_lt {M : Nat} : 2 ^ M - 1 < 2 ^ M := by have := Nat.two_pow_pos M; omega
theorem p_told {N : Nat} (hN : 300 ≤ N) {σ τ : Mem} (h : Rel σ τ) (x y w : Int32) : Same (f_X6_told N x y w σ) (f_X7_told N x y w τ) := by
  obtain ⟨C, hC, c1, c2, c3⟩ := h.cov
  obtain ⟨M, hD, hLC, hLR, -⟩ := h.data
  have hM := hD.1
  have k1 : mu τ 0 0 0 0 7 = nI C := c2
  have k2 : mu τ 0 0 0 0 15 = nI M := hLR.1
  have hr := Same.mk (-100000000) (h.th 0)
  simp only [f_X6_told, f_X7_told, m_let, m_leti, e_coverAt N hC c1 h.2.2.2.2, e_isCover, e_has, e_isLoss, e_isIn, e_isWithin, bnd_s, k1, k2, hLC.1]
  by_cases h1 : blw x (nI C) = 0
  · rw [if_pos h1, if_pos h1, if_pos (by decide)]
    exact hr
  obtain ⟨c, hc, rfl⟩ := blw_n (by omega) h1
  rw [if_neg h1, if_neg h1, if_neg (nI_pos (by omega))]
  by_cases h2 : blw y (nI M) = 0
  · rw [if_pos h2, if_pos h2]
    exact hr
  obtain ⟨k, hk, rfl⟩ := blw_n (by omega) h2
  rw [if_neg h2, if_neg h2]
  by_cases h3 : in3 w 0 5 = 0
  · rw [if_pos h3, if_pos h3]
    exact hr
  obtain ⟨a, -, ha, rfl⟩ := in3_n (a := 0) (b := 5) (by omega) (by omega) h3
  have hd := hD.2 k hk
  have e31 : σ 31 k = nI (Dof σ 4 k) := (hLC.2 k hk).2.2.2.2
  have e8 : mu τ 0 0 0 8 k = nI (Dof σ 4 k) := (hLR.2 k hk).2.2.2.2
  rw [if_neg h3, if_neg h3, inb_n (show k < 12 by omega) (by omega), gd_t, gd_t, nI_clamp (show k < 2 ^ 31 by omega), e31, e8, n_shl (show a < 31 by omega), e_hasR N (show Dof σ 4 k < 2 ^ 31 by omega) (show a < 32 by omega), bnd_s]
  cases hb : (Dof σ 4 k).testBit a with
  | false =>
    rw [if_pos ((fa_bit (by omega)).mpr hb), if_pos b2i_f]
    exact hr
  | true =>
    have h2a : 1 ≤ 2 ^ a ∧ 2 ^ a ≤ 32 := ⟨Nat.two_pow_pos a, by have := Nat.pow_le_pow_right (show 0 < 2 by decide) ha; exact this⟩
    have hR1 := (h.th 0).cause k (n := 2 ^ a) h2a.1 (by omega)
    rw [if_neg (fun q => by rw [fa_bit (by omega), hb] at q; cases q), if_neg b2i_tn]
    simp only [gd_t]
    have e18 : mu σ 31 k (nI (2 ^ a)) 18 6 = nI M := hLC.1
    have e15 : mu (mu τ 0 0 0) 8 k (nI (2 ^ a)) 0 15 = nI M := hLR.1
    rw [e_all N hM e18, e_every N hM e15, bnd_s, bnd_s]
    obtain ⟨v, r, σ', τ', a1, a2, a3, a4, a5, -, a7⟩ := hR1.gr hN (C := C) (c := c) c1 e18 hC hM hc two_lt
    rw [a1, a2, bnd_s, bnd_s]
    have hfin := a3.cause k (n := Dof σ 4 k) hd.2.2.2.2.2.1 hd.2.2.2.2.2.2
    rcases a7 with ⟨e, e2, -⟩ | ⟨e, b, -, e2, e3, -⟩
    · rw [if_pos e, e2, e8]
      exact Same.mk _ hfin
    · rw [if_neg (show ¬ r = 0 by rw [e]; exact i1_ne0), e2, e8]
      rw [show mu τ' 8 k (nI (Dof σ 4 k)) 0 27 = nI b from e3]
      exact Same.mk _ hfin
/-! ends -/
def lohi (A low high w : Int32) : Prop := (w = 0 → A = low) ∧ (w ≠ 0 → A = high) ∧ ((low = -100000000 ∧ high = -100000000) ∨ ∃ a b, a < 2 ^ 30 ∧ b < 2 ^ 30 ∧ low = nI a ∧ high = nI b)
/-- what is found at an hour is noted -/
def notd (V : VS) (T : Prop) (low high : Int32) : Prop := (¬ T ∨ ∀ v, ¬ V v) ∨ ∃ b f p q, bestM V b f ∧ low = nI p ∧ high = nI q ∧ p ≤ b ∧ b ≤ q ∧ p < 2 ^ 30 ∧ q < 2 ^ 30
theorem lp_ends {N : Nat} (hN : 300 ≤ N) {C M c k L was : Nat} {D : Nat → Nat → Nat} {g : Nat → Int32} (hC : C ≤ 6) (hM : M ≤ 12) (hc : c < C) (hk : k < M) (hL : L ≤ 999) (hw : was ≤ 999) (hg : wfC g) (w : Int32) : ∀ m hr n n' (σ τ : Mem) (A low high : Int32), L + 1 ≤ hr + m → hr ≤ 1000 → was ≤ hr → m < n → m < n' → (∃ x, Rel σ (mu τ 4 k x)) → σ 16 8 = nI C → σ 18 6 = nI M → σ 28 k = nI L → σ (8 + c) = g → (∀ h, Dh (Dof σ) k h = Dh D k h) → lohi A low high w → (was < hr → notd (VV (Dh D k (hr - 1)) M (2 ^ M - 1) g) (toldS g (2 ^ M - 1)) low high) →
    Same (l_X6_ends_65 N n (nI k) w (nI c) (nI was) (nI L) A (nI hr) σ) (l_X7_ends_53 N n' (nI c) (nI k) w (nI was) low high (nI hr) τ) := by
  intro m
  have hrel : ∀ (σ τ : Mem) x h, Rel σ (mu τ 4 k x) → h ≤ 999 → Rel (mu σ 27 k (nI h)) (mu τ 4 k (nI h)) := fun σ τ x h q hh => by
    have t := q.hour k hh
    rw [mu_mu] at t
    exact t
  have fin : ∀ hr n n' (σ τ : Mem) (A low high : Int32), L < hr → hr ≤ 1000 → (∃ x, Rel σ (mu τ 4 k x)) → σ 18 6 = nI M → σ 28 k = nI L → lohi A low high w → Same (l_X6_ends_65 N (n + 1) (nI k) w (nI c) (nI was) (nI L) A (nI hr) σ) (l_X7_ends_53 N (n' + 1) (nI c) (nI k) w (nI was) low high (nI hr) τ) := by
    intro hr n n' σ τ A low high hlt hh hx h18 h28 hA
    obtain ⟨x, h⟩ := hx
    have t5 : τ 5 k = nI L := by
      obtain ⟨M', hM', l1, l2, l3, l4⟩ := h.2.2.1
      have eM : M' = M := by rw [h18] at l1; exact ((n_eq (by omega) (by omega)).mp l1).symm
      have t := (l3 k (by omega)).2.2.2.1
      rw [h28] at t
      exact t
    have hq : nI L < nI hr := (n_lt (by omega) (by omega)).mpr hlt
    have hx := hrel σ τ x was h hw
    simp only [l_X6_ends_65, b_X6_ends_65, l_X7_ends_53, b_X7_ends_53, inb_n (show k < 12 by omega) (show 12 < 2 ^ 31 by omega), gd_t, nI_clamp (show k < 2 ^ 31 by omega), t5, if_pos hq, m_let]
    by_cases w0 : w = 0
    · rw [if_pos w0, hA.1 w0]
      exact Same.mk _ hx
    · rw [if_neg w0, hA.2.1 w0]
      exact Same.mk _ hx
  induction m with
  | zero =>
    intro hr n n' σ τ A low high h1 h2 h2' h3 h4 h h16 h18 h28 hgc hE hA hT
    obtain ⟨n, rfl⟩ : ∃ q, n = q + 1 := ⟨n - 1, by omega⟩
    obtain ⟨n', rfl⟩ : ∃ q, n' = q + 1 := ⟨n' - 1, by omega⟩
    exact fin hr n n' σ τ A low high (by omega) h2 h h18 h28 hA
  | succ m ih =>
    intro hr n n' σ τ A low high h1 h2 h2' h3 h4 hx h16 h18 h28 hgc hE hA hT
    obtain ⟨n, rfl⟩ : ∃ q, n = q + 1 := ⟨n - 1, by omega⟩
    obtain ⟨n', rfl⟩ : ∃ q, n' = q + 1 := ⟨n' - 1, by omega⟩
    rcases Nat.lt_or_ge L hr with hlt | hge
    · exact fin hr n n' σ τ A low high hlt h2 hx h18 h28 hA
    obtain ⟨x, h⟩ := hx
    have t5 : τ 5 k = nI L := by
      obtain ⟨M', hM', l1, l2, l3, l4⟩ := h.2.2.1
      have eM : M' = M := by rw [h18] at l1; exact ((n_eq (by omega) (by omega)).mp l1).symm
      have t := (l3 k (by omega)).2.2.2.1
      rw [h28] at t
      exact t
    have t15 : τ 0 15 = nI M := by
      obtain ⟨M', hM', l1, l2, l3, l4⟩ := h.2.2.1
      have t : τ 0 15 = nI M' := l2
      rw [t, ← l1, h18]
    obtain ⟨M', hD, hLC, -⟩ := h.data
    have eM : M' = M := by
      have e := hLC.1
      have := hD.1
      rw [h18] at e
      exact ((n_eq (by omega) (by omega)).mp e).symm
    rw [eM] at hD hLC
    have hq : ¬ nI L < nI hr := fun q => by rw [n_lt (by omega) (by omega)] at q; omega
    have hR1 := hrel σ τ x hr h (by omega)
    obtain ⟨v, r, σ', τ', a1, a2, a3, a4, a5, -, a7⟩ := hR1.gr hN (C := C) (c := c) (M := M) (S := 2 ^ M - 1) h16 h18 hC hM hc two_lt
    have eD : Dof (mu σ 27 k (nI hr)) = Dh D k hr := (Dof_mu (by omega)).trans (hE hr)
    have eg : mu σ 27 k (nI hr) (8 + c) = g := (mu_c (by omega)).trans hgc
    rw [eD, eg] at a7
    have ea : f_X1_all N (mu σ 27 k (nI hr)) = some (nI (2 ^ M - 1), mu σ 27 k (nI hr)) := e_all N hM h18
    have ee : f_X7_every N (mu τ 4 k (nI hr)) = some (nI (2 ^ M - 1), mu τ 4 k (nI hr)) := e_every N hM t15
    have exG : j_X6_ends_97 N (l_X6_ends_65 N n) (nI k) w (nI c) (nI was) (nI L) A (nI hr) σ = if w = 0 then (if A ≤ v then j_X6_ends_154 N (l_X6_ends_65 N n) (nI k) w (nI c) (nI was) (nI L) A (nI hr) v 0 σ' else j_X6_ends_154 N (l_X6_ends_65 N n) (nI k) w (nI c) (nI was) (nI L) A (nI hr) v 1 σ') else (if v ≤ A then j_X6_ends_154 N (l_X6_ends_65 N n) (nI k) w (nI c) (nI was) (nI L) A (nI hr) v 0 σ' else j_X6_ends_154 N (l_X6_ends_65 N n) (nI k) w (nI c) (nI was) (nI L) A (nI hr) v 1 σ') := by
      simp only [j_X6_ends_97, inb_n (show k < 12 by omega) (show 12 < 2 ^ 31 by omega), gd_t, nI_clamp (show k < 2 ^ 31 by omega), m_let, ea, bnd_s, a1]
    have exR : l_X7_ends_53 N (n' + 1) (nI c) (nI k) w (nI was) low high (nI hr) τ = if r = 0 then l_X7_ends_53 N n' (nI c) (nI k) w (nI was) low high (nI hr + 1) τ' else if low = -100000000 then j_X7_ends_110 N (l_X7_ends_53 N n') (nI c) (nI k) w (nI was) high (nI hr) (τ' 0 27) τ' else j_X7_ends_110 N (l_X7_ends_53 N n') (nI c) (nI k) w (nI was) high (nI hr) (imin low (τ' 0 27)) τ' := by
      simp only [l_X7_ends_53, b_X7_ends_53, inb_n (show k < 12 by omega) (show 12 < 2 ^ 31 by omega), gd_t, nI_clamp (show k < 2 ^ 31 by omega), t5, if_neg hq, m_let, ee, bnd_s, a2]
    -- looked at by both
    have hgo : Same (j_X6_ends_97 N (l_X6_ends_65 N n) (nI k) w (nI c) (nI was) (nI L) A (nI hr) σ) (l_X7_ends_53 N (n' + 1) (nI c) (nI k) w (nI was) low high (nI hr) τ) := by
      rw [exG, exR]
      have hK : ∀ A' low' high', lohi A' low' high' w → notd (VV (Dh D k hr) M (2 ^ M - 1) g) (toldS g (2 ^ M - 1)) low' high' → Same (l_X6_ends_65 N n (nI k) w (nI c) (nI was) (nI L) A' (nI hr + 1) σ') (l_X7_ends_53 N n' (nI c) (nI k) w (nI was) low' high' (nI hr + 1) τ') := fun A' low' high' hA' hT' => by
        rw [nI_1]
        refine ih (hr + 1) n n' σ' τ' A' low' high' (by omega) (by omega) (by omega) (by omega) (by omega) ⟨τ' 4 k, by rw [mu_own]; exact a3⟩ (by rw [a4.c16]; exact h16) (by rw [a4.c18]; exact h18) (by rw [a4 28 k (by unfold psG; omega)]; exact h28) (funext fun j => ?_) (fun h' => ?_) hA' (fun _ => hT')
        · rw [a4 (8 + c) j (by unfold psG; omega), eg]
        · rw [KQ_Dof a4, eD, Dh_Dh]
      obtain ⟨A1, A2, A3⟩ := hA
      rcases a7 with ⟨e, e2, e3⟩ | ⟨e, b, hb, e2, e3, e4, f, e5⟩
      · rw [if_pos e]
        have hj : ∀ y, j_X6_ends_154 N (l_X6_ends_65 N n) (nI k) w (nI c) (nI was) (nI L) A (nI hr) v y σ' = l_X6_ends_65 N n (nI k) w (nI c) (nI was) (nI L) A (nI hr + 1) σ' := fun y => by
          unfold j_X6_ends_154
          rw [if_pos e2]
        simp only [hj, ite_self]
        exact hK A low high ⟨A1, A2, A3⟩ (Or.inl e3)
      · have hvn : ¬ v = -100000000 := by rw [e2]; exact nh hb
        rw [if_neg (show ¬ r = 0 by rw [e]; exact i1_ne0), e3, e2]
        have hj : ∀ y, j_X6_ends_154 N (l_X6_ends_65 N n) (nI k) w (nI c) (nI was) (nI L) A (nI hr) (nI b) y σ' = if A = -100000000 then l_X6_ends_65 N n (nI k) w (nI c) (nI was) (nI L) (nI b) (nI hr + 1) σ' else if y = 0 then l_X6_ends_65 N n (nI k) w (nI c) (nI was) (nI L) A (nI hr + 1) σ' else l_X6_ends_65 N n (nI k) w (nI c) (nI was) (nI L) (nI b) (nI hr + 1) σ' := fun y => by
          unfold j_X6_ends_154
          rw [if_neg (nh hb)]
        simp only [hj, j_X7_ends_110, m_leti, e3, if_pos, if_neg i1_ne0]
        rcases A3 with ⟨l1, l2⟩ | ⟨p, q, hp, hq2, l1, l2⟩
        · have hA0 : A = -100000000 := by
            by_cases w0 : w = 0
            · rw [A1 w0, l1]
            · rw [A2 w0, l2]
          have hmx : imax high (nI b) = nI b := by
            unfold imax
            rw [l2, if_pos (by rw [fa_lt, nI_int (by omega)]; have e : (-100000000 : Int32).toInt = -100000000 := rfl; omega)]
          simp only [if_pos hA0, if_pos l1, hmx, ite_self]
          exact hK _ _ _ ⟨fun _ => rfl, fun _ => rfl, Or.inr ⟨b, b, hb, hb, rfl, rfl⟩⟩ (Or.inr ⟨b, f, b, b, e5, rfl, rfl, Nat.le_refl b, Nat.le_refl b, hb, hb⟩)
        · have hA0 : ¬ A = -100000000 := by
            by_cases w0 : w = 0
            · rw [A1 w0, l1]; exact nh hp
            · rw [A2 w0, l2]; exact nh hq2
          have hl0 : ¬ low = -100000000 := by rw [l1]; exact nh hp
          have hT' : notd (VV (Dh D k hr) M (2 ^ M - 1) g) (toldS g (2 ^ M - 1)) (nI (min p b)) (nI (max q b)) := Or.inr ⟨b, f, min p b, max q b, e5, rfl, rfl, by omega, by omega, by omega, by omega⟩
          simp only [if_neg hA0, if_neg hl0]
          rw [l1, l2, n_min (by omega) (by omega), n_max (by omega) (by omega)]
          by_cases w0 : w = 0
          · have eA : A = nI p := (A1 w0).trans l1
            rw [if_pos w0, eA]
            by_cases hpb : p ≤ b
            · rw [if_pos ((n_le (by omega) (by omega)).mpr hpb)]
              exact hK _ _ _ ⟨fun _ => by rw [Nat.min_eq_left hpb], fun q => absurd w0 q, Or.inr ⟨_, _, by omega, by omega, rfl, rfl⟩⟩ hT'
            · rw [if_neg (fun q => by rw [n_le (by omega) (by omega)] at q; exact hpb q)]
              exact hK _ _ _ ⟨fun _ => by rw [Nat.min_eq_right (by omega)], fun q => absurd w0 q, Or.inr ⟨_, _, by omega, by omega, rfl, rfl⟩⟩ hT'
          · have eA : A = nI q := (A2 w0).trans l2
            rw [if_neg w0, eA]
            by_cases hpb : b ≤ q
            · rw [if_pos ((n_le (by omega) (by omega)).mpr hpb)]
              exact hK _ _ _ ⟨fun q => absurd q w0, fun _ => by rw [Nat.max_eq_left hpb], Or.inr ⟨_, _, by omega, by omega, rfl, rfl⟩⟩ hT'
            · rw [if_neg (fun q => by rw [n_le (by omega) (by omega)] at q; exact hpb q)]
              exact hK _ _ _ ⟨fun q => absurd q w0, fun _ => by rw [Nat.max_eq_right (by omega)], Or.inr ⟨_, _, by omega, by omega, rfl, rfl⟩⟩ hT'
    by_cases hfirst : hr = was
    · have hle : nI hr ≤ nI was := by rw [n_le (by omega) (by omega)]; omega
      have exC : l_X6_ends_65 N (n + 1) (nI k) w (nI c) (nI was) (nI L) A (nI hr) σ = j_X6_ends_97 N (l_X6_ends_65 N n) (nI k) w (nI c) (nI was) (nI L) A (nI hr) σ := by
        simp only [l_X6_ends_65, b_X6_ends_65, if_neg hq, if_pos hle]
      rw [exC]
      exact hgo
    · have hle : ¬ nI hr ≤ nI was := fun q => by rw [n_le (by omega) (by omega)] at q; omega
      have est := e_stands (N := N) (k := k) (by omega) hD hLC (show c < 6 by omega) hgc hg (show hr ≤ 999 by omega) hk
      by_cases qs : ∃ j, 0 ≤ j ∧ j < M ∧ stP g (Dof σ) k hr j
      · have exC : l_X6_ends_65 N (n + 1) (nI k) w (nI c) (nI was) (nI L) A (nI hr) σ = j_X6_ends_97 N (l_X6_ends_65 N n) (nI k) w (nI c) (nI was) (nI L) A (nI hr) σ := by
          rw [cdec_t qs] at est
          simp only [l_X6_ends_65, b_X6_ends_65, if_neg hq, if_neg hle, est, bnd_s, if_neg b2i_tn]
        rw [exC]
        exact hgo
      · -- passed over by the class: the reference finds there what it found an hour before
        have exC : l_X6_ends_65 N (n + 1) (nI k) w (nI c) (nI was) (nI L) A (nI hr) σ = l_X6_ends_65 N n (nI k) w (nI c) (nI was) (nI L) A (nI hr + 1) σ := by
          rw [cdec_f qs] at est
          simp only [l_X6_ends_65, b_X6_ends_65, if_neg hq, if_neg hle, est, bnd_s, if_pos b2i_f]
        obtain ⟨y, rfl⟩ : ∃ y, hr = y + 1 := ⟨hr - 1, by omega⟩
        have hs := hs_step (M := M) (k := k) (D := Dof σ) (h := y) hg (fun j hj q => qs ⟨j, Nat.zero_le j, hj, q⟩)
        have eV := hs_VV (LD_h hD (by omega)) (LD_h hD (by omega)) hs (2 ^ M - 1)
        rw [hE y, hE (y + 1)] at eV
        have hT0 := hT (by omega)
        rw [show y + 1 - 1 = y from rfl, eV] at hT0
        have hK : Same (l_X6_ends_65 N n (nI k) w (nI c) (nI was) (nI L) A (nI (y + 1) + 1) σ) (l_X7_ends_53 N n' (nI c) (nI k) w (nI was) low high (nI (y + 1) + 1) τ') := by
          rw [nI_1]
          exact ih (y + 1 + 1) n n' σ τ' A low high (by omega) (by omega) (by omega) (by omega) (by omega) ⟨x, h.keep (KC.rf σ) (KR_mu a5 x)⟩ h16 h18 h28 hgc hE hA (fun _ => hT0)
        rw [exC, exR]
        rcases a7 with ⟨e, e2, e3⟩ | ⟨e, b, hb, e2, e3, e4, f, e5⟩
        · rw [if_pos e]
          exact hK
        · rcases hT0 with (q | q) | ⟨b', f', p, q, z1, z2, z3, z4, z5, z6, z7⟩
          · exact absurd e4 q
          · obtain ⟨u, q2⟩ := e5.1
            exact absurd q2 (q _)
          · have eb : b' = b := (bestM_un z1 e5).1
            have el : imin low (nI b) = low := by rw [z2, n_min (by omega) (by omega), Nat.min_eq_left (by omega)]
            have eh : imax high (nI b) = high := by rw [z3, n_max (by omega) (by omega), Nat.max_eq_left (by omega)]
            rw [if_neg (show ¬ r = 0 by rw [e]; exact i1_ne0), e3, if_neg (show ¬ low = -100000000 by rw [z2]; exact nh z6), el]
            simp only [j_X7_ends_110, m_leti, e3, eh]
            exact hK
theorem p_ends {N : Nat} (hN : 1300 ≤ N) {σ τ : Mem} (h : Rel σ τ) (x y w : Int32) : Same (f_X6_ends N x y w σ) (f_X7_ends N x y w τ) := by
  obtain ⟨C, hC, c1, c2, c3⟩ := h.cov
  obtain ⟨M, hM, l1, l2, l3, l4⟩ := h.2.2.1
  have k1 : mu τ 0 0 0 0 7 = nI C := c2
  have k2 : mu τ 0 0 0 0 15 = nI M := l2
  have hr := Same.mk (-100000000) (h.th 0)
  simp only [f_X6_ends, f_X7_ends, m_let, m_leti, e_coverAt N hC c1 h.2.2.2.2, e_isCover, e_has, e_isLoss, e_isIn, e_isWithin, bnd_s, k1, k2, l1]
  by_cases h1 : blw x (nI C) = 0
  · rw [if_pos h1, if_pos h1, if_pos (by decide)]
    exact hr
  obtain ⟨c, hc, rfl⟩ := blw_n (by omega) h1
  rw [if_neg h1, if_neg h1, if_neg (nI_pos (by omega))]
  by_cases h2 : blw y (nI M) = 0
  · rw [if_pos h2, if_pos h2]
    exact hr
  obtain ⟨k, hk, rfl⟩ := blw_n (by omega) h2
  rw [if_neg h2, if_neg h2]
  by_cases h3 : in3 w 0 1 = 0
  · rw [if_pos h3, if_pos h3]
    exact hr
  obtain ⟨⟨-, ⟨was, hw1, hw2⟩, ⟨L, hL1, hL2⟩, -⟩, -, q4, -⟩ := l3 k hk
  have e4 : mu τ 0 0 0 4 k = nI was := q4.trans hw2
  rw [if_neg h3, if_neg h3, inb_n (show k < 12 by omega) (by omega)]
  simp only [gd_t, nI_clamp (show k < 2 ^ 31 by omega), hw2, hL2, e4]
  exact lp_ends (N := N) (D := Dof σ) (g := σ (8 + c)) (by omega) hC hM hc hk hL1 hw1 (c3 c hc).1 w 1000 was N N σ (mu τ 0 0 0) _ _ _ (by omega) (by omega) (by omega) (by omega) (by omega) ⟨mu τ 0 0 0 4 k, by rw [mu_own]; exact h.th 0⟩ c1 l1 hL2 rfl (fun _ => rfl) ⟨fun _ => rfl, fun _ => rfl, Or.inl ⟨rfl, rfl⟩⟩ (fun q => absurd q (by omega))
/-! hangs -/
theorem strike {M k : Nat} (hk : k < M) : (2 ^ M - 1) ^^^ 2 ^ k = bdiff (2 ^ M - 1) (2 ^ k) := bsub_xor (fun j hj => by
  rw [two_t] at hj
  rw [Nat.testBit_two_pow_sub_one, ← hj]
  simpa using hk)
theorem strike_lt {M k : Nat} : bdiff (2 ^ M - 1) (2 ^ k) < 2 ^ M := bdiff_lt two_lt
theorem lp_hangs {N : Nat} (hN : 300 ≤ N) {C M c : Nat} (hC : C ≤ 6) (hM : M ≤ 12) (hc : c < C) : ∀ m k n n' (σ τ : Mem) (A lC lR : Int32), k + m = M → m < n → m < n' → Rel σ τ → σ 16 8 = nI C → σ 18 6 = nI M → (A = -1 ∨ lC = lR) →
    Same (l_X6_lossOfGreatestWeight_9 N n (nI c) 0 A lC (nI k) σ) (l_X7_hangs_22 N n' (nI c) A lR (nI k) τ) := by
  intro m
  induction m with
  | zero =>
    intro k n n' σ τ A lC lR hk hn hn' h h16 h18 hA
    obtain ⟨n, rfl⟩ : ∃ q, n = q + 1 := ⟨n - 1, by omega⟩
    obtain ⟨n', rfl⟩ : ∃ q, n' = q + 1 := ⟨n' - 1, by omega⟩
    have t15 : τ 0 15 = nI M := by
      obtain ⟨M', hM', l1, l2, l3, l4⟩ := h.2.2.1
      rw [l2, ← l1, h18]
    have e : k = M := by omega
    subst e
    have hle : nI k ≤ nI k := by rw [n_le (by omega) (by omega)]; omega
    simp only [l_X6_lossOfGreatestWeight_9, b_X6_lossOfGreatestWeight_9, l_X7_hangs_22, b_X7_hangs_22, h18, t15, if_pos hle]
    exact Same.mk _ h
  | succ m ih =>
    intro k n n' σ τ A lC lR hk hn hn' h h16 h18 hA
    obtain ⟨n, rfl⟩ : ∃ q, n = q + 1 := ⟨n - 1, by omega⟩
    obtain ⟨n', rfl⟩ : ∃ q, n' = q + 1 := ⟨n' - 1, by omega⟩
    have t15 : τ 0 15 = nI M := by
      obtain ⟨M', hM', l1, l2, l3, l4⟩ := h.2.2.1
      rw [l2, ← l1, h18]
    have hle : ¬ nI M ≤ nI k := fun q => by rw [n_le (by omega) (by omega)] at q; omega
    obtain ⟨v, r, σ', τ', a1, a2, a3, a4, a5, -, a7⟩ := h.gr hN (C := C) (c := c) (M := M) h16 h18 hC hM hc (strike_lt (M := M) (k := k))
    have exC : l_X6_lossOfGreatestWeight_9 N (n + 1) (nI c) 0 A lC (nI k) σ = if v = -100000000 then l_X6_lossOfGreatestWeight_9 N n (nI c) 0 A lC (nI k + 1) σ' else if A = -1 then l_X6_lossOfGreatestWeight_9 N n (nI c) 0 (nI k) v (nI k + 1) σ' else if lC ≤ v then l_X6_lossOfGreatestWeight_9 N n (nI c) 0 A lC (nI k + 1) σ' else l_X6_lossOfGreatestWeight_9 N n (nI c) 0 (nI k) v (nI k + 1) σ' := by
      simp only [l_X6_lossOfGreatestWeight_9, b_X6_lossOfGreatestWeight_9, h18, if_neg hle, e_all N hM h18, bnd_s, n_shl (show k < 31 by omega), n_xor, strike (show k < M by omega), a1, if_pos]
    have exR : l_X7_hangs_22 N (n' + 1) (nI c) A lR (nI k) τ = if r = 0 then l_X7_hangs_22 N n' (nI c) A lR (nI k + 1) τ' else if A = -1 then l_X7_hangs_22 N n' (nI c) (nI k) (τ' 0 27) (nI k + 1) τ' else if τ' 0 27 < lR then l_X7_hangs_22 N n' (nI c) (nI k) (τ' 0 27) (nI k + 1) τ' else l_X7_hangs_22 N n' (nI c) A lR (nI k + 1) τ' := by
      simp only [l_X7_hangs_22, b_X7_hangs_22, t15, if_neg hle, e_every N hM t15, bnd_s, n_shl (show k < 31 by omega), n_andn, a2, j_X7_hangs_66, m_leti]
    have hK : ∀ A' lC' lR', (A' = -1 ∨ lC' = lR') → Same (l_X6_lossOfGreatestWeight_9 N n (nI c) 0 A' lC' (nI k + 1) σ') (l_X7_hangs_22 N n' (nI c) A' lR' (nI k + 1) τ') := fun A' lC' lR' hA' => by
      rw [nI_1]
      exact ih (k + 1) n n' σ' τ' A' lC' lR' (by omega) (by omega) (by omega) a3 (by rw [a4.c16]; exact h16) (by rw [a4.c18]; exact h18) hA'
    rw [exC, exR]
    rcases a7 with ⟨e, e2, -⟩ | ⟨e, b, hb, e2, e3, -⟩
    · rw [if_pos e, if_pos e2]
      exact hK A lC lR hA
    · rw [if_neg (show ¬ r = 0 by rw [e]; exact i1_ne0), if_neg (show ¬ v = -100000000 by rw [e2]; exact nh hb), e2, e3]
      by_cases q : A = -1
      · rw [if_pos q, if_pos q]
        exact hK _ _ _ (Or.inr rfl)
      · rw [if_neg q, if_neg q]
        have el : lC = lR := hA.resolve_left q
        by_cases q2 : lC ≤ nI b
        · rw [if_pos q2, if_neg (fun w => by rw [← el] at w; exact (fa_of_lt w).2.1 q2)]
          exact hK _ _ _ hA
        · rw [if_neg q2, if_pos (by rw [← el]; exact fa_of_nle q2)]
          exact hK _ _ _ (Or.inr rfl)
theorem p_hangs {N : Nat} (hN : 300 ≤ N) {σ τ : Mem} (h : Rel σ τ) (x : Int32) : Same (f_X6_hangs N x σ) (f_X7_hangs N x τ) := by
  obtain ⟨C, hC, c1, c2, c3⟩ := h.cov
  obtain ⟨M, hM, l1, l2, l3, l4⟩ := h.2.2.1
  have k1 : mu τ 0 0 0 0 7 = nI C := c2
  simp only [f_X6_hangs, f_X7_hangs, f_X6_lossOfGreatestWeight, m_let, m_leti, e_coverAt N hC c1 h.2.2.2.2, e_isCover, bnd_s, k1]
  by_cases h1 : blw x (nI C) = 0
  · rw [if_pos h1, if_pos h1, if_pos (by decide)]
    exact Same.mk (-1) (h.th 0)
  obtain ⟨c, hc, rfl⟩ := blw_n (by omega) h1
  rw [if_neg h1, if_neg h1, if_neg (nI_pos (by omega))]
  obtain ⟨v, σ', τ', b1, b2, b3⟩ := lp_hangs hN hC hM hc M 0 N N σ (mu τ 0 0 0) (-1) (-100000000) 0 (by omega) (by omega) (by omega) (h.th 0) c1 l1 (Or.inl rfl)
  rw [show (0 : Int32) = nI 0 from rfl] at b1 b2 ⊢
  rw [b1, b2, bnd_s]
  exact Same.mk _ b3
