/-! both searches, side by side; most, net -/
def VV (D : Nat → Nat → Nat) (M S : Nat) (g : Nat → Int32) : VS := LawV D M S [g] (ntF g)
def Fnd (D : Nat → Nat → Nat) (M S : Nat) (g : Nat → Int32) (σ τ : Mem) : Prop := vbd (VV D M S g) ∧ (∃ b f, σ 20 0 = nI b ∧ τ 0 27 = nI b ∧ σ 20 2 = nI f ∧ τ 0 29 = nI f ∧ bestM (VV D M S g) b f) ∧ (∃ b f, σ 20 1 = nI b ∧ τ 0 28 = nI b ∧ σ 20 3 = nI f ∧ τ 0 30 = nI f ∧ bestL (VV D M S g) b f) ∧ ∃ b, τ 0 32 = nI b ∧ bestN (VV D M S g) (τ 0 31) b
def noneS (D : Nat → Nat → Nat) (M S : Nat) (g : Nat → Int32) : Prop := ¬ toldS g S ∨ ∀ v, ¬ VV D M S g v
section BOTH
variable {N M C S z c : Nat} {D : Nat → Nat → Nat} {gs : Nat → Nat → Int32}
theorem e_both (hN : 300 ≤ N) {σ τ : Mem} (hD : LD M D) (hC : LC σ M D) (hR : LR τ M D) (h6 : σ 20 6 = 7) (hz : z < 7) (hw : WC σ z (gs c)) (hCC : C ≤ 6) (h7 : τ 0 7 = nI C) (hW : ∀ c, c < C → wfC (gs c) ∧ WR τ c (gs c)) (hc : c < C) (hS : S < 2 ^ M) :
    ∃ r σ' τ', f_X3_findFor N (nI z) (nI S) σ = some (r, σ') ∧ f_X7_layAll N (nI c) (nI S) τ = some (r, τ') ∧ KQ σ σ' ∧ KR τ τ' ∧ τ' 0 41 = τ 0 41 ∧ ((r = 0 ∧ noneS D M S (gs c)) ∨ (r = 1 ∧ toldS (gs c) S ∧ Fnd D M S (gs c) σ' τ')) := by
  rcases e_findFor hN hD hC h6 hz hw (hW c hc).1 hS (ntF (gs c)) with ⟨t, σ', a1, a2, a3⟩ | ⟨t, σ', a1, a3⟩
  · rcases e_layAll (N := N) (by omega) hD hR hCC h7 hW hc hS with ⟨-, τ', b1, b2, b3, b4⟩ | ⟨t', -⟩
    · obtain ⟨v1, v2⟩ := a2
      obtain ⟨-, w2⟩ := b2
      rcases v2 with ⟨x1, x2⟩ | ⟨x1, ⟨b, f, x2, x3, x4⟩, ⟨b', f', y2, y3, y4⟩⟩
      · rcases w2 with ⟨z1, z2⟩ | ⟨z1, ⟨b, f, z2, z3, z4⟩, -⟩
        · exact ⟨0, σ', τ', by rw [a1, x2], by rw [b1, z2], a3, b3, b4, Or.inl ⟨rfl, Or.inr x1⟩⟩
        · obtain ⟨w, q⟩ := z4.1
          exact absurd q (x1 _)
      · rcases w2 with ⟨z1, z2⟩ | ⟨z1, ⟨c1, d1, z2, z3, z4⟩, ⟨c2, d2, u2, u3, u4⟩, ⟨n, n1, n2⟩⟩
        · obtain ⟨w, q⟩ := x4.1
          exact absurd q (z1 _)
        · obtain ⟨e1, e2⟩ := bestM_un x4 z4
          obtain ⟨e3, e4⟩ := bestL_un y4 u4
          rw [← e1] at z2
          rw [← e2] at z3
          rw [← e3] at u2
          rw [← e4] at u3
          exact ⟨1, σ', τ', by rw [a1, x1], by rw [b1, z1], a3, b3, b4, Or.inr ⟨rfl, t, v1, ⟨b, f, x2, z2, x3, z3, x4⟩, ⟨b', f', y2, u2, y3, u3, y4⟩, n, n1, n2⟩⟩
    · exact absurd t t'
  · rcases e_layAll (N := N) (by omega) hD hR hCC h7 hW hc hS with ⟨t', -⟩ | ⟨-, b1⟩
    · exact absurd t' t
    · exact ⟨0, σ', τ, a1, b1, a3, KR.rf τ, rfl, Or.inl ⟨rfl, Or.inl t⟩⟩
end BOTH
/-! most -/
theorem p_most {N : Nat} (hN : 300 ≤ N) {σ τ : Mem} (h : Rel σ τ) (x y w : Int32) : Same (f_X6_most N x y w σ) (f_X7_most N x y w τ) := by
  obtain ⟨C, hC, c1, c2, c3⟩ := h.cov
  obtain ⟨M, hD, hLC, hLR, -⟩ := h.data
  have hM := hD.1
  have hLR' := hLR.keep (KR.th τ 0)
  have k1 : mu τ 0 0 0 0 7 = nI C := c2
  have hr := Same.mk (-100000000) (h.th 0)
  simp only [f_X6_most, f_X7_most, m_let, e_coverAt N hC c1 h.2.2.2.2, e_isCover, e_isSet N y hM hLR'.1, e_isIn, e_isWithin, bnd_s, k1]
  by_cases h1 : blw x (nI C) = 0
  · rw [if_pos h1, if_pos h1, if_pos (by decide)]
    exact hr
  obtain ⟨c, hc, rfl⟩ := blw_n (by omega) h1
  obtain ⟨g1, g2, g3⟩ := c3 c hc
  rw [if_neg h1, if_neg h1, if_neg (nI_pos (by omega))]
  by_cases h2 : in3 w 0 3 = 0
  · rw [if_pos h2, if_pos h2, ite_self]
    exact hr
  rw [if_neg h2, if_neg h2]
  by_cases h3 : sub2 y M = 0
  · obtain ⟨σ', a1, a2⟩ := e_findNo (N := N) hM hLC.1 h.2.2.2.2.2.1 (show c < 7 by omega) g2 g1 h3
    rw [if_pos h3, a1, bnd_s, if_pos rfl]
    exact Same.mk _ (h.keep a2.kc (KR.th τ 0))
  obtain ⟨s, hs, rfl⟩ := sub2_n hM h3
  rw [if_neg h3]
  obtain ⟨r, σ', τ', a1, a2, a3, a4, -, a6⟩ := e_both (gs := fun c => σ (8 + c)) hN hD hLC hLR' h.2.2.2.2.2.1 (show c < 7 by omega) g2 hC k1 (fun c' hc' => ⟨(c3 c' hc').1, (c3 c' hc').2.2.keep (KR.th τ 0)⟩) hc hs
  have hk := h.keep a3.kc ((KR.th τ 0).tr a4)
  rw [a1, a2, bnd_s, bnd_s]
  rcases a6 with ⟨e, -⟩ | ⟨e, -, -, ⟨b, f, x1, x2, x3, x4, -⟩, ⟨b', f', y1, y2, y3, y4, -⟩, -⟩
  · rw [if_pos e, if_pos e]
    exact Same.mk _ hk
  · have en : ¬ r = 0 := by rw [e]; exact i1_ne0
    rw [if_neg en, if_neg en, x1, x2, x3, x4, y1, y2, y3, y4]
    by_cases q0 : w = 0
    · rw [if_pos q0, if_pos q0]
      exact Same.mk _ hk
    rw [if_neg q0, if_neg q0]
    by_cases q1 : w = 1
    · rw [if_pos q1, if_pos q1]
      exact Same.mk _ hk
    rw [if_neg q1, if_neg q1]
    by_cases q2 : w = 2
    · rw [if_pos q2, if_pos q2]
      exact Same.mk _ hk
    rw [if_neg q2, if_neg q2]
    exact Same.mk _ hk
/-! net: its greatest is at one of both ends -/
theorem VV_t {D : Nat → Nat → Nat} {M S : Nat} {g : Nat → Int32} (hg : wfC g) {b f : Nat} {w : Int32} (h : VV D M S g (b, f, w)) : ∃ t, t ≤ 891 ∧ b = brF g t ∧ w = netI g t := by
  obtain ⟨R, -, e⟩ := h
  unfold val at e
  have e1 := congrArg (fun q : Nat × Nat × Int32 => q.1) e
  have e2 := congrArg (fun q : Nat × Nat × Int32 => q.2.2) e
  refine ⟨(payA g (R.map (sumS D M))).2, (payA_le hg _).2, ?_, e2⟩
  have e3 : b = tot [g] (R.map (sumS D M)) := e1
  rw [e3]
  unfold tot
  simp
def ntZ (a b : Int) (K t : Int) : Int := if t ≤ K then t * a - b * t else t * a - b * K
theorem mulI_le {a x y : Int} (ha : 0 ≤ a) (h : x ≤ y) : x * a ≤ y * a := Int.mul_le_mul_of_nonneg_right h ha
theorem cvx1 {a b K t0 t t1 : Int} (ha : 1 ≤ a) (h0 : t0 ≤ t) (h1 : t ≤ t1) (h : ntZ a b K t0 ≤ ntZ a b K t1) : ntZ a b K t ≤ ntZ a b K t1 := by
  have e : ∀ x : Int, x * (a - b) = x * a - b * x := fun x => by rw [Int.mul_sub, Int.mul_comm x b]
  have m1 := mulI_le (a := a) (by omega) h1
  unfold ntZ at *
  by_cases q1 : t1 ≤ K
  · rw [if_pos q1] at h ⊢
    rw [if_pos (by omega)] at h
    rw [if_pos (by omega)]
    rw [← e, ← e] at h
    rw [← e, ← e]
    rcases Int.lt_or_le t0 t1 with q | q
    · have hc : 0 ≤ a - b := by
        rcases Int.lt_or_le (a - b) 0 with w | w
        · have := Int.mul_lt_mul_of_neg_right q w
          omega
        · exact w
      exact mulI_le hc h1
    · have e2 : t = t1 := by omega
      rw [e2]
      exact Int.le_refl _
  · rw [if_neg q1] at h ⊢
    by_cases q : t ≤ K
    · rw [if_pos q]
      rw [if_pos (show t0 ≤ K by omega)] at h
      rcases Int.lt_or_le (a - b) 0 with w | w
      · have m2 := mulI_le (a := -(a - b)) (by omega) h0
        rw [Int.mul_neg, Int.mul_neg, e, e] at m2
        omega
      · have m2 := mulI_le w q
        have m3 := mulI_le (a := a) (by omega) (show K ≤ t1 by omega)
        rw [e, e] at m2
        omega
    · rw [if_neg q]
      omega
theorem cvx2 {a b K t0 t t1 : Int} (ha : 1 ≤ a) (h0 : t0 < t) (h1 : t ≤ t1) (h : ntZ a b K t1 < ntZ a b K t0) : ntZ a b K t < ntZ a b K t0 := by
  have e : ∀ x : Int, x * (a - b) = x * a - b * x := fun x => by rw [Int.mul_sub, Int.mul_comm x b]
  have m1 := mulI_le (a := a) (by omega) h1
  by_cases q : t ≤ K
  · rcases Int.lt_or_le (a - b) 0 with w | w
    · unfold ntZ
      rw [if_pos q, if_pos (by omega), ← e, ← e]
      exact Int.mul_lt_mul_of_neg_right h0 w
    · exfalso
      unfold ntZ at h
      rw [if_pos (show t0 ≤ K by omega)] at h
      by_cases q1 : t1 ≤ K
      · rw [if_pos q1, ← e, ← e] at h
        have := mulI_le w (show t0 ≤ t1 by omega)
        omega
      · rw [if_neg q1] at h
        have m2 := mulI_le w (show t0 ≤ K by omega)
        have m3 := mulI_le (a := a) (by omega) (show K ≤ t1 by omega)
        rw [e, e] at m2
        omega
  · have hh : ntZ a b K t ≤ ntZ a b K t1 := by
      unfold ntZ
      rw [if_neg q, if_neg (by omega)]
      omega
    omega
theorem netI_z {g : Nat → Int32} (hg : wfC g) {t : Nat} (ht : t ≤ 891) : (netI g t).toInt = ntZ (((100 - wv g 8) * wv g 6 : Nat) : Int) ((100 * wv g 9 : Nat) : Int) ((wv g 6 * (wv g 7 - 1) : Nat) : Int) (t : Int) := by
  have w6 := (wf6 hg).2
  have w8 := (wf8 hg).2
  have w9 := (wf9 hg).2
  have b1 : brF g t * wv g 6 ≤ 891 * 100 * 99 := by
    unfold brF
    exact Nat.mul_le_mul (Nat.mul_le_mul ht (by omega)) w6.2
  have b2 : 100 * wv g 9 * min t (wv g 6 * (wv g 7 - 1)) ≤ 100 * 99 * 891 := Nat.mul_le_mul (Nat.mul_le_mul_left 100 w9) (by omega)
  have e1 : (brF g t * wv g 6 : Nat) = t * ((100 - wv g 8) * wv g 6) := by unfold brF; rw [Nat.mul_assoc]
  have hs : (netI g t).toInt = ((brF g t * wv g 6 : Nat) : Int) - ((100 * wv g 9 * min t (wv g 6 * (wv g 7 - 1)) : Nat) : Int) := by
    unfold netI
    rw [Int32.toInt_sub, nI_toInt (by omega), nI_toInt (by omega)]
    exact Int.bmod_eq_of_le (by omega) (by omega)
  rw [hs, e1]
  unfold ntZ
  by_cases q : t ≤ wv g 6 * (wv g 7 - 1)
  · rw [if_pos (by omega), Nat.min_eq_left q, Int.natCast_mul, Int.natCast_mul (100 * wv g 9)]
  · rw [if_neg (by omega), Nat.min_eq_right (by omega), Int.natCast_mul, Int.natCast_mul (100 * wv g 9)]
theorem brF_le {g : Nat → Int32} (hg : wfC g) {t t' : Nat} : brF g t ≤ brF g t' ↔ t ≤ t' := by
  have w8 := (wf8 hg).2
  unfold brF
  constructor
  · intro q
    exact Nat.le_of_mul_le_mul_right q (by omega)
  · intro q
    exact Nat.mul_le_mul_right _ q
theorem bestN_un {V : VS} {w w' : Int32} {b b' : Nat} (h : bestN V w b) (h' : bestN V w' b') : w = w' ∧ b = b' := by
  obtain ⟨⟨f, q⟩, h2⟩ := h
  obtain ⟨⟨f', q'⟩, h2'⟩ := h'
  have a := h2' _ _ _ q
  have a' := h2 _ _ _ q'
  simp only [fa_lt, fa_eq] at *
  omega
theorem net_ends {D : Nat → Nat → Nat} {M S : Nat} {g : Nat → Int32} (hg : wfC g) {t0 t1 f0 f1 : Nat} (ht0 : t0 ≤ 891) (ht1 : t1 ≤ 891) (h1 : bestM (VV D M S g) (brF g t1) f1) (h0 : bestL (VV D M S g) (brF g t0) f0) (hv1 : VV D M S g (brF g t1, f1, netI g t1)) (hv0 : VV D M S g (brF g t0, f0, netI g t0)) :
    (netI g t0 ≤ netI g t1 → bestN (VV D M S g) (netI g t1) (brF g t1)) ∧ (¬ netI g t0 ≤ netI g t1 → bestN (VV D M S g) (netI g t0) (brF g t0)) := by
  have w6 := (wf6 hg).2
  have w8 := (wf8 hg).2
  have ha : (1 : Int) ≤ (((100 - wv g 8) * wv g 6 : Nat) : Int) := by
    have : 1 * 1 ≤ (100 - wv g 8) * wv g 6 := Nat.mul_le_mul (by omega) w6.1
    omega
  have hall : ∀ b f w, VV D M S g (b, f, w) → ∃ t, t ≤ 891 ∧ b = brF g t ∧ w = netI g t ∧ t0 ≤ t ∧ t ≤ t1 := fun b f w q => by
    obtain ⟨t, q1, q2, q3⟩ := VV_t hg q
    have a := h1.2 _ _ _ q
    have a' := h0.2 _ _ _ q
    rw [q2] at a a'
    exact ⟨t, q1, q2, q3, (brF_le hg).mp (by omega), (brF_le hg).mp (by omega)⟩
  constructor
  · intro q
    refine ⟨⟨f1, hv1⟩, fun b f w q2 => ?_⟩
    obtain ⟨t, q3, q4, q5, q6, q7⟩ := hall b f w q2
    rw [fa_le, netI_z hg ht0, netI_z hg ht1] at q
    have := cvx1 ha (t := (t : Int)) (by omega) (by omega) q
    rw [q5, q4, fa_lt, fa_eq, netI_z hg q3, netI_z hg ht1, brF_le hg]
    omega
  · intro q
    refine ⟨⟨f0, hv0⟩, fun b f w q2 => ?_⟩
    obtain ⟨t, q3, q4, q5, q6, q7⟩ := hall b f w q2
    rw [fa_le, netI_z hg ht0, netI_z hg ht1] at q
    by_cases e : t = t0
    · rw [q5, q4, e]
      exact Or.inr ⟨rfl, Nat.le_refl _⟩
    · have := cvx2 ha (t := (t : Int)) (t0 := (t0 : Int)) (by omega) (by omega) (Int.not_le.mp q)
      rw [q5, fa_lt, netI_z hg q3, netI_z hg ht0]
      exact Or.inl this
theorem p_net {N : Nat} (hN : 300 ≤ N) {σ τ : Mem} (h : Rel σ τ) (x y w : Int32) : Same (f_X6_net N x y w σ) (f_X7_net N x y w τ) := by
  obtain ⟨C, hC, c1, c2, c3⟩ := h.cov
  obtain ⟨M, hD, hLC, hLR, -⟩ := h.data
  have hM := hD.1
  have hLR' := hLR.keep (KR.th τ 0)
  have k1 : mu τ 0 0 0 0 7 = nI C := c2
  have hr := Same.mk (-100000000) (h.th 0)
  simp only [f_X6_net, f_X7_net, m_let, e_coverAt N hC c1 h.2.2.2.2, e_isCover, e_isSet N y hM hLR'.1, e_isIn, e_isWithin, bnd_s, k1]
  by_cases h1 : blw x (nI C) = 0
  · rw [if_pos h1, if_pos h1, if_pos (by decide)]
    exact hr
  obtain ⟨c, hc, rfl⟩ := blw_n (by omega) h1
  obtain ⟨g1, g2, g3⟩ := c3 c hc
  rw [if_neg h1, if_neg h1, if_neg (nI_pos (by omega))]
  by_cases h2 : in3 w 0 1 = 0
  · rw [if_pos h2, if_pos h2, ite_self]
    exact hr
  rw [if_neg h2, if_neg h2]
  by_cases h3 : sub2 y M = 0
  · obtain ⟨σ', a1, a2⟩ := e_findNo (N := N) hM hLC.1 h.2.2.2.2.2.1 (show c < 7 by omega) g2 g1 h3
    rw [if_pos h3, a1, bnd_s, if_pos rfl]
    exact Same.mk _ (h.keep a2.kc (KR.th τ 0))
  obtain ⟨s, hs, rfl⟩ := sub2_n hM h3
  rw [if_neg h3]
  obtain ⟨r, σ', τ', a1, a2, a3, a4, -, a6⟩ := e_both (gs := fun c => σ (8 + c)) hN hD hLC hLR' h.2.2.2.2.2.1 (show c < 7 by omega) g2 hC k1 (fun c' hc' => ⟨(c3 c' hc').1, (c3 c' hc').2.2.keep (KR.th τ 0)⟩) hc hs
  have hk := h.keep a3.kc ((KR.th τ 0).tr a4)
  rw [a1, a2, bnd_s, bnd_s]
  rcases a6 with ⟨e, -⟩ | ⟨e, -, -, ⟨b, f, x1, x2, x3, x4, x5⟩, ⟨b', f', y1, y2, y3, y4, y5⟩, n, n1, n2⟩
  · rw [if_pos e, if_pos e]
    exact Same.mk _ hk
  · have en : ¬ r = 0 := by rw [e]; exact i1_ne0
    rw [if_neg en, if_neg en]
    obtain ⟨w1, v1⟩ := x5.1
    obtain ⟨w0, v0⟩ := y5.1
    obtain ⟨t1, p1, p2, p3⟩ := VV_t g1 v1
    obtain ⟨t0, u1, u2, u3⟩ := VV_t g1 v0
    rw [p2] at x1 x5 v1
    rw [p3] at v1
    rw [u2] at y1 y5 v0
    rw [u3] at v0
    obtain ⟨m1, m0⟩ := net_ends g1 u1 p1 x5 y5 v1 v0
    have hw' : WC σ' c (σ (8 + c)) := g2.keep (show c < 6 by omega) a3.kc
    rw [inb_n (show c < 8 by omega) (by omega), gd_t, x1, e_netC hw' g1 p1, bnd_s, gd_t, y1, e_netC hw' g1 u1, bnd_s]
    by_cases q : netI (σ (8 + c)) t0 ≤ netI (σ (8 + c)) t1
    · obtain ⟨z1, z2⟩ := bestN_un (m1 q) n2
      rw [if_pos q, n1, ← z1, ← z2]
      by_cases q0 : w = 0
      · rw [if_pos q0, if_pos q0]
        exact Same.mk _ hk
      · rw [if_neg q0, if_neg q0, x1]
        exact Same.mk _ hk
    · obtain ⟨z1, z2⟩ := bestN_un (m0 q) n2
      rw [if_neg q, n1, ← z1, ← z2]
      by_cases q0 : w = 0
      · rw [if_pos q0, if_pos q0]
        exact Same.mk _ hk
      · rw [if_neg q0, if_neg q0, y1]
        exact Same.mk _ hk
