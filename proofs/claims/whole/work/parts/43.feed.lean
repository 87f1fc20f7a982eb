/-! feed -/
def by4 (v k : Int32) : Int32 := (ushr v k) &&& 255
theorem by4_eq (n : Nat) (hn : n ≤ 24) (v : Int32) : (v >>> (nI n &&& 31)) &&& 255 = by4 v (nI n) := by
  apply b_ext
  intro i hi
  show bt ((v >>> (nI n &&& 31)) &&& 255) i = bt ((v.toUInt32 >>> ((nI n).toUInt32 &&& Int32.toUInt32 31)).toInt32 &&& 255) i
  rw [b_and, b_and, b_sshr n (by omega) v hi, b_ushr n (by omega) v i, b_255]
  by_cases h : i < 8
  · rw [if_pos (by omega)]
  · rw [decide_eq_false h, Bool.and_false, Bool.and_false]
theorem by4_n (v k : Int32) : ∃ b, b < 256 ∧ by4 v k = nI b := by
  obtain ⟨j, h1, h2⟩ := pk_andE (ushr v k) (m := 255) 8 (by decide)
  exact ⟨j, h1, h2⟩
theorem i2b_low (x : Int32) : i2b (x &&& 255) = i2b x := by
  unfold i2b
  rw [fa_byte_low]
theorem i2b_i2b (x : Int32) : i2b (i2b x) = i2b x := by
  unfold i2b
  rw [Int8.toInt8_toInt32]
theorem by4_b (n : Nat) (hn : n ≤ 24) (v : Int32) : i2b (i2b (v >>> (nI n &&& 31))) = i2b (by4 v (nI n)) := by
  rw [i2b_i2b, ← by4_eq n hn v, i2b_low]
def nb1 (v k : Int32) : Nat := if by4 v k = 0 then 0 else 1
theorem st1 (N : Nat) {σ τ : Mem} {L : Nat} (h : Rel σ τ) (hl : σ 17 1 = nI L) (v : Int32) (k : Nat) (hk : k ≤ 24) (hroom : L + nb1 v (nI k) ≤ 120) :
    ∃ σ' τ', Rel σ' τ' ∧ σ' 17 1 = nI (L + nb1 v (nI k)) ∧ (∀ n, l_X4_append_3 N (n + 1) v (nI k) σ = l_X4_append_3 N n v (nI k + (-8)) σ') ∧ ∀ n, l_X7_put_3 N (n + 1) v (nI k) τ = l_X7_put_3 N n v (nI k + (-8)) τ' := by
  obtain ⟨L', hL, t1, t2, t3⟩ := h.1
  have e0 : L' = L := by
    rw [t1] at hl
    by_cases q : L < 2 ^ 31
    · exact (n_eq (by omega) q).mp hl
    · unfold nb1 at hroom
      omega
  subst e0
  have hneg : ¬ nI k < 0 := nI_pos (by omega)
  by_cases h0 : by4 v (nI k) = 0
  · have e1 : nb1 v (nI k) = 0 := by unfold nb1; rw [if_pos h0]
    refine ⟨σ, τ, h, by rw [e1]; exact t1, fun n => ?_, fun n => ?_⟩
    · have h0' : (ushr v (nI k)) &&& 255 = 0 := h0
      simp only [l_X4_append_3, b_X4_append_3, m_leti, if_neg hneg, if_pos h0']
    · have h0' : (v >>> (nI k &&& 31)) &&& 255 = 0 := by rw [by4_eq k hk]; exact h0
      simp only [l_X7_put_3, b_X7_put_3, if_neg hneg, if_pos h0']
  · have e1 : nb1 v (nI k) = 1 := by unfold nb1; rw [if_neg h0]
    rw [e1] at hroom
    obtain ⟨b, hb, hbe⟩ := by4_n v (nI k)
    refine ⟨mu (mu σ 25 L' (nI b)) 17 1 (nI (L' + 1)), mu (mu τ 1 L' (i2b (nI b))) 0 2 (nI (L' + 1)), ⟨⟨L' + 1, by omega, mu_s _ _ _ _, mu_s _ _ _ _, fun j hj => ?_⟩, ?_, ?_, h.2.2.2.1, h.2.2.2.2⟩, by rw [e1, mu_s], fun n => ?_, fun n => ?_⟩
    · show ∃ b', b' < 256 ∧ upd (σ 25) L' (nI b) j = nI b' ∧ upd (τ 1) L' (i2b (nI b)) j = i2b (nI b')
      by_cases e : j = L'
      · subst e
        rw [upd_s, upd_s]
        exact ⟨b, hb, rfl, rfl⟩
      · rw [upd_n _ e, upd_n _ e]
        exact t3 j (by omega)
    · exact h.2.1.k rfl (fun c hc => by rw [mu_c (by omega), mu_c (by omega)]) rfl rfl
    · exact h.2.2.1
    · have h0' : ¬ (ushr v (nI k)) &&& 255 = 0 := h0
      have hA : ¬ (120 : Int32) ≤ nI L' := fun q => by rw [nI_lit 120, n_le (by omega) (by omega)] at q; omega
      have g1 (u : Int32) : mu σ 25 L' u 17 1 = nI L' := t1
      simp only [l_X4_append_3, b_X4_append_3, m_leti, m_let, if_neg hneg, if_neg h0', t1, if_neg hA, inb_n (show L' < 120 by omega) (by omega), gd_t, nI_clamp (show L' < 2 ^ 31 by omega), g1, nI_1]
      rw [show (ushr v (nI k)) &&& 255 = nI b from hbe]
    · have h0' : ¬ (v >>> (nI k &&& 31)) &&& 255 = 0 := by rw [by4_eq k hk]; exact h0
      have g1 (u : Int32) : mu τ 1 L' u 0 2 = nI L' := t2
      simp only [l_X7_put_3, b_X7_put_3, m_let, if_neg hneg, if_neg h0', t2, inb_n (show L' < 120 by omega) (by omega), gd_t, nI_clamp (show L' < 2 ^ 31 by omega), g1, nI_1]
      rw [by4_b k hk, hbe]
def nb (v : Int32) : Nat := nb1 v 24 + nb1 v 16 + nb1 v 8 + nb1 v 0
theorem nb_le (v : Int32) : nb v ≤ 4 := by
  have h (k : Int32) : nb1 v k ≤ 1 := by unfold nb1; split <;> omega
  have := h 24; have := h 16; have := h 8; have := h 0
  unfold nb
  omega
theorem st4 {N : Nat} (hN : 5 ≤ N) {σ τ : Mem} {L : Nat} (h : Rel σ τ) (hl : σ 17 1 = nI L) (v : Int32) (hroom : L + nb v ≤ 120) :
    ∃ σ' τ', Rel σ' τ' ∧ σ' 17 1 = nI (L + nb v) ∧ f_X4_append N v σ = some (0, σ') ∧ f_X7_put N v τ = some (0, τ') := by
  obtain ⟨n, rfl⟩ : ∃ n, N = n + 5 := ⟨N - 5, by omega⟩
  unfold nb at hroom ⊢
  obtain ⟨σ1, τ1, r1, k1, a1, b1⟩ := st1 (n + 5) h hl v 24 (by omega) (by show L + nb1 v 24 ≤ 120; omega)
  obtain ⟨σ2, τ2, r2, k2, a2, b2⟩ := st1 (n + 5) r1 k1 v 16 (by omega) (by show L + nb1 v 24 + nb1 v 16 ≤ 120; omega)
  obtain ⟨σ3, τ3, r3, k3, a3, b3⟩ := st1 (n + 5) r2 k2 v 8 (by omega) (by show L + nb1 v 24 + nb1 v 16 + nb1 v 8 ≤ 120; omega)
  obtain ⟨σ4, τ4, r4, k4, a4, b4⟩ := st1 (n + 5) r3 k3 v 0 (by omega) (by show L + nb1 v 24 + nb1 v 16 + nb1 v 8 + nb1 v 0 ≤ 120; omega)
  have c1 : nI 24 + (-8) = nI 16 := by decide
  have c2 : nI 16 + (-8) = nI 8 := by decide
  have c3 : nI 8 + (-8) = nI 0 := by decide
  have c4 : nI 0 + (-8) = (-8 : Int32) := by decide
  have c5 : (-8 : Int32) < 0 := by decide
  refine ⟨σ4, τ4, r4, ?_, ?_, ?_⟩
  · rw [k4]
    show nI (L + nb1 v 24 + nb1 v 16 + nb1 v 8 + nb1 v 0) = _
    congr 1
    omega
  · show l_X4_append_3 (n + 5) (n + 4 + 1) v (nI 24) σ = _
    rw [a1, c1, a2, c2, a3, c3, a4, c4]
    simp only [l_X4_append_3, b_X4_append_3, if_pos c5]
  · show l_X7_put_3 (n + 5) (n + 4 + 1) v (nI 24) τ = _
    rw [b1, c1, b2, c2, b3, c3, b4, c4]
    simp only [l_X7_put_3, b_X7_put_3, if_pos c5]
theorem cn1R (N n : Nat) (v : Int32) (k m : Nat) (hk : k ≤ 24) (τ : Mem) : l_X7_bytesIn_5 N (n + 1) v (nI m) (nI k) τ = l_X7_bytesIn_5 N n v (nI (m + nb1 v (nI k))) (nI k + (-8)) τ := by
  have hneg : ¬ nI k < 0 := nI_pos (by omega)
  simp only [l_X7_bytesIn_5, b_X7_bytesIn_5, m_leti, if_neg hneg, by4_eq k hk]
  by_cases h0 : by4 v (nI k) = 0
  · simp only [nb1, if_pos h0]
    rw [show nI m + 0 = nI (m + 0) from nI_add m 0]
  · simp only [nb1, if_neg h0, nI_1]
theorem cn1C (N n : Nat) (v : Int32) (k m : Nat) (hk : k ≤ 24) (σ : Mem) : l_X4_bytesIn_5 N (n + 1) v (nI m) (nI k) σ = l_X4_bytesIn_5 N n v (nI (m + nb1 v (nI k))) (nI k + (-8)) σ := by
  have hneg : ¬ nI k < 0 := nI_pos (by omega)
  simp only [l_X4_bytesIn_5, b_X4_bytesIn_5, if_neg hneg, show (ushr v (nI k)) &&& 255 = by4 v (nI k) from rfl]
  by_cases h0 : by4 v (nI k) = 0
  · simp only [nb1, if_pos h0, Nat.add_zero]
  · simp only [nb1, if_neg h0, nI_1]
theorem e_bytesR {N : Nat} (hN : 5 ≤ N) (v : Int32) (τ : Mem) : f_X7_bytesIn N v τ = some (nI (nb v), τ) := by
  obtain ⟨n, rfl⟩ : ∃ n, N = n + 5 := ⟨N - 5, by omega⟩
  have c1 : nI 24 + (-8) = nI 16 := by decide
  have c2 : nI 16 + (-8) = nI 8 := by decide
  have c3 : nI 8 + (-8) = nI 0 := by decide
  have c4 : nI 0 + (-8) = (-8 : Int32) := by decide
  have c5 : (-8 : Int32) < 0 := by decide
  show l_X7_bytesIn_5 (n + 5) (n + 4 + 1) v (nI 0) (nI 24) τ = _
  rw [cn1R _ _ _ _ _ (by omega), c1, cn1R _ _ _ _ _ (by omega), c2, cn1R _ _ _ _ _ (by omega), c3, cn1R _ _ _ _ _ (by omega), c4]
  simp only [l_X7_bytesIn_5, b_X7_bytesIn_5, if_pos c5]
  show some (nI (0 + nb1 v 24 + nb1 v 16 + nb1 v 8 + nb1 v 0), τ) = _
  rw [Nat.zero_add]
  rfl
theorem e_bytesC {N : Nat} (hN : 5 ≤ N) (v : Int32) (σ : Mem) : f_X4_bytesIn N v σ = some (nI (nb v), σ) := by
  obtain ⟨n, rfl⟩ : ∃ n, N = n + 5 := ⟨N - 5, by omega⟩
  have c1 : nI 24 + (-8) = nI 16 := by decide
  have c2 : nI 16 + (-8) = nI 8 := by decide
  have c3 : nI 8 + (-8) = nI 0 := by decide
  have c4 : nI 0 + (-8) = (-8 : Int32) := by decide
  have c5 : (-8 : Int32) < 0 := by decide
  show l_X4_bytesIn_5 (n + 5) (n + 4 + 1) v (nI 0) (nI 24) σ = _
  rw [cn1C _ _ _ _ _ (by omega), c1, cn1C _ _ _ _ _ (by omega), c2, cn1C _ _ _ _ _ (by omega), c3, cn1C _ _ _ _ _ (by omega), c4]
  simp only [l_X4_bytesIn_5, b_X4_bytesIn_5, if_pos c5]
  show some (nI (0 + nb1 v 24 + nb1 v 16 + nb1 v 8 + nb1 v 0), σ) = _
  rw [Nat.zero_add]
  rfl
theorem p_feed {N : Nat} (hN : 5 ≤ N) {σ τ : Mem} (h : Rel σ τ) (a b c d e : Int32) : Same (f_X6_feed N a b c d e σ) (f_X7_feed N a b c d e τ) := by
  obtain ⟨L, hL, t1, t2, t3⟩ := h.1
  have k4 : mu τ 0 0 0 0 2 = nI L := t2
  simp only [f_X6_feed, f_X7_feed, m_let, m_leti, e_bytesR hN, e_bytesC hN, bnd_s, k4, t1, nI_add]
  have e1 : L + nb a + nb b + nb c + nb d + nb e = L + (nb a + nb b + nb c + nb d + nb e) := by omega
  rw [e1]
  have := nb_le a; have := nb_le b; have := nb_le c; have := nb_le d; have := nb_le e
  by_cases hr : nI (L + (nb a + nb b + nb c + nb d + nb e)) ≤ 120
  · rw [if_pos hr, if_pos hr]
    rw [nI_lit 120, n_le (by omega) (by omega)] at hr
    obtain ⟨σ1, τ1, r1, q1, a1, b1⟩ := st4 hN (h.th 0) t1 a (by omega)
    obtain ⟨σ2, τ2, r2, q2, a2, b2⟩ := st4 hN r1 q1 b (by omega)
    obtain ⟨σ3, τ3, r3, q3, a3, b3⟩ := st4 hN r2 q2 c (by omega)
    obtain ⟨σ4, τ4, r4, q4, a4, b4⟩ := st4 hN r3 q3 d (by omega)
    obtain ⟨σ5, τ5, r5, q5, a5, b5⟩ := st4 hN r4 q4 e (by omega)
    simp only [a1, b1, bnd_s, a2, b2, a3, b3, a4, b4, a5, b5]
    obtain ⟨L5, hL5, u1, u2, u3⟩ := r5.1
    rw [u1, u2]
    exact Same.mk _ r5
  · rw [if_neg hr, if_neg hr]
    exact Same.mk _ (h.th 0)
