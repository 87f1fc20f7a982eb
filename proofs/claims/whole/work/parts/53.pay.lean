/-! what is paid for a row of happenings -/
/-- (how many are paid for, what is paid in all) -/
def prF (g : Nat → Int32) : List Nat → Nat × Nat → Nat × Nat
  | [], a => a
  | x :: xs, a => if payF g x = 0 ∨ a.1 = wv g 7 then prF g xs a else prF g xs (a.1 + 1, a.2 + payF g x)
def payA (g : Nat → Int32) (xs : List Nat) : Nat × Nat := prF g xs (0, 0)
theorem payF_le {g : Nat → Int32} (hg : wfC g) (n : Nat) : payF g n ≤ 99 := by
  have := (wf6 hg).2.2
  unfold payF
  omega
theorem prF_le {g : Nat → Int32} (hg : wfC g) : ∀ (xs : List Nat) (a : Nat × Nat), a.1 ≤ wv g 7 → a.2 ≤ 99 * a.1 → (prF g xs a).1 ≤ wv g 7 ∧ (prF g xs a).2 ≤ 99 * (prF g xs a).1
  | [], a, h1, h2 => ⟨h1, h2⟩
  | x :: xs, a, h1, h2 => by
    unfold prF
    have := payF_le hg x
    split
    · exact prF_le hg xs a h1 h2
    · rename_i q
      exact prF_le hg xs _ (by show a.1 + 1 ≤ _; omega) (by show a.2 + payF g x ≤ 99 * (a.1 + 1); omega)
theorem payA_le {g : Nat → Int32} (hg : wfC g) (xs : List Nat) : (payA g xs).1 ≤ 9 ∧ (payA g xs).2 ≤ 891 := by
  have := prF_le hg xs (0, 0) (Nat.zero_le _) (Nat.zero_le _)
  have := (wf7 hg).2.2
  unfold payA
  omega
def brF (g : Nat → Int32) (t : Nat) : Nat := t * (100 - wv g 8)
def netI (g : Nat → Int32) (t : Nat) : Int32 := nI (brF g t * wv g 6) - nI (100 * wv g 9 * min t (wv g 6 * (wv g 7 - 1)))
/-- only what is paid and for how many changes -/
def KPay (τ τ' : Mem) : Prop := ∀ a j, ¬ (a = 0 ∧ (j = 23 ∨ j = 24)) → τ' a j = τ a j
theorem KPay.kr {τ τ' : Mem} (h : KPay τ τ') : KR τ τ' := by
  intro a j q
  rw [h a j (by unfold psR at q; omega)]
theorem KPay.tr {a b c : Mem} (h : KPay a b) (g : KPay b c) : KPay a c := fun i j q => (g i j q).trans (h i j q)
theorem KPay.row {D : Nat → Nat → Nat} {M : Nat} {τ τ' : Mem} {R : List Nat} (h : KPay τ τ') (hr : RowL D M τ R) : RowL D M τ' R := by
  intro j s hs
  obtain ⟨e1, e2, e3, e4, e5⟩ := hr j s hs
  unfold ent
  rw [h 11 j (by omega), h 12 j (by omega), h 13 j (by omega), h 14 j (by omega), h 15 j (by omega)]
  exact ⟨e1, e2, e3, e4, e5⟩
section PAY
variable {N M c z : Nat} {D : Nat → Nat → Nat} {g : Nat → Int32}
theorem n_100 (hg : wfC g) : (100 : Int32) - g 8 = nI (100 - wv g 8) := by
  obtain ⟨h1, h2⟩ := wf8 hg
  rw [h1, nI_lit 100, pk_sub (by omega)]
theorem lp_brings (hD : LD M D) (hg : wfC g) {R : List Nat} (hR : R.length ≤ 12) : ∀ (Q : List Nat) (k n : Nat) (τ : Mem) (a : Nat × Nat), k + Q.length = R.length → R.drop k = Q → Q.length < n → WR τ c g → RowL D M τ R → τ 0 22 = nI R.length → τ 0 23 = nI a.1 → τ 0 24 = nI a.2 → a.1 ≤ wv g 7 → a.2 ≤ 99 * a.1 →
    ∃ τ', l_X7_bringsBy_12 N n (nI c) (nI k) τ = some (nI (brF g (prF g (Q.map (sumS D M)) a).2), τ') ∧ KPay τ τ' ∧ τ' 0 23 = nI (prF g (Q.map (sumS D M)) a).1 ∧ τ' 0 24 = nI (prF g (Q.map (sumS D M)) a).2 := by
  intro Q
  have hM := hD.1
  induction Q with
  | nil =>
    intro k n τ a hk hQ hn hw hr h22 h23 h24 ha1 ha2
    obtain ⟨n, rfl⟩ : ∃ n', n = n' + 1 := ⟨n - 1, by simp at hn; omega⟩
    have e : k = R.length := by simpa using hk
    subst e
    have hc : nI R.length ≤ nI R.length := by rw [n_le (by omega) (by omega)]; omega
    have e8 : f_X7_wordOf N (nI c) 8 τ = some (g 8, τ) := e_wordOf N hw (k := 8) (by omega)
    refine ⟨τ, ?_, fun _ _ _ => rfl, h23, h24⟩
    simp only [l_X7_bringsBy_12, b_X7_bringsBy_12, h22, if_pos hc, e8, bnd_s, h24, n_100 hg, pk_mul]
    rfl
  | cons s Q ih =>
    intro k n τ a hk hQ hn hw hr h22 h23 h24 ha1 ha2
    obtain ⟨n, rfl⟩ : ∃ n', n = n' + 1 := ⟨n - 1, by rw [List.length_cons] at hn; omega⟩
    rw [List.length_cons] at hk hn
    have hc : ¬ nI R.length ≤ nI k := fun q => by rw [n_le (by omega) (by omega)] at q; omega
    have hs : R[k]? = some s := by
      have : (R.drop k)[0]? = some s := by rw [hQ]; rfl
      rw [List.getElem?_drop] at this
      simpa using this
    have hQ' : R.drop (k + 1) = Q := by
      rw [← List.drop_drop, hQ]
      rfl
    have e12 := (hr k s hs).2.1
    have hsm := (ent_lt hD (s := s)).2.2
    have e7 : f_X7_wordOf N (nI c) 7 τ = some (g 7, τ) := e_wordOf N hw (k := 7) (by omega)
    obtain ⟨w1, w2, w3⟩ := wf7 hg
    have hp := payF_le hg (sumS D M s)
    rw [List.map_cons]
    unfold prF
    have z1 := n_eq (a := payF g (sumS D M s)) (b := 0) (by omega) (by omega)
    have z2 := n_eq (a := a.1) (b := wv g 7) (by omega) (by omega)
    simp only [l_X7_bringsBy_12, b_X7_bringsBy_12, h22, if_neg hc, inb_n (show k < 12 by omega) (by omega), gd_t, nI_clamp (show k < 2 ^ 31 by omega), e12, e_payR N hw hg (show sumS D M s < 2 ^ 30 by omega), bnd_s, nI_1, e7, h23, w1]
    by_cases c1 : payF g (sumS D M s) = 0
    · rw [if_pos (show nI (payF g (sumS D M s)) = 0 from z1.mpr c1), if_pos (Or.inl c1)]
      exact ih (k + 1) n τ a (by omega) hQ' (by omega) hw hr h22 h23 h24 ha1 ha2
    · rw [if_neg (show ¬ nI (payF g (sumS D M s)) = 0 from fun q => c1 (z1.mp q))]
      by_cases c2 : a.1 = wv g 7
      · rw [if_pos (z2.mpr c2), if_pos (Or.inr c2)]
        exact ih (k + 1) n τ a (by omega) hQ' (by omega) hw hr h22 h23 h24 ha1 ha2
      · rw [if_neg (fun q => c2 (z2.mp q)), if_neg (fun q => q.elim c1 c2)]
        have g1 (v : Int32) : mu τ 0 23 v 0 24 = nI a.2 := h24
        simp only [m_let, g1, nI_add]
        have hk1 : KPay τ (mu (mu τ 0 23 (nI (a.1 + 1))) 0 24 (nI (a.2 + payF g (sumS D M s)))) := by
          intro x y hxy
          rw [mu_e, if_neg (by omega), mu_e, if_neg (by omega)]
        obtain ⟨τ', i1, i2, i3, i4⟩ := ih (k + 1) n _ (a.1 + 1, a.2 + payF g (sumS D M s)) (by omega) hQ' (by omega) (hw.keep hk1.kr) (hk1.row hr) h22 (by rw [mu_k (by decide), mu_s]) (by rw [mu_s]) (by show a.1 + 1 ≤ _; omega) (by show a.2 + payF g (sumS D M s) ≤ 99 * (a.1 + 1); omega)
        exact ⟨τ', i1, hk1.tr i2, i3, i4⟩
theorem e_bringsBy (hN : 13 ≤ N) (hD : LD M D) (hg : wfC g) {R : List Nat} (hR : R.length ≤ 12) {τ : Mem} (hw : WR τ c g) (hr : RowL D M τ R) (h22 : τ 0 22 = nI R.length) :
    ∃ τ', f_X7_bringsBy N (nI c) τ = some (nI (brF g (payA g (R.map (sumS D M))).2), τ') ∧ KPay τ τ' ∧ τ' 0 23 = nI (payA g (R.map (sumS D M))).1 ∧ τ' 0 24 = nI (payA g (R.map (sumS D M))).2 := by
  have hk1 : KPay τ (mu (mu τ 0 23 0) 0 24 0) := by
    intro x y hxy
    rw [mu_e, if_neg (by omega), mu_e, if_neg (by omega)]
  obtain ⟨τ', i1, i2, i3, i4⟩ := lp_brings (N := N) hD hg hR R 0 N (mu (mu τ 0 23 0) 0 24 0) (0, 0) (by omega) rfl (by omega) (hw.keep hk1.kr) (hk1.row hr) h22 (by rw [mu_k (by decide), mu_s]; rfl) (by rw [mu_s]; rfl) (Nat.zero_le _) (Nat.zero_le _)
  exact ⟨τ', i1, hk1.tr i2, i3, i4⟩
theorem e_netBy (hN : 13 ≤ N) (hD : LD M D) (hg : wfC g) {R : List Nat} (hR : R.length ≤ 12) {τ : Mem} (hw : WR τ c g) (hr : RowL D M τ R) (h22 : τ 0 22 = nI R.length) :
    ∃ τ', f_X7_netBy N (nI c) τ = some (netI g (payA g (R.map (sumS D M))).2, τ') ∧ KPay τ τ' ∧ τ' 0 23 = nI (payA g (R.map (sumS D M))).1 := by
  obtain ⟨τ', i1, i2, i3, i4⟩ := e_bringsBy hN hD hg hR hw hr h22
  have hw' := hw.keep i2.kr
  have e6 : f_X7_wordOf N (nI c) 6 τ' = some (g 6, τ') := e_wordOf N hw' (k := 6) (by omega)
  have e7 : f_X7_wordOf N (nI c) 7 τ' = some (g 7, τ') := e_wordOf N hw' (k := 7) (by omega)
  have e9 : f_X7_wordOf N (nI c) 9 τ' = some (g 9, τ') := e_wordOf N hw' (k := 9) (by omega)
  obtain ⟨w61, w62, w63⟩ := wf6 hg
  obtain ⟨w71, w72, w73⟩ := wf7 hg
  obtain ⟨w91, w92⟩ := wf9 hg
  have hb := (payA_le hg (R.map (sumS D M))).2
  have hm : wv g 6 * (wv g 7 - 1) ≤ 99 * 8 := Nat.mul_le_mul w63 (by omega)
  refine ⟨τ', ?_, i2, i3⟩
  simp only [f_X7_netBy, i1, bnd_s, e6, e7, e9, m_leti, i4, w61, w71, w91]
  rw [nI_lit 1, pk_sub w72, pk_mul (wv g 6) (wv g 7 - 1), n_min (by omega) (by omega), pk_mul (brF g _) (wv g 6), nI_lit 100, pk_mul 100 (wv g 9), pk_mul (100 * wv g 9) _]
  rfl
theorem e_share {σ : Mem} (hw : WC σ z g) (hg : wfC g) : f_X0_share N (nI z) σ = some (nI (100 - wv g 8), σ) := by
  have hz := hw.1
  have t8 : Int32.toNatClampNeg 8 = 8 := by decide
  have i8 : inb 8 10 = true := by decide
  simp only [f_X0_share, inb_n hz (by omega), i8, gd_t, t8, nI_clamp (show z < 2 ^ 31 by omega), hw.2 8 (by omega), n_100 hg]
theorem e_bringC {σ : Mem} (hw : WC σ z g) (hg : wfC g) (t : Nat) : f_X0_bringFor N (nI z) (nI t) σ = some (nI (brF g t), σ) := by
  have hz := hw.1
  simp only [f_X0_bringFor, inb_n hz (by omega), gd_t, e_share hw hg, bnd_s, pk_mul]
  rfl
theorem e_netC {σ : Mem} (hw : WC σ z g) (hg : wfC g) {t : Nat} (ht : t ≤ 891) : f_X0_netOf N (nI z) (nI (brF g t)) σ = some (netI g t, σ) := by
  have hz := hw.1
  obtain ⟨w81, w82⟩ := wf8 hg
  obtain ⟨w61, w62, w63⟩ := wf6 hg
  obtain ⟨w71, w72, w73⟩ := wf7 hg
  obtain ⟨w91, w92⟩ := wf9 hg
  have t6 : Int32.toNatClampNeg 6 = 6 := by decide
  have t7 : Int32.toNatClampNeg 7 = 7 := by decide
  have t9 : Int32.toNatClampNeg 9 = 9 := by decide
  have i6 : inb 6 10 = true := by decide
  have i7 : inb 7 10 = true := by decide
  have i9 : inb 9 10 = true := by decide
  have hm : wv g 6 * (wv g 7 - 1) ≤ 99 * 8 := Nat.mul_le_mul w63 (by omega)
  have hb : brF g t ≤ 891 * 100 := Nat.mul_le_mul ht (by omega)
  have hdv : brF g t / (100 - wv g 8) = t := Nat.mul_div_cancel t (by omega)
  have hn0 : ¬ nI (100 - wv g 8) ≤ 0 := nI_nle (by omega) (by omega)
  have hne : decide (¬ nI (100 - wv g 8) = 0) = true := decide_eq_true (nI_ne0 (by omega) (by omega))
  simp only [f_X0_netOf, j_X0_netOf_16, m_leti, inb_n hz (by omega), gd_t, e_share hw hg, bnd_s, if_neg hn0, hne, i6, i7, i9, t6, t7, t9, nI_clamp (show z < 2 ^ 31 by omega), hw.2 6 (by omega), hw.2 7 (by omega), hw.2 9 (by omega), w61, w71, w91]
  rw [pk_div (by omega) (by omega) (by omega), hdv, nI_lit 1, pk_sub w72, pk_mul (wv g 6) (wv g 7 - 1), n_min (by omega) (by omega), pk_mul (brF g _) (wv g 6), nI_lit 100, pk_mul 100 (wv g 9), pk_mul (100 * wv g 9) _]
  rfl
end PAY
