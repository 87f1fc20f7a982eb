/-! the reference lays the happenings in their row -/
def lowS (D : Nat → Nat → Nat) (M s : Nat) : Nat := lowF (D 1) s 1000 M
def highS (D : Nat → Nat → Nat) (M s : Nat) : Nat := highF (D 1) s M
def sumS (D : Nat → Nat → Nat) (M s : Nat) : Nat := sumF (D 0) s M
def firstS (D : Nat → Nat → Nat) (M s : Nat) : Nat := fa_first (fun j => s.testBit j && decide (D 1 j = lowS D M s)) M
def klt (D : Nat → Nat → Nat) (M a b : Nat) : Prop := lowS D M a < lowS D M b ∨ (lowS D M a = lowS D M b ∧ firstS D M a < firstS D M b)
def ent (D : Nat → Nat → Nat) (M : Nat) (τ : Mem) (j s : Nat) : Prop := τ 11 j = nI s ∧ τ 12 j = nI (sumS D M s) ∧ τ 13 j = nI (lowS D M s) ∧ τ 14 j = nI (highS D M s) ∧ τ 15 j = nI (firstS D M s)
def RowL (D : Nat → Nat → Nat) (M : Nat) (τ : Mem) (R : List Nat) : Prop := ∀ j s, R[j]? = some s → ent D M τ j s
/-- all but the row's arrays is as it was -/
def KRow (τ τ' : Mem) : Prop := ∀ a, a < 11 ∨ 15 < a → τ' a = τ a
theorem KRow.rf (τ : Mem) : KRow τ τ := fun _ _ => rfl
theorem KRow.tr {a b c : Mem} (h : KRow a b) (g : KRow b c) : KRow a c := fun i q => (g i q).trans (h i q)
theorem KRow.kr {τ τ' : Mem} (h : KRow τ τ') : KR τ τ' := by
  intro a j q
  rw [h a (by unfold psR at q; omega)]
/-- a set that is a happening of the losses -/
def okS (M s : Nat) : Prop := s < 2 ^ M ∧ s ≠ 0
def hib (s j : Nat) : Nat := bdiff s (2 ^ j - 1)
theorem hib_tb (s j t : Nat) : (hib s j).testBit t = (s.testBit t && !decide (t < j)) := by
  unfold hib
  rw [bdiff_tb, Nat.testBit_two_pow_sub_one]
theorem hib_0 (s : Nat) : hib s 0 = s := by
  apply Nat.eq_of_testBit_eq
  intro t
  rw [hib_tb]
  simp
theorem hib_lt {s j M : Nat} (h : s < 2 ^ M) : hib s j < 2 ^ M := by
  apply Nat.lt_pow_two_of_testBit
  intro i hi
  rw [hib_tb, Nat.testBit_lt_two_pow (Nat.lt_of_lt_of_le h (Nat.pow_le_pow_right (by decide) hi))]
  rfl
theorem skip_low {h : Nat → Nat} {s a j : Nat} : ∀ m, (∀ t, j ≤ t → t < j + m → s.testBit t = false) → lowF h s a (j + m) = lowF h s a j
  | 0, _ => rfl
  | m + 1, q => by
    rw [show j + (m + 1) = (j + m) + 1 from rfl, lowF_s, if_neg (by rw [q (j + m) (by omega) (by omega)]; decide)]
    exact skip_low m (fun t h1 h2 => q t h1 (by omega))
theorem skip_high {h : Nat → Nat} {s j : Nat} : ∀ m, (∀ t, j ≤ t → t < j + m → s.testBit t = false) → highI h s (j + m) = highI h s j
  | 0, _ => rfl
  | m + 1, q => by
    rw [show j + (m + 1) = (j + m) + 1 from rfl, highI_s, if_neg (by rw [q (j + m) (by omega) (by omega)]; decide)]
    exact skip_high m (fun t h1 h2 => q t h1 (by omega))
theorem skip_sum {f : Nat → Nat} {s j : Nat} : ∀ m, (∀ t, j ≤ t → t < j + m → s.testBit t = false) → sumF f s (j + m) = sumF f s j
  | 0, _ => rfl
  | m + 1, q => by
    rw [show j + (m + 1) = (j + m) + 1 from rfl, sumF_s, if_neg (by rw [q (j + m) (by omega) (by omega)]; decide)]
    exact skip_sum m (fun t h1 h2 => q t h1 (by omega))
theorem nz_tb {s : Nat} (h : s ≠ 0) : ∃ t, s.testBit t = true := Nat.exists_testBit_of_ne_zero h
section ROW
variable {N M : Nat} {D : Nat → Nat → Nat} {τ : Mem}
theorem okS_j {s : Nat} (h : okS M s) : ∃ j, j < M ∧ s.testBit j = true := by
  obtain ⟨t, ht⟩ := nz_tb h.2
  refine ⟨t, ?_, ht⟩
  rcases Nat.lt_or_ge t M with q | q
  · exact q
  · rw [Nat.testBit_lt_two_pow (Nat.lt_of_lt_of_le h.1 (Nat.pow_le_pow_right (by decide) q))] at ht
    cases ht
theorem okS_high (hD : LD M D) {s : Nat} (h : okS M s) : highI (D 1) s M = nI (highS D M s) := by
  obtain ⟨j, hj, hs⟩ := okS_j h
  rcases highI_eq (D 1) s M (fun j hj => by have := (hD.2 j hj).2.2.1; omega) with ⟨q, -⟩ | ⟨-, q⟩
  · rw [q j hj] at hs; cases hs
  · exact q
theorem okS_low (hD : LD M D) {s : Nat} (h : okS M s) : ∃ j, j < M ∧ s.testBit j = true ∧ D 1 j = lowS D M s := by
  obtain ⟨j, hj, hs⟩ := okS_j h
  rcases low_at (D 1) s 1000 M with e | ⟨i, i1, i2, i3⟩
  · have := low_le (h := D 1) (s := s) (a := 1000) M j hj hs
    have := (hD.2 j hj).2.2.1
    omega
  · exact ⟨i, i1, i2, i3.symm⟩
theorem firstS_ok (hD : LD M D) {s : Nat} (h : okS M s) : firstS D M s < M ∧ s.testBit (firstS D M s) = true ∧ D 1 (firstS D M s) = lowS D M s := by
  obtain ⟨j, hj, hs, he⟩ := okS_low hD h
  have hlt : firstS D M s < M := by
    rcases Nat.lt_or_ge (firstS D M s) M with q | q
    · exact q
    · have := fa_first_no (fun j => s.testBit j && decide (D 1 j = lowS D M s)) M j (by unfold firstS at q; omega)
      simp [hs, he] at this
  have := fa_first_yes (fun j => s.testBit j && decide (D 1 j = lowS D M s)) M hlt
  rw [Bool.and_eq_true] at this
  exact ⟨hlt, this.1, of_decide_eq_true this.2⟩
/-- the bits of a happening, one by one -/
theorem lp_rowA (hD : LD M D) (h : LR τ M D) {s k : Nat} (hs : s < 2 ^ M) (K2 : Int32 → Mem → Option (Int32 × Mem)) : ∀ m j n, j + m = M → m < n →
    l_X7_layRow_27 N K2 n (nI k) (nI (lowF (D 1) s 1000 j)) (highI (D 1) s j) (nI (sumF (D 0) s j)) (nI (hib s j)) τ = l_X7_layRow_90 N K2 N (nI k) (nI (lowF (D 1) s 1000 M)) (highI (D 1) s M) (nI (sumF (D 0) s M)) 0 τ := by
  intro m
  have hM := hD.1
  have h4 := n_lt2 hM
  induction m using Nat.strongRecOn with
  | ind m ih =>
    intro j n hj hn
    obtain ⟨n, rfl⟩ : ∃ n', n = n' + 1 := ⟨n - 1, by omega⟩
    have hl := hib_lt (j := j) hs
    by_cases h0 : hib s j = 0
    · have hno : ∀ t, j ≤ t → t < j + m → s.testBit t = false := by
        intro t h1 _
        have : (hib s j).testBit t = false := by rw [h0, Nat.zero_testBit]
        rw [hib_tb, decide_eq_false (by omega)] at this
        simpa using this
      have z0 : nI (hib s j) = 0 := by rw [h0]; rfl
      simp only [l_X7_layRow_27, b_X7_layRow_27, if_pos z0]
      rw [← hj, skip_low m hno, skip_high m hno, skip_sum m hno]
    · obtain ⟨z1, z2, z3⟩ := ntz_n (show hib s j < 4096 by omega) h0
      have z4 := ctz_tb (show hib s j < 4096 by omega) h0
      have hne : ¬ nI (hib s j) = 0 := by
        rw [show (0 : Int32) = nI 0 from rfl, n_eq (by omega) (by omega)]
        exact h0
      obtain ⟨k1, hk1⟩ : ∃ q, q = ctz (hib s j) := ⟨_, rfl⟩
      rw [← hk1] at z1 z2 z3 z4
      rw [hib_tb] at z4
      have hsk : s.testBit k1 = true := ((Bool.and_eq_true _ _).mp z4).1
      have hjk : j ≤ k1 := by
        have := ((Bool.and_eq_true _ _).mp z4).2
        simp at this
        exact this
      have hkM : k1 < M := by
        rcases Nat.lt_or_ge k1 M with q | q
        · exact q
        · rw [Nat.testBit_lt_two_pow (Nat.lt_of_lt_of_le hs (Nat.pow_le_pow_right (by decide) q))] at hsk
          cases hsk
      have hno : ∀ t, j ≤ t → t < j + (k1 - j) → s.testBit t = false := by
        intro t h1 h2
        have : (hib s j).testBit t = false := ctz_no (by omega)
        rw [hib_tb, decide_eq_false (by omega)] at this
        simpa using this
      have hrest : bdiff (hib s j) (2 ^ k1) = hib s (k1 + 1) := by
        apply Nat.eq_of_testBit_eq
        intro t
        rw [bdiff_tb, hib_tb, hib_tb]
        by_cases e : t = k1
        · subst e
          rw [Nat.testBit_two_pow_self]
          simp
        · rw [Nat.testBit_two_pow_of_ne (by omega)]
          by_cases q : t < j
          · rw [decide_eq_true q, decide_eq_true (by omega)]; simp
          · by_cases q2 : t < k1
            · rw [hno t (by omega) (by omega)]; simp
            · rw [decide_eq_false q, decide_eq_false (by omega)]; simp
      have em1 : nI (hib s j) - 1 = nI (hib s j - 1) := by
        rw [nI_lit 1, pk_sub (by omega)]
      have lw := lowF_le (D 1) s 1000 j
      have hh := (hD.2 k1 hkM).2.2.1
      have ih := ih (M - (k1 + 1)) (by omega) (k1 + 1) n (by omega) (by omega)
      rw [lowF_s, highI_s, sumF_s, if_pos hsk, if_pos hsk, if_pos hsk] at ih
      have e1 := skip_low (h := D 1) (a := 1000) (k1 - j) hno
      have e2 := skip_high (h := D 1) (k1 - j) hno
      have e3 := skip_sum (f := D 0) (k1 - j) hno
      rw [show j + (k1 - j) = k1 by omega] at e1 e2 e3
      rw [e1, e2, e3] at ih
      simp only [l_X7_layRow_27, b_X7_layRow_27, if_neg hne, e_ntz, z1, bnd_s, inb_n (show k1 < 12 by omega) (by omega), gd_t, m_leti, nI_clamp (show k1 < 2 ^ 31 by omega), (h.2 k1 hkM).2.1, (h.2 k1 hkM).1, n_min (show lowF (D 1) s 1000 j < 2 ^ 31 by omega) (show D 1 k1 < 2 ^ 31 by omega), nI_add, em1, fa_and, z2, hrest]
      exact ih
/-- the first of those at the least hour -/
theorem lp_rowB (hD : LD M D) (h : LR τ M D) {s k : Nat} (hk : k < 12) (hs : okS M s) (hp : τ 10 k = nI s) (K2 : Int32 → Mem → Option (Int32 × Mem)) (x3 x4 : Int32) : ∀ m j n, j + m = firstS D M s → m < n →
    l_X7_layRow_90 N K2 n (nI k) (nI (lowS D M s)) x3 x4 (nI j) τ = l_X7_layRow_124 N K2 N (nI k) (nI (lowS D M s)) x3 x4 (nI (firstS D M s)) (nI k) τ := by
  intro m
  have hM := hD.1
  have h4 := n_lt2 hM
  obtain ⟨f1, f2, f3⟩ := firstS_ok hD hs
  have hs31 : s < 2 ^ 31 := by have := hs.1; omega
  have hl := lowF_le (D 1) s 1000 M
  induction m with
  | zero =>
    intro j n hj hn
    obtain ⟨n, rfl⟩ : ∃ n', n = n' + 1 := ⟨n - 1, by omega⟩
    have e : j = firstS D M s := by omega
    subst e
    simp only [l_X7_layRow_90, b_X7_layRow_90, inb_n hk (by omega), gd_t, nI_clamp (show k < 2 ^ 31 by omega), hp, e_hasR N hs31 (show firstS D M s < 32 by omega), bnd_s, b2i_0, f2, inb_n (show firstS D M s < 12 by omega) (by omega), nI_clamp (show firstS D M s < 2 ^ 31 by omega), (h.2 _ f1).2.1, f3]
    rw [if_neg (by decide), if_pos trivial]
  | succ m ih =>
    intro j n hj hn
    obtain ⟨n, rfl⟩ : ∃ n', n = n' + 1 := ⟨n - 1, by omega⟩
    have ih := ih (j + 1) n (by omega) (by omega)
    have hj2 : j < M := by omega
    have hno := fa_first_no (fun j => s.testBit j && decide (D 1 j = lowS D M s)) M j (by show j < firstS D M s; omega)
    have hh := (hD.2 j hj2).2.2.1
    simp only [l_X7_layRow_90, b_X7_layRow_90, inb_n hk (by omega), gd_t, nI_clamp (show k < 2 ^ 31 by omega), hp, e_hasR N hs31 (show j < 32 by omega), bnd_s, b2i_0, inb_n (show j < 12 by omega) (by omega), nI_clamp (show j < 2 ^ 31 by omega), (h.2 j hj2).2.1, nI_1]
    by_cases hb : s.testBit j = false
    · rw [if_pos hb]
      exact ih
    · have hbt : s.testBit j = true := by simpa using hb
      have hne : ¬ D 1 j = lowS D M s := by
        intro q
        simp [hbt, q] at hno
      rw [if_neg hb, if_neg (by rw [n_eq (by omega) (by unfold lowS; omega)]; exact hne)]
      exact ih
end ROW
