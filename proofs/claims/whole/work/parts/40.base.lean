/-! plain facts for the functions: guards, names, numbers as naturals, sets as naturals -/
theorem gd_t (o : Option (Int32 × Mem)) : gd true o = o := rfl
theorem bnd_s (a : Int32) (s : Mem) (f : Int32 → Mem → Option (Int32 × Mem)) : m_bnd (some (a, s)) f = f a s := rfl
theorem inb_n {j n : Nat} (h : j < n) (hn : n < 2 ^ 31) : inb (nI j) n = true := by
  have := vp_in_nI h hn
  unfold vp_in at this
  exact decide_eq_true this
theorem isb_0 : isb 0 = true := by decide
theorem isb_1 : isb 1 = true := by decide
theorem mu_s (σ : Mem) (i j : Nat) (v : Int32) : mu σ i j v i j = v := by simp [mu, upd]
theorem mu_c {σ : Mem} {i j a : Nat} {v : Int32} (h : a ≠ i) : mu σ i j v a = σ a := by simp [mu, h]
theorem mu_k {σ : Mem} {i j b : Nat} {v : Int32} (h : b ≠ j) : mu σ i j v i b = σ i b := by simp [mu, upd, h]
theorem mu_e (σ : Mem) (i j : Nat) (v : Int32) (a b : Nat) : mu σ i j v a b = if a = i ∧ b = j then v else σ a b := by
  by_cases h : a = i
  · subst h
    by_cases h2 : b = j <;> simp [mu, upd, h2]
  · simp [mu, h]
theorem nI_lit (n : Nat) : (OfNat.ofNat n : Int32) = nI n := rfl
theorem nI_31 {k : Nat} (h : k < 32) : nI k &&& 31 = nI k := by
  rw [nI_lit 31, fa_and]
  congr 1
  have := Nat.and_two_pow_sub_one_eq_mod k 5
  simp at this
  rw [this]
  exact Nat.mod_eq_of_lt h
theorem n_shl {k : Nat} (h : k < 31) : (1 : Int32) <<< (nI k &&& 31) = nI (2 ^ k) := by
  have h2 := pk_shlN (n := 1) (nI k &&& 31) k (s_l k (by omega)) (by rw [Nat.one_mul]; exact Nat.pow_lt_pow_right (by decide) (by omega))
  rw [Nat.one_mul] at h2
  exact h2
theorem n_shr {n k : Nat} (hn : n < 2 ^ 31) (h : k < 32) : nI n >>> (nI k &&& 31) = nI (n / 2 ^ k) := pk_shrN hn (nI k &&& 31) k (s_l k h)
theorem n_tb (n k : Nat) : n / 2 ^ k % 2 = if n.testBit k then 1 else 0 := by
  rw [Nat.testBit_eq_decide_div_mod_eq]
  rcases Nat.mod_two_eq_zero_or_one (n / 2 ^ k) with h | h <;> simp [h]
theorem n_bit {n k : Nat} (hn : n < 2 ^ 31) (h : k < 32) : (nI n >>> (nI k &&& 31)) &&& 1 = if n.testBit k then 1 else 0 := by
  rw [n_shr hn h, nI_lit 1, fa_and, Nat.and_one_is_mod, n_tb]
  split <;> rfl
theorem n_lt {a b : Nat} (ha : a < 2 ^ 31) (hb : b < 2 ^ 31) : nI a < nI b ↔ a < b := nI_ltI ha hb
theorem n_le {a b : Nat} (ha : a < 2 ^ 31) (hb : b < 2 ^ 31) : nI a ≤ nI b ↔ a ≤ b := nI_leI ha hb
theorem n_eq {a b : Nat} (ha : a < 2 ^ 31) (hb : b < 2 ^ 31) : nI a = nI b ↔ a = b := nI_eq ha hb
theorem n_min {a b : Nat} (ha : a < 2 ^ 31) (hb : b < 2 ^ 31) : imin (nI a) (nI b) = nI (min a b) := by
  unfold imin
  by_cases h : b < a
  · rw [if_pos ((n_lt hb ha).mpr h), Nat.min_eq_right (by omega)]
  · rw [if_neg (fun q => h ((n_lt hb ha).mp q)), Nat.min_eq_left (by omega)]
theorem n_max {a b : Nat} (ha : a < 2 ^ 31) (hb : b < 2 ^ 31) : imax (nI a) (nI b) = nI (max a b) := by
  unfold imax
  by_cases h : a < b
  · rw [if_pos ((n_lt ha hb).mpr h), Nat.max_eq_right (by omega)]
  · rw [if_neg (fun q => h ((n_lt ha hb).mp q)), Nat.max_eq_left (by omega)]
/-- the bits of a that b doesn't have -/
def bdiff (a b : Nat) : Nat := a ^^^ (a &&& b)
theorem bdiff_tb (a b k : Nat) : (bdiff a b).testBit k = (a.testBit k && !b.testBit k) := by
  unfold bdiff
  rw [Nat.testBit_xor, Nat.testBit_and]
  cases a.testBit k <;> cases b.testBit k <;> rfl
theorem n_xor (a b : Nat) : nI a ^^^ nI b = nI (a ^^^ b) := by
  apply Int32.toBitVec_inj.1
  show BitVec.ofNat 32 a ^^^ BitVec.ofNat 32 b = BitVec.ofNat 32 (a ^^^ b)
  apply BitVec.eq_of_getLsbD_eq
  intro i hi
  simp [hi]
theorem n_andn {a b : Nat} : nI a &&& (nI b ^^^ (-1)) = nI (bdiff a b) := by
  apply b_ext
  intro i hi
  have hb (n : Nat) : bt (nI n) i = n.testBit i := by
    show (BitVec.ofNat 32 n).getLsbD i = _
    rw [BitVec.getLsbD_ofNat]
    simp [hi]
  rw [b_and, b_xor, b_m1 i hi, hb, hb, hb, bdiff_tb]
  cases b.testBit i <;> simp
theorem n_of (x : Int32) (h : 0 ≤ x) : ∃ n, n < 2 ^ 31 ∧ x = nI n := by
  obtain ⟨j, h1, h2⟩ := nI_of (x := x) (fun q => by rw [fa_lt] at q; rw [fa_le] at h; omega)
  exact ⟨j, h1, h2⟩
/-- a number within bounds -/
theorem n_within {x : Int32} {a b : Nat} (ha : a < 2 ^ 31) (hb : b < 2 ^ 31) (h1 : nI a ≤ x) (h2 : x ≤ nI b) : ∃ n, a ≤ n ∧ n ≤ b ∧ x = nI n := by
  rw [fa_le] at h1 h2
  rw [nI_toInt hb] at h2
  rw [nI_toInt ha] at h1
  obtain ⟨n, hn, e⟩ := n_of x (by rw [fa_le]; have : (0 : Int32).toInt = 0 := rfl; omega)
  subst e
  rw [nI_toInt hn] at h1 h2
  exact ⟨n, by omega, by omega, rfl⟩
