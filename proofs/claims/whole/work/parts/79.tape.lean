/-! fault, cover: the tape, as both sides read it: blanks, digits, letters, a number -/
theorem mu_tw (τ : Mem) (i j : Nat) (u v : Int32) : mu (mu τ i j u) i j v = mu τ i j v := by
  funext a
  by_cases h : a = i
  · subst h
    simp only [mu, if_pos]
    exact fa_upd_twice _ _ _ _
  · simp only [mu, if_neg h]
theorem mu_id {τ : Mem} {i j : Nat} {v : Int32} (h : τ i j = v) : mu τ i j v = τ := by
  funext a
  by_cases e : a = i
  · subst e
    simp only [mu, if_pos]
    exact fa_upd_same h
  · simp only [mu, if_neg e]
/-- past blanks: m bytes are left -/
def pbm (B : Nat → Nat) : Nat → Nat → Nat
  | 0, p => p
  | m + 1, p => if B p = 32 then pbm B m (p + 1) else p
def pz (B : Nat → Nat) (L p : Nat) : Nat := pbm B (L - p) p
theorem pz_end {B : Nat → Nat} {L p : Nat} (h : L ≤ p) : pz B L p = p := by
  unfold pz
  rw [Nat.sub_eq_zero_of_le h]
  rfl
theorem pz_b {B : Nat → Nat} {L p : Nat} (h : p < L) (hb : B p = 32) : pz B L p = pz B L (p + 1) := by
  unfold pz
  obtain ⟨m, e⟩ : ∃ m, L - p = m + 1 := ⟨L - p - 1, by omega⟩
  rw [e, show L - (p + 1) = m by omega]
  show (if B p = 32 then pbm B m (p + 1) else p) = _
  rw [if_pos hb]
theorem pz_n {B : Nat → Nat} {L p : Nat} (hb : ¬ B p = 32) : pz B L p = p := by
  unfold pz
  cases L - p with
  | zero => rfl
  | succ m =>
    show (if B p = 32 then pbm B m (p + 1) else p) = _
    rw [if_neg hb]
theorem pz_all (B : Nat → Nat) (L : Nat) : ∀ m p, L = p + m → p ≤ pz B L p ∧ pz B L p ≤ L ∧ (pz B L p < L → ¬ B (pz B L p) = 32) := by
  intro m
  induction m with
  | zero =>
    intro p h
    rw [pz_end (by omega)]
    exact ⟨Nat.le_refl _, by omega, fun q => by omega⟩
  | succ m ih =>
    intro p h
    by_cases hb : B p = 32
    · rw [pz_b (by omega) hb]
      obtain ⟨h1, h2, h3⟩ := ih (p + 1) (by omega)
      exact ⟨by omega, h2, h3⟩
    · rw [pz_n hb]
      exact ⟨Nat.le_refl _, by omega, fun _ => hb⟩
theorem pz_ge {B : Nat → Nat} {L p : Nat} (h : p ≤ L) : p ≤ pz B L p := (pz_all B L (L - p) p (by omega)).1
theorem pz_le {B : Nat → Nat} {L p : Nat} (h : p ≤ L) : pz B L p ≤ L := (pz_all B L (L - p) p (by omega)).2.1
theorem pz_at {B : Nat → Nat} {L p : Nat} (h : p ≤ L) (q : pz B L p < L) : ¬ B (pz B L p) = 32 := (pz_all B L (L - p) p (by omega)).2.2 q
theorem pz_pz {B : Nat → Nat} {L p : Nat} (h : p ≤ L) : pz B L (pz B L p) = pz B L p := by
  by_cases q : pz B L p < L
  · exact pz_n (pz_at h q)
  · exact pz_end (by omega)
/-- the tape in the class, and in the reference -/
def TC (σ : Mem) (L : Nat) (B : Nat → Nat) : Prop := L ≤ 120 ∧ σ 17 1 = nI L ∧ ∀ j, j < L → B j < 256 ∧ σ 25 j = nI (B j)
def TR (τ : Mem) (L : Nat) (B : Nat → Nat) : Prop := L ≤ 120 ∧ τ 0 2 = nI L ∧ ∀ j, j < L → B j < 256 ∧ τ 1 j = i2b (nI (B j))
theorem TC.k {σ σ' : Mem} {L : Nat} {B : Nat → Nat} (h : TC σ L B) (e1 : σ' 17 1 = σ 17 1) (e2 : ∀ j, σ' 25 j = σ 25 j) : TC σ' L B := ⟨h.1, by rw [e1]; exact h.2.1, fun j hj => by rw [e2]; exact h.2.2 j hj⟩
theorem TR.k {τ τ' : Mem} {L : Nat} {B : Nat → Nat} (h : TR τ L B) (e1 : τ' 0 2 = τ 0 2) (e2 : ∀ j, τ' 1 j = τ 1 j) : TR τ' L B := ⟨h.1, by rw [e1]; exact h.2.1, fun j hj => by rw [e2]; exact h.2.2 j hj⟩
theorem TR.u {τ : Mem} {L : Nat} {B : Nat → Nat} (h : TR τ L B) {k : Nat} (hk : k ≠ 2) (v : Int32) : TR (mu τ 0 k v) L B := h.k (mu_k (Ne.symm hk)) (fun j => by rw [mu_c (by decide)])
theorem byte_back : ∀ b, b < 256 → i2b (nI b) &&& 255 = nI b := by decide +kernel
theorem byte_104 : ∀ b, b < 256 → ((104 : Int32) = i2b (nI b) ↔ b = 104) := by decide +kernel
theorem byte_chr : ∀ b, b < 256 → i2c (nI b) = nI b := by decide +kernel
section TAPE1
variable {N L : Nat} {B : Nat → Nat} {σ τ : Mem}
theorem lp_past (h : TC σ L B) : ∀ m p n, p + m = L → m < n → l_X4_pastBlanks_2 N n (nI p) σ = some (nI (pz B L p), σ) := by
  have hL := h.1
  intro m
  induction m with
  | zero =>
    intro p n hp hn
    obtain ⟨n, rfl⟩ : ∃ q, n = q + 1 := ⟨n - 1, by omega⟩
    have e : p = L := by omega
    subst e
    simp only [l_X4_pastBlanks_2, b_X4_pastBlanks_2, h.2.1]
    rw [if_pos ((n_le (by omega) (by omega)).mpr (Nat.le_refl p)), pz_end (Nat.le_refl p)]
  | succ m ih =>
    intro p n hp hn
    obtain ⟨n, rfl⟩ : ∃ q, n = q + 1 := ⟨n - 1, by omega⟩
    obtain ⟨hb, hs⟩ := h.2.2 p (by omega)
    simp only [l_X4_pastBlanks_2, b_X4_pastBlanks_2, h.2.1]
    rw [if_neg (fun q => by rw [n_le (by omega) (by omega)] at q; omega), inb_n (show p < 120 by omega) (by omega), gd_t, nI_clamp (by omega), hs, nI_1]
    by_cases e : B p = 32
    · rw [if_pos (by rw [e]; rfl), ih (p + 1) n (by omega) (by omega), pz_b (by omega) e]
    · rw [if_neg (show ¬ nI (B p) = 32 from fun q => e ((n_eq (b := 32) (by omega) (by omega)).mp q)), pz_n e]
theorem e_past (hN : 122 ≤ N) (h : TC σ L B) {p : Nat} (hp : p ≤ L) : f_X4_pastBlanks N (nI p) σ = some (nI (pz B L p), σ) := by
  have hL := h.1
  exact lp_past h (L - p) p N (by omega) (by omega)
/-- the byte at a place, -1 behind the last -/
def hrB (B : Nat → Nat) (L p : Nat) : Int32 := if L ≤ p then -1 else nI (B p)
theorem e_here (h : TR τ L B) {p : Nat} (hp : p ≤ L) (ht : τ 0 3 = nI p) : f_X7_here N τ = some (hrB B L p, τ) := by
  have hL := h.1
  unfold f_X7_here hrB
  rw [h.2.1, ht]
  by_cases q : L ≤ p
  · rw [if_pos ((n_le (by omega) (by omega)).mpr q), if_pos q]
  · obtain ⟨hb, hs⟩ := h.2.2 p (by omega)
    rw [if_neg (fun z => q ((n_le (by omega) (by omega)).mp z)), if_neg q, inb_n (show p < 120 by omega) (by omega), gd_t, nI_clamp (by omega), hs, byte_back _ hb]
theorem hrB_in {p : Nat} (hp : p < L) : hrB B L p = nI (B p) := by unfold hrB; rw [if_neg (by omega)]
theorem hrB_out {p : Nat} (hp : L ≤ p) : hrB B L p = -1 := by unfold hrB; rw [if_pos hp]
theorem hrB_eq (h : TR τ L B) {p k : Nat} (hk : k < 256) : hrB B L p = nI k ↔ p < L ∧ B p = k := by
  unfold hrB
  by_cases q : L ≤ p
  · rw [if_pos q]
    refine ⟨fun z => ?_, fun z => by omega⟩
    have h1 : ¬ nI k < 0 := nI_pos (by omega)
    rw [← z] at h1
    exact absurd (by decide) h1
  · rw [if_neg q, n_eq (by have := (h.2.2 p (by omega)).1; omega) (by omega)]
    exact ⟨fun z => ⟨by omega, z⟩, fun z => z.2⟩
theorem lp_look : ∀ m p n (τ : Mem), TR τ L B → τ 0 3 = nI p → p + m = L → m < n → l_X7_look_0 N n τ = some (hrB B L (pz B L p), mu τ 0 3 (nI (pz B L p))) := by
  intro m
  induction m with
  | zero =>
    intro p n τ h ht hp hn
    obtain ⟨n, rfl⟩ : ∃ q, n = q + 1 := ⟨n - 1, by omega⟩
    have e : p = L := by omega
    subst e
    simp only [l_X7_look_0, b_X7_look_0, e_here h (Nat.le_refl p) ht, bnd_s]
    rw [pz_end (Nat.le_refl p), hrB_out (Nat.le_refl p), if_neg (by decide), mu_id ht]
  | succ m ih =>
    intro p n τ h ht hp hn
    obtain ⟨n, rfl⟩ : ∃ q, n = q + 1 := ⟨n - 1, by omega⟩
    have hL := h.1
    have hb := (h.2.2 p (by omega)).1
    simp only [l_X7_look_0, b_X7_look_0, e_here h (show p ≤ L by omega) ht, bnd_s, m_let, ht, nI_1]
    rw [hrB_in (show p < L by omega)]
    by_cases e : B p = 32
    · rw [if_pos (by rw [e]; rfl), ih (p + 1) n _ (h.u (by decide) _) (mu_s _ _ _ _) (by omega) (by omega), pz_b (by omega) e, mu_tw]
    · rw [if_neg (show ¬ nI (B p) = 32 from fun q => e ((n_eq (b := 32) (by omega) (by omega)).mp q)), pz_n e, mu_id ht, hrB_in (show p < L by omega)]
theorem e_look (hN : 122 ≤ N) (h : TR τ L B) {p : Nat} (hp : p ≤ L) (ht : τ 0 3 = nI p) : f_X7_look N τ = some (hrB B L (pz B L p), mu τ 0 3 (nI (pz B L p))) := by
  have hL := h.1
  exact lp_look (L - p) p N τ h ht (by omega) (by omega)
/-- a digit -/
def dgB (B : Nat → Nat) (L p : Nat) : Bool := decide (p < L) && (decide (48 ≤ B p) && decide (B p ≤ 57))
theorem dgB_t {p : Nat} : dgB B L p = true ↔ p < L ∧ 48 ≤ B p ∧ B p ≤ 57 := by
  unfold dgB
  simp
theorem e_digC (h : TC σ L B) {p : Nat} (hp : p ≤ L) : f_X4_isDigit N (nI p) σ = some (b2i (dgB B L p), σ) := by
  have hL := h.1
  unfold f_X4_isDigit
  rw [h.2.1, isb_0, isb_1]
  by_cases q : L ≤ p
  · rw [if_pos ((n_le (by omega) (by omega)).mpr q), gd_t]
    have e : dgB B L p = false := by unfold dgB; rw [decide_eq_false (by omega)]; rfl
    rw [e]
    rfl
  · obtain ⟨hb, hs⟩ := h.2.2 p (by omega)
    rw [if_neg (fun z => q ((n_le (by omega) (by omega)).mp z)), inb_n (show p < 120 by omega) (by omega), gd_t, nI_clamp (by omega), hs]
    by_cases q1 : B p < 48
    · rw [if_pos (show nI (B p) < 48 from (n_lt (b := 48) (by omega) (by omega)).mpr q1), gd_t]
      have e : dgB B L p = false := by unfold dgB; rw [decide_eq_false (p := 48 ≤ B p) (by omega)]; simp
      rw [e]
      rfl
    · rw [if_neg (show ¬ nI (B p) < 48 from fun z => q1 ((n_lt (b := 48) (by omega) (by omega)).mp z)), gd_t]
      by_cases q2 : 57 < B p
      · rw [if_pos (show 57 < nI (B p) from (n_lt (a := 57) (by omega) (by omega)).mpr q2), gd_t]
        have e : dgB B L p = false := by unfold dgB; rw [decide_eq_false (p := B p ≤ 57) (by omega)]; simp
        rw [e]
        rfl
      · rw [if_neg (show ¬ 57 < nI (B p) from fun z => q2 ((n_lt (a := 57) (by omega) (by omega)).mp z)), gd_t]
        have e : dgB B L p = true := dgB_t.mpr (by omega)
        rw [e]
        rfl
theorem e_digR (h : TR τ L B) {p : Nat} (hp : p ≤ L) (ht : τ 0 3 = nI p) : f_X7_isDigit N τ = some (b2i (dgB B L p), τ) := by
  have hL := h.1
  simp only [f_X7_isDigit, e_here h hp ht, bnd_s]
  rw [isb_0, isb_1]
  by_cases q : L ≤ p
  · rw [hrB_out q, if_pos (by decide), gd_t]
    have e : dgB B L p = false := by unfold dgB; rw [decide_eq_false (by omega)]; rfl
    rw [e]
    rfl
  · obtain ⟨hb, hs⟩ := h.2.2 p (by omega)
    rw [hrB_in (show p < L by omega)]
    by_cases q1 : B p < 48
    · rw [if_pos (show nI (B p) < 48 from (n_lt (b := 48) (by omega) (by omega)).mpr q1), gd_t]
      have e : dgB B L p = false := by unfold dgB; rw [decide_eq_false (p := 48 ≤ B p) (by omega)]; simp
      rw [e]
      rfl
    · rw [if_neg (show ¬ nI (B p) < 48 from fun z => q1 ((n_lt (b := 48) (by omega) (by omega)).mp z))]
      by_cases q2 : 57 < B p
      · rw [if_pos (show 57 < nI (B p) from (n_lt (a := 57) (by omega) (by omega)).mpr q2), gd_t]
        have e : dgB B L p = false := by unfold dgB; rw [decide_eq_false (p := B p ≤ 57) (by omega)]; simp
        rw [e]
        rfl
      · rw [if_neg (show ¬ 57 < nI (B p) from fun z => q2 ((n_lt (a := 57) (by omega) (by omega)).mp z)), gd_t]
        have e : dgB B L p = true := dgB_t.mpr (by omega)
        rw [e]
        rfl
/-! letters -/
def ixf (u : Int32) : Nat → Nat → Int32
  | 0, _ => -1
  | m + 1, k => if m_tx.getD k 0 = u then nI k else ixf u m (k + 1)
theorem ixf_in (u : Int32) : ∀ m k, k + m = 10 → ixf u m k = -1 ∨ ∃ j, k ≤ j ∧ j < 10 ∧ ixf u m k = nI j := by
  intro m
  induction m with
  | zero => exact fun k _ => Or.inl rfl
  | succ m ih =>
    intro k h
    unfold ixf
    by_cases e : m_tx.getD k 0 = u
    · rw [if_pos e]
      exact Or.inr ⟨k, Nat.le_refl k, by omega, rfl⟩
    · rw [if_neg e]
      rcases ih (k + 1) (by omega) with q | ⟨j, q1, q2, q3⟩
      · exact Or.inl q
      · exact Or.inr ⟨j, by omega, q2, q3⟩
/-- which word a letter is for -/
def letB (b : Nat) : Int32 := ixf (i2b (nI b)) 10 0
theorem letB_in (b : Nat) : letB b = -1 ∨ ∃ j, j < 10 ∧ letB b = nI j := by
  rcases ixf_in (i2b (nI b)) 10 0 rfl with q | ⟨j, -, q2, q3⟩
  · exact Or.inl q
  · exact Or.inr ⟨j, q2, q3⟩
theorem letB_0 {b : Nat} (hb : b < 256) : letB b = 0 ↔ b = 104 := by
  rw [← byte_104 b hb]
  show (if (104 : Int32) = i2b (nI b) then nI 0 else ixf (i2b (nI b)) 9 1) = 0 ↔ _
  by_cases e : (104 : Int32) = i2b (nI b)
  · rw [if_pos e]
    exact ⟨fun _ => e, fun _ => rfl⟩
  · rw [if_neg e]
    refine ⟨fun z => ?_, fun z => absurd z e⟩
    rcases ixf_in (i2b (nI b)) 9 1 rfl with q | ⟨j, q1, q2, q3⟩
    · rw [q] at z
      exact absurd z (by decide)
    · rw [q3] at z
      have : j = 0 := (n_eq (b := 0) (by omega) (by omega)).mp z
      omega
theorem lp_ix (u : Int32) : ∀ m k n, k + m = 10 → m < n → l_J1_indexOfChar_4cfef_7 N n 10 u (nI k) σ = some (ixf u m k, σ) := by
  intro m
  induction m with
  | zero =>
    intro k n hk hn
    obtain ⟨n, rfl⟩ : ∃ q, n = q + 1 := ⟨n - 1, by omega⟩
    have e : k = 10 := by omega
    subst e
    simp only [l_J1_indexOfChar_4cfef_7, b_J1_indexOfChar_4cfef_7]
    rw [if_pos (by decide)]
    rfl
  | succ m ih =>
    intro k n hk hn
    obtain ⟨n, rfl⟩ : ∃ q, n = q + 1 := ⟨n - 1, by omega⟩
    simp only [l_J1_indexOfChar_4cfef_7, b_J1_indexOfChar_4cfef_7]
    rw [if_neg (fun q => by rw [nI_lit 10, n_le (by omega) (by omega)] at q; omega), inb_n (show k < 10 by omega) (by omega), gd_t, nI_clamp (by omega), nI_1]
    unfold ixf
    by_cases e : m_tx.getD k 0 = u
    · rw [if_pos e, if_pos e]
    · rw [if_neg e, if_neg e]
      exact ih (k + 1) n (by omega) (by omega)
theorem e_index (hN : 12 ≤ N) {b : Nat} (hb : b < 256) (σ : Mem) : f_J0_indexOf_0f7a4 N (nI b) σ = some (letB b, σ) := by
  have h1 : f_J1_indexOfChar_4cfef N (nI b) 0 10 σ = some (letB b, σ) := by
    unfold f_J1_indexOfChar_4cfef m_leti
    exact lp_ix (i2b (nI b)) 10 0 N rfl (by omega)
  have h2 : f_J1_indexOf_4cfef N (nI b) 0 10 σ = some (letB b, σ) := by
    unfold f_J1_indexOf_4cfef f_J1_canEncode_9a6ad m_leti
    rw [if_neg (nI_pos (show b < 2 ^ 31 by omega)), if_neg (show ¬ 255 < nI b from fun q => by rw [nI_lit 255, n_lt (by omega) (by omega)] at q; omega), isb_1, gd_t, bnd_s, if_neg (show ¬ (1 : Int32) = 0 by decide), show imax (0 : Int32) 0 = 0 from by decide, show imin (10 : Int32) 10 = 10 from by decide]
    show (if (0 : Int32) < 10 then m_bnd (f_J1_indexOfChar_4cfef N (nI b) 0 10 σ) (fun r5 σ6 => some (r5, σ6)) else some (-1, σ)) = _
    rw [if_pos (show (0 : Int32) < 10 by decide), h1, bnd_s]
  have h3 : f_J0_length_8abf5 N σ = some (10, σ) := by
    have e0 : f_J0_coder_7d493 N σ = some (0, σ) := rfl
    unfold f_J0_length_8abf5
    rw [e0, bnd_s, show (10 : Int32) >>> ((0 : Int32) &&& 31) = 10 from by decide]
  have h4 : f_J0_isLatin1_aae02 N σ = some (1, σ) := rfl
  unfold f_J0_indexOf_0f7a4 f_J0_indexOf_7cf53
  rw [h4, bnd_s, if_neg (by decide), h3, bnd_s, h2, bnd_s, bnd_s]
theorem e_what (hN : 12 ≤ N) {b : Nat} (hb : b < 256) (σ : Mem) : f_X0_whatOf N (nI b) σ = some (letB b, σ) := by
  unfold f_X0_whatOf
  rw [byte_chr b hb, e_index hN hb, bnd_s]
/-! bounds of the words -/
theorem e_leastOf {k : Nat} (hk : k < 10) (τ : Mem) : f_X7_leastOf N (nI k) τ = some (m_le.getD k 0, τ) := by
  rcases (show k = 0 ∨ k = 1 ∨ k = 2 ∨ k = 3 ∨ k = 4 ∨ k = 5 ∨ k = 6 ∨ k = 7 ∨ k = 8 ∨ k = 9 by omega) with rfl | rfl | rfl | rfl | rfl | rfl | rfl | rfl | rfl | rfl <;> rfl
theorem e_mostOf {k : Nat} (hk : k < 10) (τ : Mem) : f_X7_mostOf N (nI k) τ = some (m_gr.getD k 0, τ) := by
  rcases (show k = 0 ∨ k = 1 ∨ k = 2 ∨ k = 3 ∨ k = 4 ∨ k = 5 ∨ k = 6 ∨ k = 7 ∨ k = 8 ∨ k = 9 by omega) with rfl | rfl | rfl | rfl | rfl | rfl | rfl | rfl | rfl | rfl <;> rfl
end TAPE1
theorem wfC_up {w : Nat → Int32} (hw : wfC w) {k : Nat} (hk : k < 10) {v : Int32} (h : ¬ in3 v (m_le.getD k 0) (m_gr.getD k 0) = 0) : wfC (upd w k v) := by
  obtain ⟨h0, h1, h2, h3, h4, h5, h6, h7, h8, h9⟩ := hw
  rcases (show k = 0 ∨ k = 1 ∨ k = 2 ∨ k = 3 ∨ k = 4 ∨ k = 5 ∨ k = 6 ∨ k = 7 ∨ k = 8 ∨ k = 9 by omega) with rfl | rfl | rfl | rfl | rfl | rfl | rfl | rfl | rfl | rfl
  · exact ⟨in3_n (a := 1) (b := 99) (by decide) (by decide) h, h1, h2, h3, h4, h5, h6, h7, h8, h9⟩
  · obtain ⟨n, -, n2, n3⟩ := in3_n (a := 0) (b := 99) (by decide) (by decide) h
    exact ⟨h0, Or.inr ⟨n, n2, n3⟩, h2, h3, h4, h5, h6, h7, h8, h9⟩
  · obtain ⟨n, -, n2, n3⟩ := in3_n (a := 0) (b := 1) (by decide) (by decide) h
    refine ⟨h0, h1, ?_, h3, h4, h5, h6, h7, h8, h9⟩
    rcases (show n = 0 ∨ n = 1 by omega) with rfl | rfl
    · exact Or.inl n3
    · exact Or.inr n3
  · obtain ⟨n, -, n2, n3⟩ := in3_n (a := 0) (b := 1) (by decide) (by decide) h
    refine ⟨h0, h1, h2, ?_, h4, h5, h6, h7, h8, h9⟩
    rcases (show n = 0 ∨ n = 1 by omega) with rfl | rfl
    · exact Or.inl n3
    · exact Or.inr n3
  · obtain ⟨n, -, n2, n3⟩ := in3_n (a := 0) (b := 99) (by decide) (by decide) h
    exact ⟨h0, h1, h2, h3, ⟨n, n2, n3⟩, h5, h6, h7, h8, h9⟩
  · obtain ⟨n, -, n2, n3⟩ := in3_n (a := 0) (b := 99) (by decide) (by decide) h
    exact ⟨h0, h1, h2, h3, h4, ⟨n, n2, n3⟩, h6, h7, h8, h9⟩
  · exact ⟨h0, h1, h2, h3, h4, h5, in3_n (a := 1) (b := 99) (by decide) (by decide) h, h7, h8, h9⟩
  · exact ⟨h0, h1, h2, h3, h4, h5, h6, in3_n (a := 1) (b := 9) (by decide) (by decide) h, h8, h9⟩
  · obtain ⟨n, -, n2, n3⟩ := in3_n (a := 0) (b := 99) (by decide) (by decide) h
    exact ⟨h0, h1, h2, h3, h4, h5, h6, h7, ⟨n, n2, n3⟩, h9⟩
  · obtain ⟨n, -, n2, n3⟩ := in3_n (a := 0) (b := 99) (by decide) (by decide) h
    exact ⟨h0, h1, h2, h3, h4, h5, h6, h7, h8, ⟨n, n2, n3⟩⟩
