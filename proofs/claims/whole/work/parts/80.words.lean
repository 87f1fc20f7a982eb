/-! fault, cover: a word with its number, read by both -/
def SC14 (σ σ' : Mem) : Prop := ∀ a j, a ≠ 14 → σ' a j = σ a j
def SR0 (τ τ' : Mem) : Prop := ∀ a j, ¬ (a = 0 ∧ (j = 3 ∨ j = 4 ∨ j = 5)) → τ' a j = τ a j
def SRc (C : Nat) (τ τ' : Mem) : Prop := ∀ a j, ¬ (a = 0 ∧ (j = 3 ∨ j = 4 ∨ j = 5)) → ¬ (a = 2 ∧ 10 * C ≤ j) → τ' a j = τ a j
theorem SR0.c {τ τ' : Mem} (C : Nat) (h : SR0 τ τ') : SRc C τ τ' := fun a j q _ => h a j q
theorem SR0.rf (τ : Mem) : SR0 τ τ := fun _ _ _ => rfl
theorem SR0.tr {a b c : Mem} (h : SR0 a b) (g : SR0 b c) : SR0 a c := fun i j q => (g i j q).trans (h i j q)
theorem SRc.tr {C : Nat} {a b c : Mem} (h : SRc C a b) (g : SRc C b c) : SRc C a c := fun i j q r => (g i j q r).trans (h i j q r)
theorem SC14.rf (σ : Mem) : SC14 σ σ := fun _ _ _ => rfl
theorem SC14.tr {a b c : Mem} (h : SC14 a b) (g : SC14 b c) : SC14 a c := fun i j q => (g i j q).trans (h i j q)
theorem SC14.u (σ : Mem) (k : Nat) (v : Int32) : SC14 σ (mu σ 14 k v) := fun a j q => by rw [mu_c q]
theorem SR0.u (τ : Mem) {k : Nat} (hk : k = 3 ∨ k = 4 ∨ k = 5) (v : Int32) : SR0 τ (mu τ 0 k v) := fun a j q => by
  rw [mu_e, if_neg]
  rintro ⟨rfl, rfl⟩
  exact q ⟨rfl, hk⟩
theorem SR0.t {τ τ' : Mem} {L : Nat} {B : Nat → Nat} (h : SR0 τ τ') (g : TR τ L B) : TR τ' L B := g.k (h 0 2 (by omega)) (fun j => h 1 j (by omega))
theorem SRc.t {C : Nat} {τ τ' : Mem} {L : Nat} {B : Nat → Nat} (h : SRc C τ τ') (g : TR τ L B) : TR τ' L B := g.k (h 0 2 (by omega) (by omega)) (fun j => h 1 j (by omega) (by omega))
theorem SC14.t {σ σ' : Mem} {L : Nat} {B : Nat → Nat} (h : SC14 σ σ') (g : TC σ L B) : TC σ' L B := g.k (h 17 1 (by omega)) (fun j => h 25 j (by omega))
/-- where the number's last digit stands, and the number -/
def elB (B : Nat → Nat) (L d : Nat) : Nat := if dgB B L (d + 1) = true then d + 1 else d
def vlB (B : Nat → Nat) (L d : Nat) : Int32 := if dgB B L (d + 1) = true then ((10 * (nI (B d) - 48)) + nI (B (d + 1))) - 48 else nI (B d) - 48
section TAPE2
variable {N L : Nat} {B : Nat → Nat} {σ τ : Mem}
theorem e_fails (h : τ 0 4 = -1) (v : Int32) : f_X7_fails N v τ = some (0, mu τ 0 4 v) := by
  unfold f_X7_fails m_let
  rw [if_pos h, isb_0]
  rfl
theorem z10 (x : Int32) : (10 * 0 + x) - 48 = x - 48 := by
  rw [Int32.mul_zero, Int32.zero_add]
theorem e_value (hN : 4 ≤ N) (h : TC σ L B) {d : Nat} (hd : dgB B L d = true) : f_X4_valueOf N (nI d) (nI (elB B L d)) σ = some (vlB B L d, σ) := by
  have hL := h.1
  have hd1 := (dgB_t.mp hd).1
  obtain ⟨n, rfl⟩ : ∃ q, N = q + 3 := ⟨N - 3, by omega⟩
  obtain ⟨hb, hs⟩ := h.2.2 d hd1
  unfold f_X4_valueOf elB vlB
  by_cases e : dgB B L (d + 1) = true
  · rw [if_pos e, if_pos e]
    have he1 := (dgB_t.mp e).1
    obtain ⟨hb2, hs2⟩ := h.2.2 (d + 1) he1
    have a1 : ¬ nI (d + 1) < nI d := fun q => by rw [n_lt (by omega) (by omega)] at q; omega
    have a2 : ¬ nI L ≤ nI d := fun q => by rw [n_le (by omega) (by omega)] at q; omega
    have a3 : ¬ nI (d + 1) < nI (d + 1) := fun q => by rw [n_lt (by omega) (by omega)] at q; omega
    have a4 : ¬ nI L ≤ nI (d + 1) := fun q => by rw [n_le (by omega) (by omega)] at q; omega
    have a5 : nI (d + 1) < nI (d + 1 + 1) := (n_lt (by omega) (by omega)).mpr (by omega)
    simp only [l_X4_valueOf_5, b_X4_valueOf_5, h.2.1, m_leti, if_neg a1, if_neg a2, inb_n (show d < 120 by omega) (show 120 < 2 ^ 31 by omega), gd_t, nI_clamp (show d < 2 ^ 31 by omega), hs, nI_1, if_neg a3, if_neg a4, inb_n (show d + 1 < 120 by omega) (show 120 < 2 ^ 31 by omega), nI_clamp (show d + 1 < 2 ^ 31 by omega), hs2, if_pos a5, z10]
  · rw [if_neg e, if_neg e]
    have a1 : ¬ nI d < nI d := fun q => by rw [n_lt (by omega) (by omega)] at q; omega
    have a2 : ¬ nI L ≤ nI d := fun q => by rw [n_le (by omega) (by omega)] at q; omega
    have a5 : nI d < nI (d + 1) := (n_lt (by omega) (by omega)).mpr (by omega)
    simp only [l_X4_valueOf_5, b_X4_valueOf_5, h.2.1, m_leti, if_neg a1, if_neg a2, inb_n (show d < 120 by omega) (show 120 < 2 ^ 31 by omega), gd_t, nI_clamp (show d < 2 ^ 31 by omega), hs, nI_1, if_pos a5, z10]
theorem elB_le {d : Nat} (h : dgB B L d = true) : elB B L d < L ∧ d ≤ elB B L d ∧ elB B L d ≤ d + 1 := by
  have hd1 := (dgB_t.mp h).1
  unfold elB
  by_cases e : dgB B L (d + 1) = true
  · rw [if_pos e]
    have he1 := (dgB_t.mp e).1
    omega
  · rw [if_neg e]
    omega
/-- the reference's number, as far as its bounds -/
theorem e_number (hN : 122 ≤ N) (h : TR τ L B) {p : Nat} (hp : p < L) (ht : τ 0 3 = nI p) (hb : B p = 32) (hd : dgB B L (pz B L p) = true) (lo hi : Int32) :
    ∃ τ', SR0 τ τ' ∧ τ' 0 3 = nI (elB B L (pz B L p) + 1) ∧ τ' 0 4 = τ 0 4 ∧ τ' 0 5 = vlB B L (pz B L p) ∧ f_X7_number N lo hi τ = j_X7_number_96 N lo hi τ' := by
  generalize hde : pz B L p = d at hd ⊢
  have hd1 := (dgB_t.mp hd).1
  have hL := h.1
  have h1 : TR (mu τ 0 3 (nI d)) L B := h.u (by decide) _
  have h2 : TR (mu (mu τ 0 3 (nI d)) 0 5 (nI (B d) - 48)) L B := h1.u (by decide) _
  have h3 : TR (mu (mu (mu τ 0 3 (nI d)) 0 5 (nI (B d) - 48)) 0 3 (nI (d + 1))) L B := h2.u (by decide) _
  have e3 : mu (mu τ 0 3 (nI d)) 0 5 (nI (B d) - 48) 0 3 = nI d := by rw [mu_k (by decide), mu_s]
  have e5 : mu (mu (mu τ 0 3 (nI d)) 0 5 (nI (B d) - 48)) 0 3 (nI (d + 1)) 0 5 = nI (B d) - 48 := by rw [mu_k (by decide), mu_s]
  have r0 : hrB B L p = 32 := by rw [hrB_in hp, hb]; rfl
  have s1 : SR0 τ (mu (mu (mu τ 0 3 (nI d)) 0 5 (nI (B d) - 48)) 0 3 (nI (d + 1))) := ((SR0.u τ (by omega) _).tr (SR0.u _ (by omega) _)).tr (SR0.u _ (by omega) _)
  simp only [f_X7_number, e_here h (show p ≤ L by omega) ht, bnd_s, r0, e_look hN h (show p ≤ L by omega) ht, hde, if_pos, e_digR h1 (show d ≤ L by omega) (mu_s _ _ _ _), hd, b2i_t, if_neg (show ¬ (1 : Int32) = 0 by decide), e_here h1 (show d ≤ L by omega) (mu_s _ _ _ _), hrB_in hd1, m_let, e3, nI_1, e_digR h3 (show d + 1 ≤ L by omega) (mu_s _ _ _ _)]
  unfold elB vlB
  by_cases e : dgB B L (d + 1) = true
  · have he1 := (dgB_t.mp e).1
    simp only [e, b2i_t, if_neg (show ¬ (1 : Int32) = 0 by decide), e_here h3 (show d + 1 ≤ L by omega) (mu_s _ _ _ _), bnd_s, hrB_in he1, e5, if_pos]
    refine ⟨_, (s1.tr (SR0.u _ (by omega) _)).tr (SR0.u _ (by omega) _), ?_, ?_, ?_, rfl⟩
    · rw [mu_s, mu_k (by decide), mu_s, nI_1]
    · rw [mu_k (by decide), mu_k (by decide), mu_k (by decide), mu_k (by decide), mu_k (by decide)]
    · rw [mu_k (by decide), mu_s]
  · have e' : dgB B L (d + 1) = false := by simpa using e
    simp only [e', b2i_f, if_pos, if_neg (show ¬ (false = true) by decide)]
    refine ⟨_, s1, mu_s _ _ _ _, ?_, e5, rfl⟩
    rw [mu_k (by decide), mu_k (by decide), mu_k (by decide)]
theorem e_num96 (h : TR τ L B) {e : Nat} (he : e + 1 ≤ L) (ht : τ 0 3 = nI (e + 1)) (h4 : τ 0 4 = -1) (lo hi : Int32) :
    j_X7_number_96 N lo hi τ = if in3 (τ 0 5) lo hi = 0 then some (0, mu τ 0 4 (nI e)) else if dgB B L (e + 1) = true then some (0, mu τ 0 4 (nI (e + 1))) else some (1, τ) := by
  have hL := h.1
  have hm : nI (e + 1) - 1 = nI e := by rw [← nI_1]; exact Int32.add_sub_cancel _ _
  simp only [j_X7_number_96, e_isIn, bnd_s, ht, hm, e_fails h4, isb_0, isb_1, gd_t, e_digR h he ht, if_pos]
  by_cases q : in3 (τ 0 5) lo hi = 0
  · rw [if_pos q, if_pos q]
  · rw [if_neg q, if_neg q]
    cases dgB B L (e + 1)
    · rfl
    · rfl
/-- the class's way from a letter at q on -/
def tailC (N : Nat) (K8 : Int32 → Int32 → Int32 → Mem → Option (Int32 × Mem)) (x1 x2 x3 y0 : Int32) (σ : Mem) : Option (Int32 × Mem) :=
  m_bnd (f_X4_pastBlanks N (x2 + 1) σ) (fun r2 σ3 => (if r2 = (x2 + 1) then some (r2, σ3) else m_bnd (f_X4_isDigit N r2 σ3) (fun r4 σ5 => (if r4 = 0 then some (r2, σ5) else m_bnd (f_X4_isDigit N (r2 + 1) σ5) (fun r6 σ7 => (if r6 = 0 then j_X4_readInto_122 N K8 x1 x3 y0 r2 r2 σ7 else j_X4_readInto_122 N K8 x1 x3 y0 r2 (r2 + 1) σ7))))))
/-- and behind a number -/
def aftC (B : Nat → Nat) (L : Nat) (K8 : Int32 → Int32 → Int32 → Mem → Option (Int32 × Mem)) (z : Nat) (x3 : Int32) (σ : Mem) : Option (Int32 × Mem) :=
  if L ≤ z then some (-1, σ) else if B z = 59 then K8 6 (nI (z + 1)) (x3 + 1) σ else some (nI z, σ)
theorem e_tell {k : Nat} (hk : k < 10) (v : Int32) : f_X0_tell N 6 (nI k) v σ = if in3 v (m_le.getD k 0) (m_gr.getD k 0) = 0 then some (0, σ) else some (1, mu σ 14 k v) := by
  have h9 : ¬ in3 (nI k) 0 9 = 0 := by
    unfold in3
    rw [if_neg (nI_pos (by omega)), if_neg (fun q => by rw [nI_lit 9, n_lt (by omega) (by omega)] at q; omega)]
    decide
  simp only [f_X0_tell, e_isWithin, bnd_s, if_neg h9, inb_n hk (show 10 < 2 ^ 31 by omega), gd_t, isb_0, isb_1, m_let, nI_clamp (show k < 2 ^ 31 by omega)]
  by_cases q : in3 v (m_le.getD k 0) (m_gr.getD k 0) = 0
  · rw [if_pos q, if_pos q]
  · rw [if_neg q, if_neg q]
    rfl
theorem e_j122 (hN : 122 ≤ N) (h : TC σ L B) {d k : Nat} (hk : k < 10) (hd : dgB B L d = true) (K8 : Int32 → Int32 → Int32 → Mem → Option (Int32 × Mem)) (x3 : Int32) :
    j_X4_readInto_122 N K8 6 x3 (nI k) (nI d) (nI (elB B L d)) σ = if in3 (vlB B L d) (m_le.getD k 0) (m_gr.getD k 0) = 0 then some (nI (elB B L d), σ) else aftC B L K8 (pz B L (elB B L d + 1)) x3 (mu σ 14 k (vlB B L d)) := by
  have hL := h.1
  obtain ⟨l1, l2, l3⟩ := elB_le hd
  generalize he : elB B L d = e at l1 l2 l3
  have hv := e_value (N := N) (by omega) h hd
  rw [he] at hv
  have i6 : inb 6 8 = true := by decide
  have h' : TC (mu σ 14 k (vlB B L d)) L B := (SC14.u σ k _).t h
  simp only [j_X4_readInto_122, hv, bnd_s, i6, gd_t, e_tell hk]
  by_cases q : in3 (vlB B L d) (m_le.getD k 0) (m_gr.getD k 0) = 0
  · simp only [if_pos q, bnd_s, if_pos]
  · simp only [if_neg q, bnd_s, if_neg (show ¬ (1 : Int32) = 0 by decide), nI_1, e_past hN h' (show e + 1 ≤ L by omega), h'.2.1]
    have z1 := pz_le (B := B) (show e + 1 ≤ L by omega)
    generalize pz B L (e + 1) = z at z1
    unfold aftC
    by_cases g : L ≤ z
    · rw [if_pos g, if_neg (fun q => by rw [n_lt (by omega) (by omega)] at q; omega)]
    · obtain ⟨hb, hs⟩ := h'.2.2 z (by omega)
      rw [if_neg g, if_pos ((n_lt (by omega) (by omega)).mpr (by omega)), inb_n (show z < 120 by omega) (by omega), gd_t, nI_clamp (by omega), hs]
      by_cases g2 : B z = 59
      · rw [if_pos g2, if_pos (by rw [g2]; rfl)]
      · rw [if_neg g2, if_neg (show ¬ nI (B z) = 59 from fun q => g2 ((n_eq (b := 59) (by omega) (by omega)).mp q))]
/-- both at a word -/
theorem w_both (hN : 122 ≤ N) (hT : TC σ L B) (hR : TR τ L B) {k q : Nat} (hk : k < 10) (hq : q < L) (ht : τ 0 3 = nI (q + 1)) (h4 : τ 0 4 = -1) (K8 : Int32 → Int32 → Int32 → Mem → Option (Int32 × Mem)) (x3 : Int32) :
    (∃ f σ' τ', f ≤ 120 ∧ SC14 σ σ' ∧ SR0 τ τ' ∧ tailC N K8 6 (nI q) x3 (nI k) σ = some (nI f, σ') ∧ f_X7_number N (m_le.getD k 0) (m_gr.getD k 0) τ = some (0, τ') ∧ τ' 0 4 = nI f) ∨
    (∃ e v τ', q + 3 ≤ e ∧ e ≤ L ∧ ¬ in3 v (m_le.getD k 0) (m_gr.getD k 0) = 0 ∧ SR0 τ τ' ∧ τ' 0 3 = nI e ∧ τ' 0 4 = -1 ∧ τ' 0 5 = v ∧ tailC N K8 6 (nI q) x3 (nI k) σ = aftC B L K8 (pz B L e) x3 (mu σ 14 k v) ∧ f_X7_number N (m_le.getD k 0) (m_gr.getD k 0) τ = some (1, τ')) := by
  have hL := hT.1
  have d1 := pz_ge (B := B) (show q + 1 ≤ L by omega)
  have d2 := pz_le (B := B) (show q + 1 ≤ L by omega)
  have d3 := pz_at (B := B) (show q + 1 ≤ L by omega)
  have hpast := e_past hN hT (show q + 1 ≤ L by omega)
  by_cases hb : q + 1 < L ∧ B (q + 1) = 32
  · -- a blank
    have ne : ¬ pz B L (q + 1) = q + 1 := by
      rw [pz_b hb.1 hb.2]
      have := pz_ge (B := B) (show q + 1 + 1 ≤ L by omega)
      omega
    have nen : ¬ nI (pz B L (q + 1)) = nI (q + 1) := fun z => ne ((n_eq (by omega) (by omega)).mp z)
    cases hdg : dgB B L (pz B L (q + 1)) with
    | false =>
      -- no digit
      refine Or.inl ⟨pz B L (q + 1), σ, mu (mu τ 0 3 (nI (pz B L (q + 1)))) 0 4 (nI (pz B L (q + 1))), by omega, SC14.rf σ, (SR0.u τ (by omega) _).tr (SR0.u _ (by omega) _), ?_, ?_, mu_s _ _ _ _⟩
      · simp only [tailC, nI_1, hpast, bnd_s, if_neg nen, e_digC hT d2, hdg, b2i_f, if_pos]
      · have h1 : TR (mu τ 0 3 (nI (pz B L (q + 1)))) L B := hR.u (by decide) _
        have r0 : hrB B L (q + 1) = 32 := by rw [hrB_in hb.1, hb.2]; rfl
        simp only [f_X7_number, e_here hR (show q + 1 ≤ L by omega) ht, bnd_s, r0, e_look hN hR (show q + 1 ≤ L by omega) ht, if_pos, e_digR h1 d2 (mu_s _ _ _ _), hdg, b2i_f]
        rw [e_fails (by rw [mu_k (by decide)]; exact h4), bnd_s, isb_0, gd_t, mu_s]
    | true =>
      obtain ⟨τ3, s3, t3, f3, v3, en⟩ := e_number hN hR hb.1 ht hb.2 hdg (m_le.getD k 0) (m_gr.getD k 0)
      have hR3 := s3.t hR
      obtain ⟨l1, l2, l3⟩ := elB_le hdg
      have e96 := e_num96 (N := N) hR3 (e := elB B L (pz B L (q + 1))) (by omega) t3 (by rw [f3]; exact h4) (m_le.getD k 0) (m_gr.getD k 0)
      rw [v3] at e96
      have ec : tailC N K8 6 (nI q) x3 (nI k) σ = j_X4_readInto_122 N K8 6 x3 (nI k) (nI (pz B L (q + 1))) (nI (elB B L (pz B L (q + 1)))) σ := by
        have hlt := (dgB_t.mp hdg).1
        simp only [tailC, nI_1, hpast, bnd_s, if_neg nen, e_digC hT d2, hdg, b2i_t, if_neg (show ¬ (1 : Int32) = 0 by decide), e_digC hT (show pz B L (q + 1) + 1 ≤ L by omega)]
        unfold elB
        cases dgB B L (pz B L (q + 1) + 1)
        · rfl
        · rfl
      rw [e_j122 hN hT hk hdg] at ec
      generalize hv : vlB B L (pz B L (q + 1)) = v at e96 ec v3
      generalize he : elB B L (pz B L (q + 1)) = e at l1 l2 l3 e96 ec t3
      by_cases g1 : in3 v (m_le.getD k 0) (m_gr.getD k 0) = 0
      · rw [if_pos g1] at e96 ec
        exact Or.inl ⟨e, σ, _, by omega, SC14.rf σ, s3.tr (SR0.u _ (by omega) _), ec, en.trans e96, mu_s _ _ _ _⟩
      · rw [if_neg g1] at e96 ec
        cases g2 : dgB B L (e + 1) with
        | true =>
          rw [g2, if_pos rfl] at e96
          obtain ⟨c1, c2, c3⟩ := dgB_t.mp g2
          refine Or.inl ⟨e + 1, _, _, by omega, SC14.u σ k v, s3.tr (SR0.u _ (by omega) _), ?_, en.trans e96, mu_s _ _ _ _⟩
          rw [ec, pz_n (by omega)]
          unfold aftC
          rw [if_neg (by omega), if_neg (by omega)]
        | false =>
          rw [g2, if_neg (by decide)] at e96
          exact Or.inr ⟨e + 1, v, τ3, by omega, by omega, g1, s3, t3, by rw [f3]; exact h4, v3, ec, en.trans e96⟩
  · -- no blank
    have eq : pz B L (q + 1) = q + 1 := by
      by_cases g : q + 1 < L
      · exact pz_n (fun z => hb ⟨g, z⟩)
      · exact pz_end (by omega)
    refine Or.inl ⟨q + 1, σ, mu τ 0 4 (nI (q + 1)), by omega, SC14.rf σ, SR0.u τ (by omega) _, ?_, ?_, mu_s _ _ _ _⟩
    · simp only [tailC, nI_1, hpast, bnd_s, eq, if_pos]
    · have r0 : ¬ hrB B L (q + 1) = 32 := fun z => hb ((hrB_eq hR (k := 32) (by decide)).mp z)
      simp only [f_X7_number, e_here hR (show q + 1 ≤ L by omega) ht, bnd_s, if_neg r0]
      rw [ht, e_fails h4, bnd_s, isb_0, gd_t]
end TAPE2
