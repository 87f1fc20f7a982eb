/-! the class's search: who is near, which sets are one, what is listed -/
def PayC (σ : Mem) (G : List (Nat → Int32)) : Prop := σ 21 5 = nI G.length ∧ G.length ≤ 6 ∧ ∀ p g, G[p]? = some g → wfC g ∧ ∃ z, z < 7 ∧ σ 42 p = nI z ∧ WC σ z g ∧ σ 39 p = g 7 ∧ σ 40 p = nI (100 - wv g 8)
def SC (σ : Mem) (M : Nat) (D : Nat → Nat → Nat) (n : Nat) (rr : Nat → Nat) (J : Nat → Int32) (G : List (Nat → Int32)) : Prop := LC σ M D ∧ LD M D ∧ n ≤ 12 ∧ (∀ i, i < n → rr i < M) ∧ σ 20 12 = nI n ∧ (∀ i, i < n → σ 34 i = nI (rr i)) ∧ σ 20 6 = 7 ∧ WC σ 7 J ∧ wfC J ∧ PayC σ G
def psI (a j : Nat) : Prop := (8 ≤ a ∧ a ≤ 18) ∨ (22 ≤ a ∧ a ≤ 32) ∨ a = 34 ∨ a = 39 ∨ a = 40 ∨ a = 42 ∨ a = 21 ∨ (a = 20 ∧ (j = 6 ∨ j = 12))
def KI (σ σ' : Mem) : Prop := ∀ a j, psI a j → σ' a j = σ a j
theorem KI.rf (σ : Mem) : KI σ σ := fun _ _ _ => rfl
theorem KI.tr {a b c : Mem} (h : KI a b) (g : KI b c) : KI a c := fun i j q => (g i j q).trans (h i j q)
theorem KI.up (σ : Mem) {i j : Nat} (v : Int32) (h : ¬ psI i j) : KI σ (mu σ i j v) := by
  intro a b q
  rw [mu_e, if_neg]
  rintro ⟨rfl, rfl⟩
  exact h q
theorem KI.kc {σ σ' : Mem} (h : KI σ σ') : KC σ σ' := fun a j q => h a j (by unfold psC at q; unfold psI; omega)
theorem PayC.keep {σ σ' : Mem} {G : List (Nat → Int32)} (h : PayC σ G) (hk : KI σ σ') : PayC σ' G := by
  obtain ⟨h1, h2, h3⟩ := h
  refine ⟨by rw [hk 21 5 (by unfold psI; omega)]; exact h1, h2, fun p g hp => ?_⟩
  obtain ⟨a, z, z1, z2, z3, z4, z5⟩ := h3 p g hp
  refine ⟨a, z, z1, by rw [hk 42 p (by unfold psI; omega)]; exact z2, ⟨z3.1, fun k hk2 => by rw [hk (8 + z) k (by unfold psI; omega)]; exact z3.2 k hk2⟩, by rw [hk 39 p (by unfold psI; omega)]; exact z4, by rw [hk 40 p (by unfold psI; omega)]; exact z5⟩
section CSETS
variable {N M n : Nat} {D : Nat → Nat → Nat} {rr : Nat → Nat} {J : Nat → Int32} {G : List (Nat → Int32)}
theorem SC.keep {σ σ' : Mem} (h : SC σ M D n rr J G) (hk : KI σ σ') : SC σ' M D n rr J G := by
  obtain ⟨h1, h2, h3, h4, h5, h6, h7, h8, h9, h10⟩ := h
  exact ⟨h1.keep hk.kc, h2, h3, h4, by rw [hk 20 12 (by unfold psI; omega)]; exact h5, fun i hi => by rw [hk 34 i (by unfold psI; omega)]; exact h6 i hi, by rw [hk 20 6 (by unfold psI; omega)]; exact h7, ⟨h8.1, fun k hk2 => by rw [hk (8 + 7) k (by unfold psI; omega)]; exact h8.2 k hk2⟩, h9, h10.keep hk⟩
noncomputable def nrS (J : Nat → Int32) (D : Nat → Nat → Nat) (rr : Nat → Nat) (n i : Nat) : Nat := orF (fun j => cdec (near J (Dr D rr) i j)) n
def NearT (σ : Mem) (J : Nat → Int32) (D : Nat → Nat → Nat) (rr : Nat → Nat) (n m : Nat) : Prop := ∀ i, i < m → σ 35 i = nI (nrS J D rr n i)
theorem nI_7 : (7 : Int32) = nI 7 := rfl
theorem lp_near (K2 : Int32 → Mem → Option (Int32 × Mem)) {i : Nat} (hi : i < n) : ∀ m j f (σ : Mem), j + m = n → m < f → SC σ M D n rr J G → σ 35 i = nI (orF (fun j => cdec (near J (Dr D rr) i j)) j) →
    ∃ σ', l_X3_seeWhoIsNear_19 N K2 f (nI i) (nI j) σ = K2 (nI (i + 1)) σ' ∧ σ' 35 i = nI (nrS J D rr n i) ∧ KI σ σ' ∧ ∀ a k, ¬ (a = 35 ∧ k = i) → σ' a k = σ a k := by
  intro m
  induction m with
  | zero =>
    intro j f σ hj hf h h35
    obtain ⟨f, rfl⟩ : ∃ f', f = f' + 1 := ⟨f - 1, by omega⟩
    obtain ⟨h1, h2, h3, h4, h5, h6, h7, h8, h9, h10⟩ := id h
    have e : j = n := by omega
    subst e
    have hle : nI j ≤ nI j := by rw [n_le (by omega) (by omega)]; omega
    refine ⟨σ, ?_, h35, KI.rf σ, fun a k _ => rfl⟩
    simp only [l_X3_seeWhoIsNear_19, b_X3_seeWhoIsNear_19, h5, if_pos hle, nI_1]
  | succ m ih =>
    intro j f σ hj hf h h35
    obtain ⟨f, rfl⟩ : ∃ f', f = f' + 1 := ⟨f - 1, by omega⟩
    obtain ⟨h1, h2, h3, h4, h5, h6, h7, h8, h9, h10⟩ := id h
    have hle : ¬ nI n ≤ nI j := fun q => by rw [n_le (by omega) (by omega)] at q; omega
    have hnr := e_nearC N h2 h1 h8 h9 (h4 i hi) (h4 j (by omega))
    have ex : l_X3_seeWhoIsNear_19 N K2 (f + 1) (nI i) (nI j) σ = if b2i (cdec (near J D (rr i) (rr j))) = 0 then l_X3_seeWhoIsNear_19 N K2 f (nI i) (nI (j + 1)) σ else l_X3_seeWhoIsNear_19 N K2 f (nI i) (nI (j + 1)) (mu σ 35 i (nI (orF (fun j => cdec (near J (Dr D rr) i j)) j ||| 2 ^ j))) := by
      simp only [l_X3_seeWhoIsNear_19, b_X3_seeWhoIsNear_19, h5, if_neg hle, inb_n (show i < 12 by omega) (by omega), inb_n (show j < 12 by omega) (by omega), gd_t, nI_clamp (show i < 2 ^ 31 by omega), nI_clamp (show j < 2 ^ 31 by omega), h7, h6 i hi, h6 j (by omega), nI_7, hnr, bnd_s, h35, n_shl (show j < 31 by omega), fa_or, m_let, nI_1]
    rw [ex]
    have e0 : near J D (rr i) (rr j) = near J (Dr D rr) i j := rfl
    rw [e0]
    by_cases q : near J (Dr D rr) i j
    · rw [cdec_t q, if_neg (by decide)]
      obtain ⟨σ', i1, i2, i3, i4⟩ := ih (j + 1) f (mu σ 35 i (nI (orF (fun j => cdec (near J (Dr D rr) i j)) j ||| 2 ^ j))) (by omega) (by omega) (h.keep (KI.up σ _ (by unfold psI; omega))) (by rw [mu_s, orF_s, if_pos (cdec_t q)])
      exact ⟨σ', i1, i2, (KI.up σ _ (by unfold psI; omega)).tr i3, fun a k hk => by rw [i4 a k hk, mu_e, if_neg hk]⟩
    · rw [cdec_f q, if_pos b2i_f]
      obtain ⟨σ', i1, i2, i3, i4⟩ := ih (j + 1) f σ (by omega) (by omega) h (by rw [orF_s, if_neg (nf q)]; exact h35)
      exact ⟨σ', i1, i2, i3, i4⟩
theorem lp_nears (hN : 13 ≤ N) : ∀ m i f (σ : Mem), i + m = n → m < f → SC σ M D n rr J G → NearT σ J D rr n i →
    ∃ σ', l_X3_seeWhoIsNear_2 N f (nI i) σ = some (0, σ') ∧ NearT σ' J D rr n n ∧ KI σ σ' ∧ ∀ a k, a ≠ 35 → σ' a k = σ a k := by
  intro m
  induction m with
  | zero =>
    intro i f σ hi hf h hn
    obtain ⟨f, rfl⟩ : ∃ f', f = f' + 1 := ⟨f - 1, by omega⟩
    obtain ⟨h1, h2, h3, h4, h5, h6, h7, h8, h9, h10⟩ := id h
    have e : i = n := by omega
    subst e
    have hle : nI i ≤ nI i := by rw [n_le (by omega) (by omega)]; omega
    refine ⟨σ, ?_, hn, KI.rf σ, fun a k _ => rfl⟩
    simp only [l_X3_seeWhoIsNear_2, b_X3_seeWhoIsNear_2, h5, if_pos hle]
  | succ m ih =>
    intro i f σ hi hf h hn
    obtain ⟨f, rfl⟩ : ∃ f', f = f' + 1 := ⟨f - 1, by omega⟩
    obtain ⟨h1, h2, h3, h4, h5, h6, h7, h8, h9, h10⟩ := id h
    have hle : ¬ nI n ≤ nI i := fun q => by rw [n_le (by omega) (by omega)] at q; omega
    obtain ⟨σ1, i1, i2, i3, i4⟩ := lp_near (N := N) (l_X3_seeWhoIsNear_2 N f) (show i < n by omega) n 0 N (mu σ 35 i 0) (by omega) (by omega) (h.keep (KI.up σ _ (by unfold psI; omega))) (by rw [mu_s]; rfl)
    have hk1 : KI σ σ1 := (KI.up σ _ (by unfold psI; omega)).tr i3
    obtain ⟨σ', j1, j2, j3, j4⟩ := ih (i + 1) f σ1 (by omega) (by omega) (h.keep hk1) (fun k hk => by
      by_cases e : k = i
      · subst e; exact i2
      · rw [i4 35 k (by omega), mu_k e]; exact hn k (by omega))
    refine ⟨σ', ?_, j2, hk1.tr j3, fun a k hk => by rw [j4 a k hk, i4 a k (by omega), mu_c hk]⟩
    simp only [l_X3_seeWhoIsNear_2, b_X3_seeWhoIsNear_2, h5, if_neg hle, inb_n (show i < 12 by omega) (by omega), gd_t, nI_clamp (show i < 2 ^ 31 by omega), m_let]
    exact i1.trans j1
theorem e_near (hN : 13 ≤ N) {σ : Mem} (h : SC σ M D n rr J G) : ∃ σ', f_X3_seeWhoIsNear N σ = some (0, σ') ∧ NearT σ' J D rr n n ∧ KI σ σ' ∧ ∀ a k, a ≠ 35 → σ' a k = σ a k := by
  have h3 := h.2.2.1
  exact lp_nears hN n 0 N σ (by omega) (by omega) h (fun i hi => by omega)
/-- the set is one, by places -/
theorem lp_areOne {X : Nat} (hX : X < 2 ^ n) {σ : Mem} (h : SC σ M D n rr J G) (hn : NearT σ J D rr n n) : ∀ m i f (cm : Int32), i + m = n → m < f → (cm = -1 ∧ candF (Dr D rr 4) X i = 63 ∨ cm = nI (candF (Dr D rr 4) X i)) → (∀ a b, a < i → b < n → X.testBit a = true → X.testBit b = true → near J (Dr D rr) a b) →
    l_X3_areOne_4 N f (nI X) cm (nI i) σ = some (b2i (cdec (ONE J (Dr D rr) n X)), σ) := by
  intro m
  obtain ⟨h1, h2, h3, h4, h5, h6, h7, h8, h9, h10⟩ := id h
  have hz := h8.1
  induction m with
  | zero =>
    intro i f cm hk hf hcm hpre
    obtain ⟨f, rfl⟩ : ∃ f', f = f' + 1 := ⟨f - 1, by omega⟩
    have e : i = n := by omega
    subst e
    have t2 : Int32.toNatClampNeg 2 = 2 := by decide
    have b2 : inb 2 10 = true := by decide
    have b7 : inb (7 : Int32) 8 = true := by decide
    have t7 : Int32.toNatClampNeg 7 = 7 := by decide
    have hle2 : nI i ≤ nI i := by rw [n_le (by omega) (by omega)]; omega
    have hle := candF_le (Dr D rr 4) X i
    simp only [l_X3_areOne_4, b_X3_areOne_4, h5, if_pos hle2, f_X0_asksCauses, h7, b7, b2, gd_t, t2, t7, h8.2 2 (by omega), isb_0, isb_1]
    by_cases h0 : cm = 0
    · have hz0 : candF (Dr D rr 4) X i = 0 := by
        rcases hcm with ⟨e, -⟩ | e
        · rw [e] at h0; exact absurd h0 (by decide)
        · rw [e, show (0 : Int32) = nI 0 from rfl, n_eq (by omega) (by omega)] at h0
          exact h0
      rw [if_pos h0]
      rcases h9.2.2.1 with e | e
      · have hc : cdec (ONE J (Dr D rr) i X) = true := cdec_t ⟨fun a b ha hb => hpre a b ha hb, Or.inl e⟩
        rw [if_neg (by rw [e]; decide), bnd_s, if_pos rfl, hc]
        rfl
      · have hc : cdec (ONE J (Dr D rr) i X) = false := cdec_f (fun q => q.2.elim (fun q => by rw [e] at q; exact absurd q (by decide)) (fun q => q hz0))
        rw [if_pos e, bnd_s, if_neg (by decide), hc]
        rfl
    · have hnz : candF (Dr D rr 4) X i ≠ 0 := by
        rcases hcm with ⟨-, e⟩ | e
        · rw [e]; decide
        · intro q
          rw [e, q] at h0
          exact h0 rfl
      have hc : cdec (ONE J (Dr D rr) i X) = true := cdec_t ⟨fun a b ha hb => hpre a b ha hb, Or.inr hnz⟩
      rw [if_neg h0, hc]
      rfl
  | succ m ih =>
    intro i f cm hk hf hcm hpre
    obtain ⟨f, rfl⟩ : ∃ f', f = f' + 1 := ⟨f - 1, by omega⟩
    have hc : ¬ nI n ≤ nI i := fun q => by rw [n_le (by omega) (by omega)] at q; omega
    have hle := candF_le (Dr D rr 4) X i
    have hri := h4 i (by omega)
    have hM := h2.1
    have hX31 : X < 2 ^ 31 := Nat.lt_of_lt_of_le hX (Nat.le_trans (n_lt2 h3) (by omega))
    obtain ⟨-, -, -, -, -, c1, c2⟩ := h2.2 (rr i) hri
    have ex : l_X3_areOne_4 N (f + 1) (nI X) cm (nI i) σ = if nI X &&& nI (2 ^ i) = 0 then l_X3_areOne_4 N f (nI X) cm (nI (i + 1)) σ else if nI (bdiff X (nrS J D rr n i)) = 0 then l_X3_areOne_4 N f (nI X) (cm &&& nI (D 4 (rr i))) (nI (i + 1)) σ else some (0, σ) := by
      simp only [l_X3_areOne_4, b_X3_areOne_4, h5, if_neg hc, n_shl (show i < 31 by omega), inb_n (show i < 12 by omega) (by omega), gd_t, nI_clamp (show i < 2 ^ 31 by omega), hn i (by omega), n_andn, h6 i (by omega), inb_n (show rr i < 12 by omega) (by omega), nI_clamp (show rr i < 2 ^ 31 by omega), (h1.2 (rr i) hri).2.2.2.2, m_leti, isb_0, nI_1]
    rw [ex]
    by_cases hb : X.testBit i = false
    · rw [if_pos ((fa_bit (by omega)).mpr hb)]
      refine ih (i + 1) f cm (by omega) (by omega) ?_ ?_
      · rw [candF_s, if_neg (by rw [hb]; decide)]
        exact hcm
      · intro a b ha hb2 h1 h2
        by_cases e : a = i
        · subst e; rw [hb] at h1; cases h1
        · exact hpre a b (by omega) hb2 h1 h2
    · have hbt : X.testBit i = true := by simpa using hb
      rw [if_neg (fun q => hb ((fa_bit (by omega)).mp q))]
      by_cases hd : bdiff X (nrS J D rr n i) = 0
      · rw [if_pos (by rw [hd]; rfl), andz c2 hcm hle]
        refine ih (i + 1) f _ (by omega) (by omega) (Or.inr ?_) ?_
        · rw [candF_s, if_pos hbt]; rfl
        · intro a b ha hb2 h1 h2
          by_cases e : a = i
          · subst e
            have hnb : ¬ (bdiff X (nrS J D rr n a)).testBit b = true := by rw [hd, Nat.zero_testBit]; decide
            rw [bdiff_t] at hnb
            have : (nrS J D rr n a).testBit b = true := Classical.byContradiction (fun r => hnb ⟨h2, r⟩)
            unfold nrS at this
            rw [orF_tb, Bool.and_eq_true, cdec_iff] at this
            exact this.2
          · exact hpre a b (by omega) hb2 h1 h2
      · rw [if_neg (n_nz (Nat.lt_of_lt_of_le (bdiff_lt hX) (Nat.le_trans (n_lt2 h3) (by omega))) hd)]
        have hc : cdec (ONE J (Dr D rr) n X) = false := cdec_f (fun q => hd (tb_ext (fun b => by
          rw [bdiff_t, Nat.zero_testBit]
          constructor
          · rintro ⟨r1, r2⟩
            refine absurd ?_ r2
            have hbn := lt_of_tb hX r1
            unfold nrS
            rw [orF_tb, Bool.and_eq_true, cdec_iff]
            exact ⟨decide_eq_true hbn, q.1 i b (by omega) hbn hbt r1⟩
          · intro r; cases r)))
        rw [hc]
        rfl
theorem e_areOne (hN : 13 ≤ N) {X : Nat} (hX : X < 2 ^ n) {σ : Mem} (h : SC σ M D n rr J G) (hn : NearT σ J D rr n n) : f_X3_areOne N (nI X) σ = some (b2i (cdec (ONE J (Dr D rr) n X)), σ) := by
  have h3 := h.2.2.1
  exact lp_areOne hX h hn n 0 N (-1) (by omega) (by omega) (Or.inl ⟨rfl, rfl⟩) (fun a b ha => by omega)
end CSETS
