/-! all happenings listed, and what one more brings -/
def KH (σ σ' : Mem) : Prop := ∀ a k, ¬ (a = 20 ∧ k = 13) → a ≠ 36 → a ≠ 37 → a ≠ 38 → σ' a k = σ a k
theorem KH.rf (σ : Mem) : KH σ σ := fun _ _ _ _ _ _ => rfl
theorem KH.tr {a b c : Mem} (h : KH a b) (g : KH b c) : KH a c := fun i j q r s t => (g i j q r s t).trans (h i j q r s t)
theorem KH.ki {σ σ' : Mem} (h : KH σ σ') : KI σ σ' := fun a k q => h a k (by unfold psI at q; omega) (by unfold psI at q; omega) (by unfold psI at q; omega) (by unfold psI at q; omega)
theorem KL.kh {σ σ' : Mem} (h : KL σ σ') : KH σ σ' := fun a k q1 q2 _ q3 => h a k q1 q2 q3
theorem KH.u37 (σ : Mem) (k : Nat) (v : Int32) : KH σ (mu σ 37 k v) := fun a j _ _ q _ => by rw [mu_c q]
theorem KH.u13 (σ : Mem) (v : Int32) : KH σ (mu σ 20 13 v) := fun a j q _ _ _ => by rw [mu_e, if_neg q]
section CHAP
variable {N M n : Nat} {D : Nat → Nat → Nat} {rr : Nat → Nat} {J : Nat → Int32} {G : List (Nat → Int32)}
def LstJ (J : Nat → Int32) (D : Nat → Nat → Nat) (n X : Nat) : Prop := if J 3 = 1 then okS n X ∧ ONE J D n X else Run D n J X
def LstAt (J : Nat → Int32) (D : Nat → Nat → Nat) (n i X : Nat) : Prop := LstJ J D n X ∧ X.testBit i = true ∧ ∀ j, j < i → X.testBit j = false
def hbd (J : Nat → Int32) (n i : Nat) : Nat := if J 3 = 1 then 2 ^ n - 2 ^ (n - i) else 12 * i
theorem hbd_le {i : Nat} (hn : n ≤ 12) (h8 : J 3 = 1 → n ≤ 8) (hi : i ≤ n) : hbd J n i ≤ 255 := by
  unfold hbd
  split
  · rename_i h
    have h1 := h8 h
    have h2 : 2 ^ n ≤ 2 ^ 8 := Nat.pow_le_pow_right (by decide) h1
    have h3 := Nat.two_pow_pos (n - i)
    omega
  · omega
theorem hbd_s {i : Nat} (hi : i < n) : hbd J n i + (if J 3 = 1 then 2 ^ (n - 1 - i) else n - i) ≤ hbd J n (i + 1) + (if J 3 = 1 then 0 else n) := by
  unfold hbd
  split
  · have e : 2 ^ (n - i) = 2 * 2 ^ (n - 1 - i) := by
      rw [← Nat.pow_succ']
      congr 1
      omega
    have e2 : n - (i + 1) = n - 1 - i := by omega
    have e3 : 2 ^ (n - i) ≤ 2 ^ n := Nat.pow_le_pow_right (by decide) (by omega)
    rw [e2, e]
    omega
  · omega
theorem e_runs (hN : 13 ≤ N) {a : Nat} (ha : a < n) {σ : Mem} {H : List Nat} (h : SC σ M D n rr J G) (hn : NearT σ J D rr n n) (hH : HQ σ H) (hb : H.length + (n - a) ≤ 255) (h3 : J 3 ≠ 1) :
    ∃ σ' E, f_X3_listRunsFrom N (nI a) σ = some (0, σ') ∧ HQ σ' (H ++ E) ∧ KL σ σ' ∧ E.length ≤ n - a ∧ ∀ X, X ∈ E ↔ LstAt J (Dr D rr) n a X := by
  have hn12 := h.2.2.1
  obtain ⟨σ', E, i1, i2, i3, i4, i5⟩ := lp_runs hN (n - a) a N σ 0 H (by omega) (by omega) (Nat.le_refl a) (by rw [Nat.zero_or, run_1]) h hn hH hb
  refine ⟨σ', E, i1, i2, i3, i4, fun X => ?_⟩
  rw [i5 X]
  unfold LstAt LstJ
  rw [if_neg h3]
  constructor
  · rintro ⟨b, b1, b2, b3, b4, b5⟩
    refine ⟨⟨a, b, b1, b2, b3, b4, b5⟩, by rw [b3, run_t]; omega, fun j hj => ?_⟩
    cases e : X.testBit j with
    | false => rfl
    | true => rw [b3, run_t] at e; omega
  · rintro ⟨⟨a', b, b0, b1, b2, b3, b4⟩, c1, c2⟩
    have e : a' = a := by
      rw [b2, run_t] at c1
      rcases Nat.lt_or_ge a' a with q | q
      · have := c2 a' q
        rw [b2] at this
        have w : (run a' b).testBit a' = true := run_t.mpr ⟨Nat.le_refl _, b0⟩
        rw [w] at this; cases this
      · omega
    subst e
    exact ⟨b, b0, b1, b2, b3, b4⟩
theorem e_sets (hN : 300 ≤ N) {a : Nat} (ha : a < n) {σ : Mem} {H : List Nat} (h : SC σ M D n rr J G) (hn : NearT σ J D rr n n) (hH : HQ σ H) (hb : H.length + 2 ^ (n - 1 - a) ≤ 255) (h3 : J 3 = 1) :
    ∃ σ' E, f_X3_listSetsFrom N (nI a) σ = some (0, σ') ∧ HQ σ' (H ++ E) ∧ KL σ σ' ∧ E.length ≤ 2 ^ (n - 1 - a) ∧ ∀ X, X ∈ E ↔ LstAt J (Dr D rr) n a X := by
  have hn12 := h.2.2.1
  have h5 := h.2.2.2.2.1
  obtain ⟨σ', E, i1, i2, i3, i4, i5⟩ := lp_sets (show 13 ≤ N by omega) ha rfl (2 ^ (n - 1 - a)) 0 N σ H (by omega) (by omega) h hn hH hb
  refine ⟨σ', E, ?_, i2, i3, i4, fun X => ?_⟩
  · unfold f_X3_listSetsFrom
    have e1 : nI n - 1 = nI (n - 1) := by
      obtain ⟨k, hk⟩ : ∃ k, n = k + 1 := ⟨n - 1, by omega⟩
      rw [hk]; exact n_m1
    rw [h5, e1, pk_sub (by omega), n_shl (by omega), m_leti]
    exact i1
  · rw [i5 X]
    unfold LstAt LstJ
    rw [if_pos h3]
    constructor
    · rintro ⟨o, o1, o2, o3, o4⟩
      have ht : X.testBit a = true := by rw [o3, odd_t]; exact ⟨Nat.le_refl a, Or.inl rfl⟩
      refine ⟨⟨⟨by rw [o3]; exact odd_lt ha o2, fun e => by rw [e, Nat.zero_testBit] at ht; cases ht⟩, o4⟩, ht, fun j hj => ?_⟩
      cases e : X.testBit j with
      | false => rfl
      | true => rw [o3, odd_t] at e; omega
    · rintro ⟨⟨c1, c2⟩, c3, c4⟩
      obtain ⟨o, o1, o2⟩ := odd_of c1.1 c3 c4
      exact ⟨o, Nat.zero_le o, o1, o2, c2⟩
def FT (σ : Mem) (J : Nat → Int32) (D : Nat → Nat → Nat) (n : Nat) (H : List Nat) (F : Nat → Nat) (i : Nat) : Prop := (∀ k, k < i → σ 37 k = nI (F k)) ∧ (∀ k, k ≤ i → F k ≤ H.length) ∧ F i = H.length ∧ ∀ k, k < i → ∀ X, (∃ h, F k ≤ h ∧ h < F (k + 1) ∧ H[h]? = some X) ↔ LstAt J D n k X
theorem FT_step {σ σ' : Mem} {H E : List Nat} {F : Nat → Nat} {i : Nat} (h : FT σ J (Dr D rr) n H F i) (h37 : ∀ k, k < i → σ' 37 k = σ 37 k) (hi : σ' 37 i = nI H.length) (hE : ∀ X, X ∈ E ↔ LstAt J (Dr D rr) n i X) : FT σ' J (Dr D rr) n (H ++ E) (fun k => if k ≤ i then F k else (H ++ E).length) (i + 1) := by
  obtain ⟨f1, f2, f3, f4⟩ := h
  refine ⟨fun k hk => ?_, fun k hk => ?_, if_neg (by omega), fun k hk X => ?_⟩
  · show σ' 37 k = nI (if k ≤ i then F k else _)
    rw [if_pos (by omega)]
    by_cases e : k = i
    · subst e; rw [hi, f3]
    · rw [h37 k (by omega)]; exact f1 k (by omega)
  · show (if k ≤ i then F k else (H ++ E).length) ≤ _
    split
    · have := f2 k ‹_›
      rw [List.length_append]; omega
    · exact Nat.le_refl _
  · show (∃ h, (if k ≤ i then F k else (H ++ E).length) ≤ h ∧ h < (if k + 1 ≤ i then F (k + 1) else (H ++ E).length) ∧ (H ++ E)[h]? = some X) ↔ _
    rw [if_pos (show k ≤ i by omega)]
    by_cases e : k = i
    · subst e
      rw [if_neg (by omega), f3, ← hE X]
      constructor
      · rintro ⟨h, h1, h2, h3⟩
        rw [List.getElem?_append_right h1] at h3
        exact List.mem_of_getElem? h3
      · intro q
        obtain ⟨j, hj⟩ := List.getElem?_of_mem q
        have hjl : j < E.length := by
          rcases Nat.lt_or_ge j E.length with w | w
          · exact w
          · rw [List.getElem?_eq_none w] at hj; cases hj
        exact ⟨H.length + j, by omega, by rw [List.length_append]; omega, by rw [List.getElem?_append_right (by omega), show H.length + j - H.length = j by omega]; exact hj⟩
    · rw [if_pos (show k + 1 ≤ i by omega), ← f4 k (by omega) X]
      have hl := f2 (k + 1) (by omega)
      constructor
      · rintro ⟨h, h1, h2, h3⟩
        rw [List.getElem?_append_left (by omega)] at h3
        exact ⟨h, h1, h2, h3⟩
      · rintro ⟨h, h1, h2, h3⟩
        exact ⟨h, h1, h2, by rw [List.getElem?_append_left (by omega)]; exact h3⟩
def endP (N : Nat) (σ : Mem) : Option (Int32 × Mem) := m_bnd (f_X3_part N 30 ((1 <<< ((σ 20 12) &&& 31)) - 1) 0 0 σ) (fun _ σ5 => gd (isb (σ5 20 4)) (some (σ5 20 4, σ5)))
def endJ (N : Nat) (σ : Mem) : Option (Int32 × Mem) := m_bnd (f_X3_priceHappenings N σ) (fun _ σ3 => endP N σ3)
theorem lp_haps (hN : 300 ≤ N) (h8 : J 3 = 1 → n ≤ 8) : ∀ m i f (σ : Mem) (H : List Nat) (F : Nat → Nat), i + m = n → m < f → SC σ M D n rr J G → NearT σ J D rr n n → HQ σ H → H.length ≤ hbd J n i → FT σ J (Dr D rr) n H F i →
    ∃ σ' H' F', l_X3_findForJoined_66 N f (nI i) σ = endJ N σ' ∧ HQ σ' H' ∧ H'.length ≤ 255 ∧ FT σ' J (Dr D rr) n H' F' n ∧ σ' 37 n = nI (F' n) ∧ KH σ σ' := by
  intro m
  induction m with
  | zero =>
    intro i f σ H F hi hf h hn hH hb hF
    obtain ⟨f, rfl⟩ : ∃ f', f = f' + 1 := ⟨f - 1, by omega⟩
    have hn12 := h.2.2.1
    have h5 := h.2.2.2.2.1
    have e : i = n := by omega
    subst e
    have hle : nI i ≤ nI i := by rw [n_le (by omega) (by omega)]; omega
    have hbl := hbd_le (J := J) hn12 h8 (Nat.le_refl i)
    refine ⟨mu σ 37 i (nI H.length), H, F, ?_, ⟨by rw [mu_c (by decide)]; exact hH.1, fun h' X hX => by rw [mu_c (by decide)]; exact hH.2 h' X hX⟩, by omega, ⟨fun k hk => by rw [mu_k (by omega)]; exact hF.1 k hk, hF.2⟩, by rw [mu_s, hF.2.2.1], KH.u37 σ i _⟩
    simp only [l_X3_findForJoined_66, b_X3_findForJoined_66, h5, if_pos hle, inb_n (show i < 13 by omega) (by omega), gd_t, m_let, nI_clamp (show i < 2 ^ 31 by omega), hH.1, endJ, endP]
  | succ m ih =>
    intro i f σ H F hi hf h hn hH hb hF
    obtain ⟨f, rfl⟩ : ∃ f', f = f' + 1 := ⟨f - 1, by omega⟩
    obtain ⟨h1, h2, h3, h4, h5, h6, h7, h8', h9, h10⟩ := id h
    have hle : ¬ nI n ≤ nI i := fun q => by rw [n_le (by omega) (by omega)] at q; omega
    have hk1 := KH.u37 σ i (nI H.length)
    have hS1 := h.keep hk1.ki
    have hov := e_overC (N := N) hS1.2.2.2.2.2.2.2.1
    have hn1 : NearT (mu σ 37 i (nI H.length)) J D rr n n := fun k hk => by rw [mu_c (by decide)]; exact hn k hk
    have hH1 : HQ (mu σ 37 i (nI H.length)) H := ⟨by rw [mu_c (by decide)]; exact hH.1, fun h' X hX => by rw [mu_c (by decide)]; exact hH.2 h' X hX⟩
    have hbs := hbd_s (J := J) (n := n) (i := i) (by omega)
    have hbl := hbd_le (J := J) h3 h8 (show i + 1 ≤ n by omega)
    have b7 : inb (7 : Int32) 8 = true := by decide
    have ex : l_X3_findForJoined_66 N (f + 1) (nI i) σ = if b2i (cdec (J 3 = 1)) = 0 then m_bnd (f_X3_listRunsFrom N (nI i) (mu σ 37 i (nI H.length))) (fun _ σ6 => l_X3_findForJoined_66 N f (nI (i + 1)) σ6) else m_bnd (f_X3_listSetsFrom N (nI i) (mu σ 37 i (nI H.length))) (fun _ σ6 => l_X3_findForJoined_66 N f (nI (i + 1)) σ6) := by
      simp only [l_X3_findForJoined_66, b_X3_findForJoined_66, h5, if_neg hle, inb_n (show i < 13 by omega) (by omega), gd_t, m_let, nI_clamp (show i < 2 ^ 31 by omega), hH.1, mu_c (show (20 : Nat) ≠ 37 by decide), h7, b7, nI_1]
      rw [nI_7, hov, bnd_s]
    rw [ex]
    by_cases hj : J 3 = 1
    · rw [cdec_t hj, if_neg b2i_tn]
      rw [if_pos hj, if_pos hj] at hbs
      obtain ⟨σ1, E, i1, i2, i3, i4, i5⟩ := e_sets hN (show i < n by omega) hS1 hn1 hH1 (by omega) hj
      obtain ⟨σ', H', F', j1, j2, j3, j4, j5, j6⟩ := ih (i + 1) f σ1 (H ++ E) _ (by omega) (by omega) (hS1.keep i3.ki) (hn1.keep i3) i2 (by rw [List.length_append]; omega) (FT_step hF (fun k hk => by rw [i3 37 k (by omega) (by omega) (by omega), mu_k (by omega)]) (by rw [i3 37 i (by omega) (by omega) (by omega), mu_s]) i5)
      exact ⟨σ', H', F', by rw [i1, bnd_s]; exact j1, j2, j3, j4, j5, (hk1.tr i3.kh).tr j6⟩
    · rw [cdec_f hj, if_pos b2i_f]
      rw [if_neg hj, if_neg hj] at hbs
      have hb12 : H.length ≤ 12 * i := by unfold hbd at hb; rw [if_neg hj] at hb; exact hb
      obtain ⟨σ1, E, i1, i2, i3, i4, i5⟩ := e_runs (show 13 ≤ N by omega) (show i < n by omega) hS1 hn1 hH1 (by omega) hj
      obtain ⟨σ', H', F', j1, j2, j3, j4, j5, j6⟩ := ih (i + 1) f σ1 (H ++ E) _ (by omega) (by omega) (hS1.keep i3.ki) (hn1.keep i3) i2 (by rw [List.length_append]; unfold hbd; rw [if_neg hj]; omega) (FT_step hF (fun k hk => by rw [i3 37 k (by omega) (by omega) (by omega), mu_k (by omega)]) (by rw [i3 37 i (by omega) (by omega) (by omega), mu_s]) i5)
      exact ⟨σ', H', F', by rw [i1, bnd_s]; exact j1, j2, j3, j4, j5, (hk1.tr i3.kh).tr j6⟩
theorem e_haps (hN : 300 ≤ N) (h8 : J 3 = 1 → n ≤ 8) {σ : Mem} (h : SC σ M D n rr J G) (hn : NearT σ J D rr n n) : ∃ σ' H F, l_X3_findForJoined_66 N N 0 (mu σ 20 13 0) = endP N σ' ∧ HL σ' D rr n G H ∧ H.length ≤ 255 ∧ FT σ' J (Dr D rr) n H F n ∧ σ' 37 n = nI (F n) ∧ KH σ σ' := by
  have hn12 := h.2.2.1
  have hk := KH.u13 σ 0
  obtain ⟨σ1, H', F', j1, j2, j3, j4, j5, j6⟩ := lp_haps hN h8 n 0 N (mu σ 20 13 0) [] (fun _ => 0) (by omega) (by omega) (h.keep hk.ki) (fun k hk => by rw [mu_c (by decide)]; exact hn k hk) ⟨mu_s _ _ _ _, fun h' X hX => by simp at hX⟩ (Nat.zero_le _) ⟨fun k hk => by omega, fun k hk => Nat.le_refl 0, rfl, fun k hk => by omega⟩
  obtain ⟨σ', l1, l2, l3⟩ := lp_pall (show 13 ≤ N by omega) j3 H'.length 0 N σ1 (by omega) (by omega) ((h.keep hk.ki).keep j6.ki) j2 (fun h' X hh => absurd hh (Nat.not_lt_zero _))
  refine ⟨σ', H', F', ?_, l2, j3, ⟨fun k hk => by rw [l3 37 k (by decide)]; exact j4.1 k hk, j4.2⟩, by rw [l3 37 n (by decide)]; exact j5, (hk.tr j6).tr (fun a k _ _ _ q => l3 a k q)⟩
  have hpr : f_X3_priceHappenings N σ1 = some (0, σ') := by
    unfold f_X3_priceHappenings
    exact l1
  refine (show l_X3_findForJoined_66 N N 0 (mu σ 20 13 0) = endJ N σ1 from j1).trans ?_
  unfold endJ
  rw [hpr, bnd_s]
/-! what one happening more brings -/
theorem prF_c (g : Nat → Int32) (y : Nat) (xs : List Nat) (a : Nat × Nat) : prF g (y :: xs) a = if payF g y = 0 ∨ a.1 = wv g 7 then prF g xs a else prF g xs (a.1 + 1, a.2 + payF g y) := rfl
theorem prF_app (g : Nat → Int32) (x : Nat) : ∀ (xs : List Nat) (a : Nat × Nat), prF g (xs ++ [x]) a = prF g [x] (prF g xs a)
  | [], a => rfl
  | y :: xs, a => by
    have e1 := prF_c g y (xs ++ [x]) a
    have e2 := prF_c g y xs a
    rw [List.cons_append, e1, e2]
    by_cases h : payF g y = 0 ∨ a.1 = wv g 7
    · rw [if_pos h, if_pos h]
      exact prF_app g x xs a
    · rw [if_neg h, if_neg h]
      exact prF_app g x xs _
def pay1 (g : Nat → Int32) (xs : List Nat) (x : Nat) : Nat := if (payA g xs).1 = wv g 7 then 0 else payF g x
theorem payA_app (g : Nat → Int32) (xs : List Nat) (x : Nat) : payA g (xs ++ [x]) = if pay1 g xs x = 0 then payA g xs else ((payA g xs).1 + 1, (payA g xs).2 + pay1 g xs x) := by
  unfold payA pay1
  rw [prF_app]
  unfold payA
  generalize prF g xs (0, 0) = a
  show (if payF g x = 0 ∨ a.1 = wv g 7 then a else (a.1 + 1, a.2 + payF g x)) = _
  by_cases h : a.1 = wv g 7
  · rw [if_pos (Or.inr h), if_pos h, if_pos rfl]
  · rw [if_neg h]
    by_cases h2 : payF g x = 0
    · rw [if_pos (Or.inl h2), if_pos h2]
    · rw [if_neg (by rintro (q | q); exact h2 q; exact h q), if_neg h2]
theorem payA_2 (g : Nat → Int32) (xs : List Nat) (x : Nat) : (payA g (xs ++ [x])).2 = (payA g xs).2 + pay1 g xs x := by
  rw [payA_app]
  split
  · rename_i h; rw [h]; rfl
  · rfl
theorem payA_1 (g : Nat → Int32) (xs : List Nat) (x : Nat) : (payA g (xs ++ [x])).1 = if pay1 g xs x = 0 then (payA g xs).1 else (payA g xs).1 + 1 := by
  rw [payA_app]
  split <;> rfl
def TP (σ : Mem) (G : List (Nat → Int32)) (xs : List Nat) : Prop := ∀ p g, G[p]? = some g → σ 41 (xs.length * 6 + p) = nI (payA g xs).1
theorem lp_bring {H : List Nat} {xs : List Nat} {h X : Nat} (hh : h < 256) (hX : H[h]? = some X) (hxs : xs.length < 12) : ∀ (G2 : List (Nat → Int32)) (p f : Nat) (σ : Mem) (y : Nat), G.drop p = G2 → G2.length < f → p ≤ G.length → PayC σ G → HL σ D rr n G H → TP σ G xs → y ≤ 9900 * p →
    ∃ σ' z, l_X2_bringFor_5 N f (nI h) (nI xs.length) (nI y) (nI p) σ = some (nI (y + z), σ') ∧ tot G2 xs + z = tot G2 (xs ++ [sumS (Dr D rr) n X]) ∧ z ≤ 9900 * G2.length ∧ (∀ q g, p ≤ q → G[q]? = some g → σ' 41 ((xs.length + 1) * 6 + q) = nI (payA g (xs ++ [sumS (Dr D rr) n X])).1) ∧ ∀ a j, ¬ (a = 41 ∧ (xs.length + 1) * 6 + p ≤ j) → σ' a j = σ a j := by
  intro G2
  induction G2 with
  | nil =>
    intro p f σ y hd hf hp hP hH hT hy
    obtain ⟨f, rfl⟩ : ∃ f', f = f' + 1 := ⟨f - 1, by omega⟩
    have e : p = G.length := by
      have := congrArg List.length hd
      rw [List.length_drop] at this
      simp at this
      omega
    subst e
    have hg6 := hP.2.1
    have hle : nI G.length ≤ nI G.length := by rw [n_le (by omega) (by omega)]; omega
    refine ⟨σ, 0, ?_, rfl, Nat.zero_le _, fun q g a b => ?_, fun a j _ => rfl⟩
    · simp only [l_X2_bringFor_5, b_X2_bringFor_5, hP.1, if_pos hle]
      rfl
    · rw [List.getElem?_eq_none a] at b; cases b
  | cons g G2 ih =>
    intro p f σ y hd hf hp hP hH hT hy
    obtain ⟨f, rfl⟩ : ∃ f', f = f' + 1 := ⟨f - 1, by omega⟩
    have hpl : p < G.length := by
      have := congrArg List.length hd
      rw [List.length_drop] at this
      simp at this
      omega
    have hg : G[p]? = some g := by
      have := congrArg (fun l => l[0]?) hd
      simpa using this
    have hd2 : G.drop (p + 1) = G2 := by
      have := congrArg (List.drop 1) hd
      simpa using this
    obtain ⟨p1, p2, p3⟩ := id hP
    obtain ⟨w, z, z1, z2, z3, z4, z5⟩ := p3 p g hg
    obtain ⟨o1, o2, o3⟩ := wf7 w
    have hle : ¬ nI G.length ≤ nI p := fun q => by rw [n_le (by omega) (by omega)] at q; omega
    have ht := hT p g hg
    have htl : (payA g xs).1 ≤ wv g 7 := (prF_le w xs (0, 0) (Nat.zero_le _) (Nat.zero_le _)).1
    have hpx := payF_le w (sumS (Dr D rr) n X)
    have hp1 : pay1 g xs (sumS (Dr D rr) n X) ≤ 99 := by unfold pay1; split <;> omega
    have hs8 := (wf8 w).2
    have e1 : nI xs.length * 6 + nI p = nI (xs.length * 6 + p) := by rw [nI_lit 6, pk_mul, nI_add]
    have e2 : nI p * 256 + nI h = nI (p * 256 + h) := by rw [nI_lit 256, pk_mul, nI_add]
    have e3 : nI (xs.length + 1) * 6 + nI p = nI ((xs.length + 1) * 6 + p) := by rw [nI_lit 6, pk_mul, nI_add]
    have hmul : pay1 g xs (sumS (Dr D rr) n X) * (100 - wv g 8) ≤ 9900 := Nat.le_trans (Nat.mul_le_mul hp1 (show 100 - wv g 8 ≤ 100 by omega)) (by omega)
    have hk : KI σ (mu σ 41 ((xs.length + 1) * 6 + p) (nI (payA g (xs ++ [sumS (Dr D rr) n X])).1)) := KI.up σ _ (by unfold psI; omega)
    have h86 : ∀ v w' : Int32, w' = nI (payA g (xs ++ [sumS (Dr D rr) n X])).1 → v = nI (pay1 g xs (sumS (Dr D rr) n X)) → j_X2_bringFor_86 N (l_X2_bringFor_5 N f) (nI h) (nI xs.length) (nI y) (nI p) v w' (nI ((xs.length + 1) * 6 + p)) σ = l_X2_bringFor_5 N f (nI h) (nI xs.length) (nI (y + pay1 g xs (sumS (Dr D rr) n X) * (100 - wv g 8))) (nI (p + 1)) (mu σ 41 ((xs.length + 1) * 6 + p) (nI (payA g (xs ++ [sumS (Dr D rr) n X])).1)) := by
      intro v w' ew ev
      rw [ew, ev]
      simp only [j_X2_bringFor_86, inb_n (show (xs.length + 1) * 6 + p < 78 by omega) (by omega), gd_t, m_let, nI_clamp (show (xs.length + 1) * 6 + p < 2 ^ 31 by omega), inb_n (show p < 6 by omega) (by omega), nI_clamp (show p < 2 ^ 31 by omega), mu_c (show (40 : Nat) ≠ 41 by decide), z5, pk_mul, nI_add, m_leti, nI_1]
    have ex : l_X2_bringFor_5 N (f + 1) (nI h) (nI xs.length) (nI y) (nI p) σ = l_X2_bringFor_5 N f (nI h) (nI xs.length) (nI (y + pay1 g xs (sumS (Dr D rr) n X) * (100 - wv g 8))) (nI (p + 1)) (mu σ 41 ((xs.length + 1) * 6 + p) (nI (payA g (xs ++ [sumS (Dr D rr) n X])).1)) := by
      simp only [l_X2_bringFor_5, b_X2_bringFor_5, p1, if_neg hle, e1, inb_n (show xs.length * 6 + p < 78 by omega) (by omega), gd_t, nI_clamp (show xs.length * 6 + p < 2 ^ 31 by omega), ht, inb_n (show p < 6 by omega) (by omega), nI_clamp (show p < 2 ^ 31 by omega), z4, o1, e2, inb_n (show p * 256 + h < 1536 by omega) (by omega), nI_clamp (show p * 256 + h < 2 ^ 31 by omega), (hH.2 h X hX).2 p g hg, m_leti, j_X2_bringFor_57, nI_1, e3]
      by_cases q : (payA g xs).1 = wv g 7
      · have e0 : pay1 g xs (sumS (Dr D rr) n X) = 0 := by unfold pay1; rw [if_pos q]
        have c1 : nI (wv g 7) ≤ nI (payA g xs).1 := (n_le (by omega) (by omega)).mpr (by omega)
        have c2 : (0 : Int32) ≤ 0 := by decide
        rw [if_pos c1, if_pos c2, h86 _ _ (by rw [payA_1, if_pos e0]) (by rw [e0]; rfl)]
      · have e0 : pay1 g xs (sumS (Dr D rr) n X) = payF g (sumS (Dr D rr) n X) := by unfold pay1; rw [if_neg q]
        have c1 : ¬ nI (wv g 7) ≤ nI (payA g xs).1 := fun w => by have := (n_le (by omega) (by omega)).mp w; omega
        rw [if_neg c1]
        by_cases q2 : payF g (sumS (Dr D rr) n X) = 0
        · have c2 : nI (payF g (sumS (Dr D rr) n X)) ≤ 0 := by rw [q2]; decide
          rw [if_pos c2, h86 _ _ (by rw [payA_1, if_pos (by rw [e0]; exact q2)]) (by rw [e0])]
        · have c2 : ¬ nI (payF g (sumS (Dr D rr) n X)) ≤ 0 := fun w => by
            have := (n_le (b := 0) (by omega) (by omega)).mp w
            omega
          rw [if_neg c2, h86 _ _ (by rw [payA_1, if_neg (by rw [e0]; exact q2)]) (by rw [e0])]
    rw [ex]
    obtain ⟨σ', z', i1, i2, i3, i4, i5⟩ := ih (p + 1) f (mu σ 41 ((xs.length + 1) * 6 + p) (nI (payA g (xs ++ [sumS (Dr D rr) n X])).1)) (y + pay1 g xs (sumS (Dr D rr) n X) * (100 - wv g 8)) hd2 (by simp at hf; omega) hpl (hP.keep hk) ⟨by rw [mu_c (by decide)]; exact hH.1, fun h' Y hY => by rw [mu_c (by decide), mu_c (by decide)]; exact hH.2 h' Y hY⟩ (fun q g' hq => by
      have hql : q < G.length := by
        rcases Nat.lt_or_ge q G.length with w | w
        · exact w
        · rw [List.getElem?_eq_none w] at hq; cases hq
      rw [mu_k (by omega)]; exact hT q g' hq) (by omega)
    refine ⟨σ', pay1 g xs (sumS (Dr D rr) n X) * (100 - wv g 8) + z', by rw [i1, Nat.add_assoc], ?_, by rw [List.length_cons]; omega, fun q g' a b => ?_, fun a j hj => by rw [i5 a j (by omega), mu_e, if_neg (by omega)]⟩
    · have t1 : tot (g :: G2) xs = brF g (payA g xs).2 + tot G2 xs := by unfold tot; rw [List.map_cons, List.sum_cons]
      have t2 : tot (g :: G2) (xs ++ [sumS (Dr D rr) n X]) = brF g (payA g (xs ++ [sumS (Dr D rr) n X])).2 + tot G2 (xs ++ [sumS (Dr D rr) n X]) := by unfold tot; rw [List.map_cons, List.sum_cons]
      rw [t1, t2, payA_2, ← i2]
      unfold brF
      rw [Nat.add_mul]
      omega
    · by_cases e : q = p
      · subst e
        rw [hg] at b
        rw [← Option.some.inj b, i5 41 _ (by omega), mu_s]
      · exact i4 q g' (by omega) b
theorem e_bring (hN : 13 ≤ N) {H : List Nat} {xs : List Nat} {h X : Nat} (hh : h < 256) (hX : H[h]? = some X) (hxs : xs.length < 12) {σ : Mem} (hP : PayC σ G) (hH : HL σ D rr n G H) (hT : TP σ G xs) : ∃ σ' z, f_X2_bringFor N (nI h) (nI xs.length) σ = some (nI z, σ') ∧ tot G xs + z = tot G (xs ++ [sumS (Dr D rr) n X]) ∧ TP σ' G (xs ++ [sumS (Dr D rr) n X]) ∧ ∀ a j, ¬ (a = 41 ∧ (xs.length + 1) * 6 ≤ j) → σ' a j = σ a j := by
  have hg6 := hP.2.1
  obtain ⟨σ', z', i1, i2, i3, i4, i5⟩ := lp_bring (N := N) hh hX hxs G 0 N σ 0 rfl (by omega) (Nat.zero_le _) hP hH hT (Nat.zero_le _)
  rw [Nat.zero_add] at i1
  refine ⟨σ', z', i1, i2, fun q g hq => ?_, fun a j hj => i5 a j (by omega)⟩
  rw [List.length_append]
  exact i4 q g (Nat.zero_le _) hq
end CHAP
