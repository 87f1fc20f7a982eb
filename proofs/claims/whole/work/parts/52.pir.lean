/-! the class puts losses in the order of the row -/
def rlt (D : Nat → Nat → Nat) (a b : Nat) : Prop := D 1 a < D 1 b ∨ (D 1 a = D 1 b ∧ a < b)
def elems (s : Nat) : Nat → List Nat
  | 0 => []
  | k + 1 => if s.testBit k = true then elems s k ++ [k] else elems s k
theorem elems_s (s k : Nat) : elems s (k + 1) = if s.testBit k = true then elems s k ++ [k] else elems s k := rfl
theorem elems_mem {s x : Nat} : ∀ k, x ∈ elems s k ↔ x < k ∧ s.testBit x = true
  | 0 => by simp [elems]
  | k + 1 => by
    rw [elems_s]
    by_cases h : s.testBit k = true
    · rw [if_pos h, List.mem_append, elems_mem k, List.mem_singleton]
      constructor
      · rintro (⟨q1, q2⟩ | rfl)
        · exact ⟨by omega, q2⟩
        · exact ⟨by omega, h⟩
      · rintro ⟨q1, q2⟩
        by_cases e : x = k
        · exact Or.inr e
        · exact Or.inl ⟨by omega, q2⟩
    · rw [if_neg h, elems_mem k]
      constructor
      · rintro ⟨q1, q2⟩
        exact ⟨by omega, q2⟩
      · rintro ⟨q1, q2⟩
        refine ⟨?_, q2⟩
        by_cases e : x = k
        · subst e; exact absurd q2 h
        · omega
theorem elems_lt {s k x : Nat} (h : x ∈ elems s k) : x < k := ((elems_mem k).mp h).1
theorem elems_len (s : Nat) : ∀ k, (elems s k).length ≤ k
  | 0 => Nat.le_refl _
  | k + 1 => by
    have := elems_len s k
    rw [elems_s]
    split
    · rw [List.length_append, List.length_singleton]; omega
    · omega
theorem elems_nodup (s : Nat) : ∀ k, (elems s k).Nodup
  | 0 => List.nodup_nil
  | k + 1 => by
    rw [elems_s]
    split
    · rw [List.nodup_append]
      refine ⟨elems_nodup s k, by simp, fun a ha b hb => ?_⟩
      rw [List.mem_singleton] at hb
      have := elems_lt ha
      omega
    · exact elems_nodup s k
def RowC (σ : Mem) (cell : Nat) (r : List Nat) : Prop := ∀ j x, r[j]? = some x → σ cell j = nI x
def shJ (σ : Mem) (cell : Nat) (r : List Nat) (p k : Nat) : Prop := (∀ j, j < p → ∃ x, r[j]? = some x ∧ σ cell j = nI x) ∧ ∀ j, p < j → j ≤ k → ∃ x, r[j - 1]? = some x ∧ σ cell j = nI x
theorem rins {D : Nat → Nat → Nat} {r : List Nat} {c q : Nat} (hs : r.Pairwise (rlt D)) (hq : q ≤ r.length) (hlt : ∀ x ∈ r, x < c) (h1 : ∀ x, 0 < q → r[q - 1]? = some x → D 1 x ≤ D 1 c) (h2 : ∀ j x, q ≤ j → r[j]? = some x → D 1 c < D 1 x) : (r.take q ++ c :: r.drop q).Pairwise (rlt D) := by
  have hall : ∀ a ∈ r.take q, rlt D a c := by
    intro a ha
    have ham := hlt a (List.mem_of_mem_take ha)
    obtain ⟨i, hi⟩ := List.getElem?_of_mem ha
    have hil : i < q := by
      have := (List.getElem?_eq_some_iff.mp hi).1
      rw [List.length_take] at this
      omega
    rw [List.getElem?_take, if_pos hil] at hi
    have hl : q - 1 < r.length := by omega
    have hr : r[q - 1]? = some r[q - 1] := List.getElem?_eq_getElem hl
    have h3 := h1 _ (by omega) hr
    by_cases e : i = q - 1
    · subst e
      rw [hr] at hi
      cases hi
      unfold rlt
      omega
    · have hi2 := (List.getElem?_eq_some_iff.mp hi)
      have h4 := List.pairwise_iff_getElem.mp hs i (q - 1) hi2.1 hl (by omega)
      rw [hi2.2] at h4
      unfold rlt at *
      omega
  have hd : ∀ b ∈ r.drop q, rlt D c b := by
    intro b hb
    obtain ⟨i, hi⟩ := List.getElem?_of_mem hb
    rw [List.getElem?_drop] at hi
    exact Or.inl (h2 (q + i) b (by omega) hi)
  rw [List.pairwise_append]
  refine ⟨hs.sublist (List.take_sublist q r), ?_, ?_⟩
  · rw [List.pairwise_cons]
    exact ⟨hd, hs.sublist (List.drop_sublist q r)⟩
  · intro a ha b hb
    rcases List.mem_cons.mp hb with rfl | hb
    · exact hall a ha
    · have := hd b hb
      have := hall a ha
      unfold rlt at *
      omega
section PIR
variable {N M : Nat} {D : Nat → Nat → Nat}
theorem lp_pirC_34 (hD : LD M D) {s c k : Nat} (hk : k < 12) {r : List Nat} (hr : r.length = k) (hc : c < M) (hrM : ∀ x ∈ r, x < M) (K5 : Int32 → Int32 → Int32 → Mem → Option (Int32 × Mem)) : ∀ p n (σ : Mem), p ≤ k → p < n → LC σ M D → shJ σ 34 r p k → (∀ j x, p ≤ j → r[j]? = some x → D 1 c < D 1 x) →
    ∃ σ' q, q ≤ k ∧ (∀ x, 0 < q → r[q - 1]? = some x → D 1 x ≤ D 1 c) ∧ (∀ j x, q ≤ j → r[j]? = some x → D 1 c < D 1 x) ∧ (∀ a, a ≠ 34 → σ' a = σ a) ∧ RowC σ' 34 (r.take q ++ c :: r.drop q) ∧
      l_X1_putInRow_34_35 N K5 n (nI s) (nI k) (nI c) (nI p) σ = K5 (nI s) (nI (k + 1)) (nI (c + 1)) σ' := by
  intro p
  have hM := hD.1
  have fin : ∀ (p : Nat) (σ : Mem), p ≤ k → shJ σ 34 r p k →
      ∃ σ', (∀ a, a ≠ 34 → σ' a = σ a) ∧ RowC σ' 34 (r.take p ++ c :: r.drop p) ∧ j_X1_putInRow_34_77 N K5 (nI s) (nI k) (nI c) (nI p) σ = K5 (nI s) (nI (k + 1)) (nI (c + 1)) σ' := by
    intro p σ hp hI
    refine ⟨mu σ 34 p (nI c), fun a ha => mu_c ha, ?_, ?_⟩
    · intro j x hx
      rw [take_drop_get (by omega)] at hx
      show upd (σ 34) p (nI c) j = nI x
      by_cases h1 : j < p
      · rw [if_pos h1] at hx
        obtain ⟨y, y1, y2⟩ := hI.1 j h1
        rw [y1] at hx
        cases hx
        rw [upd_n _ (by omega)]
        exact y2
      · rw [if_neg h1] at hx
        by_cases h2 : j = p
        · subst h2
          rw [if_pos rfl] at hx
          cases hx
          rw [upd_s]
        · rw [if_neg h2] at hx
          have hjk : j ≤ k := by
            have := (List.getElem?_eq_some_iff.mp hx).1
            omega
          obtain ⟨y, y1, y2⟩ := hI.2 j (by omega) hjk
          rw [y1] at hx
          cases hx
          rw [upd_n _ (by omega)]
          exact y2
    · simp only [j_X1_putInRow_34_77, m_let, inb_n (show p < 12 by omega) (by omega), gd_t, nI_clamp (show p < 2 ^ 31 by omega), nI_1]
  induction p with
  | zero =>
    intro n σ hp hn h hI hgt
    obtain ⟨n, rfl⟩ : ∃ n', n = n' + 1 := ⟨n - 1, by omega⟩
    obtain ⟨σ', f1, f2, f3⟩ := fin 0 σ (by omega) hI
    refine ⟨σ', 0, by omega, fun x h0 => absurd h0 (Nat.lt_irrefl 0), fun j x _ hx => hgt j x (Nat.zero_le j) hx, f1, f2, ?_⟩
    have hc0 : nI 0 ≤ 0 := by decide
    simp only [l_X1_putInRow_34_35, b_X1_putInRow_34_35, if_pos hc0]
    exact f3
  | succ p ih =>
    intro n σ hp hn h hI hgt
    obtain ⟨n, rfl⟩ : ∃ n', n = n' + 1 := ⟨n - 1, by omega⟩
    obtain ⟨x, x1, x2⟩ := hI.1 p (by omega)
    have hxM := hrM x (List.mem_of_getElem? x1)
    have hc0 : ¬ nI (p + 1) ≤ 0 := nI_nle (by omega) (by omega)
    have m1 : nI (p + 1) - 1 = nI p := n_m1
    have m2 : nI (p + 1) + (-1) = nI p := pk_m1 p
    have b1 := (hD.2 x hxM).2.2.1
    have b2 := (hD.2 c hc).2.2.1
    have q0 := n_le (a := D 1 x) (b := D 1 c) (by omega) (by omega)
    by_cases hle : D 1 x ≤ D 1 c
    · obtain ⟨σ', f1, f2, f3⟩ := fin (p + 1) σ hp hI
      refine ⟨σ', p + 1, hp, fun y _ hy => ?_, hgt, f1, f2, ?_⟩
      · rw [show p + 1 - 1 = p from rfl, x1] at hy
        cases hy
        exact hle
      · simp only [l_X1_putInRow_34_35, b_X1_putInRow_34_35, if_neg hc0, m1, inb_n (show p < 12 by omega) (by omega), gd_t, nI_clamp (show p < 2 ^ 31 by omega), x2, inb_n (show x < 12 by omega) (by omega), inb_n (show c < 12 by omega) (by omega), nI_clamp (show x < 2 ^ 31 by omega), nI_clamp (show c < 2 ^ 31 by omega), (h.2 x hxM).2.1, (h.2 c hc).2.1, if_pos (q0.mpr hle)]
        exact f3
    · have hI' : shJ (mu σ 34 (p + 1) (nI x)) 34 r p k := by
        refine ⟨fun j hj => ?_, fun j hj hj2 => ?_⟩
        · obtain ⟨y, y1, y2⟩ := hI.1 j (by omega)
          refine ⟨y, y1, ?_⟩
          show upd (σ 34) (p + 1) (nI x) j = nI y
          rw [upd_n _ (by omega)]
          exact y2
        · show ∃ y, r[j - 1]? = some y ∧ upd (σ 34) (p + 1) (nI x) j = nI y
          by_cases e : j = p + 1
          · subst e
            exact ⟨x, x1, upd_s _ _ _⟩
          · obtain ⟨y, y1, y2⟩ := hI.2 j (by omega) hj2
            refine ⟨y, y1, ?_⟩
            rw [upd_n _ e]
            exact y2
      have h' : LC (mu σ 34 (p + 1) (nI x)) M D := h
      obtain ⟨σ', q, i1, i2, i3, i4, i5, i6⟩ := ih n _ (by omega) (by omega) h' hI' (fun j y hj hy => by
        by_cases e : j = p
        · subst e
          rw [x1] at hy
          cases hy
          omega
        · exact hgt j y (by omega) hy)
      refine ⟨σ', q, i1, i2, i3, fun a ha => by rw [i4 a ha, mu_c ha], i5, ?_⟩
      simp only [l_X1_putInRow_34_35, b_X1_putInRow_34_35, if_neg hc0, m1, m2, inb_n (show p < 12 by omega) (by omega), inb_n (show p + 1 < 12 by omega) (by omega), gd_t, nI_clamp (show p < 2 ^ 31 by omega), nI_clamp (show p + 1 < 2 ^ 31 by omega), x2, inb_n (show x < 12 by omega) (by omega), inb_n (show c < 12 by omega) (by omega), nI_clamp (show x < 2 ^ 31 by omega), nI_clamp (show c < 2 ^ 31 by omega), (h.2 x hxM).2.1, (h.2 c hc).2.1, if_neg (fun q => hle (q0.mp q)), m_let]
      exact i6
theorem lp_pir_34 (hN : 13 ≤ N) (hD : LD M D) {s : Nat} : ∀ m c n (σ : Mem) (r : List Nat), c + m = M → m < n → LC σ M D → r.Perm (elems s c) → r.Pairwise (rlt D) → RowC σ 34 r →
    ∃ σ' r', l_X1_putInRow_34_5 N n (nI s) (nI r.length) (nI c) σ = some (nI r'.length, σ') ∧ (∀ a, a ≠ 34 → σ' a = σ a) ∧ r'.Perm (elems s M) ∧ r'.Pairwise (rlt D) ∧ RowC σ' 34 r' := by
  intro m
  have hM := hD.1
  induction m with
  | zero =>
    intro c n σ r hc hn h hp hs hr
    obtain ⟨n, rfl⟩ : ∃ n', n = n' + 1 := ⟨n - 1, by omega⟩
    have e : c = M := by omega
    subst e
    have hcc : nI c ≤ nI c := by rw [n_le (by omega) (by omega)]; omega
    refine ⟨σ, r, ?_, fun _ _ => rfl, hp, hs, hr⟩
    simp only [l_X1_putInRow_34_5, b_X1_putInRow_34_5, h.1, if_pos hcc]
  | succ m ih =>
    intro c n σ r hc hn h hp hs hr
    obtain ⟨n, rfl⟩ : ∃ n', n = n' + 1 := ⟨n - 1, by omega⟩
    have hcc : ¬ nI M ≤ nI c := fun q => by rw [n_le (by omega) (by omega)] at q; omega
    have hl : r.length ≤ c := by
      rw [hp.length_eq]
      exact elems_len s c
    have h12 : ¬ nI 12 ≤ nI r.length := fun q => by rw [n_le (by omega) (by omega)] at q; omega
    have hmem : ∀ x ∈ r, x < c := fun x hx => elems_lt (hp.mem_iff.mp hx)
    simp only [l_X1_putInRow_34_5, b_X1_putInRow_34_5, h.1, if_neg hcc, if_neg h12, e_inC N (show c < 31 by omega), bnd_s, b2i_0, nI_1]
    by_cases hb : s.testBit c = false
    · rw [if_pos hb]
      exact ih (c + 1) n σ r (by omega) (by omega) h (by rw [elems_s, if_neg (by rw [hb]; decide)]; exact hp) hs hr
    · have hbt : s.testBit c = true := by simpa using hb
      rw [if_neg hb]
      have hI : shJ σ 34 r r.length r.length := ⟨fun j hj => by
        obtain ⟨x, hx⟩ : ∃ x, r[j]? = some x := ⟨_, List.getElem?_eq_getElem hj⟩
        exact ⟨x, hx, hr j x hx⟩, fun j h1 h2 => by omega⟩
      obtain ⟨σ1, q, q1, q2, q3, q4, q5, q6⟩ := lp_pirC_34 (N := N) hD (s := s) (show r.length < 12 by omega) rfl (show c < M by omega) (fun x hx => by have := hmem x hx; omega) (l_X1_putInRow_34_5 N n) r.length N σ (Nat.le_refl _) (by omega) h hI (fun j x hj hx => by
        have := (List.getElem?_eq_some_iff.mp hx).1
        omega)
      rw [q6]
      have hlen : (r.take q ++ c :: r.drop q).length = r.length + 1 := by
        rw [List.length_append, List.length_take, List.length_cons, List.length_drop]
        omega
      have h1 : LC σ1 M D := by
        refine ⟨by rw [q4 18 (by decide)]; exact h.1, fun k hk => ?_⟩
        rw [q4 26 (by decide), q4 27 (by decide), q4 29 (by decide), q4 30 (by decide), q4 31 (by decide)]
        exact h.2 k hk
      obtain ⟨σ', r', i1, i2, i3, i4, i5⟩ := ih (c + 1) n σ1 (r.take q ++ c :: r.drop q) (by omega) (by omega) h1 (by rw [elems_s, if_pos hbt]; exact ins_perm hp) (rins hs q1 hmem q2 q3) q5
      rw [hlen] at i1
      exact ⟨σ', r', i1, fun a ha => by rw [i2 a ha, q4 a ha], i3, i4, i5⟩
theorem e_pir_34 (hN : 13 ≤ N) (hD : LD M D) {s : Nat} {σ : Mem} (h : LC σ M D) : ∃ σ' r, f_X1_putInRow_34 N (nI s) σ = some (nI r.length, σ') ∧ (∀ a, a ≠ 34 → σ' a = σ a) ∧ r.Perm (elems s M) ∧ r.Pairwise (rlt D) ∧ RowC σ' 34 r :=
  lp_pir_34 hN hD M 0 N σ [] (by omega) (by have := hD.1; omega) h (List.Perm.refl _) List.Pairwise.nil (fun j x hx => by simp at hx)
theorem lp_pirC_33 (hD : LD M D) {s c k : Nat} (hk : k < 12) {r : List Nat} (hr : r.length = k) (hc : c < M) (hrM : ∀ x ∈ r, x < M) (K5 : Int32 → Int32 → Int32 → Mem → Option (Int32 × Mem)) : ∀ p n (σ : Mem), p ≤ k → p < n → LC σ M D → shJ σ 33 r p k → (∀ j x, p ≤ j → r[j]? = some x → D 1 c < D 1 x) →
    ∃ σ' q, q ≤ k ∧ (∀ x, 0 < q → r[q - 1]? = some x → D 1 x ≤ D 1 c) ∧ (∀ j x, q ≤ j → r[j]? = some x → D 1 c < D 1 x) ∧ (∀ a, a ≠ 33 → σ' a = σ a) ∧ RowC σ' 33 (r.take q ++ c :: r.drop q) ∧
      l_X1_putInRow_33_35 N K5 n (nI s) (nI k) (nI c) (nI p) σ = K5 (nI s) (nI (k + 1)) (nI (c + 1)) σ' := by
  intro p
  have hM := hD.1
  have fin : ∀ (p : Nat) (σ : Mem), p ≤ k → shJ σ 33 r p k →
      ∃ σ', (∀ a, a ≠ 33 → σ' a = σ a) ∧ RowC σ' 33 (r.take p ++ c :: r.drop p) ∧ j_X1_putInRow_33_77 N K5 (nI s) (nI k) (nI c) (nI p) σ = K5 (nI s) (nI (k + 1)) (nI (c + 1)) σ' := by
    intro p σ hp hI
    refine ⟨mu σ 33 p (nI c), fun a ha => mu_c ha, ?_, ?_⟩
    · intro j x hx
      rw [take_drop_get (by omega)] at hx
      show upd (σ 33) p (nI c) j = nI x
      by_cases h1 : j < p
      · rw [if_pos h1] at hx
        obtain ⟨y, y1, y2⟩ := hI.1 j h1
        rw [y1] at hx
        cases hx
        rw [upd_n _ (by omega)]
        exact y2
      · rw [if_neg h1] at hx
        by_cases h2 : j = p
        · subst h2
          rw [if_pos rfl] at hx
          cases hx
          rw [upd_s]
        · rw [if_neg h2] at hx
          have hjk : j ≤ k := by
            have := (List.getElem?_eq_some_iff.mp hx).1
            omega
          obtain ⟨y, y1, y2⟩ := hI.2 j (by omega) hjk
          rw [y1] at hx
          cases hx
          rw [upd_n _ (by omega)]
          exact y2
    · simp only [j_X1_putInRow_33_77, m_let, inb_n (show p < 12 by omega) (by omega), gd_t, nI_clamp (show p < 2 ^ 31 by omega), nI_1]
  induction p with
  | zero =>
    intro n σ hp hn h hI hgt
    obtain ⟨n, rfl⟩ : ∃ n', n = n' + 1 := ⟨n - 1, by omega⟩
    obtain ⟨σ', f1, f2, f3⟩ := fin 0 σ (by omega) hI
    refine ⟨σ', 0, by omega, fun x h0 => absurd h0 (Nat.lt_irrefl 0), fun j x _ hx => hgt j x (Nat.zero_le j) hx, f1, f2, ?_⟩
    have hc0 : nI 0 ≤ 0 := by decide
    simp only [l_X1_putInRow_33_35, b_X1_putInRow_33_35, if_pos hc0]
    exact f3
  | succ p ih =>
    intro n σ hp hn h hI hgt
    obtain ⟨n, rfl⟩ : ∃ n', n = n' + 1 := ⟨n - 1, by omega⟩
    obtain ⟨x, x1, x2⟩ := hI.1 p (by omega)
    have hxM := hrM x (List.mem_of_getElem? x1)
    have hc0 : ¬ nI (p + 1) ≤ 0 := nI_nle (by omega) (by omega)
    have m1 : nI (p + 1) - 1 = nI p := n_m1
    have m2 : nI (p + 1) + (-1) = nI p := pk_m1 p
    have b1 := (hD.2 x hxM).2.2.1
    have b2 := (hD.2 c hc).2.2.1
    have q0 := n_le (a := D 1 x) (b := D 1 c) (by omega) (by omega)
    by_cases hle : D 1 x ≤ D 1 c
    · obtain ⟨σ', f1, f2, f3⟩ := fin (p + 1) σ hp hI
      refine ⟨σ', p + 1, hp, fun y _ hy => ?_, hgt, f1, f2, ?_⟩
      · rw [show p + 1 - 1 = p from rfl, x1] at hy
        cases hy
        exact hle
      · simp only [l_X1_putInRow_33_35, b_X1_putInRow_33_35, if_neg hc0, m1, inb_n (show p < 12 by omega) (by omega), gd_t, nI_clamp (show p < 2 ^ 31 by omega), x2, inb_n (show x < 12 by omega) (by omega), inb_n (show c < 12 by omega) (by omega), nI_clamp (show x < 2 ^ 31 by omega), nI_clamp (show c < 2 ^ 31 by omega), (h.2 x hxM).2.1, (h.2 c hc).2.1, if_pos (q0.mpr hle)]
        exact f3
    · have hI' : shJ (mu σ 33 (p + 1) (nI x)) 33 r p k := by
        refine ⟨fun j hj => ?_, fun j hj hj2 => ?_⟩
        · obtain ⟨y, y1, y2⟩ := hI.1 j (by omega)
          refine ⟨y, y1, ?_⟩
          show upd (σ 33) (p + 1) (nI x) j = nI y
          rw [upd_n _ (by omega)]
          exact y2
        · show ∃ y, r[j - 1]? = some y ∧ upd (σ 33) (p + 1) (nI x) j = nI y
          by_cases e : j = p + 1
          · subst e
            exact ⟨x, x1, upd_s _ _ _⟩
          · obtain ⟨y, y1, y2⟩ := hI.2 j (by omega) hj2
            refine ⟨y, y1, ?_⟩
            rw [upd_n _ e]
            exact y2
      have h' : LC (mu σ 33 (p + 1) (nI x)) M D := h
      obtain ⟨σ', q, i1, i2, i3, i4, i5, i6⟩ := ih n _ (by omega) (by omega) h' hI' (fun j y hj hy => by
        by_cases e : j = p
        · subst e
          rw [x1] at hy
          cases hy
          omega
        · exact hgt j y (by omega) hy)
      refine ⟨σ', q, i1, i2, i3, fun a ha => by rw [i4 a ha, mu_c ha], i5, ?_⟩
      simp only [l_X1_putInRow_33_35, b_X1_putInRow_33_35, if_neg hc0, m1, m2, inb_n (show p < 12 by omega) (by omega), inb_n (show p + 1 < 12 by omega) (by omega), gd_t, nI_clamp (show p < 2 ^ 31 by omega), nI_clamp (show p + 1 < 2 ^ 31 by omega), x2, inb_n (show x < 12 by omega) (by omega), inb_n (show c < 12 by omega) (by omega), nI_clamp (show x < 2 ^ 31 by omega), nI_clamp (show c < 2 ^ 31 by omega), (h.2 x hxM).2.1, (h.2 c hc).2.1, if_neg (fun q => hle (q0.mp q)), m_let]
      exact i6
theorem lp_pir_33 (hN : 13 ≤ N) (hD : LD M D) {s : Nat} : ∀ m c n (σ : Mem) (r : List Nat), c + m = M → m < n → LC σ M D → r.Perm (elems s c) → r.Pairwise (rlt D) → RowC σ 33 r →
    ∃ σ' r', l_X1_putInRow_33_5 N n (nI s) (nI r.length) (nI c) σ = some (nI r'.length, σ') ∧ (∀ a, a ≠ 33 → σ' a = σ a) ∧ r'.Perm (elems s M) ∧ r'.Pairwise (rlt D) ∧ RowC σ' 33 r' := by
  intro m
  have hM := hD.1
  induction m with
  | zero =>
    intro c n σ r hc hn h hp hs hr
    obtain ⟨n, rfl⟩ : ∃ n', n = n' + 1 := ⟨n - 1, by omega⟩
    have e : c = M := by omega
    subst e
    have hcc : nI c ≤ nI c := by rw [n_le (by omega) (by omega)]; omega
    refine ⟨σ, r, ?_, fun _ _ => rfl, hp, hs, hr⟩
    simp only [l_X1_putInRow_33_5, b_X1_putInRow_33_5, h.1, if_pos hcc]
  | succ m ih =>
    intro c n σ r hc hn h hp hs hr
    obtain ⟨n, rfl⟩ : ∃ n', n = n' + 1 := ⟨n - 1, by omega⟩
    have hcc : ¬ nI M ≤ nI c := fun q => by rw [n_le (by omega) (by omega)] at q; omega
    have hl : r.length ≤ c := by
      rw [hp.length_eq]
      exact elems_len s c
    have h12 : ¬ nI 12 ≤ nI r.length := fun q => by rw [n_le (by omega) (by omega)] at q; omega
    have hmem : ∀ x ∈ r, x < c := fun x hx => elems_lt (hp.mem_iff.mp hx)
    simp only [l_X1_putInRow_33_5, b_X1_putInRow_33_5, h.1, if_neg hcc, if_neg h12, e_inC N (show c < 31 by omega), bnd_s, b2i_0, nI_1]
    by_cases hb : s.testBit c = false
    · rw [if_pos hb]
      exact ih (c + 1) n σ r (by omega) (by omega) h (by rw [elems_s, if_neg (by rw [hb]; decide)]; exact hp) hs hr
    · have hbt : s.testBit c = true := by simpa using hb
      rw [if_neg hb]
      have hI : shJ σ 33 r r.length r.length := ⟨fun j hj => by
        obtain ⟨x, hx⟩ : ∃ x, r[j]? = some x := ⟨_, List.getElem?_eq_getElem hj⟩
        exact ⟨x, hx, hr j x hx⟩, fun j h1 h2 => by omega⟩
      obtain ⟨σ1, q, q1, q2, q3, q4, q5, q6⟩ := lp_pirC_33 (N := N) hD (s := s) (show r.length < 12 by omega) rfl (show c < M by omega) (fun x hx => by have := hmem x hx; omega) (l_X1_putInRow_33_5 N n) r.length N σ (Nat.le_refl _) (by omega) h hI (fun j x hj hx => by
        have := (List.getElem?_eq_some_iff.mp hx).1
        omega)
      rw [q6]
      have hlen : (r.take q ++ c :: r.drop q).length = r.length + 1 := by
        rw [List.length_append, List.length_take, List.length_cons, List.length_drop]
        omega
      have h1 : LC σ1 M D := by
        refine ⟨by rw [q4 18 (by decide)]; exact h.1, fun k hk => ?_⟩
        rw [q4 26 (by decide), q4 27 (by decide), q4 29 (by decide), q4 30 (by decide), q4 31 (by decide)]
        exact h.2 k hk
      obtain ⟨σ', r', i1, i2, i3, i4, i5⟩ := ih (c + 1) n σ1 (r.take q ++ c :: r.drop q) (by omega) (by omega) h1 (by rw [elems_s, if_pos hbt]; exact ins_perm hp) (rins hs q1 hmem q2 q3) q5
      rw [hlen] at i1
      exact ⟨σ', r', i1, fun a ha => by rw [i2 a ha, q4 a ha], i3, i4, i5⟩
theorem e_pir_33 (hN : 13 ≤ N) (hD : LD M D) {s : Nat} {σ : Mem} (h : LC σ M D) : ∃ σ' r, f_X1_putInRow_33 N (nI s) σ = some (nI r.length, σ') ∧ (∀ a, a ≠ 33 → σ' a = σ a) ∧ r.Perm (elems s M) ∧ r.Pairwise (rlt D) ∧ RowC σ' 33 r :=
  lp_pir_33 hN hD M 0 N σ [] (by omega) (by have := hD.1; omega) h (List.Perm.refl _) List.Pairwise.nil (fun j x hx => by simp at hx)
end PIR
