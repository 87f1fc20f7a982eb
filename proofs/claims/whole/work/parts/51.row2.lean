/-! .. and sorts it in -/
def shI (D : Nat → Nat → Nat) (M : Nat) (τ : Mem) (R : List Nat) (p k : Nat) : Prop := (∀ j, j < p → ∃ s, R[j]? = some s ∧ ent D M τ j s) ∧ ∀ j, p < j → j ≤ k → ∃ s, R[j - 1]? = some s ∧ ent D M τ j s
section ROW2
variable {N M : Nat} {D : Nat → Nat → Nat}
theorem ent_lt (hD : LD M D) {s : Nat} : lowS D M s ≤ 1000 ∧ highS D M s ≤ 999 ∧ sumS D M s ≤ 99 * M := ⟨lowF_le _ _ _ _, highF_le s M (fun j hj => (hD.2 j hj).2.2.1), sumF_le s M (fun j hj => (hD.2 j hj).2.1)⟩
theorem firstS_le (D : Nat → Nat → Nat) (M s : Nat) : firstS D M s ≤ M := fa_first_le _ M
theorem e_ahead (hD : LD M D) {τ : Mem} {s r p : Nat} (hp : p < 12) (he : ent D M τ p r) : f_X7_isAhead N (nI (firstS D M s)) (nI (lowS D M s)) (nI p) τ = some (b2i (cdec (klt D M s r)), τ) := by
  obtain ⟨-, -, e3, -, e5⟩ := he
  have hM := hD.1
  have a1 := (ent_lt hD (s := s)).1
  have a2 := (ent_lt hD (s := r)).1
  have a3 := firstS_le D M s
  have a4 := firstS_le D M r
  simp only [f_X7_isAhead, inb_n hp (by omega), gd_t, nI_clamp (show p < 2 ^ 31 by omega), e3, e5, isb_0, isb_1]
  have q1 := n_eq (a := lowS D M s) (b := lowS D M r) (by omega) (by omega)
  have q2 := n_le (a := firstS D M r) (b := firstS D M s) (by omega) (by omega)
  have q3 := n_le (a := lowS D M r) (b := lowS D M s) (by omega) (by omega)
  by_cases c1 : lowS D M s = lowS D M r
  · rw [if_pos (q1.mpr c1)]
    by_cases c2 : firstS D M r ≤ firstS D M s
    · rw [if_pos (q2.mpr c2), cdec_f (fun q => by unfold klt at q; omega)]; rfl
    · rw [if_neg (fun q => c2 (q2.mp q)), cdec_t (show klt D M s r from Or.inr ⟨c1, by omega⟩)]; rfl
  · rw [if_neg (fun q => c1 (q1.mp q))]
    by_cases c2 : lowS D M r ≤ lowS D M s
    · rw [if_pos (q3.mpr c2), cdec_f (fun q => by unfold klt at q; omega)]; rfl
    · rw [if_neg (fun q => c2 (q3.mp q)), cdec_t (show klt D M s r from Or.inl (by omega))]; rfl
theorem take_drop_get {R : List Nat} {q s j : Nat} (hq : q ≤ R.length) : (R.take q ++ s :: R.drop q)[j]? = if j < q then R[j]? else if j = q then some s else R[j - 1]? := by
  by_cases h1 : j < q
  · rw [if_pos h1, List.getElem?_append_left (by rw [List.length_take]; omega), List.getElem?_take, if_pos h1]
  · rw [if_neg h1, List.getElem?_append_right (by rw [List.length_take]; omega), List.length_take, Nat.min_eq_left hq]
    by_cases h2 : j = q
    · subst h2
      rw [if_pos rfl, Nat.sub_self]
      rfl
    · rw [if_neg h2, show j - q = (j - q - 1) + 1 by omega, List.getElem?_cons_succ, List.getElem?_drop]
      congr 1
      omega
theorem lp_rowC (hD : LD M D) {s k : Nat} (hk : k < 12) {R : List Nat} (hR : R.length = k) (K2 : Int32 → Mem → Option (Int32 × Mem)) : ∀ p n (τ : Mem), p ≤ k → p < n → shI D M τ R p k → τ 10 k = nI s → (∀ j r, p ≤ j → R[j]? = some r → klt D M s r) →
    ∃ τ' q, q ≤ k ∧ (∀ r, 0 < q → R[q - 1]? = some r → ¬ klt D M s r) ∧ (∀ j r, q ≤ j → R[j]? = some r → klt D M s r) ∧ KRow τ τ' ∧ RowL D M τ' (R.take q ++ s :: R.drop q) ∧
      l_X7_layRow_124 N K2 n (nI k) (nI (lowS D M s)) (nI (highS D M s)) (nI (sumS D M s)) (nI (firstS D M s)) (nI p) τ = K2 (nI (k + 1)) τ' := by
  intro p
  have hM := hD.1
  -- the end of the loop: the new one is written at its place
  have fin : ∀ (p : Nat) (τ : Mem), p ≤ k → shI D M τ R p k → τ 10 k = nI s →
      ∃ τ', KRow τ τ' ∧ RowL D M τ' (R.take p ++ s :: R.drop p) ∧ j_X7_layRow_229 N K2 (nI k) (nI (lowS D M s)) (nI (highS D M s)) (nI (sumS D M s)) (nI (firstS D M s)) (nI p) τ = K2 (nI (k + 1)) τ' := by
    intro p τ hp hI h10
    refine ⟨mu (mu (mu (mu (mu τ 15 p (nI (firstS D M s))) 11 p (nI s)) 12 p (nI (sumS D M s))) 13 p (nI (lowS D M s))) 14 p (nI (highS D M s)), ?_, ?_, ?_⟩
    · intro a ha
      rw [mu_c (by omega), mu_c (by omega), mu_c (by omega), mu_c (by omega), mu_c (by omega)]
    · intro j r hr
      rw [take_drop_get (by omega)] at hr
      have sh : ∀ x, ent D M (mu (mu (mu (mu (mu τ 15 p (nI (firstS D M s))) 11 p (nI s)) 12 p (nI (sumS D M s))) 13 p (nI (lowS D M s))) 14 p (nI (highS D M s))) j x ↔ (upd (τ 11) p (nI s) j = nI x ∧ upd (τ 12) p (nI (sumS D M s)) j = nI (sumS D M x) ∧ upd (τ 13) p (nI (lowS D M s)) j = nI (lowS D M x) ∧ upd (τ 14) p (nI (highS D M s)) j = nI (highS D M x) ∧ upd (τ 15) p (nI (firstS D M s)) j = nI (firstS D M x)) := fun x => Iff.rfl
      rw [sh]
      by_cases h1 : j < p
      · rw [if_pos h1] at hr
        obtain ⟨x, x1, x2⟩ := hI.1 j h1
        rw [x1] at hr
        cases hr
        rw [upd_n _ (by omega), upd_n _ (by omega), upd_n _ (by omega), upd_n _ (by omega), upd_n _ (by omega)]
        exact x2
      · rw [if_neg h1] at hr
        by_cases h2 : j = p
        · subst h2
          rw [if_pos rfl] at hr
          cases hr
          rw [upd_s, upd_s, upd_s, upd_s, upd_s]
          exact ⟨rfl, rfl, rfl, rfl, rfl⟩
        · rw [if_neg h2] at hr
          have hjk : j ≤ k := by
            have := (List.getElem?_eq_some_iff.mp hr).1
            omega
          obtain ⟨x, x1, x2⟩ := hI.2 j (by omega) hjk
          rw [x1] at hr
          cases hr
          rw [upd_n _ (by omega), upd_n _ (by omega), upd_n _ (by omega), upd_n _ (by omega), upd_n _ (by omega)]
          exact x2
    · have g1 (v : Int32) : mu τ 15 p v 10 k = nI s := h10
      simp only [j_X7_layRow_229, m_let, inb_n (show p < 12 by omega) (by omega), inb_n hk (by omega), gd_t, nI_clamp (show p < 2 ^ 31 by omega), nI_clamp (show k < 2 ^ 31 by omega), g1, nI_1]
  induction p with
  | zero =>
    intro n τ hp hn hI h10 hgt
    obtain ⟨n, rfl⟩ : ∃ n', n = n' + 1 := ⟨n - 1, by omega⟩
    obtain ⟨τ', f1, f2, f3⟩ := fin 0 τ (by omega) hI h10
    refine ⟨τ', 0, by omega, fun r h0 => absurd h0 (Nat.lt_irrefl 0), fun j r _ hr => hgt j r (Nat.zero_le j) hr, f1, f2, ?_⟩
    have hc : nI 0 ≤ 0 := by decide
    simp only [l_X7_layRow_124, b_X7_layRow_124, if_pos hc]
    exact f3
  | succ p ih =>
    intro n τ hp hn hI h10 hgt
    obtain ⟨n, rfl⟩ : ∃ n', n = n' + 1 := ⟨n - 1, by omega⟩
    obtain ⟨r, r1, r2⟩ := hI.1 p (by omega)
    have hc : ¬ nI (p + 1) ≤ 0 := nI_nle (by omega) (by omega)
    by_cases hk2 : klt D M s r
    · -- shift
      obtain ⟨e1, e2, e3, e4, e5⟩ := r2
      have hI' : shI D M (mu (mu (mu (mu (mu τ 15 (p + 1) (nI (firstS D M r))) 11 (p + 1) (nI r)) 12 (p + 1) (nI (sumS D M r))) 13 (p + 1) (nI (lowS D M r))) 14 (p + 1) (nI (highS D M r))) R p k := by
        have sh : ∀ j x, ent D M (mu (mu (mu (mu (mu τ 15 (p + 1) (nI (firstS D M r))) 11 (p + 1) (nI r)) 12 (p + 1) (nI (sumS D M r))) 13 (p + 1) (nI (lowS D M r))) 14 (p + 1) (nI (highS D M r))) j x ↔ (upd (τ 11) (p + 1) (nI r) j = nI x ∧ upd (τ 12) (p + 1) (nI (sumS D M r)) j = nI (sumS D M x) ∧ upd (τ 13) (p + 1) (nI (lowS D M r)) j = nI (lowS D M x) ∧ upd (τ 14) (p + 1) (nI (highS D M r)) j = nI (highS D M x) ∧ upd (τ 15) (p + 1) (nI (firstS D M r)) j = nI (firstS D M x)) := fun _ _ => Iff.rfl
        refine ⟨fun j hj => ?_, fun j hj hj2 => ?_⟩
        · obtain ⟨x, x1, x2⟩ := hI.1 j (by omega)
          refine ⟨x, x1, (sh j x).mpr ?_⟩
          rw [upd_n _ (by omega), upd_n _ (by omega), upd_n _ (by omega), upd_n _ (by omega), upd_n _ (by omega)]
          exact x2
        · by_cases e : j = p + 1
          · subst e
            refine ⟨r, r1, (sh _ r).mpr ?_⟩
            rw [upd_s, upd_s, upd_s, upd_s, upd_s]
            exact ⟨rfl, rfl, rfl, rfl, rfl⟩
          · obtain ⟨x, x1, x2⟩ := hI.2 j (by omega) hj2
            refine ⟨x, x1, (sh j x).mpr ?_⟩
            rw [upd_n _ e, upd_n _ e, upd_n _ e, upd_n _ e, upd_n _ e]
            exact x2
      obtain ⟨τ', q, i1, i2, i3, i4, i5, i6⟩ := ih n _ (by omega) (by omega) hI' h10 (fun j x hj hx => by
        by_cases e : j = p
        · subst e
          rw [r1] at hx
          cases hx
          exact hk2
        · exact hgt j x (by omega) hx)
      refine ⟨τ', q, i1, i2, i3, KRow.tr (fun a ha => by rw [mu_c (by omega), mu_c (by omega), mu_c (by omega), mu_c (by omega), mu_c (by omega)]) i4, i5, ?_⟩
      have m1 : nI (p + 1) - 1 = nI p := n_m1
      have m2 : nI (p + 1) + (-1) = nI p := pk_m1 p
      have t1 (v : Int32) : mu τ 15 (p + 1) v 11 p = nI r := e1
      have t2 (v u : Int32) : mu (mu τ 15 (p + 1) v) 11 (p + 1) u 12 p = nI (sumS D M r) := e2
      have t3 (v u x : Int32) : mu (mu (mu τ 15 (p + 1) v) 11 (p + 1) u) 12 (p + 1) x 13 p = nI (lowS D M r) := e3
      have t4 (v u x y : Int32) : mu (mu (mu (mu τ 15 (p + 1) v) 11 (p + 1) u) 12 (p + 1) x) 13 (p + 1) y 14 p = nI (highS D M r) := e4
      simp only [l_X7_layRow_124, b_X7_layRow_124, if_neg hc, m1, m2, e_ahead (N := N) hD (s := s) (show p < 12 by omega) ⟨e1, e2, e3, e4, e5⟩, bnd_s, cdec_t hk2, b2i_t, m_let, inb_n (show p < 12 by omega) (by omega), inb_n (show p + 1 < 12 by omega) (by omega), gd_t, nI_clamp (show p < 2 ^ 31 by omega), nI_clamp (show p + 1 < 2 ^ 31 by omega), e5, t1, t2, t3, t4]
      rw [if_neg (by decide)]
      exact i6
    · obtain ⟨τ', f1, f2, f3⟩ := fin (p + 1) τ hp hI h10
      refine ⟨τ', p + 1, hp, fun x _ hx => ?_, hgt, f1, f2, ?_⟩
      · rw [show p + 1 - 1 = p from rfl, r1] at hx
        cases hx
        exact hk2
      · have m1 : nI (p + 1) - 1 = nI p := n_m1
        simp only [l_X7_layRow_124, b_X7_layRow_124, if_neg hc, m1, e_ahead (N := N) hD (s := s) (show p < 12 by omega) r2, bnd_s, cdec_f hk2, b2i_f, ↓reduceIte]
        exact f3
theorem klt_trans {a b c : Nat} (h1 : ¬ klt D M b a) (h2 : ¬ klt D M c b) : ¬ klt D M c a := by
  unfold klt at *
  omega
theorem klt_asymm {a b : Nat} (h1 : klt D M a b) : ¬ klt D M b a := by
  unfold klt at *
  omega
/-- insertion keeps the order -/
theorem ins_sorted {R : List Nat} {s q : Nat} (hs : R.Pairwise (fun a b => ¬ klt D M b a)) (hq : q ≤ R.length) (h1 : ∀ r, 0 < q → R[q - 1]? = some r → ¬ klt D M s r) (h2 : ∀ j r, q ≤ j → R[j]? = some r → klt D M s r) : (R.take q ++ s :: R.drop q).Pairwise (fun a b => ¬ klt D M b a) := by
  have hall : ∀ a ∈ R.take q, ¬ klt D M s a := by
    intro a ha
    obtain ⟨i, hi⟩ := List.getElem?_of_mem ha
    have hil : i < q := by
      have := (List.getElem?_eq_some_iff.mp hi).1
      rw [List.length_take] at this
      omega
    rw [List.getElem?_take, if_pos hil] at hi
    have hl : q - 1 < R.length := by omega
    have hr : R[q - 1]? = some R[q - 1] := List.getElem?_eq_getElem hl
    have h3 := h1 _ (by omega) hr
    by_cases e : i = q - 1
    · subst e
      rw [hr] at hi
      cases hi
      exact h3
    · have hi2 := (List.getElem?_eq_some_iff.mp hi)
      have h4 := List.pairwise_iff_getElem.mp hs i (q - 1) hi2.1 hl (by omega)
      rw [hi2.2] at h4
      exact klt_trans h4 h3
  have hd : ∀ b ∈ R.drop q, klt D M s b := by
    intro b hb
    obtain ⟨i, hi⟩ := List.getElem?_of_mem hb
    rw [List.getElem?_drop] at hi
    exact h2 (q + i) b (by omega) hi
  rw [List.pairwise_append]
  refine ⟨hs.sublist (List.take_sublist q R), ?_, ?_⟩
  · rw [List.pairwise_cons]
    exact ⟨fun b hb => klt_asymm (hd b hb), hs.sublist (List.drop_sublist q R)⟩
  · intro a ha b hb
    rcases List.mem_cons.mp hb with rfl | hb
    · exact hall a ha
    · have := hd b hb
      have := hall a ha
      unfold klt at *
      omega
theorem ins_perm {R P : List Nat} {s q : Nat} (h : R.Perm P) : (R.take q ++ s :: R.drop q).Perm (P ++ [s]) := by
  refine List.Perm.trans List.perm_middle ?_
  rw [List.take_append_drop]
  exact ((List.Perm.cons s h).trans (List.perm_append_singleton s P).symm)
theorem lp_row (hN : 13 ≤ N) (hD : LD M D) {P : List Nat} (hP : P.length ≤ 12) (hok : ∀ s ∈ P, okS M s) : ∀ m k n (τ : Mem) (R : List Nat), k + m = P.length → m < n → LR τ M D → τ 0 22 = nI P.length → (∀ j s, P[j]? = some s → τ 10 j = nI s) → R.Perm (P.take k) → R.Pairwise (fun a b => ¬ klt D M b a) → RowL D M τ R →
    ∃ τ' R', l_X7_layRow_2 N n (nI k) τ = some (0, τ') ∧ KRow τ τ' ∧ R'.Perm P ∧ R'.Pairwise (fun a b => ¬ klt D M b a) ∧ RowL D M τ' R' := by
  intro m
  have hM := hD.1
  induction m with
  | zero =>
    intro k n τ R hk hn h h22 h10 hp hs hr
    obtain ⟨n, rfl⟩ : ∃ n', n = n' + 1 := ⟨n - 1, by omega⟩
    have e : k = P.length := by omega
    subst e
    have hc : nI P.length ≤ nI P.length := by rw [n_le (by omega) (by omega)]; omega
    refine ⟨τ, R, ?_, KRow.rf τ, by rw [List.take_length] at hp; exact hp, hs, hr⟩
    simp only [l_X7_layRow_2, b_X7_layRow_2, h22, if_pos hc]
  | succ m ih =>
    intro k n τ R hk hn h h22 h10 hp hs hr
    obtain ⟨n, rfl⟩ : ∃ n', n = n' + 1 := ⟨n - 1, by omega⟩
    have hkl : k < P.length := by omega
    obtain ⟨s, hsP⟩ : ∃ s, P[k]? = some s := ⟨_, List.getElem?_eq_getElem hkl⟩
    have hos := hok s (List.mem_of_getElem? hsP)
    have hk10 := h10 k s hsP
    have hc : ¬ nI P.length ≤ nI k := fun q => by rw [n_le (by omega) (by omega)] at q; omega
    have hRl : R.length = k := by
      rw [hp.length_eq, List.length_take]
      omega
    have hI : shI D M τ R k k := ⟨fun j hj => by
      obtain ⟨x, hx⟩ : ∃ x, R[j]? = some x := ⟨_, List.getElem?_eq_getElem (by omega)⟩
      exact ⟨x, hx, hr j x hx⟩, fun j h1 h2 => by omega⟩
    obtain ⟨τ1, q, q1, q2, q3, q4, q5, q6⟩ := lp_rowC (N := N) hD (s := s) (show k < 12 by omega) hRl (l_X7_layRow_2 N n) k N τ (Nat.le_refl k) (by omega) hI hk10 (fun j r hj hx => by
      have := (List.getElem?_eq_some_iff.mp hx).1
      omega)
    have hperm : (R.take q ++ s :: R.drop q).Perm (P.take (k + 1)) := by
      rw [List.take_add_one, hsP]
      exact ins_perm hp
    have hsort := ins_sorted hs (by omega) q2 q3
    obtain ⟨τ', R', i1, i2, i3, i4, i5⟩ := ih (k + 1) n τ1 _ (by omega) (by omega) (h.keep q4.kr) (by rw [q4 0 (by omega)]; exact h22) (fun j x hx => by rw [q4 10 (by omega)]; exact h10 j x hx) hperm hsort q5
    refine ⟨τ', R', ?_, q4.tr i2, i3, i4, i5⟩
    have eA := lp_rowA (N := N) (k := k) hD h hos.1 (l_X7_layRow_2 N n) M 0 N (by omega) (by omega)
    rw [hib_0, okS_high hD hos] at eA
    obtain ⟨f1, -, -⟩ := firstS_ok hD hos
    have eB := lp_rowB (N := N) hD h (show k < 12 by omega) hos hk10 (l_X7_layRow_2 N n) (nI (highS D M s)) (nI (sumS D M s)) (firstS D M s) 0 N (by omega) (by omega)
    simp only [l_X7_layRow_2, b_X7_layRow_2, h22, if_neg hc, m_leti, inb_n (show k < 12 by omega) (by omega), gd_t, nI_clamp (show k < 2 ^ 31 by omega), hk10]
    rw [← i1, ← q6, ← eB]
    exact eA
theorem e_layRow (hN : 13 ≤ N) (hD : LD M D) {P : List Nat} (hP : P.length ≤ 12) (hok : ∀ s ∈ P, okS M s) {τ : Mem} (h : LR τ M D) (h22 : τ 0 22 = nI P.length) (h10 : ∀ j s, P[j]? = some s → τ 10 j = nI s) :
    ∃ τ' R, f_X7_layRow N τ = some (0, τ') ∧ KRow τ τ' ∧ R.Perm P ∧ R.Pairwise (fun a b => ¬ klt D M b a) ∧ RowL D M τ' R :=
  lp_row hN hD hP hok P.length 0 N τ [] (by omega) (by omega) h h22 h10 (List.Perm.refl _) List.Pairwise.nil (fun j s hs => by simp at hs)
end ROW2
