/-! hours that stand alike to each other: the same partings are lawful, and bring as much -/
def HS (g : Nat → Int32) (M : Nat) (D D' : Nat → Nat → Nat) : Prop := (D 0 = D' 0 ∧ D 2 = D' 2 ∧ D 3 = D' 3 ∧ D 4 = D' 4) ∧ ∀ i j, i < M → j < M → (rlt D i j ↔ rlt D' i j) ∧ (nearH g D i j ↔ nearH g D' i j) ∧ (D 1 i + wv g 4 < D 1 j ↔ D' 1 i + wv g 4 < D' 1 j)
section ALIKE
variable {M : Nat} {D D' : Nat → Nat → Nat} {g : Nat → Int32}
theorem hs_sy (h : HS g M D D') : HS g M D' D := ⟨⟨h.1.1.symm, h.1.2.1.symm, h.1.2.2.1.symm, h.1.2.2.2.symm⟩, fun i j hi hj => ⟨(h.2 i j hi hj).1.symm, (h.2 i j hi hj).2.1.symm, (h.2 i j hi hj).2.2.symm⟩⟩
/-- the first of a set is ahead of all others of it -/
theorem first_min (hD : LD M D) {s : Nat} (h : okS M s) {y : Nat} (hy : y < M) (hs : s.testBit y = true) : y = firstS D M s ∨ rlt D (firstS D M s) y := by
  obtain ⟨f1, f2, f3⟩ := firstS_ok hD h
  have a := low_of (D := D) hy hs
  rcases Nat.lt_or_ge (D 1 (firstS D M s)) (D 1 y) with q | q
  · exact Or.inr (Or.inl q)
  · have e : D 1 y = lowS D M s := by omega
    rcases Nat.lt_trichotomy y (firstS D M s) with w | w | w
    · have no := fa_first_no (fun j => s.testBit j && decide (D 1 j = lowS D M s)) M y w
      have yes : (s.testBit y && decide (D 1 y = lowS D M s)) = true := by rw [hs, decide_eq_true e]; rfl
      rw [show (s.testBit y && decide (D 1 y = lowS D M s)) = false from no] at yes
      cases yes
    · exact Or.inl w
    · exact Or.inr (Or.inr ⟨by omega, w⟩)
theorem hs_first (hD : LD M D) (hD' : LD M D') (h : HS g M D D') {s : Nat} (hs : okS M s) : firstS D' M s = firstS D M s := by
  obtain ⟨f1, f2, f3⟩ := firstS_ok hD hs
  exact (firstS_at hD' f1 f2 (fun y hy hy2 => (first_min hD hs hy hy2).imp id (fun q => (h.2 _ _ f1 hy).1.mp q))).1
theorem klt_rlt (hD : LD M D) {a b : Nat} (ha : okS M a) (hb : okS M b) : klt D M a b ↔ rlt D (firstS D M a) (firstS D M b) := by
  obtain ⟨-, -, a3⟩ := firstS_ok hD ha
  obtain ⟨-, -, b3⟩ := firstS_ok hD hb
  unfold klt rlt
  rw [a3, b3]
theorem hs_klt (hD : LD M D) (hD' : LD M D') (h : HS g M D D') {a b : Nat} (ha : okS M a) (hb : okS M b) (q : klt D M a b) : klt D' M a b := by
  rw [klt_rlt hD ha hb] at q
  rw [klt_rlt hD' ha hb, hs_first hD hD' h ha, hs_first hD hD' h hb]
  exact (h.2 _ _ (firstS_ok hD ha).1 (firstS_ok hD hb).1).1.mp q
theorem hs_gap (hD' : LD M D') (h : HS g M D D') {a b : Nat} (ha : okS M a) (hb : okS M b) (q : highS D M a + wv g 4 < lowS D M b) : highS D' M a + wv g 4 < lowS D' M b := by
  obtain ⟨f1, f2, f3⟩ := firstS_ok hD' hb
  obtain ⟨x, hx, hxs⟩ := okS_j ha
  rcases high_at (D' 1) a M with e | ⟨i, i1, i2, i3⟩
  · rw [e x hx] at hxs; cases hxs
  · have a1 := high_of (D := D) i1 i2
    have a2 := low_of (D := D) f1 f2
    have a3 := (h.2 i (firstS D' M b) i1 f1).2.2.mp (by omega)
    have e2 : highS D' M a = D' 1 i := i3
    rw [e2, ← f3]
    exact a3
theorem hs_one (h : HS g M D D') {s : Nat} (q : ONE g D M s) : ONE g D' M s := by
  obtain ⟨q1, q2⟩ := q
  refine ⟨fun i j hi hj a b => ?_, by rw [← h.1.2.2.2]; exact q2⟩
  have t := q1 i j hi hj a b
  have t2 := t.2
  refine ⟨(h.2 i j hi hj).2.1.mp t.1, ?_⟩
  unfold nearM at t2 ⊢
  rw [← h.1.2.1, ← h.1.2.2.1]
  exact t2
theorem hs_law (hD : LD M D) (hD' : LD M D') (h : HS g M D D') {S : Nat} {R : List Nat} (q : Law D M S [g] R) : Law D' M S [g] R := by
  obtain ⟨q1, q2, q3, q4, q5⟩ := q
  refine ⟨fun s hs => ⟨(q1 s hs).1, fun g' hg' => ?_⟩, q2, q3, q4.imp_of_mem (fun {a b} ha hb w => hs_klt hD hD' h (q1 a ha).1 (q1 b hb).1 w), fun g' hg' h3 => ?_⟩
  · have t := (q1 s hs).2 g' hg'
    rw [List.mem_singleton.mp hg'] at t ⊢
    exact hs_one h t
  · have t := q5 g' hg' h3
    rw [List.mem_singleton.mp hg'] at t ⊢
    unfold gapL at t ⊢
    exact t.imp_of_mem (fun {a b} ha hb w => hs_gap hD' h (q1 a ha).1 (q1 b hb).1 w)
theorem hs_val (h : HS g M D D') (nt : List Nat → Int32) (R : List Nat) : val D M [g] nt R = val D' M [g] nt R := by
  have e : sumS D M = sumS D' M := by
    funext s
    unfold sumS
    rw [h.1.1]
  unfold val
  rw [e]
theorem hs_VV (hD : LD M D) (hD' : LD M D') (h : HS g M D D') (S : Nat) : VV D M S g = VV D' M S g := by
  funext v
  apply propext
  constructor
  · rintro ⟨R, l1, l2⟩
    exact ⟨R, hs_law hD hD' h l1, l2.trans (hs_val h _ _)⟩
  · rintro ⟨R, l1, l2⟩
    exact ⟨R, hs_law hD' hD (hs_sy h) l1, l2.trans (hs_val (hs_sy h) _ _)⟩
end ALIKE
/-! one loss's hour set -/
def Dh (D : Nat → Nat → Nat) (k h : Nat) : Nat → Nat → Nat := fun a j => if a = 1 ∧ j = k then h else D a j
/-- at hour hr the loss k stands to the loss j otherwise than an hour before -/
def stP (g : Nat → Int32) (D : Nat → Nat → Nat) (k hr j : Nat) : Prop := j ≠ k ∧ ((hr = D 1 j ∨ hr = D 1 j + 1) ∨ (hr + wv g 0 = D 1 j + 1 ∨ hr = D 1 j + wv g 0) ∨ (hr + wv g 4 = D 1 j ∨ hr = D 1 j + wv g 4 + 1))
section HOUR
variable {M k : Nat} {D : Nat → Nat → Nat} {g : Nat → Int32} {σ : Mem}
theorem Dh_o {h a j : Nat} (q : ¬ (a = 1 ∧ j = k)) : Dh D k h a j = D a j := if_neg q
theorem Dh_k {h : Nat} : Dh D k h 1 k = h := if_pos ⟨rfl, rfl⟩
theorem Dh_r {h a : Nat} (q : a ≠ 1) : Dh D k h a = D a := funext fun _ => if_neg (fun w => q w.1)
theorem Dh_Dh {h h' : Nat} : Dh (Dh D k h) k h' = Dh D k h' := by
  funext a j
  by_cases q : a = 1 ∧ j = k
  · rw [q.1, q.2, Dh_k, Dh_k]
  · rw [Dh_o q, Dh_o q, Dh_o q]
theorem LD_h (hD : LD M D) {h : Nat} (hh : h ≤ 999) : LD M (Dh D k h) := by
  refine ⟨hD.1, fun j hj => ?_⟩
  have d := hD.2 j hj
  rw [Dh_r (a := 0) (by decide), Dh_r (a := 2) (by decide), Dh_r (a := 3) (by decide), Dh_r (a := 4) (by decide)]
  by_cases q : j = k
  · subst q
    rw [Dh_k]
    omega
  · rw [Dh_o (fun w => q w.2)]
    exact d
theorem hs_step {h : Nat} (hg : wfC g) (no : ∀ j, j < M → ¬ stP g D k (h + 1) j) : HS g M (Dh D k h) (Dh D k (h + 1)) := by
  have w0 := (wf0 hg).2
  refine ⟨⟨(Dh_r (by decide)).trans (Dh_r (by decide)).symm, (Dh_r (by decide)).trans (Dh_r (by decide)).symm, (Dh_r (by decide)).trans (Dh_r (by decide)).symm, (Dh_r (by decide)).trans (Dh_r (by decide)).symm⟩, fun i j hi hj => ?_⟩
  have e1 : Dh D k h 1 k = h := Dh_k
  have e2 : Dh D k (h + 1) 1 k = h + 1 := Dh_k
  have eo : ∀ x, x ≠ k → Dh D k h 1 x = D 1 x ∧ Dh D k (h + 1) 1 x = D 1 x := fun x hx => ⟨Dh_o (fun w => hx w.2), Dh_o (fun w => hx w.2)⟩
  unfold rlt nearH adist
  by_cases ei : i = k
  · by_cases ej : j = k
    · rw [ei, ej, e1, e2]
      exact ⟨by omega, by omega, by omega⟩
    · have n1 := no j hj
      unfold stP at n1
      rw [ei, e1, e2, (eo j ej).1, (eo j ej).2]
      exact ⟨by omega, by omega, by omega⟩
  · by_cases ej : j = k
    · have n1 := no i hi
      unfold stP at n1
      rw [ej, e1, e2, (eo i ei).1, (eo i ei).2]
      exact ⟨by omega, by omega, by omega⟩
    · rw [(eo i ei).1, (eo i ei).2, (eo j ej).1, (eo j ej).2]
      exact ⟨Iff.rfl, Iff.rfl, Iff.rfl⟩
theorem mu_mu (σ : Mem) (i j : Nat) (v w : Int32) : mu (mu σ i j v) i j w = mu σ i j w := by
  funext a b
  rw [mu_e, mu_e, mu_e]
  by_cases c : a = i ∧ b = j
  · rw [if_pos c, if_pos c]
  · rw [if_neg c, if_neg c, if_neg c]
theorem mu_own (σ : Mem) (i j : Nat) : mu σ i j (σ i j) = σ := by
  funext a b
  rw [mu_e]
  by_cases c : a = i ∧ b = j
  · rw [if_pos c, c.1, c.2]
  · rw [if_neg c]
theorem Dof_mu {h : Nat} (hh : h < 2 ^ 31) : Dof (mu σ 27 k (nI h)) = Dh (Dof σ) k h := by
  funext a j
  by_cases q : a = 1 ∧ j = k
  · rw [q.1, q.2, Dh_k]
    show (mu σ 27 k (nI h) 27 k).toNatClampNeg = h
    rw [mu_s, nI_clamp hh]
  · rw [Dh_o q]
    rcases a with _ | _ | _ | _ | _ | a
    · show (mu σ 27 k (nI h) 26 j).toNatClampNeg = (σ 26 j).toNatClampNeg
      rw [mu_c (by decide)]
    · show (mu σ 27 k (nI h) 27 j).toNatClampNeg = (σ 27 j).toNatClampNeg
      rw [mu_k (fun e => q ⟨rfl, e⟩)]
    · show (mu σ 27 k (nI h) 29 j).toNatClampNeg = (σ 29 j).toNatClampNeg
      rw [mu_c (by decide)]
    · show (mu σ 27 k (nI h) 30 j).toNatClampNeg = (σ 30 j).toNatClampNeg
      rw [mu_c (by decide)]
    · show (mu σ 27 k (nI h) 31 j).toNatClampNeg = (σ 31 j).toNatClampNeg
      rw [mu_c (by decide)]
    · show (mu σ 27 k (nI h) 32 j).toNatClampNeg = (σ 32 j).toNatClampNeg
      rw [mu_c (by decide)]
theorem KQ_Dof {σ' : Mem} (h : KQ σ σ') : Dof σ' = Dof σ := by
  funext a j
  rcases a with _ | _ | _ | _ | _ | a
  · show (σ' 26 j).toNatClampNeg = (σ 26 j).toNatClampNeg
    rw [h 26 j (by unfold psG; omega)]
  · show (σ' 27 j).toNatClampNeg = (σ 27 j).toNatClampNeg
    rw [h 27 j (by unfold psG; omega)]
  · show (σ' 29 j).toNatClampNeg = (σ 29 j).toNatClampNeg
    rw [h 29 j (by unfold psG; omega)]
  · show (σ' 30 j).toNatClampNeg = (σ 30 j).toNatClampNeg
    rw [h 30 j (by unfold psG; omega)]
  · show (σ' 31 j).toNatClampNeg = (σ 31 j).toNatClampNeg
    rw [h 31 j (by unfold psG; omega)]
  · show (σ' 32 j).toNatClampNeg = (σ 32 j).toNatClampNeg
    rw [h 32 j (by unfold psG; omega)]
theorem KR_mu {τ τ' : Mem} {x : Int32} (h : KR (mu τ 4 k x) τ') (y : Int32) : KR (mu τ 4 k y) (mu τ' 4 k y) := by
  intro a j q
  rw [mu_e, mu_e]
  by_cases c : a = 4 ∧ j = k
  · rw [if_pos c, if_pos c]
  · rw [if_neg c, if_neg c, h a j q, mu_e, if_neg c]
end HOUR
/-! whether the loss stands anew, by the class -/
theorem or_if {P Q : Prop} {i : Decidable P} {j : Decidable Q} (F : Int32 → Option (Int32 × Mem)) : (@ite _ P i (F 1) (@ite _ Q j (F 1) (F 0))) = F (if P ∨ Q then 1 else 0) := by
  by_cases p : P
  · rw [if_pos p, if_pos (Or.inl p)]
  · by_cases q : Q
    · rw [if_neg p, if_pos q, if_pos (Or.inr q)]
    · rw [if_neg p, if_neg q, if_neg (fun w => w.elim p q)]
theorem if_c {P Q : Prop} {i : Decidable P} {j : Decidable Q} (h : P ↔ Q) (a b : Option (Int32 × Mem)) : @ite _ P i a b = @ite _ Q j a b := by
  by_cases q : Q
  · rw [if_pos q, if_pos (h.mpr q)]
  · rw [if_neg q, if_neg (fun p => q (h.mp p))]
theorem i01 {P : Prop} {i : Decidable P} : (@ite _ P i (1 : Int32) 0) = 0 ↔ ¬ P := by
  by_cases p : P
  · rw [if_pos p]
    exact ⟨fun q => absurd q (by decide), fun q => absurd p q⟩
  · rw [if_neg p]
    exact ⟨fun _ => p, fun _ => rfl⟩
section STANDS
variable {N M k : Nat} {D : Nat → Nat → Nat} {g : Nat → Int32} {σ : Mem}
theorem st_102 (K : Int32 → Int32 → Int32 → Int32 → Int32 → Mem → Option (Int32 × Mem)) (x1 x2 x4 x5 x6 x8 x9 y0 : Int32) : j_X1_standsAnewAt_102 N K x1 x2 x4 x5 x6 x8 x9 y0 σ = if x6 = x2 ∨ (x8 = 0 ∧ x9 = 0 ∧ y0 = 0) then K x1 x2 x4 x5 (x6 + 1) σ else some (1, σ) := by
  unfold j_X1_standsAnewAt_102
  rw [isb_1, gd_t]
  by_cases a : x6 = x2
  · rw [if_pos a, if_pos (Or.inl a)]
  · rw [if_neg a]
    by_cases b : x8 = 0
    · by_cases c : x9 = 0
      · by_cases d : y0 = 0
        · rw [if_pos b, if_pos c, if_pos d, if_pos (Or.inr ⟨b, c, d⟩)]
        · rw [if_pos b, if_pos c, if_neg d, if_neg (fun q => d (q.resolve_left a).2.2)]
      · rw [if_pos b, if_neg c, if_neg (fun q => c (q.resolve_left a).2.1)]
    · rw [if_neg b, if_neg (fun q => b (q.resolve_left a).1)]
theorem st_78 (K : Int32 → Int32 → Int32 → Int32 → Int32 → Mem → Option (Int32 × Mem)) (x1 x2 x4 x5 x6 x7 x8 y0 : Int32) : j_X1_standsAnewAt_78 N K x1 x2 x4 x5 x6 x7 x8 y0 σ = j_X1_standsAnewAt_102 N K x1 x2 x4 x5 x6 x8 y0 (if x7 = -x5 ∨ x7 = x5 + 1 then 1 else 0) σ := or_if (fun y => j_X1_standsAnewAt_102 N K x1 x2 x4 x5 x6 x8 y0 y σ)
theorem st_55 (K : Int32 → Int32 → Int32 → Int32 → Int32 → Mem → Option (Int32 × Mem)) (x1 x2 x4 x5 x6 x7 y0 : Int32) : j_X1_standsAnewAt_55 N K x1 x2 x4 x5 x6 x7 y0 σ = j_X1_standsAnewAt_78 N K x1 x2 x4 x5 x6 x7 y0 (if x7 = 1 - x4 ∨ x7 = x4 then 1 else 0) σ := or_if (fun y => j_X1_standsAnewAt_78 N K x1 x2 x4 x5 x6 x7 y0 y σ)
theorem st_19a (K : Int32 → Int32 → Int32 → Int32 → Int32 → Mem → Option (Int32 × Mem)) (x1 x2 x4 x5 x6 u : Int32) : (if u = 0 then j_X1_standsAnewAt_55 N K x1 x2 x4 x5 x6 u 1 σ else (if u = 1 then j_X1_standsAnewAt_55 N K x1 x2 x4 x5 x6 u 1 σ else j_X1_standsAnewAt_55 N K x1 x2 x4 x5 x6 u 0 σ)) = j_X1_standsAnewAt_55 N K x1 x2 x4 x5 x6 u (if u = 0 ∨ u = 1 then 1 else 0) σ := or_if (fun y => j_X1_standsAnewAt_55 N K x1 x2 x4 x5 x6 u y σ)
theorem st_19 (K : Int32 → Int32 → Int32 → Int32 → Int32 → Mem → Option (Int32 × Mem)) (x1 x2 x4 x5 x6 u : Int32) : (if u = 0 then j_X1_standsAnewAt_55 N K x1 x2 x4 x5 x6 u 1 σ else (if u = 1 then j_X1_standsAnewAt_55 N K x1 x2 x4 x5 x6 u 1 σ else j_X1_standsAnewAt_55 N K x1 x2 x4 x5 x6 u 0 σ)) = if x6 = x2 ∨ ((¬ (u = 0 ∨ u = 1)) ∧ (¬ (u = 1 - x4 ∨ u = x4)) ∧ ¬ (u = -x5 ∨ u = x5 + 1)) then K x1 x2 x4 x5 (x6 + 1) σ else some (1, σ) := by
  rw [st_19a, st_55, st_78, st_102]
  exact if_c (or_congr Iff.rfl (and_congr i01 (and_congr i01 i01))) _ _
theorem n_sub_int {a b : Nat} (ha : a ≤ 9999) (hb : b ≤ 9999) : (nI a - nI b).toInt = (a : Int) - (b : Int) := by
  rw [Int32.toInt_sub, nI_toInt (by omega), nI_toInt (by omega), Int.bmod_eq_of_le (by omega) (by omega)]
theorem n_sub_eq {a b c d : Nat} (ha : a ≤ 9999) (hb : b ≤ 9999) (hc : c ≤ 9999) (hd : d ≤ 9999) : nI a - nI b = nI c - nI d ↔ a + d = c + b := by
  rw [fa_eq, n_sub_int ha hb, n_sub_int hc hd]
  omega
theorem n_sub_0 (x : Int32) : x - nI 0 = x := Int32.sub_zero x
theorem n_0_sub (x : Int32) : nI 0 - x = -x := Int32.zero_sub x
theorem lp_st (hD : LD M D) (h : LC σ M D) (hg : wfC g) {hr : Nat} (hh : hr ≤ 999) (hk : k < M) : ∀ m i f, i + m = M → m < f →
    l_X1_standsAnewAt_19 N f (nI hr) (nI k) (g 0) (g 4) (nI i) σ = some (b2i (cdec (∃ j, i ≤ j ∧ j < M ∧ stP g D k hr j)), σ) := by
  have hM := hD.1
  obtain ⟨g0, g1, g2⟩ := wf0 hg
  obtain ⟨g4, g5⟩ := wf4 hg
  intro m
  induction m with
  | zero =>
    intro i f hi hf
    obtain ⟨f, rfl⟩ : ∃ q, f = q + 1 := ⟨f - 1, by omega⟩
    have e : i = M := by omega
    subst e
    have hle : nI i ≤ nI i := by rw [n_le (by omega) (by omega)]; omega
    simp only [l_X1_standsAnewAt_19, b_X1_standsAnewAt_19, h.1, if_pos hle, isb_0, gd_t]
    rw [cdec_f (show ¬ (∃ j, i ≤ j ∧ j < i ∧ stP g D k hr j) from fun ⟨j, a, b, _⟩ => by omega)]
    rfl
  | succ m ih =>
    intro i f hi hf
    obtain ⟨f, rfl⟩ : ∃ q, f = q + 1 := ⟨f - 1, by omega⟩
    have hle : ¬ nI M ≤ nI i := fun q => by rw [n_le (by omega) (by omega)] at q; omega
    have d1 := (hD.2 i (by omega)).2.2.1
    have ih := ih (i + 1) f (by omega) (by omega)
    simp only [l_X1_standsAnewAt_19, b_X1_standsAnewAt_19, h.1, if_neg hle, inb_n (show i < 12 by omega) (show 12 < 2 ^ 31 by omega), gd_t, nI_clamp (show i < 2 ^ 31 by omega), (h.2 i (by omega)).2.1, m_leti]
    rw [st_19, nI_1, ih]
    have c0 : nI i = nI k ↔ i = k := n_eq (by omega) (by omega)
    have c1 : nI hr - nI (D 1 i) = 0 ↔ hr = D 1 i := by
      rw [show (0 : Int32) = nI 0 - nI 0 by decide, n_sub_eq (by omega) (by omega) (by omega) (by omega)]; omega
    have c2 : nI hr - nI (D 1 i) = 1 ↔ hr = D 1 i + 1 := by
      rw [show (1 : Int32) = nI 1 - nI 0 by decide, n_sub_eq (by omega) (by omega) (by omega) (by omega)]; omega
    have c3 : nI hr - nI (D 1 i) = 1 - g 0 ↔ hr + wv g 0 = D 1 i + 1 := by
      rw [g0, show (1 : Int32) = nI 1 from rfl, n_sub_eq (by omega) (by omega) (by omega) (by omega)]; omega
    have c4 : nI hr - nI (D 1 i) = g 0 ↔ hr = D 1 i + wv g 0 := by
      rw [g0, ← n_sub_0 (nI (wv g 0)), n_sub_eq (by omega) (by omega) (by omega) (by omega)]; omega
    have c5 : nI hr - nI (D 1 i) = -(g 4) ↔ hr + wv g 4 = D 1 i := by
      rw [g4, ← n_0_sub (nI (wv g 4)), n_sub_eq (by omega) (by omega) (by omega) (by omega)]; omega
    have c6 : nI hr - nI (D 1 i) = g 4 + 1 ↔ hr = D 1 i + wv g 4 + 1 := by
      rw [g4, nI_1, ← n_sub_0 (nI (wv g 4 + 1)), n_sub_eq (by omega) (by omega) (by omega) (by omega)]; omega
    have key : (nI i = nI k ∨ ((¬ (nI hr - nI (D 1 i) = 0 ∨ nI hr - nI (D 1 i) = 1)) ∧ (¬ (nI hr - nI (D 1 i) = 1 - g 0 ∨ nI hr - nI (D 1 i) = g 0)) ∧ ¬ (nI hr - nI (D 1 i) = -(g 4) ∨ nI hr - nI (D 1 i) = g 4 + 1))) ↔ ¬ stP g D k hr i := by
      rw [c0, c1, c2, c3, c4, c5, c6]
      unfold stP
      omega
    by_cases q : stP g D k hr i
    · rw [if_neg (fun w => key.mp w q), cdec_t (show ∃ j, i ≤ j ∧ j < M ∧ stP g D k hr j from ⟨i, Nat.le_refl i, by omega, q⟩)]
      rfl
    · rw [if_pos (key.mpr q)]
      have e : (∃ j, i + 1 ≤ j ∧ j < M ∧ stP g D k hr j) ↔ ∃ j, i ≤ j ∧ j < M ∧ stP g D k hr j := by
        constructor
        · rintro ⟨j, a, b, c⟩; exact ⟨j, by omega, b, c⟩
        · rintro ⟨j, a, b, c⟩
          refine ⟨j, ?_, b, c⟩
          rcases Nat.lt_or_ge i j with w | w
          · omega
          · have : j = i := by omega
            rw [this] at c; exact absurd c q
      rw [show (∃ j, i + 1 ≤ j ∧ j < M ∧ stP g D k hr j) = _ from propext e]
theorem e_stands (hN : 13 ≤ N) (hD : LD M D) (h : LC σ M D) {c : Nat} (hc : c < 6) (hw : σ (8 + c) = g) (hg : wfC g) {hr : Nat} (hh : hr ≤ 999) (hk : k < M) : f_X1_standsAnewAt N (nI hr) (nI k) (nI c) σ = some (b2i (cdec (∃ j, 0 ≤ j ∧ j < M ∧ stP g D k hr j)), σ) := by
  have hM := hD.1
  have hl := lp_st (N := N) hD h hg hh hk M 0 N (by omega) (by omega)
  unfold f_X1_standsAnewAt
  simp only [inb_n (show c < 8 by omega) (show 8 < 2 ^ 31 by omega), nI_clamp (show c < 2 ^ 31 by omega), gd_t, m_leti, hw]
  rw [show inb 0 10 = true from rfl, gd_t, show inb 4 10 = true from rfl, gd_t]
  exact hl
end STANDS
