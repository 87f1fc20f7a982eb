/-! what the reference finds where all may overlap are the lawful partings -/
section GPL
variable {M C S : Nat} {D : Nat → Nat → Nat} {gs : Nat → Nat → Int32} {ask : Nat → Bool} {nt : List Nat → Int32}
def Good (D : Nat → Nat → Nat) (M : Nat) (G : List (Nat → Int32)) (S k : Nat) (P : List Nat) : Prop := (∀ s ∈ P, okS k s ∧ ONEs G D M s) ∧ P.Pairwise bdis ∧ ∀ j, (∃ s ∈ P, s.testBit j = true) ↔ S.testBit j = true ∧ j < k
theorem one_join (hw : ∀ c, c < C → wfC (gs c)) (hD : LD M D) {s k : Nat} (hk : k < M) (h : ONEs (askG ask gs C) D M s) (hcp : cpR D M ask gs C s k) : ONEs (askG ask gs C) D M (s ||| 2 ^ k) := by
  intro g hg
  obtain ⟨c, c1, c2, c3⟩ := (askG_mem C).mp hg
  have hs := h g hg
  have hwg : wfC g := by rw [c3]; exact hw c c1
  have hkt : ∀ t, s.testBit t = true → t < M → near g D k t := fun t ht htM => by
    have := hcp.1 t ht c c1 c2
    rw [c3]
    exact this.1 k t hk htM (or_t.mpr (Or.inl (by rw [two_t]))) (or_t.mpr (Or.inr rfl))
  refine ⟨fun i j hi hj a b => ?_, ?_⟩
  · rcases or_t.mp a with q1 | q1
    · rcases or_t.mp b with q2 | q2
      · exact hs.1 i j hi hj q1 q2
      · rw [← q2]; exact near_c (hkt i q1 hi)
    · rcases or_t.mp b with q2 | q2
      · rw [← q1]; exact hkt j q2 hj
      · rw [← q1, ← q2]; exact near_s hwg k
  · rcases hwg.2.2.1 with e | e
    · exact Or.inl e
    · refine Or.inr ?_
      rw [cand_or hD hk]
      exact hcp.2 ⟨c, c1, c2, by rw [← c3]; exact e⟩
theorem one_new (hw : ∀ c, c < C → wfC (gs c)) (hD : LD M D) {k : Nat} (hk : k < M) : ONEs (askG ask gs C) D M (2 ^ k) := by
  intro g hg
  obtain ⟨c, c1, c2, c3⟩ := (askG_mem C).mp hg
  have hwg : wfC g := by rw [c3]; exact hw c c1
  refine ⟨fun i j hi hj a b => ?_, Or.inr ?_⟩
  · rw [two_t] at a b
    rw [← a, ← b]; exact near_s hwg k
  · rw [cand_1 hD hk]
    have := (hD.2 k hk).2.2.2.2.2.1
    omega
theorem un_split {R : List Nat} {s0 : Nat} (h : s0 ∈ R) : ∃ A B, R = A ++ s0 :: B := List.append_of_mem h
theorem gp_sound (hw : ∀ c, c < C → wfC (gs c)) (hD : LD M D) : ∀ m k (P Q : List Nat), k + m = M → Good D M (askG ask gs C) S k P → GP S (cpR D M ask gs C) m k P Q → Good D M (askG ask gs C) S M Q
  | 0, k, P, Q, hk, h, hq => by
    have e : k = M := by omega
    subst e
    have hq : Q = P := hq
    rw [hq]
    exact h
  | m + 1, k, P, Q, hk, h, hq => by
    obtain ⟨h1, h2, h3⟩ := h
    rw [GP_s] at hq
    have hkM : k < M := by omega
    rcases hq with ⟨q1, q2⟩ | ⟨q1, ⟨p, s, q2, q3, q4⟩ | q2⟩
    · refine gp_sound hw hD m (k + 1) P Q (by omega) ⟨fun s hs => ⟨okS_up (h1 s hs).1 (by omega), (h1 s hs).2⟩, h2, fun j => ?_⟩ q2
      rw [h3 j]
      constructor
      · rintro ⟨a, b⟩; exact ⟨a, by omega⟩
      · rintro ⟨a, b⟩
        refine ⟨a, ?_⟩
        by_cases e : j = k
        · rw [e, q1] at a; cases a
        · omega
    · have hsm : s ∈ P := List.mem_of_getElem? q2
      have hpl := lt_get q2
      refine gp_sound hw hD m (k + 1) (P.set p (s ||| 2 ^ k)) Q (by omega) ⟨fun t ht => ?_, set_pw q2 h2 (fun t ht => (h1 t ht).1.1), fun j => ?_⟩ q4
      · rcases set_mem ht with w | w
        · exact ⟨okS_up (h1 t w).1 (by omega), (h1 t w).2⟩
        · rw [w]; exact ⟨okS_or (h1 s hsm).1, one_join hw hD hkM (h1 s hsm).2 q3⟩
      · constructor
        · rintro ⟨t, t1, t2⟩
          rcases set_mem t1 with w | w
          · have := (h3 j).mp ⟨t, w, t2⟩
            exact ⟨this.1, by omega⟩
          · rw [w, or_t] at t2
            rcases t2 with t2 | t2
            · have := (h3 j).mp ⟨s, hsm, t2⟩
              exact ⟨this.1, by omega⟩
            · rw [← t2]; exact ⟨q1, by omega⟩
        · rintro ⟨a, b⟩
          by_cases e : j = k
          · exact ⟨s ||| 2 ^ k, List.mem_set hpl _, or_t.mpr (Or.inr e.symm)⟩
          · obtain ⟨t, t1, t2⟩ := (h3 j).mpr ⟨a, by omega⟩
            obtain ⟨i, hi⟩ := List.getElem?_of_mem t1
            by_cases e2 : i = p
            · subst e2
              rw [hi] at q2
              rw [Option.some.inj q2] at t2
              exact ⟨s ||| 2 ^ k, List.mem_set hpl _, or_t.mpr (Or.inl t2)⟩
            · exact ⟨t, List.mem_of_getElem? (set_of hpl hi e2), t2⟩
    · refine gp_sound hw hD m (k + 1) (P ++ [2 ^ k]) Q (by omega) ⟨fun t ht => ?_, List.pairwise_append.mpr ⟨h2, List.pairwise_singleton _ _, fun a ha b hb => by
          rw [List.mem_singleton.mp hb]; exact bdis_lt (h1 a ha).1.1⟩, fun j => ?_⟩ q2
      · rcases List.mem_append.mp ht with w | w
        · exact ⟨okS_up (h1 t w).1 (by omega), (h1 t w).2⟩
        · rw [List.mem_singleton.mp w]; exact ⟨okS_2 k, one_new hw hD hkM⟩
      · constructor
        · rintro ⟨t, t1, t2⟩
          rcases List.mem_append.mp t1 with w | w
          · have := (h3 j).mp ⟨t, w, t2⟩
            exact ⟨this.1, by omega⟩
          · rw [List.mem_singleton.mp w, two_t] at t2
            rw [← t2]; exact ⟨q1, by omega⟩
        · rintro ⟨a, b⟩
          by_cases e : j = k
          · exact ⟨2 ^ k, List.mem_append.mpr (Or.inr List.mem_cons_self), two_t.mpr e.symm⟩
          · obtain ⟨t, t1, t2⟩ := (h3 j).mpr ⟨a, by omega⟩
            exact ⟨t, List.mem_append.mpr (Or.inl t1), t2⟩
/-- the bits below k -/
def lw (k s : Nat) : Nat := s % 2 ^ k
theorem lw_t {k s j : Nat} : (lw k s).testBit j = true ↔ j < k ∧ s.testBit j = true := by
  unfold lw
  rw [Nat.testBit_mod_two_pow, Bool.and_eq_true, decide_eq_true_iff]
def FL (k : Nat) (R : List Nat) : List Nat := (R.map (lw k)).filter (fun x => decide (x ≠ 0))
theorem FL_app (k : Nat) (A B : List Nat) : FL k (A ++ B) = FL k A ++ FL k B := by
  unfold FL
  rw [List.map_append, List.filter_append]
theorem FL_eq {k : Nat} {A : List Nat} (h : ∀ s ∈ A, ¬ s.testBit k = true) : FL (k + 1) A = FL k A := by
  unfold FL
  have e : A.map (lw (k + 1)) = A.map (lw k) := List.map_congr_left (fun s hs => tb_ext (fun j => by
    rw [lw_t, lw_t]
    constructor
    · rintro ⟨a, b⟩
      refine ⟨?_, b⟩
      by_cases e : j = k
      · rw [e] at b; exact absurd b (h s hs)
      · omega
    · rintro ⟨a, b⟩; exact ⟨by omega, b⟩))
  rw [e]
theorem FL_1 {k s : Nat} (h : lw k s ≠ 0) : FL k [s] = [lw k s] := by
  unfold FL
  simp [h]
theorem FL_0 {k s : Nat} (h : lw k s = 0) : FL k [s] = [] := by
  unfold FL
  simp [h]
theorem lw_s {k s : Nat} (h : s.testBit k = true) : lw (k + 1) s = lw k s ||| 2 ^ k := tb_ext (fun j => by
  rw [lw_t, or_t, lw_t]
  constructor
  · rintro ⟨a, b⟩
    by_cases e : k = j
    · exact Or.inr e
    · exact Or.inl ⟨by omega, b⟩
  · rintro (⟨a, b⟩ | e)
    · exact ⟨by omega, b⟩
    · rw [← e]; exact ⟨by omega, h⟩)
theorem perm_set {P A B : List Nat} {p s x : Nat} (h : P.Perm (A ++ s :: B)) (hp : P[p]? = some s) : (P.set p x).Perm (A ++ x :: B) := by
  have hpl := lt_get hp
  have e1 : P = P.take p ++ s :: P.drop (p + 1) := by
    rw [List.getElem?_eq_getElem hpl] at hp
    rw [← Option.some.inj hp]
    simp
  have e2 : P.set p x = P.take p ++ x :: P.drop (p + 1) := by
    rw [List.set_eq_take_append_cons_drop, if_pos hpl]
  rw [e2]
  rw [e1] at h
  have h3 : (s :: (P.take p ++ P.drop (p + 1))).Perm (s :: (A ++ B)) := (List.perm_middle.symm.trans h).trans List.perm_middle
  have h4 := List.Perm.cons_inv h3
  exact (List.perm_middle.trans (h4.cons x)).trans List.perm_middle.symm
theorem gp_complete (hD : LD M D) {R : List Nat} (hR : ∀ s ∈ R, okS M s ∧ ONEs (askG ask gs C) D M s) (hU : bUn S R) (hd : R.Pairwise bdis) : ∀ m k (P : List Nat), k + m = M → P.Perm (FL k R) → ∃ Q, GP S (cpR D M ask gs C) m k P Q ∧ R.Perm Q
  | 0, k, P, hk, hP => by
    have e : k = M := by omega
    subst e
    refine ⟨P, rfl, ?_⟩
    have e2 : FL k R = R := by
      unfold FL
      have e3 : R.map (lw k) = R := by
        conv => rhs; rw [← List.map_id R]
        exact List.map_congr_left (fun s hs => Nat.mod_eq_of_lt (hR s hs).1.1)
      rw [e3, List.filter_eq_self.mpr (fun s hs => decide_eq_true (hR s hs).1.2)]
    rw [e2] at hP
    exact hP.symm
  | m + 1, k, P, hk, hP => by
    have hkM : k < M := by omega
    cases hb : S.testBit k with
    | false =>
      have hno : ∀ s ∈ R, ¬ s.testBit k = true := fun s hs q => by
        have := (hU k).mpr ⟨s, hs, q⟩
        rw [hb] at this; cases this
      obtain ⟨Q, q1, q2⟩ := gp_complete hD hR hU hd m (k + 1) P (by omega) (by rw [FL_eq hno]; exact hP)
      exact ⟨Q, Or.inl ⟨hb, q1⟩, q2⟩
    | true =>
      obtain ⟨s0, s1, s2⟩ := (hU k).mp hb
      obtain ⟨A, B, e⟩ := un_split s1
      have hd2 := hd
      rw [e, List.pairwise_append, List.pairwise_cons] at hd2
      have hA : ∀ s ∈ A, ¬ s.testBit k = true := fun s hs q => hd2.2.2 s hs s0 List.mem_cons_self k q s2
      have hB : ∀ s ∈ B, ¬ s.testBit k = true := fun s hs q => hd2.2.1.1 s hs k s2 q
      have ek : FL k R = FL k A ++ (FL k [s0] ++ FL k B) := by
        rw [e, ← FL_app, ← FL_app]; rfl
      have ek1 : FL (k + 1) R = FL k A ++ (FL (k + 1) [s0] ++ FL k B) := by
        rw [e, ← FL_eq hA, ← FL_eq hB, ← FL_app, ← FL_app]; rfl
      have hl1 : lw (k + 1) s0 ≠ 0 := fun q => by
        have : (lw (k + 1) s0).testBit k = true := lw_t.mpr ⟨by omega, s2⟩
        rw [q, Nat.zero_testBit] at this; cases this
      rw [FL_1 hl1, lw_s s2] at ek1
      by_cases hl : lw k s0 = 0
      · rw [FL_0 hl, List.nil_append] at ek
        rw [hl, Nat.zero_or] at ek1
        obtain ⟨Q, q1, q2⟩ := gp_complete hD hR hU hd m (k + 1) (P ++ [2 ^ k]) (by omega) (by
          rw [ek1]
          rw [ek] at hP
          exact (List.perm_append_comm.trans (hP.cons (2 ^ k))).trans List.perm_middle.symm)
        exact ⟨Q, Or.inr ⟨hb, Or.inr q1⟩, q2⟩
      · rw [FL_1 hl] at ek
        rw [ek] at hP
        have hmem : lw k s0 ∈ P := hP.mem_iff.mpr (List.mem_append.mpr (Or.inr List.mem_cons_self))
        obtain ⟨p, hp⟩ := List.getElem?_of_mem hmem
        have hcp : cpR D M ask gs C (lw k s0) k := by
          constructor
          · intro t ht c' a b
            refine ONE_sub (fun j q => ?_) ((hR s0 s1).2 (gs c') ((askG_mem C).mpr ⟨c', a, b, rfl⟩))
            rcases or_t.mp q with q | q
            · rw [two_t] at q; rw [← q]; exact s2
            · rw [← q]; exact (lw_t.mp ht).2
          · rintro ⟨c', a, b, d⟩
            rcases ((hR s0 s1).2 (gs c') ((askG_mem C).mpr ⟨c', a, b, rfl⟩)).2 with q | q
            · rw [d] at q; exact absurd q (by decide)
            · rw [← cand_or hD hkM, cand_ne]
              rw [cand_ne] at q
              obtain ⟨x, x1, x2⟩ := q
              refine ⟨x, x1, fun i hi hs => x2 i hi ?_⟩
              rcases or_t.mp hs with w | w
              · exact (lw_t.mp w).2
              · rw [← w]; exact s2
        obtain ⟨Q, q1, q2⟩ := gp_complete hD hR hU hd m (k + 1) (P.set p (lw k s0 ||| 2 ^ k)) (by omega) (by
          rw [ek1]
          exact perm_set hP hp)
        exact ⟨Q, Or.inr ⟨hb, Or.inl ⟨p, _, hp, hcp, q1⟩⟩, q2⟩
theorem FL_z (R : List Nat) : FL 0 R = [] := by
  unfold FL
  rw [List.filter_eq_nil_iff]
  intro x hx
  obtain ⟨s, -, s2⟩ := List.mem_map.mp hx
  have : x = 0 := by rw [← s2]; unfold lw; rw [Nat.pow_zero]; exact Nat.mod_one s
  simp [this]
/-- where all may overlap: just the lawful -/
theorem gp_V (hD : LD M D) (hw : ∀ c, c < C → wfC (gs c)) (hS : S < 2 ^ M) (hG : ∀ g ∈ askG ask gs C, g 3 = 1) (v : Nat × Nat × Int32) : Vl D M (askG ask gs C) nt (fun P' => GP S (cpR D M ask gs C) M 0 [] P') v ↔ LawV D M S (askG ask gs C) nt v := by
  constructor
  · rintro ⟨P, R, q1, r1, r2, r3, r4⟩
    obtain ⟨h1, h2, h3⟩ := gp_sound hw hD M 0 [] P (by omega) ⟨fun s hs => (by cases hs), List.Pairwise.nil, fun j => ⟨fun ⟨s, hs, _⟩ => (by cases hs), fun ⟨_, q⟩ => by omega⟩⟩ q1
    have hdR : R.Pairwise bdis := (r1.pairwise_iff (fun {a b} w => bdis_c w)).mpr h2
    refine ⟨R, ⟨fun s hs => h1 s (r1.mem_iff.mp hs), fun j => ?_, hdR, ?_, r3⟩, r4⟩
    · constructor
      · intro q
        obtain ⟨s, s1, s2⟩ := (h3 j).mpr ⟨q, lt_of_tb hS q⟩
        exact ⟨s, r1.mem_iff.mpr s1, s2⟩
      · rintro ⟨s, s1, s2⟩
        exact ((h3 j).mp ⟨s, r1.mem_iff.mp s1, s2⟩).1
    · rw [List.pairwise_iff_getElem] at *
      intro i j hi hj hij
      have k1 := firstS_ok hD (h1 _ (r1.mem_iff.mp (List.getElem_mem hi))).1
      have k2 := firstS_ok hD (h1 _ (r1.mem_iff.mp (List.getElem_mem hj))).1
      have hn := r2 i j hi hj hij
      have hdd := hdR i j hi hj hij
      have hne : firstS D M R[i] ≠ firstS D M R[j] := fun e => hdd _ k1.2.1 (by rw [e]; exact k2.2.1)
      unfold klt at *
      omega
  · rintro ⟨R, ⟨h1, h2, h3, h4, h5⟩, r4⟩
    obtain ⟨Q, q1, q2⟩ := gp_complete (C := C) (gs := gs) (ask := ask) hD h1 h2 h3 M 0 [] (by omega) (by rw [FL_z])
    exact ⟨Q, R, q1, q2, h4.imp (fun {a b} w => klt_asymm w), h5, r4⟩
end GPL
