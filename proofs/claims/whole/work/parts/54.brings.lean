/-! brings: the parting told by hand -/
section TB
variable {N M : Nat} {D : Nat → Nat → Nat} {T : Nat → Nat}
def hset (T : Nat → Nat) (M k : Nat) : Nat := orF (same T k) M
theorem hset_tb {k j : Nat} : (hset T M k).testBit j = true ↔ j < M ∧ T j = T k := by
  unfold hset
  rw [orF_tb, Bool.and_eq_true]
  constructor
  · rintro ⟨a, b⟩
    exact ⟨of_decide_eq_true a, of_decide_eq_true b⟩
  · rintro ⟨a, b⟩
    exact ⟨decide_eq_true a, decide_eq_true b⟩
theorem hset_eq {a b : Nat} (h : T a = T b) : hset T M a = hset T M b := by
  unfold hset
  have e : same T a = same T b := by
    funext j
    show decide (T j = T a) = decide (T j = T b)
    rw [h]
  rw [e]
theorem hset_ok (hM : M ≤ 12) {k : Nat} (hk : k < M) : okS M (hset T M k) := by
  refine ⟨orF_lt _ M, ?_⟩
  intro q
  have := hset_tb.mpr ⟨hk, (rfl : T k = T k)⟩
  rw [q, Nat.zero_testBit] at this
  cases this
theorem hset_4096 (hM : M ≤ 12) (k : Nat) : hset T M k < 4096 := Nat.lt_of_lt_of_le (orF_lt _ M) (n_lt2 hM)
/-- the first of a set in the row -/
theorem firstS_at (hD : LD M D) {s x : Nat} (hx : x < M) (hs : s.testBit x = true) (hmin : ∀ y, y < M → s.testBit y = true → y = x ∨ rlt D x y) : firstS D M s = x ∧ lowS D M s = D 1 x := by
  have hl : lowS D M s = D 1 x := by
    have h1 : lowS D M s ≤ D 1 x := low_le (h := D 1) (s := s) (a := 1000) M x hx hs
    rcases low_at (D 1) s 1000 M with e | ⟨j, j1, j2, j3⟩
    · have := (hD.2 x hx).2.2.1
      unfold lowS at *
      omega
    · have e : lowS D M s = D 1 j := j3
      rcases hmin j j1 j2 with q | q
      · rw [e, q]
      · unfold rlt at q
        omega
  refine ⟨?_, hl⟩
  have hp : (s.testBit x && decide (D 1 x = lowS D M s)) = true := by
    simp [hs, hl]
  have hlt : firstS D M s < M := by
    rcases Nat.lt_or_ge (firstS D M s) M with q | q
    · exact q
    · have := fa_first_no (fun j => s.testBit j && decide (D 1 j = lowS D M s)) M x (by unfold firstS at q; omega)
      rw [this] at hp
      cases hp
  have hy := fa_first_yes (fun j => s.testBit j && decide (D 1 j = lowS D M s)) M hlt
  have hy2 : s.testBit (firstS D M s) = true ∧ D 1 (firstS D M s) = lowS D M s := by
    have := (Bool.and_eq_true _ _).mp hy
    exact ⟨this.1, of_decide_eq_true this.2⟩
  rcases hmin (firstS D M s) hlt hy2.1 with q | q
  · exact q
  · unfold rlt at q
    have hlt2 : x < firstS D M s := by omega
    have := fa_first_no (fun j => s.testBit j && decide (D 1 j = lowS D M s)) M x hlt2
    rw [this] at hp
    cases hp
/-- the class's list: happenings as they come in the row -/
def hapL (T : Nat → Nat) (M : Nat) : List Nat → Nat → List Nat
  | [], _ => []
  | x :: xs, seen => if seen.testBit x = true then hapL T M xs seen else hset T M x :: hapL T M xs (seen ||| hset T M x)
theorem hapL_ok (hD : LD M D) : ∀ (r : List Nat) (seen : Nat), r.Pairwise (rlt D) → (∀ x ∈ r, x < M) → (∀ y, y < M → y ∈ r ∨ seen.testBit y = true) → (∀ x y, x < M → y < M → T x = T y → seen.testBit x = seen.testBit y) →
    (hapL T M r seen).Pairwise (klt D M) ∧ ∀ s, s ∈ hapL T M r seen ↔ ∃ x, x ∈ r ∧ seen.testBit x = false ∧ s = hset T M x ∧ firstS D M s ∈ r ∧ lowS D M s = D 1 (firstS D M s)
  | [], seen, _, _, _, _ => ⟨List.Pairwise.nil, fun s => by simp [hapL]⟩
  | x :: xs, seen, hr, hlt, hcov, hcl => by
    have hxM := hlt x List.mem_cons_self
    have hr2 := (List.pairwise_cons.mp hr).2
    have hr1 := (List.pairwise_cons.mp hr).1
    unfold hapL
    by_cases hs : seen.testBit x = true
    · rw [if_pos hs]
      obtain ⟨i1, i2⟩ := hapL_ok hD xs seen hr2 (fun y hy => hlt y (List.mem_cons_of_mem _ hy)) (fun y hy => by
        rcases hcov y hy with q | q
        · rcases List.mem_cons.mp q with rfl | q
          · exact Or.inr hs
          · exact Or.inl q
        · exact Or.inr q) hcl
      refine ⟨i1, fun s => ?_⟩
      rw [i2 s]
      constructor
      · rintro ⟨y, a, b, c, d, e⟩
        exact ⟨y, List.mem_cons_of_mem _ a, b, c, List.mem_cons_of_mem _ d, e⟩
      · rintro ⟨y, a, b, c, d, e⟩
        rcases List.mem_cons.mp a with rfl | a
        · rw [hs] at b; cases b
        · refine ⟨y, a, b, c, ?_, e⟩
          rcases List.mem_cons.mp d with d | d
          · -- the first would be x, which is seen, and so would y be
            have hyM := hlt y (List.mem_cons_of_mem _ a)
            have hok := firstS_ok hD (hset_ok (T := T) hD.1 hyM)
            rw [← c] at hok
            have h2 : (hset T M y).testBit x = true := by rw [← c, ← d]; exact hok.2.1
            have := hcl x y hxM hyM (hset_tb.mp h2).2
            rw [hs, b] at this
            cases this
          · exact d
    · rw [if_neg hs]
      have hs' : seen.testBit x = false := by simpa using hs
      have hor : ∀ y, (seen ||| hset T M x).testBit y = (seen.testBit y || (hset T M x).testBit y) := fun y => Nat.testBit_or ..
      have hfx : firstS D M (hset T M x) = x ∧ lowS D M (hset T M x) = D 1 x := by
        refine firstS_at hD hxM (hset_tb.mpr ⟨hxM, rfl⟩) (fun y hy hy2 => ?_)
        have hT := (hset_tb.mp hy2).2
        rcases hcov y hy with q | q
        · rcases List.mem_cons.mp q with q | q
          · exact Or.inl q
          · exact Or.inr (hr1 y q)
        · rw [hcl y x hy hxM hT, hs'] at q
          cases q
      obtain ⟨i1, i2⟩ := hapL_ok hD xs (seen ||| hset T M x) hr2 (fun y hy => hlt y (List.mem_cons_of_mem _ hy)) (fun y hy => by
        rw [hor]
        rcases hcov y hy with q | q
        · rcases List.mem_cons.mp q with rfl | q
          · refine Or.inr ?_
            rw [hset_tb.mpr ⟨hxM, rfl⟩, Bool.or_true]
          · exact Or.inl q
        · exact Or.inr (by rw [q, Bool.true_or])) (fun a b ha hb hab => by
        rw [hor, hor, hcl a b ha hb hab]
        congr 1
        cases h1 : (hset T M x).testBit a with
        | true =>
          rw [hset_tb.mpr ⟨hb, by rw [← hab]; exact (hset_tb.mp h1).2⟩]
        | false =>
          cases h2 : (hset T M x).testBit b with
          | false => rfl
          | true =>
            rw [hset_tb.mpr ⟨ha, by rw [hab]; exact (hset_tb.mp h2).2⟩] at h1
            cases h1)
      refine ⟨?_, fun s => ?_⟩
      · rw [List.pairwise_cons]
        refine ⟨fun s hs2 => ?_, i1⟩
        obtain ⟨y, a, b, c, d, e⟩ := (i2 s).mp hs2
        have := hr1 _ d
        unfold klt
        rw [hfx.1, hfx.2, e]
        exact this
      · rw [List.mem_cons, i2 s]
        constructor
        · rintro (rfl | ⟨y, a, b, c, d, e⟩)
          · exact ⟨x, List.mem_cons_self, hs', rfl, by rw [hfx.1]; exact List.mem_cons_self, by rw [hfx.1]; exact hfx.2⟩
          · rw [hor, Bool.or_eq_false_iff] at b
            exact ⟨y, List.mem_cons_of_mem _ a, b.1, c, List.mem_cons_of_mem _ d, e⟩
        · rintro ⟨y, a, b, c, d, e⟩
          by_cases hT : T y = T x
          · exact Or.inl (by rw [c]; exact hset_eq hT)
          · refine Or.inr ⟨y, ?_, ?_, c, ?_, e⟩
            · rcases List.mem_cons.mp a with rfl | a
              · exact absurd rfl hT
              · exact a
            · rw [hor, b]
              cases h2 : (hset T M x).testBit y with
              | false => rfl
              | true => exact absurd (hset_tb.mp h2).2 hT
            · rcases List.mem_cons.mp d with d | d
              · have hyM := hlt y a
                have hok := firstS_ok hD (hset_ok (T := T) hD.1 hyM)
                rw [← c] at hok
                have h2 : (hset T M y).testBit x = true := by rw [← c, ← d]; exact hok.2.1
                exact absurd (hset_tb.mp h2).2.symm hT
              · exact d
/-- the reference's list: by lowest losses -/
def ptl (T : Nat → Nat) (M : Nat) : Nat → List Nat
  | 0 => []
  | k + 1 => if ctz (hset T M k) = k then ptl T M k ++ [hset T M k] else ptl T M k
theorem ptl_s (k : Nat) : ptl T M (k + 1) = if ctz (hset T M k) = k then ptl T M k ++ [hset T M k] else ptl T M k := rfl
theorem ptl_mem {s : Nat} : ∀ k, s ∈ ptl T M k ↔ ∃ x, x < k ∧ ctz (hset T M x) = x ∧ s = hset T M x
  | 0 => by simp [ptl]
  | k + 1 => by
    rw [ptl_s]
    have ih := ptl_mem (s := s) k
    by_cases h : ctz (hset T M k) = k
    · rw [if_pos h, List.mem_append, ih, List.mem_singleton]
      constructor
      · rintro (⟨x, a, b, c⟩ | rfl)
        · exact ⟨x, by omega, b, c⟩
        · exact ⟨k, by omega, h, rfl⟩
      · rintro ⟨x, a, b, c⟩
        by_cases e : x = k
        · subst e; exact Or.inr c
        · exact Or.inl ⟨x, by omega, b, c⟩
    · rw [if_neg h, ih]
      constructor
      · rintro ⟨x, a, b, c⟩
        exact ⟨x, by omega, b, c⟩
      · rintro ⟨x, a, b, c⟩
        refine ⟨x, ?_, b, c⟩
        by_cases e : x = k
        · subst e; exact absurd b h
        · omega
theorem ptl_len : ∀ k, (ptl T M k).length ≤ k
  | 0 => Nat.le_refl _
  | k + 1 => by
    have := ptl_len k
    rw [ptl_s]
    split
    · rw [List.length_append, List.length_singleton]; omega
    · omega
theorem ptl_nodup : ∀ k, (ptl T M k).Nodup
  | 0 => List.nodup_nil
  | k + 1 => by
    rw [ptl_s]
    split
    · rename_i h
      rw [List.nodup_append]
      refine ⟨ptl_nodup k, by simp, fun a ha b hb => ?_⟩
      rw [List.mem_singleton] at hb
      obtain ⟨x, x1, x2, x3⟩ := (ptl_mem k).mp ha
      intro q
      rw [hb] at q
      rw [q] at x3
      rw [← x3] at x2
      omega
    · exact ptl_nodup k
theorem told_rows (hD : LD M D) {r R : List Nat} (hp : r.Perm (elems (2 ^ M - 1) M)) (hs : r.Pairwise (rlt D)) (hR : R.Perm (ptl T M M)) (hRs : R.Pairwise (fun a b => ¬ klt D M b a)) : hapL T M r 0 = R := by
  have hM := hD.1
  have hmem : ∀ x, x ∈ r ↔ x < M := by
    intro x
    rw [hp.mem_iff, elems_mem, Nat.testBit_two_pow_sub_one]
    constructor
    · exact fun q => q.1
    · exact fun q => ⟨q, decide_eq_true q⟩
  obtain ⟨h1, h2⟩ := hapL_ok (T := T) hD r 0 hs (fun x hx => (hmem x).mp hx) (fun y hy => Or.inl ((hmem y).mpr hy)) (fun x y _ _ _ => by rw [Nat.zero_testBit, Nat.zero_testBit])
  have hnd : (hapL T M r 0).Nodup := h1.imp (fun {a b} q e => by
    subst e
    unfold klt at q
    omega)
  have hall : ∀ s, s ∈ hapL T M r 0 ↔ ∃ x, x < M ∧ s = hset T M x := by
    intro s
    rw [h2 s]
    constructor
    · rintro ⟨x, a, -, c, -⟩
      exact ⟨x, (hmem x).mp a, c⟩
    · rintro ⟨x, a, c⟩
      have hok := firstS_ok hD (hset_ok (T := T) hM a)
      rw [← c] at hok
      exact ⟨x, (hmem x).mpr a, Nat.zero_testBit x, c, (hmem _).mpr hok.1, hok.2.2.symm⟩
  have hperm : (hapL T M r 0).Perm R := by
    refine List.Perm.trans ((List.perm_ext_iff_of_nodup hnd (ptl_nodup M)).mpr (fun s => ?_)) hR.symm
    rw [hall s, ptl_mem]
    constructor
    · rintro ⟨x, a, c⟩
      have hok := hset_ok (T := T) hM a
      have h4 := hset_4096 (T := T) hM x
      have ht := hset_tb.mp (ctz_tb h4 hok.2)
      exact ⟨ctz (hset T M x), ht.1, by rw [hset_eq ht.2], by rw [c, hset_eq ht.2]⟩
    · rintro ⟨x, a, -, c⟩
      exact ⟨x, a, c⟩
  refine List.Perm.eq_of_pairwise (le := fun a b => ¬ klt D M b a) ?_ (h1.imp (fun {a b} q => klt_asymm q)) hRs hperm
  intro a b ha hb q1 q2
  obtain ⟨x, x1, x2⟩ := (hall a).mp ha
  obtain ⟨y, y1, y2⟩ := (hall b).mp (hperm.mem_iff.mpr hb)
  have k1 := firstS_ok hD (hset_ok (T := T) hM x1)
  have k2 := firstS_ok hD (hset_ok (T := T) hM y1)
  rw [← x2] at k1
  rw [← y2] at k2
  have e : firstS D M a = firstS D M b := by
    unfold klt at q1 q2
    omega
  have t1 := k1.2.1
  have t2 := k2.2.1
  rw [x2] at t1
  rw [y2, ← y2, ← e] at t2
  rw [← x2] at t1
  rw [x2, y2]
  refine hset_eq ?_
  have u1 := (hset_tb (T := T) (M := M) (k := x) (j := firstS D M a)).mp (by rw [← x2]; exact t1)
  have u2 := (hset_tb (T := T) (M := M) (k := y) (j := firstS D M a)).mp (by rw [← y2]; exact t2)
  rw [← u1.2, ← u2.2]
end TB
