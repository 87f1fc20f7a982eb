/-! lawful partings, as rows of sets -/
def ONEs (G : List (Nat → Int32)) (D : Nat → Nat → Nat) (M s : Nat) : Prop := ∀ g ∈ G, ONE g D M s
def tot (G : List (Nat → Int32)) (xs : List Nat) : Nat := (G.map (fun g => brF g (payA g xs).2)).sum
def bsub (a b : Nat) : Prop := ∀ j, a.testBit j = true → b.testBit j = true
def bdis (a b : Nat) : Prop := ∀ j, a.testBit j = true → b.testBit j = true → False
def bUn (S : Nat) (R : List Nat) : Prop := ∀ j, S.testBit j = true ↔ ∃ s ∈ R, s.testBit j = true
def gapL (D : Nat → Nat → Nat) (M n : Nat) (R : List Nat) : Prop := R.Pairwise (fun a b => highS D M a + n < lowS D M b)
def Law (D : Nat → Nat → Nat) (M S : Nat) (G : List (Nat → Int32)) (R : List Nat) : Prop := (∀ s ∈ R, okS M s ∧ ONEs G D M s) ∧ bUn S R ∧ R.Pairwise bdis ∧ R.Pairwise (klt D M) ∧ ∀ g ∈ G, g 3 ≠ 1 → gapL D M (wv g 4) R
def val (D : Nat → Nat → Nat) (M : Nat) (G : List (Nat → Int32)) (nt : List Nat → Int32) (R : List Nat) : Nat × Nat × Int32 := (tot G (R.map (sumS D M)), R.length, nt (R.map (sumS D M)))
def LawV (D : Nat → Nat → Nat) (M S : Nat) (G : List (Nat → Int32)) (nt : List Nat → Int32) : VS := fun v => ∃ R, Law D M S G R ∧ v = val D M G nt R
theorem tot_le {G : List (Nat → Int32)} (hG : ∀ g ∈ G, wfC g) (xs : List Nat) : tot G xs ≤ 89100 * G.length := by
  unfold tot
  induction G with
  | nil => simp
  | cons g G ih =>
    have h1 := ih (fun g' hg => hG g' (List.mem_cons_of_mem _ hg))
    have h2 := (payA_le (hG g (List.mem_cons_self)) xs).2
    have h3 : brF g (payA g xs).2 ≤ 89100 := by
      unfold brF
      exact Nat.le_trans (Nat.mul_le_mul h2 (show 100 - wv g 8 ≤ 100 by omega)) (by omega)
    rw [List.map_cons, List.sum_cons, List.length_cons]
    omega
section LAWS
variable {M : Nat} {D : Nat → Nat → Nat}
theorem lt_of_tb {s : Nat} (h : s < 2 ^ M) {j : Nat} (hj : s.testBit j = true) : j < M := by
  rcases Nat.lt_or_ge j M with q | q
  · exact q
  · rw [Nat.testBit_lt_two_pow (Nat.lt_of_lt_of_le h (Nat.pow_le_pow_right (by decide) q))] at hj
    cases hj
theorem lowS_is (hD : LD M D) {s v : Nat} (h1 : ∃ j, j < M ∧ s.testBit j = true ∧ D 1 j = v) (h2 : ∀ j, j < M → s.testBit j = true → v ≤ D 1 j) : lowS D M s = v := by
  obtain ⟨j, j1, j2, j3⟩ := h1
  have a := low_le (h := D 1) (s := s) (a := 1000) M j j1 j2
  have b := (hD.2 j j1).2.2.1
  rcases low_at (D 1) s 1000 M with e | ⟨i, i1, i2, i3⟩
  · omega
  · have := h2 i i1 i2
    unfold lowS
    omega
theorem highS_is {s v : Nat} (h1 : ∃ j, j < M ∧ s.testBit j = true ∧ D 1 j = v) (h2 : ∀ j, j < M → s.testBit j = true → D 1 j ≤ v) : highS D M s = v := by
  obtain ⟨j, j1, j2, j3⟩ := h1
  have a := high_ge (h := D 1) (s := s) M j j1 j2
  rcases high_at (D 1) s M with e | ⟨i, i1, i2, i3⟩
  · rw [e j j1] at j2; cases j2
  · have := h2 i i1 i2
    unfold highS
    omega
theorem low_of {s j : Nat} (hj : j < M) (h : s.testBit j = true) : lowS D M s ≤ D 1 j := low_le M j hj h
theorem high_of {s j : Nat} (hj : j < M) (h : s.testBit j = true) : D 1 j ≤ highS D M s := high_ge M j hj h
theorem low_high {s : Nat} (h : okS M s) : lowS D M s ≤ highS D M s := by
  obtain ⟨j, hj, hs⟩ := okS_j h
  exact Nat.le_trans (low_of hj hs) (high_of hj hs)
theorem sum_elems (f : Nat → Nat) (s : Nat) : ∀ k, sumF f s k = ((elems s k).map f).sum
  | 0 => rfl
  | k + 1 => by
    rw [sumF_s, elems_s, sum_elems f s k]
    split
    · rw [List.map_append, List.sum_append]
      simp
    · rfl
theorem candF_tb (c : Nat → Nat) (s b : Nat) : ∀ k, (candF c s k).testBit b = true ↔ b < 6 ∧ ∀ i, i < k → s.testBit i = true → (c i).testBit b = true
  | 0 => by
    have e : candF c s 0 = 2 ^ 6 - 1 := rfl
    rw [e, Nat.testBit_two_pow_sub_one]
    simp
  | k + 1 => by
    rw [candF_s]
    have ih := candF_tb c s b k
    by_cases h : s.testBit k = true
    · rw [if_pos h, Nat.testBit_and, Bool.and_eq_true, ih]
      constructor
      · rintro ⟨⟨a1, a2⟩, a3⟩
        refine ⟨a1, fun i hi hs => ?_⟩
        by_cases e : i = k
        · subst e; exact a3
        · exact a2 i (by omega) hs
      · rintro ⟨a1, a2⟩
        exact ⟨⟨a1, fun i hi hs => a2 i (by omega) hs⟩, a2 k (by omega) h⟩
    · rw [if_neg h, ih]
      constructor
      · rintro ⟨a1, a2⟩
        refine ⟨a1, fun i hi hs => ?_⟩
        by_cases e : i = k
        · subst e; exact absurd hs h
        · exact a2 i (by omega) hs
      · rintro ⟨a1, a2⟩
        exact ⟨a1, fun i hi hs => a2 i (by omega) hs⟩
theorem cand_ne {c : Nat → Nat} {s k : Nat} : candF c s k ≠ 0 ↔ ∃ b, b < 6 ∧ ∀ i, i < k → s.testBit i = true → (c i).testBit b = true := by
  constructor
  · intro h
    obtain ⟨b, hb⟩ := nz_tb h
    exact ⟨b, (candF_tb c s b k).mp hb⟩
  · rintro ⟨b, hb⟩ q
    have := (candF_tb c s b k).mpr hb
    rw [q, Nat.zero_testBit] at this
    cases this
theorem ONE_sub {g : Nat → Int32} {a b : Nat} (h : bsub a b) (hb : ONE g D M b) : ONE g D M a := by
  refine ⟨fun i j hi hj h1 h2 => hb.1 i j hi hj (h i h1) (h j h2), hb.2.imp id (fun q => ?_)⟩
  rw [cand_ne] at *
  obtain ⟨c, c1, c2⟩ := q
  exact ⟨c, c1, fun i hi hs => c2 i hi (h i hs)⟩
end LAWS
/-! the class's places in the row: other names for the same losses -/
section LIFT
variable {M n S : Nat} {D : Nat → Nat → Nat} {rr : Nat → Nat}
def Perm' (D : Nat → Nat → Nat) (M n S : Nat) (rr : Nat → Nat) : Prop := n ≤ 12 ∧ (∀ i, i < n → rr i < M) ∧ (∀ i j, i < j → j < n → rlt D (rr i) (rr j)) ∧ ∀ j, S.testBit j = true ↔ ∃ i, i < n ∧ rr i = j
noncomputable def lft (M n : Nat) (rr : Nat → Nat) (X : Nat) : Nat := orF (fun j => cdec (∃ i, i < n ∧ X.testBit i = true ∧ rr i = j)) M
def pll (n : Nat) (rr : Nat → Nat) (s : Nat) : Nat := orF (fun i => s.testBit (rr i)) n
def Dr (D : Nat → Nat → Nat) (rr : Nat → Nat) : Nat → Nat → Nat := fun a i => D a (rr i)
theorem pm_inj (h : Perm' D M n S rr) {i j : Nat} (hi : i < n) (hj : j < n) (e : rr i = rr j) : i = j := by
  rcases Nat.lt_trichotomy i j with q | q | q
  · have := h.2.2.1 i j q hj; unfold rlt at this; rw [e] at this; omega
  · exact q
  · have := h.2.2.1 j i q hi; unfold rlt at this; rw [e] at this; omega
theorem pm_LD (hD : LD M D) (h : Perm' D M n S rr) : LD n (Dr D rr) := ⟨h.1, fun k hk => hD.2 (rr k) (h.2.1 k hk)⟩
theorem lft_tb (h : Perm' D M n S rr) {X j : Nat} : (lft M n rr X).testBit j = true ↔ ∃ i, i < n ∧ X.testBit i = true ∧ rr i = j := by
  unfold lft
  rw [orF_tb, Bool.and_eq_true, cdec_iff]
  constructor
  · exact fun q => q.2
  · rintro ⟨i, i1, i2, i3⟩
    exact ⟨decide_eq_true (i3 ▸ h.2.1 i i1), i, i1, i2, i3⟩
theorem lft_at (h : Perm' D M n S rr) {X i : Nat} (hi : i < n) : (lft M n rr X).testBit (rr i) = true ↔ X.testBit i = true := by
  rw [lft_tb h]
  constructor
  · rintro ⟨k, k1, k2, k3⟩
    rw [← pm_inj h k1 hi k3]
    exact k2
  · exact fun q => ⟨i, hi, q, rfl⟩
theorem lft_sub (h : Perm' D M n S rr) (X : Nat) : bsub (lft M n rr X) S := by
  intro j hj
  obtain ⟨i, i1, i2, i3⟩ := (lft_tb h).mp hj
  exact (h.2.2.2 j).mpr ⟨i, i1, i3⟩
theorem pll_tb {s i : Nat} : (pll n rr s).testBit i = true ↔ i < n ∧ s.testBit (rr i) = true := by
  unfold pll
  rw [orF_tb, Bool.and_eq_true]
  exact ⟨fun q => ⟨of_decide_eq_true q.1, q.2⟩, fun q => ⟨decide_eq_true q.1, q.2⟩⟩
theorem pll_lt (s : Nat) : pll n rr s < 2 ^ n := orF_lt _ n
theorem tb_ext {a b : Nat} (h : ∀ j, a.testBit j = true ↔ b.testBit j = true) : a = b := Nat.eq_of_testBit_eq (fun j => Bool.eq_iff_iff.mpr (h j))
theorem lft_pll (h : Perm' D M n S rr) {s : Nat} (hs : bsub s S) : lft M n rr (pll n rr s) = s := by
  refine tb_ext (fun j => ?_)
  rw [lft_tb h]
  constructor
  · rintro ⟨i, i1, i2, i3⟩
    rw [← i3]
    exact (pll_tb.mp i2).2
  · intro q
    obtain ⟨i, i1, i2⟩ := (h.2.2.2 j).mp (hs j q)
    exact ⟨i, i1, pll_tb.mpr ⟨i1, by rw [i2]; exact q⟩, i2⟩
theorem lft_ok (h : Perm' D M n S rr) {X : Nat} (hX : X < 2 ^ n) : okS n X ↔ okS M (lft M n rr X) := by
  constructor
  · intro q
    obtain ⟨i, hi, hs⟩ := okS_j q
    refine ⟨orF_lt _ M, fun e => ?_⟩
    have := (lft_at h hi).mpr hs
    rw [e, Nat.zero_testBit] at this
    cases this
  · intro q
    obtain ⟨j, hj, hs⟩ := okS_j q
    obtain ⟨i, i1, i2, i3⟩ := (lft_tb h).mp hs
    refine ⟨hX, fun e => ?_⟩
    rw [e, Nat.zero_testBit] at i2
    cases i2
theorem lft_one (h : Perm' D M n S rr) {g : Nat → Int32} {X : Nat} : ONE g (Dr D rr) n X ↔ ONE g D M (lft M n rr X) := by
  constructor
  · rintro ⟨h1, h2⟩
    refine ⟨fun i j hi hj a b => ?_, h2.imp id (fun q => ?_)⟩
    · obtain ⟨i', i1, i2, i3⟩ := (lft_tb h).mp a
      obtain ⟨j', j1, j2, j3⟩ := (lft_tb h).mp b
      have := h1 i' j' i1 j1 i2 j2
      rw [← i3, ← j3]
      exact this
    · rw [cand_ne] at *
      obtain ⟨c, c1, c2⟩ := q
      refine ⟨c, c1, fun i hi hs => ?_⟩
      obtain ⟨i', i1, i2, i3⟩ := (lft_tb h).mp hs
      rw [← i3]
      exact c2 i' i1 i2
  · rintro ⟨h1, h2⟩
    refine ⟨fun i j hi hj a b => h1 (rr i) (rr j) (h.2.1 i hi) (h.2.1 j hj) ((lft_at h hi).mpr a) ((lft_at h hj).mpr b), h2.imp id (fun q => ?_)⟩
    rw [cand_ne] at *
    obtain ⟨c, c1, c2⟩ := q
    exact ⟨c, c1, fun i hi hs => c2 (rr i) (h.2.1 i hi) ((lft_at h hi).mpr hs)⟩
theorem low_bit {X : Nat} (h : X ≠ 0) : ∃ i, X.testBit i = true ∧ ∀ j, j < i → X.testBit j = false := by
  obtain ⟨t, ht⟩ := nz_tb h
  have key : ∀ t, X.testBit t = true → ∃ i, X.testBit i = true ∧ ∀ j, j < i → X.testBit j = false := by
    intro t
    induction t using Nat.strongRecOn with
    | ind t ih =>
      intro ht
      by_cases q : ∃ j, j < t ∧ X.testBit j = true
      · obtain ⟨j, j1, j2⟩ := q
        exact ih j j1 j2
      · refine ⟨t, ht, fun j hj => ?_⟩
        cases e : X.testBit j with
        | false => rfl
        | true => exact absurd ⟨j, hj, e⟩ q
  exact key t ht
/-- by places, the row's order is that of the places -/
theorem pm_rlt (h : Perm' D M n S rr) {i j : Nat} (hi : i < n) (hj : j < n) (hij : i < j) : rlt (Dr D rr) i j := by
  have := h.2.2.1 i j hij hj
  unfold rlt at *
  unfold Dr
  omega
theorem lft_first (hD : LD M D) (h : Perm' D M n S rr) {X i : Nat} (hX : X < 2 ^ n) (hi : X.testBit i = true) (hm : ∀ j, j < i → X.testBit j = false) : (firstS (Dr D rr) n X = i ∧ lowS (Dr D rr) n X = D 1 (rr i)) ∧ firstS D M (lft M n rr X) = rr i ∧ lowS D M (lft M n rr X) = D 1 (rr i) := by
  have hin := lt_of_tb hX hi
  constructor
  · refine firstS_at (pm_LD hD h) hin hi (fun y hy hs => ?_)
    rcases Nat.lt_trichotomy y i with q | q | q
    · rw [hm y q] at hs; cases hs
    · exact Or.inl q
    · exact Or.inr (pm_rlt h hin hy q)
  · refine firstS_at hD (h.2.1 i hin) ((lft_at h hin).mpr hi) (fun y hy hs => ?_)
    obtain ⟨k, k1, k2, k3⟩ := (lft_tb h).mp hs
    rcases Nat.lt_trichotomy k i with q | q | q
    · rw [hm k q] at k2; cases k2
    · exact Or.inl (by rw [← k3, q])
    · exact Or.inr (by rw [← k3]; exact h.2.2.1 i k q k1)
theorem lft_klt (hD : LD M D) (h : Perm' D M n S rr) {X Y : Nat} (hX : okS n X) (hY : okS n Y) : klt (Dr D rr) n X Y ↔ klt D M (lft M n rr X) (lft M n rr Y) := by
  obtain ⟨i, i1, i2⟩ := low_bit hX.2
  obtain ⟨j, j1, j2⟩ := low_bit hY.2
  obtain ⟨⟨a1, a2⟩, a3, a4⟩ := lft_first hD h hX.1 i1 i2
  obtain ⟨⟨b1, b2⟩, b3, b4⟩ := lft_first hD h hY.1 j1 j2
  have hi := lt_of_tb hX.1 i1
  have hj := lt_of_tb hY.1 j1
  unfold klt
  rw [a1, a2, a3, a4, b1, b2, b3, b4]
  rcases Nat.lt_trichotomy i j with q | q | q
  · have := h.2.2.1 i j q hj
    unfold rlt at this
    omega
  · subst q; omega
  · have := h.2.2.1 j i q hi
    unfold rlt at this
    omega
theorem lft_low (hD : LD M D) (h : Perm' D M n S rr) {X : Nat} (hX : okS n X) : lowS (Dr D rr) n X = lowS D M (lft M n rr X) := by
  obtain ⟨i, i1, i2⟩ := low_bit hX.2
  obtain ⟨⟨a1, a2⟩, a3, a4⟩ := lft_first hD h hX.1 i1 i2
  rw [a2, a4]
theorem lft_high (h : Perm' D M n S rr) {X : Nat} (hX : okS n X) : highS (Dr D rr) n X = highS D M (lft M n rr X) := by
  refine (highS_is ?_ ?_).symm
  · obtain ⟨j, hj, hs⟩ := okS_j hX
    rcases high_at (Dr D rr 1) X n with e | ⟨i, i1, i2, i3⟩
    · rw [e j hj] at hs; cases hs
    · exact ⟨rr i, h.2.1 i i1, (lft_at h i1).mpr i2, i3.symm⟩
  · intro j hj hs
    obtain ⟨k, k1, k2, k3⟩ := (lft_tb h).mp hs
    rw [← k3]
    exact high_of (D := Dr D rr) k1 k2
theorem lft_sum (h : Perm' D M n S rr) (X : Nat) : sumS (Dr D rr) n X = sumS D M (lft M n rr X) := by
  unfold sumS
  rw [sum_elems, sum_elems]
  have e : (elems X n).map (Dr D rr 0) = ((elems X n).map rr).map (D 0) := by
    rw [List.map_map]
    rfl
  rw [e]
  refine List.Perm.sum_nat (List.Perm.map _ ((List.perm_ext_iff_of_nodup ?_ (elems_nodup _ _)).mpr (fun x => ?_)))
  · exact List.pairwise_map.mpr ((elems_nodup X n).imp_of_mem (fun {a b} ha hb q e => q (pm_inj h (elems_lt ha) (elems_lt hb) e)))
  · rw [List.mem_map, elems_mem, lft_tb h]
    constructor
    · rintro ⟨i, i1, i2⟩
      have := (elems_mem n).mp i1
      exact ⟨i2 ▸ h.2.1 i this.1, i, this.1, this.2, i2⟩
    · rintro ⟨-, i, i1, i2, i3⟩
      exact ⟨i, (elems_mem n).mpr ⟨i1, i2⟩, i3⟩
/-- lawful by places, lawful by numbers -/
theorem law_lft (hD : LD M D) (h : Perm' D M n S rr) {G : List (Nat → Int32)} {L : List Nat} (hL : ∀ X ∈ L, X < 2 ^ n) : Law (Dr D rr) n (2 ^ n - 1) G L ↔ Law D M S G (L.map (lft M n rr)) := by
  have h1 : (∀ s ∈ L, okS n s ∧ ONEs G (Dr D rr) n s) ↔ ∀ s ∈ L.map (lft M n rr), okS M s ∧ ONEs G D M s := by
    constructor
    · intro q s hs
      obtain ⟨X, x1, x2⟩ := List.mem_map.mp hs
      rw [← x2]
      exact ⟨(lft_ok h (hL X x1)).mp (q X x1).1, fun g hg => (lft_one h).mp ((q X x1).2 g hg)⟩
    · intro q X hX
      have := q _ (List.mem_map_of_mem hX)
      exact ⟨(lft_ok h (hL X hX)).mpr this.1, fun g hg => (lft_one h).mpr (this.2 g hg)⟩
  have h2 : bUn (2 ^ n - 1) L ↔ bUn S (L.map (lft M n rr)) := by
    unfold bUn
    constructor
    · intro q j
      rw [h.2.2.2 j]
      constructor
      · rintro ⟨i, i1, i2⟩
        obtain ⟨X, x1, x2⟩ := (q i).mp (by rw [Nat.testBit_two_pow_sub_one]; exact decide_eq_true i1)
        exact ⟨_, List.mem_map_of_mem x1, by rw [← i2]; exact (lft_at h i1).mpr x2⟩
      · rintro ⟨s, s1, s2⟩
        obtain ⟨X, x1, x2⟩ := List.mem_map.mp s1
        rw [← x2] at s2
        obtain ⟨i, i1, i2, i3⟩ := (lft_tb h).mp s2
        exact ⟨i, i1, i3⟩
    · intro q i
      rw [Nat.testBit_two_pow_sub_one]
      constructor
      · intro hi
        have hi := of_decide_eq_true hi
        obtain ⟨s, s1, s2⟩ := (q (rr i)).mp ((h.2.2.2 (rr i)).mpr ⟨i, hi, rfl⟩)
        obtain ⟨X, x1, x2⟩ := List.mem_map.mp s1
        rw [← x2] at s2
        exact ⟨X, x1, (lft_at h hi).mp s2⟩
      · rintro ⟨X, x1, x2⟩
        exact decide_eq_true (lt_of_tb (hL X x1) x2)
  have h3 : L.Pairwise bdis ↔ (L.map (lft M n rr)).Pairwise bdis := by
    rw [List.pairwise_map]
    constructor
    · intro q
      refine q.imp (fun {a b} w j j1 j2 => ?_)
      obtain ⟨i, i1, i2, i3⟩ := (lft_tb h).mp j1
      rw [← i3] at j2
      exact w i i2 ((lft_at h i1).mp j2)
    · intro q
      refine q.imp_of_mem (fun {a b} ha hb w i i1 i2 => ?_)
      have hi := lt_of_tb (hL a ha) i1
      exact w (rr i) ((lft_at h hi).mpr i1) ((lft_at h hi).mpr i2)
  unfold Law
  rw [h1, h2, h3]
  refine and_congr_right (fun q1 => and_congr_right (fun _ => and_congr_right (fun _ => ?_)))
  have q0 := h1.mpr q1
  have h4 : L.Pairwise (klt (Dr D rr) n) ↔ (L.map (lft M n rr)).Pairwise (klt D M) := by
    rw [List.pairwise_map]
    exact ⟨fun q => q.imp_of_mem (fun {a b} ha hb w => (lft_klt hD h (q0 a ha).1 (q0 b hb).1).mp w), fun q => q.imp_of_mem (fun {a b} ha hb w => (lft_klt hD h (q0 a ha).1 (q0 b hb).1).mpr w)⟩
  have h5 : ∀ k, gapL (Dr D rr) n k L ↔ gapL D M k (L.map (lft M n rr)) := by
    intro k
    unfold gapL
    rw [List.pairwise_map]
    constructor
    · intro q
      exact q.imp_of_mem (fun {a b} ha hb w => by rw [← lft_high h (q0 a ha).1, ← lft_low hD h (q0 b hb).1]; exact w)
    · intro q
      exact q.imp_of_mem (fun {a b} ha hb w => by rw [lft_high h (q0 a ha).1, lft_low hD h (q0 b hb).1]; exact w)
  rw [h4]
  refine and_congr_right (fun _ => ?_)
  exact ⟨fun q g hg h3 => (h5 _).mp (q g hg h3), fun q g hg h3 => (h5 _).mpr (q g hg h3)⟩
theorem val_lft (h : Perm' D M n S rr) {G : List (Nat → Int32)} {nt : List Nat → Int32} (L : List Nat) : val (Dr D rr) n G nt L = val D M G nt (L.map (lft M n rr)) := by
  have e : L.map (sumS (Dr D rr) n) = (L.map (lft M n rr)).map (sumS D M) := by
    rw [List.map_map]
    exact List.map_congr_left (fun X _ => lft_sum h X)
  unfold val
  rw [e, List.length_map]
theorem LawV_lft (hD : LD M D) (h : Perm' D M n S rr) (G : List (Nat → Int32)) (nt : List Nat → Int32) : LawV (Dr D rr) n (2 ^ n - 1) G nt = LawV D M S G nt := by
  funext v
  apply propext
  constructor
  · rintro ⟨L, l1, l2⟩
    exact ⟨L.map (lft M n rr), (law_lft hD h (fun X hX => (l1.1 X hX).1.1)).mp l1, by rw [l2, val_lft h]⟩
  · rintro ⟨R, l1, l2⟩
    have e : (R.map (pll n rr)).map (lft M n rr) = R := by
      rw [List.map_map]
      conv => rhs; rw [← List.map_id R]
      refine List.map_congr_left (fun s hs => ?_)
      exact lft_pll h (fun j hj => (l1.2.1 j).mpr ⟨s, hs, hj⟩)
    refine ⟨R.map (pll n rr), (law_lft hD h (fun X hX => ?_)).mpr (by rw [e]; exact l1), by rw [val_lft h, e]; exact l2⟩
    obtain ⟨s, -, s2⟩ := List.mem_map.mp hX
    rw [← s2]
    exact pll_lt s
end LIFT
