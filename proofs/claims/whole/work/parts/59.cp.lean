/-! how the class goes through the partings, by places in the row -/
def CP (Lst : Nat → Prop) : List Nat → Nat → Prop
  | [], l => l = 0
  | X :: Q, l => l ≠ 0 ∧ Lst X ∧ X.testBit (ctz l) = true ∧ bsub X l ∧ CP Lst Q (bdiff l X)
section CPS
variable {M : Nat} {D : Nat → Nat → Nat} {J : Nat → Int32}
def srt (D : Nat → Nat → Nat) (M : Nat) : Prop := ∀ i j, i < j → j < M → D 1 i ≤ D 1 j
theorem srt_first (hD : LD M D) (hs : srt D M) {X i : Nat} (hX : X < 2 ^ M) (hi : X.testBit i = true) (hm : ∀ j, j < i → X.testBit j = false) : firstS D M X = i ∧ lowS D M X = D 1 i := by
  have hin := lt_of_tb hX hi
  refine firstS_at hD hin hi (fun y hy hy2 => ?_)
  rcases Nat.lt_trichotomy y i with q | q | q
  · rw [hm y q] at hy2; cases hy2
  · exact Or.inl q
  · have := hs i y q hy
    exact Or.inr (by unfold rlt; omega)
theorem srt_klt (hD : LD M D) (hs : srt D M) {X Y i j : Nat} (hX : X < 2 ^ M) (hY : Y < 2 ^ M) (hi : X.testBit i = true) (hm : ∀ k, k < i → X.testBit k = false) (hj : Y.testBit j = true) (hn : ∀ k, k < j → Y.testBit k = false) : klt D M X Y ↔ i < j := by
  obtain ⟨a1, a2⟩ := srt_first hD hs hX hi hm
  obtain ⟨b1, b2⟩ := srt_first hD hs hY hj hn
  have hi' := lt_of_tb hX hi
  have hj' := lt_of_tb hY hj
  unfold klt
  rw [a1, a2, b1, b2]
  rcases Nat.lt_trichotomy i j with q | q | q
  · have := hs i j q hj'; omega
  · subst q; omega
  · have := hs j i q hi'; omega
theorem ctz_low {l k : Nat} (hl : l < 4096) (h : l.testBit k = true) : ctz l ≤ k := by
  rcases Nat.lt_or_ge k (ctz l) with q | q
  · rw [ctz_no q] at h; cases h
  · exact q
theorem bdiff_lt {a b : Nat} (h : a < 2 ^ M) : bdiff a b < 2 ^ M := by
  apply Nat.lt_pow_two_of_testBit
  intro i hi
  rw [bdiff_tb, Nat.testBit_lt_two_pow (Nat.lt_of_lt_of_le h (Nat.pow_le_pow_right (by decide) hi))]
  rfl
theorem bdiff_t {a b j : Nat} : (bdiff a b).testBit j = true ↔ a.testBit j = true ∧ ¬ b.testBit j = true := by
  rw [bdiff_tb]
  cases a.testBit j <;> cases b.testBit j <;> simp
theorem un_nil (l : Nat) (h : l = 0) : bUn l [] := by
  intro j
  subst h
  rw [Nat.zero_testBit]
  simp
theorem un_nil' {l : Nat} (h : bUn l []) : l = 0 := by
  refine tb_ext (fun j => ?_)
  rw [h j, Nat.zero_testBit]
  simp
theorem un_cons {l X : Nat} {Q : List Nat} (h1 : bsub X l) (h2 : bUn (bdiff l X) Q) : bUn l (X :: Q) := by
  intro j
  constructor
  · intro q
    by_cases e : X.testBit j = true
    · exact ⟨X, List.mem_cons_self, e⟩
    · obtain ⟨s, s1, s2⟩ := (h2 j).mp (bdiff_t.mpr ⟨q, e⟩)
      exact ⟨s, List.mem_cons_of_mem _ s1, s2⟩
  · rintro ⟨s, s1, s2⟩
    rcases List.mem_cons.mp s1 with e | e
    · rw [e] at s2; exact h1 j s2
    · exact (bdiff_t.mp ((h2 j).mpr ⟨s, e, s2⟩)).1
theorem un_tail {l X : Nat} {Q : List Nat} (h : bUn l (X :: Q)) (hd : ∀ s ∈ Q, bdis X s) : bUn (bdiff l X) Q := by
  intro j
  rw [bdiff_t]
  constructor
  · rintro ⟨a, b⟩
    obtain ⟨s, s1, s2⟩ := (h j).mp a
    rcases List.mem_cons.mp s1 with e | e
    · rw [e] at s2; exact absurd s2 b
    · exact ⟨s, e, s2⟩
  · rintro ⟨s, s1, s2⟩
    exact ⟨(h j).mpr ⟨s, List.mem_cons_of_mem _ s1, s2⟩, fun q => hd s s1 j q s2⟩
theorem un_head {l X : Nat} {Q : List Nat} (h : bUn l (X :: Q)) : bsub X l := fun j hj => (h j).mpr ⟨X, List.mem_cons_self, hj⟩
/-- lawful but for the gaps -/
def LawO (D : Nat → Nat → Nat) (M S : Nat) (J : Nat → Int32) (R : List Nat) : Prop := (∀ s ∈ R, okS M s ∧ ONE J D M s) ∧ bUn S R ∧ R.Pairwise bdis ∧ R.Pairwise (klt D M)
theorem LawO.tail {X : Nat} {Q : List Nat} {l : Nat} (h : LawO D M l J (X :: Q)) : LawO D M (bdiff l X) J Q := by
  obtain ⟨h1, h2, h3, h4⟩ := h
  rw [List.pairwise_cons] at h3 h4
  exact ⟨fun s hs => h1 s (List.mem_cons_of_mem _ hs), un_tail h2 h3.1, h3.2, h4.2⟩
theorem LawO.hd (hD : LD M D) (hs : srt D M) {X : Nat} {Q : List Nat} {l : Nat} (hl : l < 2 ^ M) (h : LawO D M l J (X :: Q)) : l ≠ 0 ∧ X.testBit (ctz l) = true := by
  obtain ⟨h1, h2, h3, h4⟩ := h
  have hl' : l < 4096 := Nat.lt_of_lt_of_le hl (n_lt2 hD.1)
  obtain ⟨hX, -⟩ := h1 X List.mem_cons_self
  obtain ⟨i, i1, i2⟩ := low_bit hX.2
  have hi := un_head h2 i i1
  have hz : l ≠ 0 := fun e => by rw [e, Nat.zero_testBit] at hi; cases hi
  refine ⟨hz, ?_⟩
  have hc := ctz_low hl' hi
  obtain ⟨s, s1, s2⟩ := (h2 _).mp (ctz_tb hl' hz)
  rcases List.mem_cons.mp s1 with e | e
  · rw [e] at s2; exact s2
  · exfalso
    obtain ⟨hS, -⟩ := h1 s s1
    obtain ⟨j, j1, j2⟩ := low_bit hS.2
    have hk := (List.pairwise_cons.mp h4).1 s e
    rw [srt_klt hD hs hX.1 hS.1 i1 i2 j1 j2] at hk
    have : j ≤ ctz l := by
      rcases Nat.lt_or_ge (ctz l) j with q | q
      · rw [j2 _ q] at s2; cases s2
      · exact q
    omega
theorem LawO.cons (hD : LD M D) (hs : srt D M) {X : Nat} {Q : List Nat} {l : Nat} (hl : l < 2 ^ M) (hX : okS M X) (hO : ONE J D M X) (hc : X.testBit (ctz l) = true) (hb : bsub X l) (h : LawO D M (bdiff l X) J Q) : LawO D M l J (X :: Q) := by
  obtain ⟨h1, h2, h3, h4⟩ := h
  have hl' : l < 4096 := Nat.lt_of_lt_of_le hl (n_lt2 hD.1)
  refine ⟨?_, un_cons hb h2, List.pairwise_cons.mpr ⟨?_, h3⟩, List.pairwise_cons.mpr ⟨?_, h4⟩⟩
  · intro s hs
    rcases List.mem_cons.mp hs with e | e
    · rw [e]; exact ⟨hX, hO⟩
    · exact h1 s e
  · intro s hs j j1 j2
    exact (bdiff_t.mp ((h2 j).mpr ⟨s, hs, j2⟩)).2 j1
  · intro s hs'
    obtain ⟨hS, -⟩ := h1 s hs'
    obtain ⟨j, j1, j2⟩ := low_bit hS.2
    have hj := bdiff_t.mp ((h2 j).mpr ⟨s, hs', j1⟩)
    rw [srt_klt hD hs hX.1 hS.1 hc (fun k hk => ?_) j1 j2]
    · have := ctz_low hl' hj.1
      rcases Nat.lt_or_ge (ctz l) j with q | q
      · exact q
      · have e : j = ctz l := by omega
        rw [e] at hj
        exact absurd hc hj.2
    · cases e : X.testBit k with
      | false => rfl
      | true =>
        have := hb k e
        rw [ctz_no hk] at this
        cases this
/-- where the class lists all sets -/
theorem cp_sets (hD : LD M D) (hs : srt D M) : ∀ (L : List Nat) (l : Nat), l < 2 ^ M → (CP (fun X => okS M X ∧ ONE J D M X) L l ↔ LawO D M l J L)
  | [], l, hl => by
    show l = 0 ↔ _
    constructor
    · intro e
      exact ⟨fun s hs => (by cases hs), un_nil l e, List.Pairwise.nil, List.Pairwise.nil⟩
    · rintro ⟨-, h2, -⟩
      exact un_nil' h2
  | X :: Q, l, hl => by
    show (l ≠ 0 ∧ (okS M X ∧ ONE J D M X) ∧ X.testBit (ctz l) = true ∧ bsub X l ∧ CP _ Q (bdiff l X)) ↔ _
    rw [cp_sets hD hs Q (bdiff l X) (bdiff_lt hl)]
    constructor
    · rintro ⟨a, ⟨b, c⟩, d, e, f⟩
      exact LawO.cons hD hs hl b c d e f
    · intro h
      obtain ⟨a, b⟩ := LawO.hd hD hs hl h
      exact ⟨a, h.1 X List.mem_cons_self, b, un_head h.2.1, h.tail⟩
/-- the places from a on, and a run of places -/
def upb (M a : Nat) : Nat := bdiff (2 ^ M - 1) (2 ^ a - 1)
def run (a b : Nat) : Nat := bdiff (2 ^ (b + 1) - 1) (2 ^ a - 1)
theorem upb_t {a j : Nat} : (upb M a).testBit j = true ↔ a ≤ j ∧ j < M := by
  unfold upb
  rw [bdiff_t, Nat.testBit_two_pow_sub_one, Nat.testBit_two_pow_sub_one]
  simp
  omega
theorem run_t {a b j : Nat} : (run a b).testBit j = true ↔ a ≤ j ∧ j ≤ b := by
  unfold run
  rw [bdiff_t, Nat.testBit_two_pow_sub_one, Nat.testBit_two_pow_sub_one]
  simp
  omega
theorem upb_lt (a : Nat) : upb M a < 2 ^ M := bdiff_lt (by have := Nat.two_pow_pos M; omega)
theorem upb_ctz (hM : M ≤ 12) {a : Nat} (ha : a < M) : ctz (upb M a) = a ∧ upb M a ≠ 0 := by
  have h1 : (upb M a).testBit a = true := upb_t.mpr ⟨Nat.le_refl a, ha⟩
  refine ⟨ctz_at (Nat.lt_of_lt_of_le (upb_lt a) (n_lt2 hM)) h1 (fun j hj => ?_), fun e => by rw [e, Nat.zero_testBit] at h1; cases h1⟩
  cases e : (upb M a).testBit j with
  | false => rfl
  | true => have := upb_t.mp e; omega
theorem upb_M {a : Nat} (ha : M ≤ a) : upb M a = 0 := tb_ext (fun j => by
  rw [upb_t, Nat.zero_testBit]
  constructor
  · intro q; omega
  · intro q; cases q)
theorem upb_run {a b : Nat} (hab : a ≤ b) : bdiff (upb M a) (run a b) = upb M (b + 1) := tb_ext (fun j => by
  rw [bdiff_t, upb_t, upb_t, run_t]
  omega)
def Run (D : Nat → Nat → Nat) (M : Nat) (J : Nat → Int32) (X : Nat) : Prop := ∃ a b, a ≤ b ∧ b < M ∧ X = run a b ∧ ONE J D M X ∧ (b + 1 = M ∨ D 1 b + wv J 4 < D 1 (b + 1))
theorem run_ok {a b : Nat} (hab : a ≤ b) (hb : b < M) : okS M (run a b) := by
  have h1 : (run a b).testBit a = true := run_t.mpr ⟨Nat.le_refl a, hab⟩
  refine ⟨Nat.lt_of_lt_of_le (m := 2 ^ (b + 1)) ?_ (Nat.pow_le_pow_right (by decide) (by omega)), fun e => by rw [e, Nat.zero_testBit] at h1; cases h1⟩
  exact bdiff_lt (by have := Nat.two_pow_pos (b + 1); omega)
theorem high_bit {X : Nat} (h : okS M X) : ∃ i, i < M ∧ X.testBit i = true ∧ ∀ j, i < j → X.testBit j = false := by
  have key : ∀ k, k ≤ M → (∀ j, k ≤ j → X.testBit j = false) → ∃ i, i < M ∧ X.testBit i = true ∧ ∀ j, i < j → X.testBit j = false := by
    intro k
    induction k with
    | zero =>
      intro _ q
      obtain ⟨j, j1, j2⟩ := okS_j h
      rw [q j (by omega)] at j2
      cases j2
    | succ k ih =>
      intro hk q
      cases e : X.testBit k with
      | true => exact ⟨k, by omega, e, fun j hj => q j (by omega)⟩
      | false =>
        refine ih (by omega) (fun j hj => ?_)
        by_cases e2 : j = k
        · rw [e2]; exact e
        · exact q j (by omega)
  refine key M (Nat.le_refl M) (fun j hj => ?_)
  cases e : X.testBit j with
  | false => rfl
  | true => have := lt_of_tb h.1 e; omega
theorem srt_le (hs : srt D M) {i j : Nat} (h : i ≤ j) (hj : j < M) : D 1 i ≤ D 1 j := by
  rcases Nat.lt_or_ge i j with q | q
  · exact hs i j q hj
  · have e : i = j := by omega
    rw [e]; exact Nat.le_refl _
theorem cp_runs (hD : LD M D) (hs : srt D M) : ∀ (L : List Nat) (a : Nat), (CP (Run D M J) L (upb M a) ↔ LawO D M (upb M a) J L ∧ gapL D M (wv J 4) L)
  | [], a => by
    show upb M a = 0 ↔ _
    constructor
    · intro e
      exact ⟨⟨fun s hs => (by cases hs), un_nil _ e, List.Pairwise.nil, List.Pairwise.nil⟩, List.Pairwise.nil⟩
    · rintro ⟨⟨-, h2, -⟩, -⟩
      exact un_nil' h2
  | X :: Q, a => by
    show (upb M a ≠ 0 ∧ Run D M J X ∧ X.testBit (ctz (upb M a)) = true ∧ bsub X (upb M a) ∧ CP _ Q (bdiff (upb M a) X)) ↔ _
    constructor
    · rintro ⟨h1, ⟨a', b, b1, b2, b3, b4, b5⟩, h3, h4, h5⟩
      have ha : a < M := by
        rcases Nat.lt_or_ge a M with q | q
        · exact q
        · exact absurd (upb_M q) h1
      rw [(upb_ctz hD.1 ha).1, b3, run_t] at h3
      have e : a' = a := by
        have := h4 a' (by rw [b3]; exact run_t.mpr ⟨Nat.le_refl _, b1⟩)
        rw [upb_t] at this
        omega
      subst e
      rw [b3, upb_run b1] at h5
      obtain ⟨ih1, ih2⟩ := (cp_runs hD hs Q (b + 1)).mp h5
      have hr := run_ok b1 b2
      refine ⟨?_, List.pairwise_cons.mpr ⟨fun s hs' => ?_, ih2⟩⟩
      · refine LawO.cons hD hs (upb_lt _) (by rw [b3]; exact hr) b4 ?_ h4 (by rw [b3, upb_run b1]; exact ih1)
        rw [(upb_ctz hD.1 ha).1, b3]
        exact run_t.mpr h3
      · have hS := (ih1.1 s hs').1
        obtain ⟨j, j1, j2, j3⟩ := okS_low hD hS
        have hj := upb_t.mp ((ih1.2.1 j).mpr ⟨s, hs', j2⟩)
        have hh : highS D M X = D 1 b := by
          refine highS_is ⟨b, b2, by rw [b3]; exact run_t.mpr ⟨b1, Nat.le_refl b⟩, rfl⟩ (fun k hk hk2 => ?_)
          rw [b3] at hk2
          exact srt_le hs (run_t.mp hk2).2 b2
        have := srt_le hs hj.1 hj.2
        omega
    · rintro ⟨h1, h2⟩
      obtain ⟨c1, c2⟩ := LawO.hd hD hs (upb_lt a) h1
      have hX := h1.1 X List.mem_cons_self
      obtain ⟨b, b1, b2, b3⟩ := high_bit hX.1
      have hb := upb_t.mp (un_head h1.2.1 b b2)
      have hhi : D 1 b ≤ highS D M X := high_of b1 b2
      have hgap := (List.pairwise_cons.mp h2).1
      have e : X = run a b := by
        refine tb_ext (fun j => ?_)
        rw [run_t]
        constructor
        · intro q
          have q2 := upb_t.mp (un_head h1.2.1 j q)
          refine ⟨q2.1, ?_⟩
          rcases Nat.lt_or_ge b j with w | w
          · rw [b3 j w] at q; cases q
          · exact w
        · intro q
          obtain ⟨s, s1, s2⟩ := (h1.2.1 j).mp (upb_t.mpr ⟨q.1, by omega⟩)
          rcases List.mem_cons.mp s1 with w | w
          · rw [w] at s2; exact s2
          · exfalso
            have g1 := hgap s w
            have g2 := low_of (D := D) (show j < M by omega) s2
            have g3 := srt_le hs q.2 b1
            omega
      refine ⟨c1, ⟨a, b, hb.1, b1, e, hX.2, ?_⟩, c2, un_head h1.2.1, ?_⟩
      · rcases Nat.lt_or_ge (b + 1) M with q | q
        · refine Or.inr ?_
          obtain ⟨s, s1, s2⟩ := (h1.2.1 (b + 1)).mp (upb_t.mpr ⟨by omega, q⟩)
          rcases List.mem_cons.mp s1 with w | w
          · rw [w, b3 (b + 1) (by omega)] at s2; cases s2
          · have g1 := hgap s w
            have g2 := low_of (D := D) q s2
            omega
        · exact Or.inl (by omega)
      · rw [e, upb_run hb.1]
        have ht := h1.tail
        rw [e, upb_run hb.1] at ht
        exact (cp_runs hD hs Q (b + 1)).mpr ⟨ht, (List.pairwise_cons.mp h2).2⟩
/-- the class's way through the partings finds the lawful ones -/
theorem cp_law (hD : LD M D) (hs : srt D M) (L : List Nat) : (if J 3 = 1 then CP (fun X => okS M X ∧ ONE J D M X) L (2 ^ M - 1) else CP (Run D M J) L (2 ^ M - 1)) ↔ Law D M (2 ^ M - 1) [J] L := by
  have h2 : Law D M (2 ^ M - 1) [J] L ↔ LawO D M (2 ^ M - 1) J L ∧ (J 3 ≠ 1 → gapL D M (wv J 4) L) := by
    unfold Law LawO ONEs
    simp only [List.mem_singleton, forall_eq]
    constructor
    · rintro ⟨a, b, c, d, e⟩; exact ⟨⟨a, b, c, d⟩, e⟩
    · rintro ⟨⟨a, b, c, d⟩, e⟩; exact ⟨a, b, c, d, e⟩
  rw [h2]
  by_cases h : J 3 = 1
  · rw [if_pos h, cp_sets hD hs L _ (by have := Nat.two_pow_pos M; omega)]
    exact ⟨fun q => ⟨q, fun w => absurd h w⟩, fun q => q.1⟩
  · rw [if_neg h]
    have e : 2 ^ M - 1 = upb M 0 := tb_ext (fun j => by
      rw [upb_t, Nat.testBit_two_pow_sub_one]
      simp)
    rw [e, cp_runs hD hs L 0]
    exact ⟨fun q => ⟨q.1, fun _ => q.2⟩, fun q => ⟨q.1, q.2 h⟩⟩
end CPS
/-! several covers as one -/
def Joint (J : Nat → Int32) (G : List (Nat → Int32)) : Prop := wfC J ∧ (∀ D i j, near J D i j ↔ ∀ g ∈ G, near g D i j) ∧ (J 2 = 1 ↔ ∃ g ∈ G, g 2 = 1) ∧ (J 3 = 1 ↔ ∀ g ∈ G, g 3 = 1) ∧ ∀ h l, J 3 ≠ 1 → (h + wv J 4 < l ↔ ∀ g ∈ G, g 3 ≠ 1 → h + wv g 4 < l)
theorem joint_1 {g : Nat → Int32} (hg : wfC g) : Joint g [g] := by
  refine ⟨hg, fun D i j => by simp, by simp, by simp, fun h l q => ?_⟩
  simp only [List.mem_singleton, forall_eq]
  exact ⟨fun a _ => a, fun a => a q⟩
theorem joint_one {J : Nat → Int32} {G : List (Nat → Int32)} (h : Joint J G) (hG : ∀ g ∈ G, wfC g) {D : Nat → Nat → Nat} {M s : Nat} : ONE J D M s ↔ ONEs G D M s := by
  have hc : ∀ g, wfC g → (g 2 = 0 ↔ ¬ g 2 = 1) := fun g hg => by
    rcases hg.2.2.1 with e | e <;> rw [e] <;> decide
  unfold ONEs ONE
  constructor
  · rintro ⟨h1, h2⟩ g hg
    refine ⟨fun i j hi hj a b => (h.2.1 D i j).mp (h1 i j hi hj a b) g hg, h2.imp (fun q => ?_) id⟩
    rw [hc g (hG g hg)]
    intro w
    rw [hc J h.1] at q
    exact q (h.2.2.1.mpr ⟨g, hg, w⟩)
  · intro q
    refine ⟨fun i j hi hj a b => (h.2.1 D i j).mpr (fun g hg => (q g hg).1 i j hi hj a b), ?_⟩
    by_cases w : J 2 = 1
    · obtain ⟨g, g1, g2⟩ := h.2.2.1.mp w
      rcases (q g g1).2 with e | e
      · rw [hc g (hG g g1)] at e; exact absurd g2 e
      · exact Or.inr e
    · exact Or.inl ((hc J h.1).mpr w)
theorem joint_law {J : Nat → Int32} {G : List (Nat → Int32)} (h : Joint J G) (hG : ∀ g ∈ G, wfC g) {D : Nat → Nat → Nat} {M S : Nat} {R : List Nat} : Law D M S [J] R ↔ Law D M S G R := by
  unfold Law
  have e1 : ∀ s, ONEs [J] D M s ↔ ONEs G D M s := fun s => by
    rw [← joint_one h hG]
    unfold ONEs
    simp
  have e2 : (∀ g ∈ [J], g 3 ≠ 1 → gapL D M (wv g 4) R) ↔ ∀ g ∈ G, g 3 ≠ 1 → gapL D M (wv g 4) R := by
    simp only [List.mem_singleton, forall_eq]
    constructor
    · intro q g hg h3
      have hJ : J 3 ≠ 1 := fun w => h3 (h.2.2.2.1.mp w g hg)
      exact (q hJ).imp (fun {a b} w => (h.2.2.2.2 _ _ hJ).mp w g hg h3)
    · intro q hJ
      unfold gapL
      have hx : ∀ a b, (highS D M a + wv J 4 < lowS D M b ↔ ∀ g ∈ G, g 3 ≠ 1 → highS D M a + wv g 4 < lowS D M b) := fun a b => h.2.2.2.2 _ _ hJ
      have : R.Pairwise (fun a b => ∀ g ∈ G, g 3 ≠ 1 → highS D M a + wv g 4 < lowS D M b) := by
        rw [List.pairwise_iff_getElem]
        intro i j hi hj hij g hg h3
        exact List.pairwise_iff_getElem.mp (q g hg h3) i j hi hj hij
      exact this.imp (fun {a b} w => (hx a b).mpr w)
  rw [e2]
  simp only [e1]
