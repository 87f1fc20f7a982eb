/-! the reference parts by hours -/
theorem cnt_mono {p q : Nat → Bool} : ∀ n, (∀ k, k < n → p k = true → q k = true) → fa_cnt p n ≤ fa_cnt q n
  | 0, _ => Nat.le_refl _
  | n + 1, h => by
    have ih := cnt_mono n (fun k hk => h k (by omega))
    cases hp : p n with
    | false =>
      rw [fa_cnt_no hp]
      cases hq : q n with
      | false => rw [fa_cnt_no hq]; exact ih
      | true => rw [fa_cnt_yes hq]; omega
    | true => rw [fa_cnt_yes hp, fa_cnt_yes (h n (by omega) hp)]; omega
theorem cnt_strict {p q : Nat → Bool} : ∀ n j, (∀ k, k < n → p k = true → q k = true) → j < n → q j = true → p j = false → fa_cnt p n < fa_cnt q n
  | 0, j, _, hj, _, _ => absurd hj (Nat.not_lt_zero j)
  | n + 1, j, h, hj, h1, h2 => by
    by_cases e : j = n
    · subst e
      rw [fa_cnt_no h2, fa_cnt_yes h1]
      have := cnt_mono j (fun k hk => h k (by omega))
      omega
    · have ih := cnt_strict n j (fun k hk => h k (by omega)) (by omega) h1 h2
      cases hp : p n with
      | false =>
        rw [fa_cnt_no hp]
        cases hq : q n with
        | false => rw [fa_cnt_no hq]; exact ih
        | true => rw [fa_cnt_yes hq]; omega
      | true => rw [fa_cnt_yes hp, fa_cnt_yes (h n (by omega) hp)]; omega
def cnt (M s : Nat) : Nat := fa_cnt s.testBit M
theorem cnt_le (M s : Nat) : cnt M s ≤ M := fa_cnt_le _ M
theorem cnt_lt {M a b j : Nat} (h : bsub a b) (hj : j < M) (h1 : b.testBit j = true) (h2 : ¬ a.testBit j = true) : cnt M a < cnt M b := cnt_strict M j (fun k _ q => h k q) hj h1 (by simpa using h2)
theorem bdis_c {a b : Nat} (h : bdis a b) : bdis b a := fun j h1 h2 => h j h2 h1
theorem nI_z : nI 0 = 0 := rfl
theorem n_nz {l : Nat} (h : l < 2 ^ 31) (h0 : l ≠ 0) : ¬ nI l = 0 := fun q => h0 ((n_eq (b := 0) h (by omega)).mp (q.trans nI_z.symm))
def vor (V W : VS) : VS := fun x => V x ∨ W x
/-- the values of the partings that a leaf stands for -/
def Vl (D : Nat → Nat → Nat) (M : Nat) (G : List (Nat → Int32)) (nt : List Nat → Int32) (Leaf : List Nat → Prop) : VS := fun v => ∃ P R, Leaf P ∧ List.Perm R P ∧ R.Pairwise (fun a b => ¬ klt D M b a) ∧ (∀ g ∈ G, apart D M g R) ∧ v = val D M G nt R
theorem vor_e {V W W' : VS} (h : ∀ v, W v ↔ W' v) : vor V W = vor V W' := by
  funext x
  exact propext (or_congr_right (h x))
theorem vor_vor {V W W' U : VS} (h : ∀ v, U v ↔ W v ∨ W' v) : vor (vor V W) W' = vor V U := by
  funext x
  apply propext
  unfold vor
  rw [h x, or_assoc]
theorem vor_no {V W : VS} (h : ∀ v, ¬ W v) : vor V W = V := by
  funext x
  exact propext ⟨fun q => q.elim id (fun w => absurd w (h x)), Or.inl⟩
section HOURS
variable {N M C : Nat} {D : Nat → Nat → Nat} {gs : Nat → Nat → Int32} {ask : Nat → Bool} {nt : List Nat → Int32}
/-- disjoint sets have one order only -/
theorem row_un (hD : LD M D) {P R R' : List Nat} (hok : ∀ s ∈ P, okS M s) (hd : P.Pairwise bdis) (h1 : R.Perm P) (h2 : R'.Perm P) (s1 : R.Pairwise (fun a b => ¬ klt D M b a)) (s2 : R'.Pairwise (fun a b => ¬ klt D M b a)) : R = R' := by
  refine List.Perm.eq_of_pairwise (le := fun a b => ¬ klt D M b a) ?_ s1 s2 (h1.trans h2.symm)
  intro a b ha hb q1 q2
  have ha' := h1.mem_iff.mp ha
  have hb' := h2.mem_iff.mp hb
  have k1 := firstS_ok hD (hok a ha')
  have k2 := firstS_ok hD (hok b hb')
  have e : firstS D M a = firstS D M b := by
    unfold klt at q1 q2
    omega
  rcases List.getElem_of_mem ha' with ⟨i, hi, ei⟩
  rcases List.getElem_of_mem hb' with ⟨j, hj, ej⟩
  rw [List.pairwise_iff_getElem] at hd
  rcases Nat.lt_trichotomy i j with q | q | q
  · have := hd i j hi hj q (firstS D M a) (by rw [ei]; exact k1.2.1) (by rw [ej, e]; exact k2.2.1)
    exact this.elim
  · subst q; rw [← ei, ← ej]
  · have := hd j i hj hi q (firstS D M a) (by rw [ej, e]; exact k2.2.1) (by rw [ei]; exact k1.2.1)
    exact this.elim
def PI (τ : Mem) (P : List Nat) : Prop := τ 0 22 = nI P.length ∧ ∀ j s, P[j]? = some s → τ 10 j = nI s
/-- a parting is counted -/
theorem e_leaf (hN : 13 ≤ N) {P : List Nat} (hP : P.length ≤ 12) (hok : ∀ s ∈ P, okS M s) (hd : P.Pairwise bdis) {V : VS} {τ : Mem} (h : SR τ M D C gs ask nt) (hp : PI τ P) (ha : AccR τ V) :
    ∃ τ', f_X7_counts N τ = some (0, τ') ∧ AccR τ' (vor V (Vl D M (askG ask gs C) nt (fun P' => P' = P))) ∧ KCt τ τ' := by
  obtain ⟨τ', R, i1, i2, i3, i4, i5⟩ := e_counts hN hP hok h hp.1 hp.2 ha
  refine ⟨τ', i1, ?_, i5⟩
  have e : vif V (∀ g ∈ askG ask gs C, apart D M g R) (val D M (askG ask gs C) nt R) = vor V (Vl D M (askG ask gs C) nt (fun P' => P' = P)) := by
    funext x
    apply propext
    constructor
    · rintro (q | ⟨q1, q2⟩)
      · exact Or.inl q
      · exact Or.inr ⟨P, R, rfl, i2, i3, q1, q2⟩
    · rintro (q | ⟨P', R', q1, q2, q3, q4, q5⟩)
      · exact Or.inl q
      · subst q1
        have := row_un h.2.1 hok hd q2 i2 q3 i3
        subst this
        exact Or.inr ⟨q4, q5⟩
  rw [← e]
  exact i4
theorem KCt.pi {τ τ' : Mem} {P : List Nat} (h : KCt τ τ') (hp : PI τ P) : PI τ' P := ⟨by rw [h 0 22 (by omega) (by omega)]; exact hp.1, fun j s hs => by rw [h 10 j (by omega) (by omega)]; exact hp.2 j s hs⟩
theorem lp_mayNow (hN : 13 ≤ N) {s : Nat} (hs : s < 2 ^ 31) {τ : Mem} (h : SR τ M D C gs ask nt) : ∀ m c n, c + m = C → m < n → l_X7_mayNow_2 N n (nI s) (nI c) τ = some (b2i (cdec (∀ c', c ≤ c' → c' < C → ask c' = true → ONE (gs c') D M s)), τ) := by
  intro m
  obtain ⟨h1, h2, h3, h4, h5, h6⟩ := id h
  induction m with
  | zero =>
    intro c n hc hn
    obtain ⟨n, rfl⟩ : ∃ n', n = n' + 1 := ⟨n - 1, by omega⟩
    have e : c = C := by omega
    subst e
    have hle : nI c ≤ nI c := by rw [n_le (by omega) (by omega)]; omega
    have hq : cdec (∀ c', c ≤ c' → c' < c → ask c' = true → ONE (gs c') D M s) = true := cdec_t (fun c' a b => by omega)
    simp only [l_X7_mayNow_2, b_X7_mayNow_2, h4, if_pos hle, isb_1, gd_t, hq]
    rfl
  | succ m ih =>
    intro c n hc hn
    obtain ⟨n, rfl⟩ : ∃ n', n = n' + 1 := ⟨n - 1, by omega⟩
    have hcC : c < C := by omega
    have hle : ¬ nI C ≤ nI c := fun q => by rw [n_le (by omega) (by omega)] at q; omega
    have ih := ih (c + 1) n (by omega) (by omega)
    simp only [l_X7_mayNow_2, b_X7_mayNow_2, h4, if_neg hle, e_asked h hcC, bnd_s, nI_1, e_oneR hN h2 h1 (h5 c hcC).2 (h5 c hcC).1 hs, isb_0, gd_t, ih]
    cases hk : ask c with
    | false =>
      rw [if_pos b2i_f]
      have e : (∀ c', c + 1 ≤ c' → c' < C → ask c' = true → ONE (gs c') D M s) = (∀ c', c ≤ c' → c' < C → ask c' = true → ONE (gs c') D M s) := propext ⟨fun q c' a b d => by
          by_cases w : c' = c
          · rw [w, hk] at d; cases d
          · exact q c' (by omega) b d, fun q c' a b d => q c' (by omega) b d⟩
      rw [e]
    | true =>
      rw [if_neg (by decide)]
      by_cases hap : ONE (gs c) D M s
      · rw [cdec_t hap, if_neg (by decide)]
        have e : (∀ c', c + 1 ≤ c' → c' < C → ask c' = true → ONE (gs c') D M s) = (∀ c', c ≤ c' → c' < C → ask c' = true → ONE (gs c') D M s) := propext ⟨fun q c' a b d => by
            by_cases w : c' = c
            · rw [w]; exact hap
            · exact q c' (by omega) b d, fun q c' a b d => q c' (by omega) b d⟩
        rw [e]
      · rw [cdec_f hap, if_pos b2i_f, cdec_f (fun q => hap (q c (Nat.le_refl c) hcC hk))]
        rfl
theorem e_mayNow (hN : 13 ≤ N) {s : Nat} (hs : s < 2 ^ 31) {τ : Mem} (h : SR τ M D C gs ask nt) : f_X7_mayNow N (nI s) τ = some (b2i (cdec (ONEs (askG ask gs C) D M s)), τ) := by
  have h3 := h.2.2.1
  unfold f_X7_mayNow
  have := lp_mayNow hN hs h C 0 N (by omega) (by omega)
  have e : (∀ c', 0 ≤ c' → c' < C → ask c' = true → ONE (gs c') D M s) = ONEs (askG ask gs C) D M s := propext ⟨fun q g hg => by
      obtain ⟨c, c1, c2, c3⟩ := (askG_mem C).mp hg
      rw [c3]; exact q c (by omega) c1 c2, fun q c' _ b d => q _ ((askG_mem C).mpr ⟨c', b, d, rfl⟩)⟩
  rw [e] at this
  exact this
def seg (D : Nat → Nat → Nat) (l X : Nat) : Prop := X ≠ 0 ∧ ∃ h, ∀ j, X.testBit j = true ↔ l.testBit j = true ∧ D 1 j ≤ h
def ini (D : Nat → Nat → Nat) (l s : Nat) : Prop := bsub s l ∧ ∀ i j, l.testBit i = true → ¬ s.testBit i = true → s.testBit j = true → D 1 j < D 1 i
def HP (D : Nat → Nat → Nat) (Os : Nat → Prop) : List Nat → Nat → Prop
  | [], l => l = 0
  | X :: Q, l => l ≠ 0 ∧ seg D l X ∧ Os X ∧ HP D Os Q (bdiff l X)
/-- the next part by hours: what is left of the least hour joins -/
def nxt (D : Nat → Nat → Nat) (M l s : Nat) : Nat := s ||| orF (fun k => l.testBit k && decide (D 1 k = lowS D M (bdiff l s))) M
theorem nxt_t {l s j : Nat} (hl : l < 2 ^ M) : (nxt D M l s).testBit j = true ↔ s.testBit j = true ∨ (l.testBit j = true ∧ D 1 j = lowS D M (bdiff l s)) := by
  unfold nxt
  rw [Nat.testBit_or, orF_tb, Bool.or_eq_true, Bool.and_eq_true, Bool.and_eq_true, decide_eq_true_iff, decide_eq_true_iff]
  constructor
  · rintro (q | ⟨-, q⟩)
    · exact Or.inl q
    · exact Or.inr q
  · rintro (q | q)
    · exact Or.inl q
    · exact Or.inr ⟨lt_of_tb hl q.1, q⟩
theorem nxt_ok (hD : LD M D) {l s : Nat} (hl : l < 2 ^ M) (hi : ini D l s) (hne : s ≠ l) : okS M (bdiff l s) ∧ seg D l (nxt D M l s) ∧ ini D l (nxt D M l s) ∧ bsub s (nxt D M l s) ∧ cnt M (bdiff l (nxt D M l s)) < cnt M (bdiff l s) ∧ nxt D M l s ≠ s ∧ nxt D M l s < 2 ^ M := by
  have hd : bdiff l s ≠ 0 := by
    intro e
    apply hne
    refine tb_ext (fun j => ⟨hi.1 j, fun q => ?_⟩)
    by_cases w : s.testBit j = true
    · exact w
    · have := bdiff_t.mpr ⟨q, w⟩
      rw [e, Nat.zero_testBit] at this
      cases this
  have hok : okS M (bdiff l s) := ⟨bdiff_lt hl, hd⟩
  obtain ⟨i, i1, i2, i3⟩ := okS_low hD hok
  have i4 := bdiff_t.mp i2
  have hin : (nxt D M l s).testBit i = true := (nxt_t hl).mpr (Or.inr ⟨i4.1, i3⟩)
  have hseg : ∀ j, (nxt D M l s).testBit j = true ↔ l.testBit j = true ∧ D 1 j ≤ lowS D M (bdiff l s) := by
    intro j
    rw [nxt_t hl]
    constructor
    · rintro (q | ⟨q1, q2⟩)
      · refine ⟨hi.1 j q, ?_⟩
        have := hi.2 i j i4.1 i4.2 q
        omega
      · exact ⟨q1, by omega⟩
    · rintro ⟨q1, q2⟩
      by_cases w : s.testBit j = true
      · exact Or.inl w
      · have := low_of (D := D) (lt_of_tb hl q1) (bdiff_t.mpr ⟨q1, w⟩)
        exact Or.inr ⟨q1, by omega⟩
  refine ⟨hok, ⟨fun e => (by rw [e, Nat.zero_testBit] at hin; cases hin), _, hseg⟩, ⟨fun j q => ((hseg j).mp q).1, fun a b a1 a2 b1 => ?_⟩, fun j q => (nxt_t hl).mpr (Or.inl q), ?_, ?_, ?_⟩
  · have h1 := (hseg b).mp b1
    rcases Nat.lt_or_ge (D 1 b) (D 1 a) with q | q
    · exact q
    · exact absurd ((hseg a).mpr ⟨a1, by omega⟩) a2
  · refine cnt_lt (j := i) (fun j q => ?_) i1 i2 (fun q => ?_)
    · have := bdiff_t.mp q
      exact bdiff_t.mpr ⟨this.1, fun w => this.2 ((nxt_t hl).mpr (Or.inl w))⟩
    · exact (bdiff_t.mp q).2 hin
  · intro e
    rw [e] at hin
    exact i4.2 hin
  · apply Nat.lt_pow_two_of_testBit
    intro k hk
    cases e : (nxt D M l s).testBit k with
    | false => rfl
    | true =>
      have := lt_of_tb hl ((hseg k).mp e).1
      omega
theorem seg_next (hD : LD M D) {l s X : Nat} (hl : l < 2 ^ M) (hi : ini D l s) (hne : s ≠ l) (hX : seg D l X) (hs : bsub s X) (hx : X ≠ s) : bsub (nxt D M l s) X := by
  obtain ⟨-, h, hX⟩ := hX
  have hex : ∃ i, X.testBit i = true ∧ ¬ s.testBit i = true := by
    refine Classical.byContradiction (fun q => hx (tb_ext (fun j => ⟨fun w => ?_, hs j⟩)))
    exact Classical.byContradiction (fun w2 => q ⟨j, w, w2⟩)
  obtain ⟨i, i1, i2⟩ := hex
  have i3 := (hX i).mp i1
  have hlow := low_of (D := D) (lt_of_tb hl i3.1) (bdiff_t.mpr ⟨i3.1, i2⟩)
  intro j hj
  rcases (nxt_t hl).mp hj with q | ⟨q1, q2⟩
  · exact hs j q
  · exact (hX j).mpr ⟨q1, by omega⟩
/-- the inmost loop -/
theorem lp_join (hD : LD M D) {τ : Mem} (hR : LR τ M D) (rec : Int32 → Mem → Option (Int32 × Mem)) (K11 : Int32 → Int32 → Mem → Option (Int32 × Mem)) {l s h : Nat} (hl : l < 2 ^ M) (hh : h ≤ 1000) : ∀ m k n, k + m = M → m < n →
    l_X7_partByHours_29 N rec K11 n (nI l) (nI (s ||| orF (fun k => l.testBit k && decide (D 1 k = h)) k)) (nI h) (nI k) τ = (fun x2 => m_bnd (f_X7_mayNow N x2 τ) (fun r1 σ2 => (if r1 = 0 then K11 (nI l) x2 σ2 else gd (inb (σ2 0 22) 12) (m_let (mu σ2 10 (σ2 0 22).toNatClampNeg x2) (fun σ3 => m_let (mu σ3 0 22 ((σ3 0 22) + 1)) (fun σ4 => m_bnd (rec ((nI l) &&& (x2 ^^^ (-1))) σ4) (fun r5 σ6 => m_let (mu σ6 0 22 ((σ6 0 22) - 1)) (fun σ7 => K11 (nI l) x2 σ7)))))))) (nI (s ||| orF (fun k => l.testBit k && decide (D 1 k = h)) M)) := by
  intro m
  have hM := hD.1
  have hl' : l < 2 ^ 31 := Nat.lt_of_lt_of_le hl (Nat.le_trans (n_lt2 hM) (by omega))
  induction m with
  | zero =>
    intro k n hk hn
    obtain ⟨n, rfl⟩ : ∃ n', n = n' + 1 := ⟨n - 1, by omega⟩
    have e : k = M := by omega
    subst e
    have hle : nI k ≤ nI k := by rw [n_le (by omega) (by omega)]; omega
    simp only [l_X7_partByHours_29, b_X7_partByHours_29, hR.1, if_pos hle]
  | succ m ih =>
    intro k n hk hn
    obtain ⟨n, rfl⟩ : ∃ n', n = n' + 1 := ⟨n - 1, by omega⟩
    have hkM : k < M := by omega
    have hle : ¬ nI M ≤ nI k := fun q => by rw [n_le (by omega) (by omega)] at q; omega
    have ih := ih (k + 1) n (by omega) (by omega)
    rw [orF_s] at ih
    have hz : ∀ x : Nat, nI x ||| 0 = nI x := fun x => by rw [nI_lit 0, fa_or, Nat.or_zero]
    have hd := (hD.2 k hkM).2.2.1
    simp only [l_X7_partByHours_29, b_X7_partByHours_29, hR.1, if_neg hle, e_hasR N hl' (show k < 32 by omega), bnd_s, m_leti, hz, n_shl (show k < 31 by omega), fa_or, nI_1, inb_n (show k < 12 by omega) (by omega), gd_t, nI_clamp (show k < 2 ^ 31 by omega), (hR.2 k hkM).2.1]
    cases hb : l.testBit k with
    | false =>
      rw [if_pos b2i_f]
      rw [hb, Bool.false_and, if_neg (by decide)] at ih
      exact ih
    | true =>
      rw [if_neg (by decide)]
      rw [hb, Bool.true_and] at ih
      by_cases e : D 1 k = h
      · rw [if_pos (by rw [e])]
        rw [if_pos (decide_eq_true e), ← Nat.or_assoc] at ih
        exact ih
      · rw [if_neg (fun q => e ((n_eq (by omega) (by omega)).mp q))]
        rw [if_neg (by simpa using e)] at ih
        exact ih
def pbhSpec (N M : Nat) (D : Nat → Nat → Nat) (C : Nat) (gs : Nat → Nat → Int32) (ask : Nat → Bool) (nt : List Nat → Int32) (rec : Int32 → Mem → Option (Int32 × Mem)) (f : Nat) : Prop :=
  ∀ (P : List Nat) (l : Nat) (τ : Mem) (V : VS), cnt M l < f → P.length + cnt M l ≤ 12 → l < 2 ^ M → (∀ s ∈ P, okS M s) → P.Pairwise bdis → (∀ s ∈ P, bdis s l) → SR τ M D C gs ask nt → PI τ P → AccR τ V →
    ∃ τ', rec (nI l) τ = some (0, τ') ∧ AccR τ' (vor V (Vl D M (askG ask gs C) nt (fun P' => ∃ Q, HP D (ONEs (askG ask gs C) D M) Q l ∧ P' = P ++ Q))) ∧ PI τ' P ∧ KS τ τ'
theorem PI.put {τ : Mem} {P : List Nat} {s : Nat} (h : PI τ P) (hP : P.length < 12) : PI (mu (mu τ 10 P.length (nI s)) 0 22 (nI (P.length + 1))) (P ++ [s]) := by
  refine ⟨by rw [mu_s, List.length_append]; rfl, fun j t ht => ?_⟩
  rw [mu_c (by decide)]
  rcases Nat.lt_trichotomy j P.length with q | q | q
  · rw [List.getElem?_append_left q] at ht
    rw [mu_k (by omega)]
    exact h.2 j t ht
  · subst q
    rw [List.getElem?_append_right (Nat.le_refl _), Nat.sub_self] at ht
    have e : s = t := by simpa using ht
    rw [mu_s, e]
  · rw [List.getElem?_eq_none (by rw [List.length_append]; simp; omega)] at ht
    cases ht
theorem PI.pop {τ : Mem} {P : List Nat} {s : Nat} (h : PI τ (P ++ [s])) : PI (mu τ 0 22 (τ 0 22 - 1)) P := by
  refine ⟨?_, fun j t ht => ?_⟩
  · rw [mu_s, h.1, List.length_append]
    exact n_m1
  · rw [mu_c (by decide)]
    refine h.2 j t ?_
    have hj : j < P.length := by
      rcases Nat.lt_or_ge j P.length with q | q
      · exact q
      · rw [List.getElem?_eq_none q] at ht; cases ht
    rw [List.getElem?_append_left hj]
    exact ht
theorem KS.put (τ : Mem) (k : Nat) (v w : Int32) : KS τ (mu (mu τ 10 k v) 0 22 w) := (KS.up τ v (by unfold psS; omega)).tr (KS.up _ w (by unfold psS; omega))
theorem KS.pop (τ : Mem) (w : Int32) : KS τ (mu τ 0 22 w) := KS.up τ w (by unfold psS; omega)
/-- the loop over the first parts -/
theorem lp_pbh (hN : 14 ≤ N) {rec : Int32 → Mem → Option (Int32 × Mem)} {f : Nat} (hrec : pbhSpec N M D C gs ask nt rec f) {P : List Nat} {l : Nat} (hf : cnt M l < f + 1) (hPl : P.length + cnt M l ≤ 12) (hl : l < 2 ^ M) (hok : ∀ s ∈ P, okS M s) (hd : P.Pairwise bdis) (hdl : ∀ s ∈ P, bdis s l) : ∀ m s n (τ : Mem) (V : VS), cnt M (bdiff l s) ≤ m → m < n → ini D l s → SR τ M D C gs ask nt → PI τ P → AccR τ V →
    ∃ τ', l_X7_partByHours_11 N rec n (nI l) (nI s) τ = some (0, τ') ∧ AccR τ' (vor V (Vl D M (askG ask gs C) nt (fun P' => ∃ X Q, seg D l X ∧ bsub s X ∧ X ≠ s ∧ ONEs (askG ask gs C) D M X ∧ HP D (ONEs (askG ask gs C) D M) Q (bdiff l X) ∧ P' = P ++ X :: Q))) ∧ PI τ' P ∧ KS τ τ' := by
  intro m
  induction m with
  | zero =>
    intro s n τ V hm hn hi h hp ha
    obtain ⟨n, rfl⟩ : ∃ n', n = n' + 1 := ⟨n - 1, by omega⟩
    have hM := h.2.1.1
    by_cases hne : s = l
    · subst hne
      refine ⟨τ, ?_, ?_, hp, KS.rf τ⟩
      · simp only [l_X7_partByHours_11, b_X7_partByHours_11, if_true]
      · rw [vor_no]
        · exact ha
        · rintro v ⟨P', R, ⟨X, Q, q1, q2, q3, -⟩, -⟩
          obtain ⟨-, hh, q1⟩ := q1
          exact q3 (tb_ext (fun j => ⟨fun w => ((q1 j).mp w).1, q2 j⟩))
    · have := (nxt_ok h.2.1 hl hi hne).2.2.2.2.1
      omega
  | succ m ih =>
    intro s n τ V hm hn hi h hp ha
    obtain ⟨n, rfl⟩ : ∃ n', n = n' + 1 := ⟨n - 1, by omega⟩
    have hM := h.2.1.1
    have h4096 : ∀ x, x < 2 ^ M → x < 2 ^ 31 := fun x hx => Nat.lt_of_lt_of_le hx (Nat.le_trans (n_lt2 hM) (by omega))
    by_cases hne : s = l
    · subst hne
      refine ⟨τ, ?_, ?_, hp, KS.rf τ⟩
      · simp only [l_X7_partByHours_11, b_X7_partByHours_11, if_true]
      · rw [vor_no]
        · exact ha
        · rintro v ⟨P', R, ⟨X, Q, q1, q2, q3, -⟩, -⟩
          obtain ⟨-, hh, q1⟩ := q1
          exact q3 (tb_ext (fun j => ⟨fun w => ((q1 j).mp w).1, q2 j⟩))
    · obtain ⟨k1, k2, k3, k4, k5, k6, k7⟩ := nxt_ok h.2.1 hl hi hne
      have hs : s < 2 ^ M := by
        apply Nat.lt_pow_two_of_testBit
        intro k hk
        cases e : s.testBit k with
        | false => rfl
        | true => have := lt_of_tb hl (hi.1 k e); omega
      have hlow : lowS D M (bdiff l s) ≤ 1000 := lowF_le _ _ _ _
      have hj := lp_join (N := N) h.2.1 h.1 rec (l_X7_partByHours_11 N rec n) hl (s := s) hlow M 0 N (by omega) (by omega)
      have e0 : orF (fun k => l.testBit k && decide (D 1 k = lowS D M (bdiff l s))) 0 = 0 := rfl
      rw [e0, Nat.or_zero] at hj
      have hstep : l_X7_partByHours_11 N rec (n + 1) (nI l) (nI s) τ = l_X7_partByHours_29 N rec (l_X7_partByHours_11 N rec n) N (nI l) (nI s) (nI (lowS D M (bdiff l s))) 0 τ := by
        have hb := h4096 _ k1.1
        simp only [l_X7_partByHours_11, b_X7_partByHours_11, n_andn, e_leastR (show 13 ≤ N by omega) h.2.1 h.1 hb, bnd_s]
        rw [if_neg (fun q => hne ((n_eq (h4096 s hs) (h4096 l hl)).mp q))]
        rfl
      have hnx : s ||| orF (fun k => l.testBit k && decide (D 1 k = lowS D M (bdiff l s))) M = nxt D M l s := rfl
      rw [hstep]
      rw [show (nI 0 : Int32) = 0 from rfl] at hj
      rw [hj, hnx]
      show ∃ τ', m_bnd (f_X7_mayNow N (nI (nxt D M l s)) τ) _ = some (0, τ') ∧ _
      rw [e_mayNow (show 13 ≤ N by omega) (h4096 _ k7) h, bnd_s]
      by_cases hO : ONEs (askG ask gs C) D M (nxt D M l s)
      · rw [cdec_t hO, if_neg (by decide)]
        have hPlt : P.length < 12 := by
          obtain ⟨j, j1, j2⟩ := okS_j k1
          have := cnt_lt (M := M) (a := 0) (b := l) (j := j) (fun k q => by rw [Nat.zero_testBit] at q; cases q) j1 (bdiff_t.mp j2).1 (by rw [Nat.zero_testBit]; decide)
          omega
        have hokX : okS M (nxt D M l s) := ⟨k7, k2.1⟩
        have hcn : cnt M (bdiff l (nxt D M l s)) < cnt M l := by
          obtain ⟨j, j1, j2⟩ := okS_j hokX
          exact cnt_lt (fun k q => (bdiff_t.mp q).1) j1 (k3.1 j j2) (fun q => (bdiff_t.mp q).2 j2)
        have hp1 := hp.put (s := nxt D M l s) hPlt
        obtain ⟨τ5, a1, a2, a3, a4⟩ := hrec (P ++ [nxt D M l s]) (bdiff l (nxt D M l s)) (mu (mu τ 10 P.length (nI (nxt D M l s))) 0 22 (nI (P.length + 1))) V (by omega) (by rw [List.length_append]; simp; omega) (bdiff_lt hl)
          (fun t ht => by
            rcases List.mem_append.mp ht with w | w
            · exact hok t w
            · rw [List.mem_singleton.mp w]; exact hokX)
          (List.pairwise_append.mpr ⟨hd, List.pairwise_singleton _ _, fun a ha b hb j q1 q2 => by
            rw [List.mem_singleton.mp hb] at q2
            exact hdl a ha j q1 (k3.1 j q2)⟩)
          (fun t ht j q1 q2 => by
            have q3 := bdiff_t.mp q2
            rcases List.mem_append.mp ht with w | w
            · exact hdl t w j q1 q3.1
            · rw [List.mem_singleton.mp w] at q1; exact q3.2 q1)
          (h.keep (KS.put τ _ _ _)) hp1 (ha.keep (fun j q1 q2 => by rw [mu_k (by omega), mu_c (by decide)]))
        obtain ⟨τ', b1, b2, b3, b4⟩ := ih (nxt D M l s) n (mu τ5 0 22 (τ5 0 22 - 1)) _ (by omega) (by omega) k3 ((h.keep ((KS.put τ _ _ _).tr a4)).keep (KS.pop _ _)) a3.pop (a2.keep (fun j q1 q2 => by rw [mu_k (by omega)]))
        refine ⟨τ', ?_, ?_, b3, (((KS.put τ _ _ _).tr a4).tr (KS.pop _ _)).tr b4⟩
        · simp only [hp.1, inb_n hPlt (by omega), gd_t, m_let, nI_clamp (show P.length < 2 ^ 31 by omega), mu_c (show (0 : Nat) ≠ 10 by decide), n_andn, nI_1, a1, bnd_s]
          exact b1
        · rw [vor_vor (U := Vl D M (askG ask gs C) nt (fun P' => ∃ X Q, seg D l X ∧ bsub s X ∧ X ≠ s ∧ ONEs (askG ask gs C) D M X ∧ HP D (ONEs (askG ask gs C) D M) Q (bdiff l X) ∧ P' = P ++ X :: Q))] at b2
          · exact b2
          · intro v
            constructor
            · rintro ⟨P', R, ⟨X, Q, c1, c2, c3, c4, c5, c6⟩, c7⟩
              by_cases w : X = nxt D M l s
              · refine Or.inl ⟨P', R, ⟨Q, by rw [← w]; exact c5, by rw [c6, w]; simp⟩, c7⟩
              · exact Or.inr ⟨P', R, ⟨X, Q, c1, seg_next h.2.1 hl hi hne c1 c2 c3, w, c4, c5, c6⟩, c7⟩
            · rintro (⟨P', R, ⟨Q, c1, c2⟩, c7⟩ | ⟨P', R, ⟨X, Q, c1, c2, c3, c4, c5, c6⟩, c7⟩)
              · exact ⟨P', R, ⟨nxt D M l s, Q, k2, k4, k6, hO, c1, by rw [c2]; simp⟩, c7⟩
              · refine ⟨P', R, ⟨X, Q, c1, fun j q => c2 j (k4 j q), fun e => ?_, c4, c5, c6⟩, c7⟩
                exact k6 (tb_ext (fun j => ⟨fun q => by rw [← e]; exact c2 j q, k4 j⟩))
      · rw [cdec_f hO, if_pos b2i_f]
        obtain ⟨τ', b1, b2, b3, b4⟩ := ih (nxt D M l s) n τ V (by omega) (by omega) k3 h hp ha
        refine ⟨τ', b1, ?_, b3, b4⟩
        rw [vor_e (W' := Vl D M (askG ask gs C) nt (fun P' => ∃ X Q, seg D l X ∧ bsub s X ∧ X ≠ s ∧ ONEs (askG ask gs C) D M X ∧ HP D (ONEs (askG ask gs C) D M) Q (bdiff l X) ∧ P' = P ++ X :: Q))] at b2
        · exact b2
        · intro v
          constructor
          · rintro ⟨P', R, ⟨X, Q, c1, c2, c3, c4, c5, c6⟩, c7⟩
            refine ⟨P', R, ⟨X, Q, c1, fun j q => c2 j (k4 j q), fun e => ?_, c4, c5, c6⟩, c7⟩
            exact k6 (tb_ext (fun j => ⟨fun q => by rw [← e]; exact c2 j q, k4 j⟩))
          · rintro ⟨P', R, ⟨X, Q, c1, c2, c3, c4, c5, c6⟩, c7⟩
            by_cases w : X = nxt D M l s
            · rw [w] at c4; exact absurd c4 hO
            · exact ⟨P', R, ⟨X, Q, c1, seg_next h.2.1 hl hi hne c1 c2 c3, w, c4, c5, c6⟩, c7⟩
theorem e_pbh (hN : 14 ≤ N) : ∀ f, pbhSpec N M D C gs ask nt (f_X7_partByHours N f) f
  | 0 => by
    intro P l τ V hf
    omega
  | f + 1 => by
    intro P l τ V hf hPl hl hok hd hdl h hp ha
    have hM := h.2.1.1
    by_cases h0 : l = 0
    · subst h0
      obtain ⟨τ', i1, i2, i3⟩ := e_leaf (show 13 ≤ N by omega) (by omega) hok hd h hp ha
      refine ⟨τ', ?_, ?_, i3.pi hp, i3.ks⟩
      · simp only [f_X7_partByHours, fb_X7_partByHours]
        rw [if_pos nI_z, i1, bnd_s]
      · rw [vor_e (W' := Vl D M (askG ask gs C) nt (fun P' => ∃ Q, HP D (ONEs (askG ask gs C) D M) Q 0 ∧ P' = P ++ Q))] at i2
        · exact i2
        · intro v
          constructor
          · rintro ⟨P', R, c1, c2⟩
            exact ⟨P', R, ⟨[], rfl, by rw [c1, List.append_nil]⟩, c2⟩
          · rintro ⟨P', R, ⟨Q, c1, c3⟩, c2⟩
            cases Q with
            | nil => exact ⟨P', R, by rw [c3, List.append_nil], c2⟩
            | cons X Q => exact absurd rfl c1.1
    · obtain ⟨τ', b1, b2, b3, b4⟩ := lp_pbh hN (e_pbh hN f) hf hPl hl hok hd hdl (cnt M (bdiff l 0)) 0 N τ V (Nat.le_refl _) (by have := cnt_le M (bdiff l 0); omega) ⟨fun j q => (by rw [Nat.zero_testBit] at q; cases q), fun i j _ _ q => (by rw [Nat.zero_testBit] at q; cases q)⟩ h hp ha
      refine ⟨τ', ?_, ?_, b3, b4⟩
      · simp only [f_X7_partByHours, fb_X7_partByHours]
        rw [if_neg (n_nz (Nat.lt_of_lt_of_le hl (Nat.le_trans (n_lt2 hM) (by omega))) h0)]
        exact b1
      · rw [vor_e (W' := Vl D M (askG ask gs C) nt (fun P' => ∃ Q, HP D (ONEs (askG ask gs C) D M) Q l ∧ P' = P ++ Q))] at b2
        · exact b2
        · intro v
          constructor
          · rintro ⟨P', R, ⟨X, Q, c1, c2, c3, c4, c5, c6⟩, c7⟩
            exact ⟨P', R, ⟨X :: Q, ⟨h0, c1, c4, c5⟩, c6⟩, c7⟩
          · rintro ⟨P', R, ⟨Q, c1, c3⟩, c2⟩
            cases Q with
            | nil => exact absurd c1 h0
            | cons X Q => exact ⟨P', R, ⟨X, Q, c1.2.1, fun j q => (by rw [Nat.zero_testBit] at q; cases q), c1.2.1.1, c1.2.2.1, c1.2.2.2, c3⟩, c2⟩
end HOURS
