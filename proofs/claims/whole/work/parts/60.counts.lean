/-! the reference counts one parting -/
def askG (ask : Nat → Bool) (gs : Nat → Nat → Int32) : Nat → List (Nat → Int32)
  | 0 => []
  | c + 1 => if ask c = true then askG ask gs c ++ [gs c] else askG ask gs c
theorem askG_s (ask : Nat → Bool) (gs : Nat → Nat → Int32) (c : Nat) : askG ask gs (c + 1) = if ask c = true then askG ask gs c ++ [gs c] else askG ask gs c := rfl
theorem askG_mem {ask : Nat → Bool} {gs : Nat → Nat → Int32} {g : Nat → Int32} : ∀ C, g ∈ askG ask gs C ↔ ∃ c, c < C ∧ ask c = true ∧ g = gs c
  | 0 => by
    unfold askG
    simp
  | C + 1 => by
    rw [askG_s]
    have ih := askG_mem (ask := ask) (gs := gs) (g := g) C
    split
    · rename_i h
      rw [List.mem_append, ih, List.mem_singleton]
      constructor
      · rintro (⟨c, c1, c2, c3⟩ | e)
        · exact ⟨c, by omega, c2, c3⟩
        · exact ⟨C, by omega, h, e⟩
      · rintro ⟨c, c1, c2, c3⟩
        by_cases e : c = C
        · subst e; exact Or.inr c3
        · exact Or.inl ⟨c, by omega, c2, c3⟩
    · rename_i h
      rw [ih]
      constructor
      · rintro ⟨c, c1, c2, c3⟩
        exact ⟨c, by omega, c2, c3⟩
      · rintro ⟨c, c1, c2, c3⟩
        by_cases e : c = C
        · subst e; exact absurd c2 h
        · exact ⟨c, by omega, c2, c3⟩
theorem askG_len (ask : Nat → Bool) (gs : Nat → Nat → Int32) : ∀ C, (askG ask gs C).length ≤ C
  | 0 => Nat.le_refl 0
  | C + 1 => by
    rw [askG_s]
    have := askG_len ask gs C
    split
    · rw [List.length_append, List.length_singleton]; omega
    · omega
def AskR (τ : Mem) (C : Nat) (gs : Nat → Nat → Int32) (ask : Nat → Bool) (nt : List Nat → Int32) : Prop := (τ 0 34 = 0 ∧ ∃ a, a < C ∧ τ 0 25 = nI a ∧ (∀ c, ask c = decide (c = a)) ∧ nt = fun xs => netI (gs a) (payA (gs a) xs).2) ∨ (τ 0 34 = 1 ∧ (∃ m, m < 64 ∧ τ 0 25 = nI m ∧ ∀ c, ask c = m.testBit c) ∧ nt = fun _ => 0)
/-- what stands while the reference goes through the partings -/
def SR (τ : Mem) (M : Nat) (D : Nat → Nat → Nat) (C : Nat) (gs : Nat → Nat → Int32) (ask : Nat → Bool) (nt : List Nat → Int32) : Prop := LR τ M D ∧ LD M D ∧ C ≤ 6 ∧ τ 0 7 = nI C ∧ (∀ c, c < C → wfC (gs c) ∧ WR τ c (gs c)) ∧ AskR τ C gs ask nt
def psS (a j : Nat) : Prop := (1 ≤ a ∧ a ≤ 9) ∨ a = 16 ∨ a = 18 ∨ a = 19 ∨ (a = 0 ∧ (j < 22 ∨ j = 25 ∨ j = 26 ∨ 34 ≤ j))
def KS (τ τ' : Mem) : Prop := ∀ a j, psS a j → τ' a j = τ a j
theorem KS.rf (τ : Mem) : KS τ τ := fun _ _ _ => rfl
theorem KS.tr {a b c : Mem} (h : KS a b) (g : KS b c) : KS a c := fun i j q => (g i j q).trans (h i j q)
theorem KS.up (σ : Mem) {i j : Nat} (v : Int32) (h : ¬ psS i j) : KS σ (mu σ i j v) := by
  intro a b q
  rw [mu_e, if_neg]
  rintro ⟨rfl, rfl⟩
  exact h q
theorem KS.kr {τ τ' : Mem} (h : KS τ τ') : KR τ τ' := by
  intro a j q
  exact h a j (by unfold psR at q; unfold psS; omega)
/-- all but the row, the payments and the notes is as it was -/
def KCt (τ τ' : Mem) : Prop := ∀ a j, ¬ (a = 0 ∧ (j = 23 ∨ j = 24 ∨ (27 ≤ j ∧ j ≤ 33))) → (a < 11 ∨ 15 < a) → τ' a j = τ a j
theorem KCt.rf (τ : Mem) : KCt τ τ := fun _ _ _ _ => rfl
theorem KCt.tr {a b c : Mem} (h : KCt a b) (g : KCt b c) : KCt a c := fun i j q r => (g i j q r).trans (h i j q r)
theorem KCt.ks {τ τ' : Mem} (h : KCt τ τ') : KS τ τ' := by
  intro a j q
  exact h a j (by unfold psS at q; omega) (by unfold psS at q; omega)
theorem KRow.kct {τ τ' : Mem} (h : KRow τ τ') : KCt τ τ' := fun a j _ q => by rw [h a q]
theorem KPay.kct {τ τ' : Mem} (h : KPay τ τ') : KCt τ τ' := fun a j q _ => h a j (by omega)
theorem KNote.kct {τ τ' : Mem} (h : KNote τ τ') : KCt τ τ' := fun a j q _ => h a j (by omega)
theorem AccR.keep {τ τ' : Mem} {V : VS} (h : AccR τ V) (e : ∀ j, 27 ≤ j → j ≤ 33 → τ' 0 j = τ 0 j) : AccR τ' V := by
  unfold AccR at *
  rw [e 27 (by omega) (by omega), e 28 (by omega) (by omega), e 29 (by omega) (by omega), e 30 (by omega) (by omega), e 31 (by omega) (by omega), e 32 (by omega) (by omega), e 33 (by omega) (by omega)]
  exact h
section COUNTS
variable {N M C : Nat} {D : Nat → Nat → Nat} {gs : Nat → Nat → Int32} {ask : Nat → Bool} {nt : List Nat → Int32}
theorem SR.keep {τ τ' : Mem} (h : SR τ M D C gs ask nt) (hk : KS τ τ') : SR τ' M D C gs ask nt := by
  obtain ⟨h1, h2, h3, h4, h5, h6⟩ := h
  have e7 := hk 0 7 (by unfold psS; omega)
  have e34 := hk 0 34 (by unfold psS; omega)
  have e25 := hk 0 25 (by unfold psS; omega)
  refine ⟨h1.keep hk.kr, h2, h3, by rw [e7]; exact h4, fun c hc => ⟨(h5 c hc).1, (h5 c hc).2.keep hk.kr⟩, ?_⟩
  unfold AskR at *
  rw [e34, e25]
  exact h6
theorem e_asked {τ : Mem} (h : SR τ M D C gs ask nt) {c : Nat} (hc : c < C) : f_X7_isAsked N (nI c) τ = some (b2i (ask c), τ) := by
  have h3 := h.2.2.1
  rcases h.2.2.2.2.2 with ⟨a1, a, a2, a3, a4, -⟩ | ⟨a1, ⟨m, m1, m2, m3⟩, -⟩
  · unfold f_X7_isAsked
    rw [if_pos a1, a3, a4 c]
    by_cases e : c = a
    · rw [if_pos (by rw [e]), isb_1, gd_t, decide_eq_true e]; rfl
    · rw [if_neg (fun q => e ((n_eq (by omega) (by omega)).mp q)), isb_0, gd_t, decide_eq_false e]; rfl
  · unfold f_X7_isAsked
    rw [if_neg (by rw [a1]; decide), m2, e_hasR N (by omega) (by omega), m3 c, bnd_s]
    cases m.testBit c
    · rfl
    · rfl
def chn (D : Nat → Nat → Nat) (M n : Nat) : Nat → List Nat → Prop
  | _, [] => True
  | x, y :: Q => highS D M x + n < lowS D M y ∧ chn D M n y Q
theorem chn_gap {n : Nat} : ∀ (Q : List Nat) (x : Nat), (∀ s ∈ x :: Q, okS M s) → (chn D M n x Q ↔ gapL D M n (x :: Q))
  | [], x, _ => by
    unfold gapL
    simp [chn]
  | y :: Q, x, h => by
    have ih := chn_gap (n := n) Q y (fun s hs => h s (List.mem_cons_of_mem _ hs))
    unfold chn
    rw [ih]
    unfold gapL
    rw [List.pairwise_cons (a := x)]
    refine and_congr_left (fun q => ?_)
    constructor
    · intro w s hs
      rcases List.mem_cons.mp hs with e | e
      · rw [e]; exact w
      · have h1 := (List.pairwise_cons.mp q).1 s e
        have h2 := low_high (D := D) (h y (List.mem_cons_of_mem _ List.mem_cons_self))
        omega
    · intro w
      exact w y List.mem_cons_self
theorem lp_apart {τ : Mem} {c : Nat} {g : Nat → Int32} (hD : LD M D) (hg : wfC g) (hw : WR τ c g) {R : List Nat} (hR : R.length ≤ 12) (hr : RowL D M τ R) (h22 : τ 0 22 = nI R.length) : ∀ (Q : List Nat) (x k n : Nat), R.drop k = x :: Q → Q.length < n →
    l_X7_isRowApart_14 N n (nI c) (nI (k + 1)) τ = some (b2i (cdec (chn D M (wv g 4) x Q)), τ) := by
  intro Q
  have e4 : f_X7_wordOf N (nI c) 4 τ = some (g 4, τ) := e_wordOf N hw (k := 4) (by omega)
  obtain ⟨g1, g2⟩ := wf4 hg
  induction Q with
  | nil =>
    intro x k n hd hn
    obtain ⟨n, rfl⟩ : ∃ n', n = n' + 1 := ⟨n - 1, by omega⟩
    have hl : R.length = k + 1 := by
      have := congrArg List.length hd
      rw [List.length_drop] at this
      simp at this
      omega
    have ht : cdec (chn D M (wv g 4) x []) = true := cdec_t trivial
    simp only [l_X7_isRowApart_14, b_X7_isRowApart_14, h22, isb_1, gd_t]
    rw [if_pos (by rw [n_le (by omega) (by omega)]; omega), ht]
    rfl
  | cons y Q ih =>
    intro x k n hd hn
    obtain ⟨n, rfl⟩ : ∃ n', n = n' + 1 := ⟨n - 1, by omega⟩
    have hl : k + 1 < R.length := by
      have := congrArg List.length hd
      rw [List.length_drop] at this
      simp at this
      omega
    have hx : R[k]? = some x := by
      have := congrArg (fun l => l[0]?) hd
      simpa using this
    have hy : R[k + 1]? = some y := by
      have := congrArg (fun l => l[1]?) hd
      simpa using this
    have hd2 : R.drop (k + 1) = y :: Q := by
      have := congrArg (List.drop 1) hd
      simpa using this
    have ih := ih y (k + 1) n hd2 (by simp at hn; omega)
    have hc : ¬ nI R.length ≤ nI (k + 1) := fun q => by rw [n_le (by omega) (by omega)] at q; omega
    have em : nI (k + 1) - 1 = nI k := n_m1
    have b1 := ent_lt hD (s := x)
    have b2 := ent_lt hD (s := y)
    have hM := hD.1
    simp only [l_X7_isRowApart_14, b_X7_isRowApart_14, h22, if_neg hc, em, e4, bnd_s, inb_n (show k < 12 by omega) (by omega), inb_n (show k + 1 < 12 by omega) (by omega), gd_t, nI_clamp (show k < 2 ^ 31 by omega), nI_clamp (show k + 1 < 2 ^ 31 by omega), (hr k x hx).2.2.2.1, (hr (k + 1) y hy).2.2.1, g1, nI_add, isb_0, nI_1]
    by_cases q : highS D M x + wv g 4 < lowS D M y
    · rw [if_pos ((n_lt (by omega) (by omega)).mpr q), ih]
      have e : chn D M (wv g 4) x (y :: Q) = chn D M (wv g 4) y Q := propext ⟨fun w => w.2, fun w => ⟨q, w⟩⟩
      rw [e]
    · rw [if_neg (fun w => q ((n_lt (by omega) (by omega)).mp w))]
      have e : cdec (chn D M (wv g 4) x (y :: Q)) = false := cdec_f (fun w => q w.1)
      rw [e]
      rfl
def apart (D : Nat → Nat → Nat) (M : Nat) (g : Nat → Int32) (R : List Nat) : Prop := g 3 ≠ 1 → gapL D M (wv g 4) R
theorem e_rowApart (hN : 13 ≤ N) {τ : Mem} {c : Nat} {g : Nat → Int32} (hD : LD M D) (hg : wfC g) (hw : WR τ c g) {R : List Nat} (hR : R.length ≤ 12) (hok : ∀ s ∈ R, okS M s) (hr : RowL D M τ R) (h22 : τ 0 22 = nI R.length) : f_X7_isRowApart N (nI c) τ = some (b2i (cdec (apart D M g R)), τ) := by
  have e3 : f_X7_wordOf N (nI c) 3 τ = some (g 3, τ) := e_wordOf N hw (k := 3) (by omega)
  unfold f_X7_isRowApart
  rw [e3, bnd_s]
  by_cases h : g 3 = 1
  · rw [if_pos h, isb_1, gd_t, cdec_t (show apart D M g R from fun w => absurd h w)]
    rfl
  · rw [if_neg h]
    have ea : apart D M g R = gapL D M (wv g 4) R := propext ⟨fun q => q h, fun q _ => q⟩
    rw [ea]
    match R, hR, hok, hr, h22 with
    | [], hR, hok, hr, h22 =>
      obtain ⟨n, rfl⟩ : ∃ n', N = n' + 1 := ⟨N - 1, by omega⟩
      simp only [l_X7_isRowApart_14, b_X7_isRowApart_14, h22, isb_1, gd_t]
      rw [if_pos (by decide), cdec_t (show gapL D M (wv g 4) [] from List.Pairwise.nil)]
      rfl
    | x :: Q, hR, hok, hr, h22 =>
      have := lp_apart (N := N) hD hg hw hR hr h22 Q x 0 N rfl (by simp at hR; omega)
      rw [← chn_gap Q x hok]
      exact this
def vif (V : VS) (P : Prop) (v : Nat × Nat × Int32) : VS := fun x => V x ∨ (P ∧ x = v)
theorem vif_t {V : VS} {P : Prop} {v : Nat × Nat × Int32} (h : P) : vif V P v = vadd V v := by
  funext x
  exact propext ⟨fun q => q.imp id (fun w => w.2), fun q => q.imp id (fun w => ⟨h, w⟩)⟩
theorem vif_f {V : VS} {P : Prop} {v : Nat × Nat × Int32} (h : ¬ P) : vif V P v = V := by
  funext x
  exact propext ⟨fun q => q.elim id (fun w => absurd w.1 h), Or.inl⟩
theorem tot_app (G : List (Nat → Int32)) (g : Nat → Int32) (xs : List Nat) : tot (G ++ [g]) xs = tot G xs + brF g (payA g xs).2 := by
  unfold tot
  rw [List.map_append, List.sum_append]
  simp
theorem lp_counts (hN : 13 ≤ N) {R : List Nat} (hR : R.length ≤ 12) (hok : ∀ s ∈ R, okS M s) {V : VS} : ∀ m c n (τ : Mem), c + m = C → m < n → SR τ M D C gs ask nt → RowL D M τ R → τ 0 22 = nI R.length → AccR τ V →
    ∃ τ', l_X7_counts_8 N n (nI (tot (askG ask gs c) (R.map (sumS D M)))) (nI c) τ = some (0, τ') ∧ AccR τ' (vif V (∀ c', c ≤ c' → c' < C → ask c' = true → apart D M (gs c') R) (val D M (askG ask gs C) nt R)) ∧ KCt τ τ' := by
  intro m
  induction m with
  | zero =>
    intro c n τ hc hn h hr h22 ha
    obtain ⟨n, rfl⟩ : ∃ n', n = n' + 1 := ⟨n - 1, by omega⟩
    have e : c = C := by omega
    subst e
    obtain ⟨h1, h2, h3, h4, h5, h6⟩ := id h
    have hG : ∀ g ∈ askG ask gs c, wfC g := fun g hg => by
      obtain ⟨k, k1, -, k3⟩ := (askG_mem c).mp hg
      rw [k3]; exact (h5 k k1).1
    have hb := tot_le hG (R.map (sumS D M))
    have hlen := askG_len ask gs c
    have hle : nI c ≤ nI c := by rw [n_le (by omega) (by omega)]; omega
    rw [vif_t (by intro c' a b; omega)]
    simp only [l_X7_counts_8, b_X7_counts_8, h4, if_pos hle]
    rcases h6 with ⟨a1, a, a2, a3, a4, a5⟩ | ⟨a1, ⟨k, k1, k2, k3⟩, a5⟩
    · rw [if_pos a1, a3]
      obtain ⟨τ1, i1, i2, i3⟩ := e_netBy hN h2 (h5 a a2).1 hR (h5 a a2).2 hr h22
      rw [i1, bnd_s]
      obtain ⟨τ2, j1, j2, j3⟩ := e_note (N := N) (b := tot (askG ask gs c) (R.map (sumS D M))) (n := R.length) (w := netI (gs a) (payA (gs a) (R.map (sumS D M))).2) (ha.keep (fun j q1 q2 => i2 0 j (by omega))) (by rw [i2 0 22 (by omega)]; exact h22) (by omega) hR
      refine ⟨τ2, j1, ?_, i2.kct.tr j3.kct⟩
      unfold val
      rw [a5]
      exact j2
    · rw [if_neg (by rw [a1]; decide)]
      obtain ⟨τ2, j1, j2, j3⟩ := e_note (N := N) (b := tot (askG ask gs c) (R.map (sumS D M))) (n := R.length) (w := 0) ha h22 (by omega) hR
      refine ⟨τ2, j1, ?_, j3.kct⟩
      unfold val
      rw [a5]
      exact j2
  | succ m ih =>
    intro c n τ hc hn h hr h22 ha
    obtain ⟨n, rfl⟩ : ∃ n', n = n' + 1 := ⟨n - 1, by omega⟩
    have hcC : c < C := by omega
    obtain ⟨h1, h2, h3, h4, h5, h6⟩ := id h
    have hle : ¬ nI C ≤ nI c := fun q => by rw [n_le (by omega) (by omega)] at q; omega
    simp only [l_X7_counts_8, b_X7_counts_8, h4, if_neg hle, e_asked h hcC, bnd_s, nI_1, m_leti]
    cases hk : ask c with
    | false =>
      rw [if_pos b2i_f]
      obtain ⟨τ', i1, i2, i3⟩ := ih (c + 1) n τ (by omega) (by omega) h hr h22 ha
      rw [askG_s, if_neg (by rw [hk]; decide)] at i1
      refine ⟨τ', i1, ?_, i3⟩
      have e : (∀ c', c + 1 ≤ c' → c' < C → ask c' = true → apart D M (gs c') R) = (∀ c', c ≤ c' → c' < C → ask c' = true → apart D M (gs c') R) := propext ⟨fun q c' a b d => by
          by_cases w : c' = c
          · rw [w, hk] at d; cases d
          · exact q c' (by omega) b d, fun q c' a b d => q c' (by omega) b d⟩
      rw [← e]
      exact i2
    | true =>
      rw [if_neg (by decide), e_rowApart hN h2 (h5 c hcC).1 (h5 c hcC).2 hR hok hr h22, bnd_s]
      by_cases hap : apart D M (gs c) R
      · rw [cdec_t hap, if_neg (by decide)]
        obtain ⟨τ1, i1, i2, i3⟩ := e_bringsBy hN h2 (h5 c hcC).1 hR (h5 c hcC).2 hr h22
        rw [i1, bnd_s]
        obtain ⟨τ', j1, j2, j3⟩ := ih (c + 1) n τ1 (by omega) (by omega) (h.keep i2.kct.ks) (i2.row hr) (by rw [i2 0 22 (by omega)]; exact h22) (ha.keep (fun j q1 q2 => i2 0 j (by omega)))
        rw [askG_s, if_pos hk, tot_app] at j1
        refine ⟨τ', by rw [nI_add]; exact j1, ?_, i2.kct.tr j3⟩
        have e : (∀ c', c + 1 ≤ c' → c' < C → ask c' = true → apart D M (gs c') R) = (∀ c', c ≤ c' → c' < C → ask c' = true → apart D M (gs c') R) := propext ⟨fun q c' a b d => by
            by_cases w : c' = c
            · rw [w]; exact hap
            · exact q c' (by omega) b d, fun q c' a b d => q c' (by omega) b d⟩
        rw [← e]
        exact j2
      · rw [cdec_f hap, if_pos b2i_f]
        refine ⟨τ, rfl, ?_, KCt.rf τ⟩
        rw [vif_f (fun q => hap (q c (Nat.le_refl c) hcC hk))]
        exact ha
/-- the reference counts a parting -/
theorem e_counts (hN : 13 ≤ N) {P : List Nat} (hP : P.length ≤ 12) (hok : ∀ s ∈ P, okS M s) {V : VS} {τ : Mem} (h : SR τ M D C gs ask nt) (h22 : τ 0 22 = nI P.length) (h10 : ∀ j s, P[j]? = some s → τ 10 j = nI s) (ha : AccR τ V) :
    ∃ τ' R, f_X7_counts N τ = some (0, τ') ∧ R.Perm P ∧ R.Pairwise (fun a b => ¬ klt D M b a) ∧ AccR τ' (vif V (∀ g ∈ askG ask gs C, apart D M g R) (val D M (askG ask gs C) nt R)) ∧ KCt τ τ' := by
  obtain ⟨τ1, R, i1, i2, i3, i4, i5⟩ := e_layRow hN h.2.1 hP hok h.1 h22 h10
  have hRl := i3.length_eq
  have h3 := h.2.2.1
  obtain ⟨τ', j1, j2, j3⟩ := lp_counts (N := N) hN (by rw [hRl]; exact hP) (fun s hs => hok s (i3.mem_iff.mp hs)) (V := V) C 0 N τ1 (by omega) (by omega) (h.keep i2.kct.ks) i5 (by rw [i2 0 (by omega), hRl]; exact h22) (ha.keep (fun j q1 q2 => by rw [i2 0 (by omega)]))
  refine ⟨τ', R, ?_, i3, i4, ?_, i2.kct.tr j3⟩
  · unfold f_X7_counts
    rw [i1, bnd_s]
    exact j1
  · have e : (∀ c', 0 ≤ c' → c' < C → ask c' = true → apart D M (gs c') R) = (∀ g ∈ askG ask gs C, apart D M g R) := propext ⟨fun q g hg => by
        obtain ⟨c, c1, c2, c3⟩ := (askG_mem C).mp hg
        rw [c3]; exact q c (by omega) c1 c2, fun q c' _ b d => q _ ((askG_mem C).mpr ⟨c', b, d, rfl⟩)⟩
    rw [← e]
    exact j2
end COUNTS
