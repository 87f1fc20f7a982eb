/-! the class lists the happenings that may be -/
def KL (σ σ' : Mem) : Prop := ∀ a k, ¬ (a = 20 ∧ k = 13) → a ≠ 36 → a ≠ 38 → σ' a k = σ a k
theorem KL.rf (σ : Mem) : KL σ σ := fun _ _ _ _ _ => rfl
theorem KL.tr {a b c : Mem} (h : KL a b) (g : KL b c) : KL a c := fun i j q r s => (g i j q r s).trans (h i j q r s)
theorem KL.ki {σ σ' : Mem} (h : KL σ σ') : KI σ σ' := fun a k q => h a k (by unfold psI at q; omega) (by unfold psI at q; omega) (by unfold psI at q; omega)
theorem b2i_tn : ¬ b2i true = 0 := by decide
theorem i1_ne0 : ¬ (1 : Int32) = 0 := by decide
theorem tf_ne : ¬ true = false := by decide
section CLIST
variable {N M n : Nat} {D : Nat → Nat → Nat} {rr : Nat → Nat} {J : Nat → Int32} {G : List (Nat → Int32)}
def HL (σ : Mem) (D : Nat → Nat → Nat) (rr : Nat → Nat) (n : Nat) (G : List (Nat → Int32)) (H : List Nat) : Prop := σ 20 13 = nI H.length ∧ ∀ h X, H[h]? = some X → σ 36 h = nI X ∧ ∀ p g, G[p]? = some g → σ 38 (p * 256 + h) = nI (payF g (sumS (Dr D rr) n X))
theorem lp_price {h s : Nat} (hh : h < 256) (hs : s < 2 ^ 30) : ∀ m p f (σ : Mem), p + m = G.length → m < f → PayC σ G →
    ∃ σ', l_X2_price_2 N f (nI h) (nI s) (nI p) σ = some (0, σ') ∧ (∀ q g, p ≤ q → G[q]? = some g → σ' 38 (q * 256 + h) = nI (payF g s)) ∧ ∀ a k, ¬ (a = 38 ∧ ∃ q, p ≤ q ∧ k = q * 256 + h) → σ' a k = σ a k := by
  intro m
  induction m with
  | zero =>
    intro p f σ hp hf h1
    obtain ⟨f, rfl⟩ : ∃ f', f = f' + 1 := ⟨f - 1, by omega⟩
    obtain ⟨p1, p2, p3⟩ := id h1
    have e : p = G.length := by omega
    subst e
    have hle : nI G.length ≤ nI G.length := by rw [n_le (by omega) (by omega)]; omega
    refine ⟨σ, ?_, fun q g a b => ?_, fun a k _ => rfl⟩
    · simp only [l_X2_price_2, b_X2_price_2, p1, if_pos hle]
    · rw [List.getElem?_eq_none a] at b; cases b
  | succ m ih =>
    intro p f σ hp hf h1
    obtain ⟨f, rfl⟩ : ∃ f', f = f' + 1 := ⟨f - 1, by omega⟩
    obtain ⟨p1, p2, p3⟩ := id h1
    have hpl : p < G.length := by omega
    have hle : ¬ nI G.length ≤ nI p := fun q => by rw [n_le (by omega) (by omega)] at q; omega
    obtain ⟨g, hg⟩ : ∃ g, G[p]? = some g := ⟨G[p], List.getElem?_eq_getElem hpl⟩
    obtain ⟨w, z, z1, z2, z3, z4, z5⟩ := p3 p g hg
    have hneg : ¬ nI z < 0 := nI_pos (by omega)
    have ee : nI p * 256 + nI h = nI (p * 256 + h) := by rw [nI_lit 256, pk_mul, nI_add]
    obtain ⟨σ', i1, i2, i3⟩ := ih (p + 1) f (mu σ 38 (p * 256 + h) (nI (payF g s))) (by omega) (by omega) (h1.keep (KI.up σ _ (by unfold psI; omega)))
    refine ⟨σ', ?_, fun q g' a b => ?_, fun a k hk => ?_⟩
    · simp only [l_X2_price_2, b_X2_price_2, p1, if_neg hle, inb_n (show p < 6 by omega) (by omega), gd_t, nI_clamp (show p < 2 ^ 31 by omega), z2, if_neg hneg, inb_n (show z < 8 by omega) (by omega), e_payC N z3 w hs, bnd_s, ee, inb_n (show p * 256 + h < 1536 by omega) (by omega), nI_clamp (show p * 256 + h < 2 ^ 31 by omega), m_let, nI_1]
      exact i1
    · by_cases e : q = p
      · subst e
        rw [hg] at b
        rw [← Option.some.inj b, i3 38 _ (by rintro ⟨-, q', a1, a2⟩; omega), mu_s]
      · exact i2 q g' (by omega) b
    · rw [i3 a k (by rintro ⟨a1, q', a2, a3⟩; exact hk ⟨a1, q', by omega, a3⟩), mu_e, if_neg]
      rintro ⟨a1, a2⟩
      exact hk ⟨a1, p, Nat.le_refl p, a2⟩
/-- the happenings listed, without what they bring -/
def HQ (σ : Mem) (H : List Nat) : Prop := σ 20 13 = nI H.length ∧ ∀ h X, H[h]? = some X → σ 36 h = nI X
/-- those ahead of a place are priced -/
def PQ (σ : Mem) (D : Nat → Nat → Nat) (rr : Nat → Nat) (n : Nat) (G : List (Nat → Int32)) (H : List Nat) (t : Nat) : Prop := ∀ h X, h < t → H[h]? = some X → ∀ p g, G[p]? = some g → σ 38 (p * 256 + h) = nI (payF g (sumS (Dr D rr) n X))
theorem lp_psum {X t : Nat} (ht : t < 256) (K : Int32 → Mem → Option (Int32 × Mem)) : ∀ m i f (σ : Mem), i + m = n → m < f → SC σ M D n rr J G → σ 36 t = nI X →
    l_X3_priceHappenings_14 N K f (nI t) (nI (sumF (Dr D rr 0) X i)) (nI i) σ = m_bnd (f_X2_price N (nI t) (nI (sumS (Dr D rr) n X)) σ) (fun _ σ2 => K (nI (t + 1)) σ2) := by
  intro m
  induction m with
  | zero =>
    intro i f σ hi hf h hX
    obtain ⟨f, rfl⟩ : ∃ f', f = f' + 1 := ⟨f - 1, by omega⟩
    obtain ⟨h1, h2, h3, h4, h5, h6, h7, h8, h9, h10⟩ := id h
    have e : i = n := by omega
    subst e
    have hle : nI i ≤ nI i := by rw [n_le (by omega) (by omega)]; omega
    show l_X3_priceHappenings_14 N K (f + 1) (nI t) (nI (sumF (Dr D rr 0) X i)) (nI i) σ = m_bnd (f_X2_price N (nI t) (nI (sumF (Dr D rr 0) X i)) σ) (fun _ σ2 => K (nI (t + 1)) σ2)
    simp only [l_X3_priceHappenings_14, b_X3_priceHappenings_14, h5, if_pos hle, nI_1]
  | succ m ih =>
    intro i f σ hi hf h hX
    obtain ⟨f, rfl⟩ : ∃ f', f = f' + 1 := ⟨f - 1, by omega⟩
    obtain ⟨h1, h2, h3, h4, h5, h6, h7, h8, h9, h10⟩ := id h
    have hle : ¬ nI n ≤ nI i := fun q => by rw [n_le (by omega) (by omega)] at q; omega
    have hri := h4 i (by omega)
    have hM := h2.1
    have ih := ih (i + 1) f σ (by omega) (by omega) h hX
    rw [sumF_s] at ih
    have ex : l_X3_priceHappenings_14 N K (f + 1) (nI t) (nI (sumF (Dr D rr 0) X i)) (nI i) σ = if nI X &&& nI (2 ^ i) = 0 then l_X3_priceHappenings_14 N K f (nI t) (nI (sumF (Dr D rr 0) X i)) (nI (i + 1)) σ else l_X3_priceHappenings_14 N K f (nI t) (nI (sumF (Dr D rr 0) X i + D 0 (rr i))) (nI (i + 1)) σ := by
      simp only [l_X3_priceHappenings_14, b_X3_priceHappenings_14, h5, if_neg hle, n_shl (show i < 31 by omega), inb_n ht (show 256 < 2 ^ 31 by omega), inb_n (show i < 12 by omega) (by omega), gd_t, nI_clamp (show t < 2 ^ 31 by omega), nI_clamp (show i < 2 ^ 31 by omega), hX, h6 i (by omega), inb_n (show rr i < 12 by omega) (by omega), nI_clamp (show rr i < 2 ^ 31 by omega), (h1.2 (rr i) hri).1, m_leti, nI_1, nI_add]
    rw [ex]
    by_cases hb : X.testBit i = false
    · rw [if_pos ((fa_bit (by omega)).mpr hb)]
      rw [if_neg (by rw [hb]; decide)] at ih
      exact ih
    · rw [if_neg (fun q => hb ((fa_bit (by omega)).mp q))]
      rw [if_pos (by simpa using hb)] at ih
      exact ih
theorem lp_pall (hN : 13 ≤ N) {H : List Nat} (hH : H.length ≤ 255) : ∀ m t f (σ : Mem), t + m = H.length → m < f → SC σ M D n rr J G → HQ σ H → PQ σ D rr n G H t →
    ∃ σ', l_X3_priceHappenings_2 N f (nI t) σ = some (0, σ') ∧ HL σ' D rr n G H ∧ ∀ a k, a ≠ 38 → σ' a k = σ a k := by
  intro m
  induction m with
  | zero =>
    intro t f σ ht hf h hq hp
    obtain ⟨f, rfl⟩ : ∃ f', f = f' + 1 := ⟨f - 1, by omega⟩
    have e : t = H.length := by omega
    subst e
    have hle : nI H.length ≤ nI H.length := by rw [n_le (by omega) (by omega)]; omega
    refine ⟨σ, ?_, ⟨hq.1, fun h' X hX => ⟨hq.2 h' X hX, hp h' X ?_ hX⟩⟩, fun a k _ => rfl⟩
    · simp only [l_X3_priceHappenings_2, b_X3_priceHappenings_2, hq.1, if_pos hle]
    · rcases Nat.lt_or_ge h' H.length with w | w
      · exact w
      · rw [List.getElem?_eq_none w] at hX; cases hX
  | succ m ih =>
    intro t f σ ht hf h hq hp
    obtain ⟨f, rfl⟩ : ∃ f', f = f' + 1 := ⟨f - 1, by omega⟩
    obtain ⟨h1, h2, h3, h4, h5, h6, h7, h8, h9, h10⟩ := id h
    have htl : t < H.length := by omega
    have hle : ¬ nI H.length ≤ nI t := fun q => by rw [n_le (by omega) (by omega)] at q; omega
    obtain ⟨X, hX⟩ : ∃ X, H[t]? = some X := ⟨H[t], List.getElem?_eq_getElem htl⟩
    have hsum : sumS (Dr D rr) n X ≤ 99 * n := sumF_le X n (fun j hj => (h2.2 (rr j) (h4 j hj)).2.1)
    have hg6 := h10.2.1
    obtain ⟨σ1, i1, i2, i3⟩ := lp_price (N := N) (G := G) (h := t) (s := sumS (Dr D rr) n X) (by omega) (by omega) G.length 0 N σ (by omega) (by omega) h10
    have hk : ∀ a k, a ≠ 38 → σ1 a k = σ a k := fun a k q => i3 a k (fun w => q w.1)
    have hki : KI σ σ1 := fun a j q => hk a j (by unfold psI at q; omega)
    have hp1 : PQ σ1 D rr n G H (t + 1) := fun h' Y hh hY p g hpg => by
      by_cases e : h' = t
      · subst e
        rw [hX] at hY
        rw [← Option.some.inj hY]
        exact i2 p g (Nat.zero_le _) hpg
      · rw [i3 38 _ (by rintro ⟨-, q, -, a2⟩; omega)]
        exact hp h' Y (by omega) hY p g hpg
    obtain ⟨σ', j1, j2, j3⟩ := ih (t + 1) f σ1 (by omega) (by omega) (h.keep hki) ⟨by rw [hk 20 13 (by decide)]; exact hq.1, fun h' Y hY => by rw [hk 36 h' (by decide)]; exact hq.2 h' Y hY⟩ hp1
    refine ⟨σ', ?_, j2, fun a k q => (j3 a k q).trans (hk a k q)⟩
    have hs := lp_psum (N := N) (X := X) (t := t) (by omega) (l_X3_priceHappenings_2 N f) n 0 N σ (by omega) (by omega) h (hq.2 t X hX)
    have hpr : f_X2_price N (nI t) (nI (sumS (Dr D rr) n X)) σ = some (0, σ1) := by
      unfold f_X2_price
      exact i1
    rw [hpr, bnd_s] at hs
    simp only [l_X3_priceHappenings_2, b_X3_priceHappenings_2, hq.1, if_neg hle]
    exact (show l_X3_priceHappenings_14 N (l_X3_priceHappenings_2 N f) N (nI t) 0 0 σ = _ from hs).trans j1
theorem e_list (hN : 13 ≤ N) {X : Nat} (hX : X < 2 ^ n) {H : List Nat} (hH : H.length < 256) {σ : Mem} (h : SC σ M D n rr J G) (hl : HQ σ H) : ∃ σ', f_X3_list N (nI X) σ = some (0, σ') ∧ HQ σ' (H ++ [X]) ∧ KL σ σ' := by
  have hle : ¬ (256 : Int32) ≤ nI H.length := fun q => by rw [nI_lit 256, n_le (by omega) (by omega)] at q; omega
  refine ⟨mu (mu σ 36 H.length (nI X)) 20 13 (nI (H.length + 1)), ?_, ⟨by rw [mu_s, List.length_append]; rfl, fun h' Y hY => ?_⟩, fun a k q1 q2 q3 => ?_⟩
  · have e13 : mu σ 36 H.length (nI X) 20 13 = nI H.length := by rw [mu_c (by decide)]; exact hl.1
    simp only [f_X3_list, hl.1, if_neg hle, inb_n hH (show 256 < 2 ^ 31 by omega), gd_t, m_let, nI_clamp (show H.length < 2 ^ 31 by omega), e13, nI_1]
  · rw [mu_c (by decide)]
    rcases Nat.lt_trichotomy h' H.length with q | q | q
    · rw [List.getElem?_append_left q] at hY
      rw [mu_k (by omega)]
      exact hl.2 h' Y hY
    · subst q
      rw [List.getElem?_append_right (Nat.le_refl _), Nat.sub_self] at hY
      have e : X = Y := by simpa using hY
      rw [mu_s, e]
    · rw [List.getElem?_eq_none (by rw [List.length_append]; simp; omega)] at hY
      cases hY
  · rw [mu_e, if_neg q1, mu_c q2]
theorem NearT.keep {σ σ' : Mem} (h : NearT σ J D rr n n) (hk : KL σ σ') : NearT σ' J D rr n n := fun i hi => by rw [hk 35 i (by omega) (by omega) (by omega)]; exact h i hi
theorem run_1 (a : Nat) : run a a = 2 ^ a := tb_ext (fun j => by rw [run_t, two_t]; omega)
theorem run_s {a b : Nat} (h : a ≤ b + 1) : run a b ||| 2 ^ (b + 1) = run a (b + 1) := tb_ext (fun j => by rw [or_t, run_t, run_t]; omega)
def gapC (J : Nat → Int32) (D : Nat → Nat → Nat) (n b : Nat) : Prop := b + 1 = n ∨ D 1 b + wv J 4 < D 1 (b + 1)
/-- the runs from a place on -/
theorem lp_runs (hN : 13 ≤ N) {a : Nat} : ∀ m l f (σ : Mem) (s : Nat) (H : List Nat), l + m = n → m < f → a ≤ l → (s ||| 2 ^ l = run a l) → SC σ M D n rr J G → NearT σ J D rr n n → HQ σ H → H.length + m ≤ 255 →
    ∃ σ' E, l_X3_listRunsFrom_4 N f (nI s) (nI l) σ = some (0, σ') ∧ HQ σ' (H ++ E) ∧ KL σ σ' ∧ E.length ≤ m ∧ ∀ X, X ∈ E ↔ ∃ b, l ≤ b ∧ b < n ∧ X = run a b ∧ ONE J (Dr D rr) n X ∧ gapC J (Dr D rr) n b := by
  intro m
  induction m with
  | zero =>
    intro l f σ s H hl hf hal hs h hn hH hb
    obtain ⟨f, rfl⟩ : ∃ f', f = f' + 1 := ⟨f - 1, by omega⟩
    obtain ⟨h1, h2, h3, h4, h5, h6, h7, h8, h9, h10⟩ := id h
    have e : l = n := by omega
    subst e
    have hle : nI l ≤ nI l := by rw [n_le (by omega) (by omega)]; omega
    refine ⟨σ, [], ?_, by rw [List.append_nil]; exact hH, KL.rf σ, Nat.le_refl 0, fun X => ⟨fun q => (by cases q), fun ⟨b, b1, b2, _⟩ => by omega⟩⟩
    simp only [l_X3_listRunsFrom_4, b_X3_listRunsFrom_4, h5, if_pos hle]
  | succ m ih =>
    intro l f σ s H hl hf hal hs h hn hH hb
    obtain ⟨f, rfl⟩ : ∃ f', f = f' + 1 := ⟨f - 1, by omega⟩
    obtain ⟨h1, h2, h3, h4, h5, h6, h7, h8, h9, h10⟩ := id h
    have hM := h2.1
    have hle : ¬ nI n ≤ nI l := fun q => by rw [n_le (by omega) (by omega)] at q; omega
    have hrl : run a l < 2 ^ n := (run_ok hal (by omega)).1
    have hone := e_areOne (N := N) hN hrl h hn
    have hs1 : run a l ||| 2 ^ (l + 1) = run a (l + 1) := run_s (by omega)
    have ex : l_X3_listRunsFrom_4 N (f + 1) (nI s) (nI l) σ = if b2i (cdec (ONE J (Dr D rr) n (run a l))) = 0 then some (0, σ) else if cdec (gapC J (Dr D rr) n l) = false then l_X3_listRunsFrom_4 N f (nI (run a l)) (nI (l + 1)) σ else m_bnd (f_X3_list N (nI (run a l)) σ) (fun _ σ2 => l_X3_listRunsFrom_4 N f (nI (run a l)) (nI (l + 1)) σ2) := by
      have b7 : inb (7 : Int32) 8 = true := by decide
      have t7 : Int32.toNatClampNeg 7 = 7 := by decide
      have b4 : inb 4 10 = true := by decide
      have t4 : Int32.toNatClampNeg 4 = 4 := by decide
      obtain ⟨w1, w2⟩ := wf4 h9
      simp only [l_X3_listRunsFrom_4, b_X3_listRunsFrom_4, h5, if_neg hle, n_shl (show l < 31 by omega), fa_or, hs, m_leti, hone, bnd_s, nI_1, j_X3_listRunsFrom_92]
      by_cases q : ONE J (Dr D rr) n (run a l)
      · rw [cdec_t q, if_neg b2i_tn, if_neg b2i_tn]
        by_cases e : l + 1 = n
        · have e2 : nI (l + 1) = nI n := by rw [e]
          rw [if_pos e2, if_neg i1_ne0, cdec_t (show gapC J (Dr D rr) n l from Or.inl e), if_neg tf_ne]
        · have hri := h4 l (by omega)
          have hri2 := h4 (l + 1) (by omega)
          have d1 := (h2.2 (rr l) hri).2.2.1
          have d2 := (h2.2 (rr (l + 1)) hri2).2.2.1
          have e2 : ¬ nI (l + 1) = nI n := fun q => e ((n_eq (by omega) (by omega)).mp q)
          rw [if_neg e2, if_pos trivial]
          simp only [inb_n (show l < 12 by omega) (by omega), inb_n (show l + 1 < 12 by omega) (by omega), gd_t, nI_clamp (show l < 2 ^ 31 by omega), nI_clamp (show l + 1 < 2 ^ 31 by omega), h6 l (by omega), h6 (l + 1) (by omega), inb_n (show rr l < 12 by omega) (by omega), inb_n (show rr (l + 1) < 12 by omega) (by omega), nI_clamp (show rr l < 2 ^ 31 by omega), nI_clamp (show rr (l + 1) < 2 ^ 31 by omega), (h1.2 (rr l) hri).2.1, (h1.2 (rr (l + 1)) hri2).2.1, h7, b7, t7, b4, t4, h8.2 4 (by omega), w1, nI_add]
          by_cases q2 : D 1 (rr l) + wv J 4 < D 1 (rr (l + 1))
          · rw [if_neg (fun q => by have := (n_le (by omega) (by omega)).mp q; omega), cdec_t (show gapC J (Dr D rr) n l from Or.inr q2), if_neg tf_ne]
          · rw [if_pos ((n_le (by omega) (by omega)).mpr (by omega)), cdec_f (show ¬ gapC J (Dr D rr) n l from fun w => w.elim e q2), if_pos rfl]
      · rw [cdec_f q, if_pos b2i_f, if_pos b2i_f]
    rw [ex]
    by_cases q : ONE J (Dr D rr) n (run a l)
    · rw [cdec_t q, if_neg (by decide)]
      by_cases g : gapC J (Dr D rr) n l
      · rw [cdec_t g, if_neg (by decide)]
        obtain ⟨σ1, i1, i2, i3⟩ := e_list hN hrl (show H.length < 256 by omega) h hH
        obtain ⟨σ', E, j1, j2, j3, j4, j5⟩ := ih (l + 1) f σ1 (run a l) (H ++ [run a l]) (by omega) (by omega) (by omega) hs1 (h.keep i3.ki) (hn.keep i3) i2 (by rw [List.length_append]; simp; omega)
        refine ⟨σ', run a l :: E, by rw [i1, bnd_s]; exact j1, by rw [List.append_assoc] at j2; exact j2, i3.tr j3, by simp; omega, fun X => ?_⟩
        rw [List.mem_cons, j5 X]
        constructor
        · rintro (e | ⟨b, b1, b2, b3, b4, b5⟩)
          · exact ⟨l, Nat.le_refl l, by omega, e, by rw [e]; exact q, g⟩
          · exact ⟨b, by omega, b2, b3, b4, b5⟩
        · rintro ⟨b, b1, b2, b3, b4, b5⟩
          by_cases e : b = l
          · exact Or.inl (by rw [b3, e])
          · exact Or.inr ⟨b, by omega, b2, b3, b4, b5⟩
      · rw [cdec_f g, if_pos rfl]
        obtain ⟨σ', E, j1, j2, j3, j4, j5⟩ := ih (l + 1) f σ (run a l) H (by omega) (by omega) (by omega) hs1 h hn hH (by omega)
        refine ⟨σ', E, j1, j2, j3, by omega, fun X => ?_⟩
        rw [j5 X]
        constructor
        · rintro ⟨b, b1, b2, b3, b4, b5⟩
          exact ⟨b, by omega, b2, b3, b4, b5⟩
        · rintro ⟨b, b1, b2, b3, b4, b5⟩
          by_cases e : b = l
          · rw [e] at b5; exact absurd b5 g
          · exact ⟨b, by omega, b2, b3, b4, b5⟩
    · rw [cdec_f q, if_pos b2i_f]
      refine ⟨σ, [], rfl, by rw [List.append_nil]; exact hH, KL.rf σ, Nat.zero_le _, fun X => ⟨fun w => (by cases w), fun ⟨b, b1, b2, b3, b4, b5⟩ => ?_⟩⟩
      exfalso
      refine q (ONE_sub (fun j hj => ?_) b4)
      rw [run_t] at hj
      rw [b3, run_t]
      omega
/-- sets with a first place, as the class counts them up -/
def odd (a o : Nat) : Nat := (2 * o + 1) * 2 ^ a
theorem odd_t {a o j : Nat} : (odd a o).testBit j = true ↔ a ≤ j ∧ (j = a ∨ o.testBit (j - a - 1) = true) := by
  unfold odd
  rw [Nat.testBit_mul_two_pow, Bool.and_eq_true, decide_eq_true_iff]
  refine and_congr_right (fun h => ?_)
  rcases Nat.eq_zero_or_pos (j - a) with e | e
  · rw [e]
    constructor
    · intro _; exact Or.inl (by omega)
    · intro _
      rw [Nat.testBit_zero]
      simp
  · obtain ⟨k, hk⟩ : ∃ k, j - a = k + 1 := ⟨j - a - 1, by omega⟩
    rw [hk, Nat.testBit_add_one, show (2 * o + 1) / 2 = o by omega, show k + 1 - 1 = k by omega]
    constructor
    · intro q; exact Or.inr q
    · rintro (q | q)
      · omega
      · exact q
theorem odd_lt {a o : Nat} (ha : a < n) (ho : o < 2 ^ (n - 1 - a)) : odd a o < 2 ^ n := by
  unfold odd
  have e : 2 ^ n = (2 * 2 ^ (n - 1 - a)) * 2 ^ a := by
    rw [Nat.mul_assoc, ← Nat.pow_add, ← Nat.pow_succ']
    congr 1
    omega
  rw [e]
  exact Nat.mul_lt_mul_of_pos_right (by omega) (Nat.two_pow_pos a)
theorem odd_of {a X : Nat} (hX : X < 2 ^ n) (h : X.testBit a = true) (hm : ∀ j, j < a → X.testBit j = false) : ∃ o, o < 2 ^ (n - 1 - a) ∧ X = odd a o := by
  have ha := lt_of_tb hX h
  refine ⟨X / 2 ^ (a + 1), ?_, ?_⟩
  · rw [Nat.div_lt_iff_lt_mul (Nat.two_pow_pos _), ← Nat.pow_add, show n - 1 - a + (a + 1) = n by omega]
    exact hX
  · refine tb_ext (fun j => ?_)
    rw [odd_t, Nat.testBit_div_two_pow]
    constructor
    · intro q
      rcases Nat.lt_trichotomy j a with w | w | w
      · rw [hm j w] at q; cases q
      · exact ⟨by omega, Or.inl w⟩
      · exact ⟨by omega, Or.inr (by rw [show j - a - 1 + (a + 1) = j by omega]; exact q)⟩
    · rintro ⟨q1, q2 | q2⟩
      · rw [q2]; exact h
      · rcases Nat.lt_or_ge a j with w | w
        · rw [show j - a - 1 + (a + 1) = j by omega] at q2; exact q2
        · rw [show j = a by omega]; exact h
theorem lp_sets (hN : 13 ≤ N) {a : Nat} (ha : a < n) {O : Nat} (hO : O = 2 ^ (n - 1 - a)) : ∀ m o f (σ : Mem) (H : List Nat), o + m = O → m < f → SC σ M D n rr J G → NearT σ J D rr n n → HQ σ H → H.length + m ≤ 255 →
    ∃ σ' E, l_X3_listSetsFrom_13 N f (nI a) (nI O) (nI o) σ = some (0, σ') ∧ HQ σ' (H ++ E) ∧ KL σ σ' ∧ E.length ≤ m ∧ ∀ X, X ∈ E ↔ ∃ o', o ≤ o' ∧ o' < O ∧ X = odd a o' ∧ ONE J (Dr D rr) n X := by
  intro m
  induction m with
  | zero =>
    intro o f σ H ho hf h hn hH hb
    obtain ⟨f, rfl⟩ : ∃ f', f = f' + 1 := ⟨f - 1, by omega⟩
    have h3 := h.2.2.1
    have hO2 : O ≤ 4096 := by rw [hO]; exact Nat.le_trans (Nat.pow_le_pow_right (by decide) (show n - 1 - a ≤ 12 by omega)) (by decide)
    have e : o = O := by omega
    subst e
    have hle : nI o ≤ nI o := by rw [n_le (by omega) (by omega)]; omega
    refine ⟨σ, [], ?_, by rw [List.append_nil]; exact hH, KL.rf σ, Nat.le_refl 0, fun X => ⟨fun q => (by cases q), fun ⟨b, b1, b2, _⟩ => by omega⟩⟩
    simp only [l_X3_listSetsFrom_13, b_X3_listSetsFrom_13, if_pos hle]
  | succ m ih =>
    intro o f σ H ho hf h hn hH hb
    obtain ⟨f, rfl⟩ : ∃ f', f = f' + 1 := ⟨f - 1, by omega⟩
    have h3 := h.2.2.1
    have hO2 : O ≤ 4096 := by rw [hO]; exact Nat.le_trans (Nat.pow_le_pow_right (by decide) (show n - 1 - a ≤ 12 by omega)) (by decide)
    have hle : ¬ nI O ≤ nI o := fun q => by rw [n_le (by omega) (by omega)] at q; omega
    have hlt : odd a o < 2 ^ n := odd_lt ha (by omega)
    have hone := e_areOne (N := N) hN hlt h hn
    have hsh : ((2 : Int32) * nI o + 1) <<< (nI a &&& 31) = nI (odd a o) := by
      rw [nI_lit 2, pk_mul, nI_1]
      exact pk_shlN (n := 2 * o + 1) (nI a &&& 31) a (s_l a (by omega)) (Nat.lt_of_lt_of_le hlt (Nat.pow_le_pow_right (by decide) (by omega)))
    have ex : l_X3_listSetsFrom_13 N (f + 1) (nI a) (nI O) (nI o) σ = if b2i (cdec (ONE J (Dr D rr) n (odd a o))) = 0 then l_X3_listSetsFrom_13 N f (nI a) (nI O) (nI (o + 1)) σ else m_bnd (f_X3_list N (nI (odd a o)) σ) (fun _ σ2 => l_X3_listSetsFrom_13 N f (nI a) (nI O) (nI (o + 1)) σ2) := by
      simp only [l_X3_listSetsFrom_13, b_X3_listSetsFrom_13, if_neg hle, hsh, m_leti, hone, bnd_s, nI_1]
    rw [ex]
    by_cases q : ONE J (Dr D rr) n (odd a o)
    · rw [cdec_t q, if_neg (by decide)]
      obtain ⟨σ1, i1, i2, i3⟩ := e_list hN hlt (show H.length < 256 by omega) h hH
      obtain ⟨σ', E, j1, j2, j3, j4, j5⟩ := ih (o + 1) f σ1 (H ++ [odd a o]) (by omega) (by omega) (h.keep i3.ki) (hn.keep i3) i2 (by rw [List.length_append]; simp; omega)
      refine ⟨σ', odd a o :: E, by rw [i1, bnd_s]; exact j1, by rw [List.append_assoc] at j2; exact j2, i3.tr j3, by simp; omega, fun X => ?_⟩
      rw [List.mem_cons, j5 X]
      constructor
      · rintro (e | ⟨b, b1, b2, b3, b4⟩)
        · exact ⟨o, Nat.le_refl o, by omega, e, by rw [e]; exact q⟩
        · exact ⟨b, by omega, b2, b3, b4⟩
      · rintro ⟨b, b1, b2, b3, b4⟩
        by_cases e : b = o
        · exact Or.inl (by rw [b3, e])
        · exact Or.inr ⟨b, by omega, b2, b3, b4⟩
    · rw [cdec_f q, if_pos b2i_f]
      obtain ⟨σ', E, j1, j2, j3, j4, j5⟩ := ih (o + 1) f σ H (by omega) (by omega) h hn hH (by omega)
      refine ⟨σ', E, j1, j2, j3, by omega, fun X => ?_⟩
      rw [j5 X]
      constructor
      · rintro ⟨b, b1, b2, b3, b4⟩
        exact ⟨b, by omega, b2, b3, b4⟩
      · rintro ⟨b, b1, b2, b3, b4⟩
        by_cases e : b = o
        · rw [b3, e] at b4; exact absurd b4 q
        · exact ⟨b, by omega, b2, b3, b4⟩
end CLIST
