/-! the class goes through the partings -/
def KPt (ah : Nat) (σ σ' : Mem) : Prop := ∀ a j, ¬ (a = 20 ∧ j < 5) → ¬ (a = 41 ∧ (ah + 1) * 6 ≤ j) → σ' a j = σ a j
theorem KPt.rf (ah : Nat) (σ : Mem) : KPt ah σ σ := fun _ _ _ _ => rfl
theorem KPt.tr {ah : Nat} {a b c : Mem} (h : KPt ah a b) (g : KPt ah b c) : KPt ah a c := fun i j q r => (g i j q r).trans (h i j q r)
theorem KPt.ki {ah : Nat} {σ σ' : Mem} (h : KPt ah σ σ') : KI σ σ' := fun a j q => h a j (by unfold psI at q; omega) (by unfold psI at q; omega)
theorem KPt.up {ah : Nat} {σ σ' : Mem} (h : KPt (ah + 1) σ σ') : KPt ah σ σ' := fun a j q r => h a j q (by omega)
section CPART
variable {N M n : Nat} {D : Nat → Nat → Nat} {rr : Nat → Nat} {J : Nat → Int32} {G : List (Nat → Int32)} {nt : List Nat → Int32} {H : List Nat} {F : Nat → Nat}
def SP (σ : Mem) (M : Nat) (D : Nat → Nat → Nat) (n : Nat) (rr : Nat → Nat) (J : Nat → Int32) (G : List (Nat → Int32)) (H : List Nat) (F : Nat → Nat) : Prop := SC σ M D n rr J G ∧ HL σ D rr n G H ∧ H.length ≤ 255 ∧ FT σ J (Dr D rr) n H F n ∧ σ 37 n = nI (F n)
theorem SP.keep {ah : Nat} {σ σ' : Mem} (h : SP σ M D n rr J G H F) (hk : KPt ah σ σ') : SP σ' M D n rr J G H F := by
  obtain ⟨h1, h2, h3, h4, h5⟩ := h
  have e37 : ∀ k, σ' 37 k = σ 37 k := fun k => hk 37 k (by omega) (by omega)
  refine ⟨h1.keep hk.ki, ⟨by rw [hk 20 13 (by omega) (by omega)]; exact h2.1, fun h X hX => ?_⟩, h3, ⟨fun k hk2 => by rw [e37]; exact h4.1 k hk2, h4.2⟩, by rw [e37]; exact h5⟩
  rw [hk 36 h (by omega) (by omega)]
  refine ⟨(h2.2 h X hX).1, fun p g hp => ?_⟩
  rw [hk 38 _ (by omega) (by omega)]
  exact (h2.2 h X hX).2 p g hp
def vC (D : Nat → Nat → Nat) (rr : Nat → Nat) (n : Nat) (G : List (Nat → Int32)) (nt : List Nat → Int32) (xs L : List Nat) : Nat × Nat × Int32 := (tot G (xs ++ L.map (sumS (Dr D rr) n)), xs.length + L.length, nt (xs ++ L.map (sumS (Dr D rr) n)))
theorem vC_cons (xs L : List Nat) (X : Nat) : vC D rr n G nt (xs ++ [sumS (Dr D rr) n X]) L = vC D rr n G nt xs (X :: L) := by
  unfold vC
  have e : (xs ++ [sumS (Dr D rr) n X]).length + L.length = xs.length + (X :: L).length := by
    rw [List.length_append]
    show xs.length + 1 + L.length = xs.length + (L.length + 1)
    omega
  rw [e, List.map_cons, List.append_assoc, List.singleton_append]
def VL (J : Nat → Int32) (D : Nat → Nat → Nat) (rr : Nat → Nat) (n : Nat) (G : List (Nat → Int32)) (nt : List Nat → Int32) (xs : List Nat) (l : Nat) : VS := fun v => ∃ L, CP (LstJ J (Dr D rr) n) L l ∧ v = vC D rr n G nt xs L
def VH (J : Nat → Int32) (D : Nat → Nat → Nat) (rr : Nat → Nat) (n : Nat) (G : List (Nat → Int32)) (nt : List Nat → Int32) (xs : List Nat) (l : Nat) (H : List Nat) (h E : Nat) : VS := fun v => ∃ h' X L, h ≤ h' ∧ h' < E ∧ H[h']? = some X ∧ bsub X l ∧ CP (LstJ J (Dr D rr) n) L (bdiff l X) ∧ v = vC D rr n G nt xs (X :: L)
theorem lt_get' {σ : Mem} {p : Nat} {g : Nat → Int32} (h : G[p]? = some g) (hP : PayC σ G) : p < 6 := by
  have := hP.2.1
  rcases Nat.lt_or_ge p G.length with q | q
  · omega
  · rw [List.getElem?_eq_none q] at h; cases h
def partC (N M n : Nat) (D : Nat → Nat → Nat) (rr : Nat → Nat) (J : Nat → Int32) (G : List (Nat → Int32)) (nt : List Nat → Int32) (H : List Nat) (F : Nat → Nat) (rec : Int32 → Int32 → Int32 → Mem → Option (Int32 × Mem)) (f : Nat) : Prop :=
  ∀ (xs : List Nat) (l : Nat) (σ : Mem) (V : VS), cnt n l < f → xs.length + cnt n l ≤ 12 → l < 2 ^ n → SP σ M D n rr J G H F → TP σ G xs → AccC σ V →
    ∃ σ', rec (nI l) (nI xs.length) (nI (tot G xs)) σ = some (0, σ') ∧ AccC σ' (vor V (VL J D rr n G nt xs l)) ∧ KPt xs.length σ σ'
theorem bsub_xor {l X : Nat} (h : bsub X l) : l ^^^ X = bdiff l X := by
  refine Nat.eq_of_testBit_eq (fun j => ?_)
  rw [Nat.testBit_xor, bdiff_tb]
  cases e : X.testBit j with
  | false => simp
  | true => rw [h j e]; rfl
theorem bsub_z {X l : Nat} : bdiff X l = 0 ↔ bsub X l := by
  constructor
  · intro h j hj
    have : ¬ (bdiff X l).testBit j = true := by rw [h, Nat.zero_testBit]; decide
    rw [bdiff_t] at this
    exact Classical.byContradiction (fun r => this ⟨hj, r⟩)
  · intro h
    refine tb_ext (fun j => ?_)
    rw [bdiff_t, Nat.zero_testBit]
    constructor
    · rintro ⟨a, b⟩; exact absurd (h j a) b
    · intro q; cases q
theorem AccC.keep {σ σ' : Mem} {V : VS} (h : AccC σ V) (e : ∀ j, j < 5 → σ' 20 j = σ 20 j) : AccC σ' V := by
  unfold AccC at *
  rw [e 0 (by omega), e 1 (by omega), e 2 (by omega), e 3 (by omega), e 4 (by omega)]
  exact h
theorem LstJ_ok {X : Nat} (h : LstJ J D n X) : okS n X := by
  unfold LstJ at h
  split at h
  · exact h.1
  · obtain ⟨a, b, h1, h2, h3, -⟩ := h
    rw [h3]
    exact run_ok h1 h2
theorem lp_cpart (hN : 300 ≤ N) {rec : Int32 → Int32 → Int32 → Mem → Option (Int32 × Mem)} {f : Nat} (hrec : partC N M n D rr J G nt H F rec f) {xs : List Nat} {l first E : Nat} (hf : cnt n l < f + 1) (hx : xs.length + cnt n l ≤ 12) (hl : l < 2 ^ n) (hx12 : xs.length < 12) (hfi : l.testBit first = true) (hE : E ≤ H.length) (hEF : E = F (first + 1)) : ∀ m h k (σ : Mem) (V : VS), h + m = E → m < k → F first ≤ h → SP σ M D n rr J G H F → TP σ G xs → AccC σ V →
    ∃ σ', l_X3_part_53 N rec k (nI l) (nI xs.length) (nI (tot G xs)) (nI E) (nI h) σ = some (0, σ') ∧ AccC σ' (vor V (VH J D rr n G nt xs l H h E)) ∧ KPt xs.length σ σ' := by
  intro m
  induction m with
  | zero =>
    intro h k σ V hh hk hFh hS hT ha
    obtain ⟨k, rfl⟩ : ∃ k', k = k' + 1 := ⟨k - 1, by omega⟩
    have h255 := hS.2.2.1
    have e : h = E := by omega
    subst e
    have hle : nI h ≤ nI h := by rw [n_le (by omega) (by omega)]; omega
    refine ⟨σ, ?_, ?_, KPt.rf _ σ⟩
    · simp only [l_X3_part_53, b_X3_part_53, if_pos hle]
    · rw [vor_no]
      · exact ha
      · rintro v ⟨h', X, L, q1, q2, -⟩
        omega
  | succ m ih =>
    intro h k σ V hh hk hFh hS hT ha
    obtain ⟨k, rfl⟩ : ∃ k', k = k' + 1 := ⟨k - 1, by omega⟩
    obtain ⟨s1, s2, s3, s4, s5⟩ := id hS
    have hn12 := s1.2.2.1
    have hle : ¬ nI E ≤ nI h := fun q => by rw [n_le (by omega) (by omega)] at q; omega
    have hhl : h < H.length := by omega
    obtain ⟨X, hX⟩ : ∃ X, H[h]? = some X := ⟨H[h], List.getElem?_eq_getElem hhl⟩
    have hfn : first < n := lt_of_tb hl hfi
    have hLX := (s4.2.2.2 first hfn X).mp ⟨h, hFh, by omega, hX⟩
    have hXn : X < 2 ^ n := (LstJ_ok hLX.1).1
    have h31 : ∀ x, x < 2 ^ n → x < 2 ^ 31 := fun x hx => Nat.lt_of_lt_of_le hx (Nat.le_trans (n_lt2 hn12) (by omega))
    have ex : l_X3_part_53 N rec (k + 1) (nI l) (nI xs.length) (nI (tot G xs)) (nI E) (nI h) σ = if nI (bdiff X l) = 0 then m_bnd (f_X2_bringFor N (nI h) (nI xs.length) σ) (fun r2 σ3 => m_bnd (rec (nI (l ^^^ X)) (nI (xs.length + 1)) (nI (tot G xs) + r2) σ3) (fun r4 σ5 => l_X3_part_53 N rec k (nI l) (nI xs.length) (nI (tot G xs)) (nI E) (nI (h + 1)) σ5)) else l_X3_part_53 N rec k (nI l) (nI xs.length) (nI (tot G xs)) (nI E) (nI (h + 1)) σ := by
      simp only [l_X3_part_53, b_X3_part_53, if_neg hle, inb_n (show h < 256 by omega) (by omega), gd_t, nI_clamp (show h < 2 ^ 31 by omega), (s2.2 h X hX).1, n_andn, m_leti, n_xor, nI_1]
    rw [ex]
    by_cases hb : bsub X l
    · rw [if_pos (by rw [bsub_z.mpr hb]; rfl), bsub_xor hb]
      obtain ⟨σ1, z, i1, i2, i3, i4⟩ := e_bring (N := N) (show 13 ≤ N by omega) (show h < 256 by omega) hX hx12 s1.2.2.2.2.2.2.2.2.2 s2 hT
      have hkp1 : KPt xs.length σ σ1 := fun a j q r => i4 a j r
      have hcn : cnt n (bdiff l X) < cnt n l := cnt_lt (fun k q => (bdiff_t.mp q).1) hfn hfi (fun q => (bdiff_t.mp q).2 hLX.2.1)
      obtain ⟨σ2, j1, j2, j3⟩ := hrec (xs ++ [sumS (Dr D rr) n X]) (bdiff l X) σ1 V (by omega) (by rw [List.length_append]; simp; omega) (bdiff_lt hl) (hS.keep hkp1) i3 (ha.keep (fun j hj => i4 20 j (by omega)))
      rw [List.length_append] at j1 j3
      have hkp2 : KPt xs.length σ σ2 := hkp1.tr (KPt.up j3)
      obtain ⟨σ', b1, b2, b3⟩ := ih (h + 1) k σ2 _ (by omega) (by omega) (by omega) (hS.keep hkp2) (fun p g hp => by rw [hkp2 41 _ (by omega) (by have := lt_get' hp s1.2.2.2.2.2.2.2.2.2; omega)]; exact hT p g hp) j2
      refine ⟨σ', ?_, ?_, hkp2.tr b3⟩
      · rw [i1, bnd_s, nI_add, i2]
        rw [show xs.length + 1 = xs.length + [sumS (Dr D rr) n X].length from rfl, j1, bnd_s]
        exact b1
      · rw [vor_vor (U := VH J D rr n G nt xs l H h E)] at b2
        · exact b2
        · intro v
          constructor
          · rintro ⟨h', Y, L, q1, q2, q3, q4, q5, q6⟩
            by_cases e : h' = h
            · subst e
              rw [hX] at q3
              have e2 : X = Y := Option.some.inj q3
              rw [← e2] at q5 q6
              exact Or.inl ⟨L, q5, by rw [vC_cons]; exact q6⟩
            · exact Or.inr ⟨h', Y, L, by omega, q2, q3, q4, q5, q6⟩
          · rintro (⟨L, q5, q6⟩ | ⟨h', Y, L, q1, q2, q3, q4, q5, q6⟩)
            · exact ⟨h, X, L, Nat.le_refl h, by omega, hX, hb, q5, by rw [vC_cons] at q6; exact q6⟩
            · exact ⟨h', Y, L, by omega, q2, q3, q4, q5, q6⟩
    · rw [if_neg (n_nz (h31 _ (bdiff_lt hXn)) (fun q => hb (bsub_z.mp q)))]
      obtain ⟨σ', b1, b2, b3⟩ := ih (h + 1) k σ V (by omega) (by omega) (by omega) hS hT ha
      refine ⟨σ', b1, ?_, b3⟩
      rw [vor_e (W' := VH J D rr n G nt xs l H h E)] at b2
      · exact b2
      · intro v
        constructor
        · rintro ⟨h', Y, L, q1, q2, q3, q4, q5, q6⟩
          exact ⟨h', Y, L, by omega, q2, q3, q4, q5, q6⟩
        · rintro ⟨h', Y, L, q1, q2, q3, q4, q5, q6⟩
          by_cases e : h' = h
          · subst e
            rw [hX] at q3
            have e2 : X = Y := Option.some.inj q3
            rw [← e2] at q4
            exact absurd q4 hb
          · exact ⟨h', Y, L, by omega, q2, q3, q4, q5, q6⟩
theorem e_cpart (hN : 300 ≤ N) : ∀ f, partC N M n D rr J G nt H F (f_X3_part N f) f
  | 0 => by
    intro xs l σ V hf
    omega
  | f + 1 => by
    intro xs l σ V hf hx hl hS hT ha
    obtain ⟨s1, s2, s3, s4, s5⟩ := id hS
    have hn12 := s1.2.2.1
    have hP := s1.2.2.2.2.2.2.2.2.2
    have h4096 : l < 4096 := Nat.lt_of_lt_of_le hl (n_lt2 hn12)
    have htot : tot G xs ≤ 89100 * G.length := tot_le (fun g hg => by
      obtain ⟨p, hp⟩ := List.getElem?_of_mem hg
      exact (hP.2.2 p g hp).1) xs
    have hg6 := hP.2.1
    by_cases h0 : l = 0
    · subst h0
      obtain ⟨σ', i1, i2, i3⟩ := e_noteC (N := N) (w := nt xs) ha (show tot G xs < 2 ^ 30 by omega) (show xs.length ≤ 12 by omega)
      refine ⟨σ', ?_, ?_, fun a j q _ => i3 a j (by omega)⟩
      · simp only [f_X3_part, fb_X3_part]
        rw [if_pos nI_z, i1, bnd_s]
      · have e : vadd V (tot G xs, xs.length, nt xs) = vor V (VL J D rr n G nt xs 0) := by
          funext v
          apply propext
          refine or_congr_right ?_
          constructor
          · intro q
            exact ⟨[], rfl, by rw [q]; unfold vC; simp⟩
          · rintro ⟨L, q1, q2⟩
            cases L with
            | nil => rw [q2]; unfold vC; simp
            | cons X L => exact absurd rfl q1.1
        rw [← e]
        exact i2
    · obtain ⟨t1, t2, t3⟩ := ntz_n h4096 h0
      have hfi := ctz_tb h4096 h0
      have hfn := lt_of_tb hl hfi
      have hx12 : xs.length < 12 := by
        have := cnt_lt (M := n) (a := 0) (b := l) (j := ctz l) (fun k q => by rw [Nat.zero_testBit] at q; cases q) hfn hfi (by rw [Nat.zero_testBit]; decide)
        omega
      have hF1 : σ 37 (ctz l + 1) = nI (F (ctz l + 1)) := by
        by_cases e : ctz l + 1 = n
        · rw [e]; exact s5
        · exact s4.1 _ (by omega)
      have hF0 : σ 37 (ctz l) = nI (F (ctz l)) := s4.1 _ hfn
      have hFl := s4.2.1 (ctz l + 1) (by omega)
      have hF2 := s4.2.1 (ctz l) (by omega)
      have c1 : ¬ (12 : Int32) ≤ nI xs.length := fun q => by rw [nI_lit 12, n_le (by omega) (by omega)] at q; omega
      have c2 : nI (ctz l) < nI n := (n_lt (by omega) (by omega)).mpr hfn
      have ex : f_X3_part N (f + 1) (nI l) (nI xs.length) (nI (tot G xs)) σ = l_X3_part_53 N (f_X3_part N f) N (nI l) (nI xs.length) (nI (tot G xs)) (nI (F (ctz l + 1))) (nI (F (ctz l))) σ := by
        simp only [f_X3_part, fb_X3_part]
        rw [if_neg (n_nz (by omega) h0), e_ntz, bnd_s, t1, if_neg c1, s1.2.2.2.2.1, if_pos c2, nI_1, inb_n (show ctz l + 1 < 13 by omega) (by omega), inb_n (show ctz l < 13 by omega) (by omega), gd_t, nI_clamp (show ctz l + 1 < 2 ^ 31 by omega), nI_clamp (show ctz l < 2 ^ 31 by omega), hF1, hF0]
        rfl
      rw [ex]
      have hgo : ∃ σ', l_X3_part_53 N (f_X3_part N f) N (nI l) (nI xs.length) (nI (tot G xs)) (nI (F (ctz l + 1))) (nI (F (ctz l))) σ = some (0, σ') ∧ AccC σ' (vor V (VH J D rr n G nt xs l H (F (ctz l)) (F (ctz l + 1)))) ∧ KPt xs.length σ σ' := by
        rcases Nat.lt_or_ge (F (ctz l + 1)) (F (ctz l)) with q | q
        · refine ⟨σ, ?_, ?_, KPt.rf _ σ⟩
          · obtain ⟨k, hk⟩ : ∃ k, N = k + 1 := ⟨N - 1, by omega⟩
            have hle : nI (F (ctz l + 1)) ≤ nI (F (ctz l)) := (n_le (by omega) (by omega)).mpr (by omega)
            conv => lhs; rw [hk]
            simp only [l_X3_part_53, b_X3_part_53, if_pos hle]
          · rw [vor_no]
            · exact ha
            · rintro v ⟨h', X, L, q1, q2, -⟩
              omega
        · exact lp_cpart (nt := nt) hN (e_cpart hN f) hf hx hl hx12 hfi hFl rfl (F (ctz l + 1) - F (ctz l)) (F (ctz l)) N σ V (by omega) (by omega) (Nat.le_refl _) hS hT ha
      obtain ⟨σ', b1, b2, b3⟩ := hgo
      refine ⟨σ', b1, ?_, b3⟩
      rw [vor_e (W' := VL J D rr n G nt xs l)] at b2
      · exact b2
      · intro v
        constructor
        · rintro ⟨h', X, L, q1, q2, q3, q4, q5, q6⟩
          have hLX := (s4.2.2.2 (ctz l) hfn X).mp ⟨h', q1, q2, q3⟩
          exact ⟨X :: L, ⟨h0, hLX.1, hLX.2.1, q4, q5⟩, q6⟩
        · rintro ⟨L, q1, q2⟩
          cases L with
          | nil => exact absurd q1 h0
          | cons X L =>
            obtain ⟨c1, c2, c3, c4, c5⟩ := q1
            obtain ⟨h', h1, h2, h3⟩ := (s4.2.2.2 (ctz l) hfn X).mpr ⟨c2, c3, fun j hj => by
              cases e : X.testBit j with
              | false => rfl
              | true =>
                have := c4 j e
                rw [ctz_no hj] at this
                cases this⟩
            exact ⟨h', X, L, h1, h2, h3, c4, c5, q2⟩
end CPART
