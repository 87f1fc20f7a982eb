/-! what the reference finds by hours are the lawful partings -/
section HPL
variable {M : Nat} {D : Nat → Nat → Nat} {Os : Nat → Prop}
def LawH (D : Nat → Nat → Nat) (M : Nat) (Os : Nat → Prop) (S : Nat) (R : List Nat) : Prop := (∀ s ∈ R, okS M s ∧ Os s) ∧ bUn S R ∧ R.Pairwise bdis ∧ R.Pairwise (fun a b => highS D M a < lowS D M b)
theorem hp_law (hD : LD M D) : ∀ (R : List Nat) (l : Nat), l < 2 ^ M → (HP D Os R l ↔ LawH D M Os l R)
  | [], l, hl => by
    show l = 0 ↔ _
    constructor
    · intro e
      exact ⟨fun s hs => (by cases hs), un_nil l e, List.Pairwise.nil, List.Pairwise.nil⟩
    · rintro ⟨-, h2, -⟩
      exact un_nil' h2
  | X :: Q, l, hl => by
    show (l ≠ 0 ∧ seg D l X ∧ Os X ∧ HP D Os Q (bdiff l X)) ↔ _
    rw [hp_law hD Q (bdiff l X) (bdiff_lt hl)]
    constructor
    · rintro ⟨h0, ⟨x0, h, hX⟩, hO, h1, h2, h3, h4⟩
      have hXl : X < 2 ^ M := by
        apply Nat.lt_pow_two_of_testBit
        intro k hk
        cases e : X.testBit k with
        | false => rfl
        | true => have := lt_of_tb hl ((hX k).mp e).1; omega
      refine ⟨?_, un_cons (fun j q => ((hX j).mp q).1) h2, List.pairwise_cons.mpr ⟨fun s hs j q1 q2 => ?_, h3⟩, List.pairwise_cons.mpr ⟨fun s hs => ?_, h4⟩⟩
      · intro s hs
        rcases List.mem_cons.mp hs with e | e
        · rw [e]; exact ⟨⟨hXl, x0⟩, hO⟩
        · exact h1 s e
      · exact (bdiff_t.mp ((h2 j).mpr ⟨s, hs, q2⟩)).2 q1
      · obtain ⟨j, j1, j2, j3⟩ := okS_low hD (h1 s hs).1
        have hj := bdiff_t.mp ((h2 j).mpr ⟨s, hs, j2⟩)
        have hgt : h < D 1 j := by
          rcases Nat.lt_or_ge h (D 1 j) with q | q
          · exact q
          · exact absurd ((hX j).mpr ⟨hj.1, q⟩) hj.2
        rcases high_at (D 1) X M with e | ⟨i, i1, i2, i3⟩
        · obtain ⟨t, t1, t2⟩ := okS_j (M := M) ⟨hXl, x0⟩
          rw [e t t1] at t2; cases t2
        · have := ((hX i).mp i2).2
          have e : highS D M X = D 1 i := i3
          omega
    · rintro ⟨h1, h2, h3, h4⟩
      have hX := h1 X List.mem_cons_self
      obtain ⟨j, j1, j2⟩ := okS_j hX.1
      have hjl := un_head h2 j j2
      rw [List.pairwise_cons] at h3 h4
      refine ⟨fun e => (by rw [e, Nat.zero_testBit] at hjl; cases hjl), ⟨hX.1.2, highS D M X, fun k => ⟨fun q => ⟨un_head h2 k q, high_of (lt_of_tb hX.1.1 q) q⟩, ?_⟩⟩, hX.2, fun s hs => h1 s (List.mem_cons_of_mem _ hs), un_tail h2 h3.1, h3.2, h4.2⟩
      rintro ⟨q1, q2⟩
      obtain ⟨s, s1, s2⟩ := (h2 k).mp q1
      rcases List.mem_cons.mp s1 with e | e
      · rw [e] at s2; exact s2
      · have g1 := h4.1 s e
        have g2 := low_of (D := D) (lt_of_tb hl q1) s2
        omega
theorem klt_of_high {a b : Nat} (ha : okS M a) (h : highS D M a < lowS D M b) : klt D M a b := by
  have := low_high (D := D) ha
  exact Or.inl (by omega)
/-- by hours: just the lawful -/
theorem hp_V (hD : LD M D) {S : Nat} (hS : S < 2 ^ M) {G : List (Nat → Int32)} {nt : List Nat → Int32} (hG : ∃ g ∈ G, g 3 ≠ 1) (v : Nat × Nat × Int32) : Vl D M G nt (fun P' => ∃ Q, HP D (ONEs G D M) Q S ∧ P' = [] ++ Q) v ↔ LawV D M S G nt v := by
  obtain ⟨g0, g1, g2⟩ := hG
  constructor
  · rintro ⟨P, R, ⟨Q, q1, q2⟩, r1, r2, r3, r4⟩
    rw [List.nil_append] at q2
    subst q2
    obtain ⟨h1, h2, h3, h4⟩ := (hp_law hD P S hS).mp q1
    have hk : P.Pairwise (klt D M) := h4.imp_of_mem (fun {a b} ha hb w => klt_of_high (h1 a ha).1 w)
    have e : R = P := row_un hD (fun s hs => (h1 s hs).1) h3 r1 (List.Perm.refl _) r2 (hk.imp (fun {a b} w => klt_asymm w))
    subst e
    exact ⟨R, ⟨fun s hs => h1 s hs, h2, h3, hk, r3⟩, r4⟩
  · rintro ⟨R, ⟨h1, h2, h3, h4, h5⟩, r4⟩
    refine ⟨R, R, ⟨R, (hp_law hD R S hS).mpr ⟨h1, h2, h3, ?_⟩, rfl⟩, List.Perm.refl _, h4.imp (fun {a b} w => klt_asymm w), h5, r4⟩
    exact (h5 g0 g1 g2).imp (fun {a b} w => by omega)
end HPL
