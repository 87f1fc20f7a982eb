/-! the reference's search, whole -/
def bcI (x : Int32) : Int32 := ((f_J6_bitCount_0f7a4 0 x (fun _ _ => 0)).map (fun q => q.1)).getD 0
theorem e_bc (N : Nat) (x : Int32) (σ : Mem) : f_J6_bitCount_0f7a4 N x σ = some (bcI x, σ) := by
  unfold bcI f_J6_bitCount_0f7a4
  rfl
theorem bc_64 : ∀ a, a < 64 → ∀ b, b < 64 → bcI (nI (64 * a + b)) = nI (cnt 12 (64 * a + b)) := by decide +kernel
theorem bc_n {n : Nat} (h : n < 4096) : bcI (nI n) = nI (cnt 12 n) := by
  have := bc_64 (n / 64) (by omega) (n % 64) (by omega)
  rw [show 64 * (n / 64) + n % 64 = n by omega] at this
  exact this
def toldS (g : Nat → Int32) (S : Nat) : Prop := cnt 12 S ≤ 8 ∨ g 3 = 0
def ntF (g : Nat → Int32) : List Nat → Int32 := fun xs => netI g (payA g xs).2
theorem askG_one {gs : Nat → Nat → Int32} {a : Nat} : ∀ C, (a < C → askG (fun c => decide (c = a)) gs C = [gs a]) ∧ (C ≤ a → askG (fun c => decide (c = a)) gs C = [])
  | 0 => ⟨fun h => absurd h (Nat.not_lt_zero a), fun _ => rfl⟩
  | C + 1 => by
    obtain ⟨i1, i2⟩ := askG_one (gs := gs) (a := a) C
    constructor
    · intro h
      rw [askG_s]
      by_cases e : C = a
      · rw [if_pos (decide_eq_true e), i2 (by omega), e]
        rfl
      · rw [if_neg (by simpa using e), i1 (by omega)]
    · intro h
      rw [askG_s, if_neg (by simp; omega), i2 (by omega)]
def V0 : VS := fun _ => False
theorem vor_0 (W : VS) : vor V0 W = W := by
  funext x
  exact propext ⟨fun q => q.elim (fun w => w.elim) id, Or.inr⟩
section RUN
variable {N M C S : Nat} {D : Nat → Nat → Nat} {gs : Nat → Nat → Int32} {ask : Nat → Bool} {nt : List Nat → Int32}
theorem e_run (hN : 14 ≤ N) (hS : S < 2 ^ M) {τ : Mem} (h : SR τ M D C gs ask nt) (h26 : τ 0 26 = nI S) (h33 : τ 0 33 = 0) (h22 : τ 0 22 = 0) : ∃ τ9, f_X7_layPairs N τ = some (0, τ9) ∧ KG τ τ9 ∧
    ((∃ g ∈ askG ask gs C, g 3 ≠ 1) → ∃ τ', f_X7_partByHours N 30 (nI S) τ9 = some (0, τ') ∧ AccR τ' (LawV D M S (askG ask gs C) nt) ∧ KS τ9 τ') ∧
    ((∀ g ∈ askG ask gs C, g 3 = 1) → ∃ τ', f_X7_part N 30 0 τ9 = some (0, τ') ∧ AccR τ' (LawV D M S (askG ask gs C) nt) ∧ KS τ9 τ') := by
  obtain ⟨τ9, i1, i2, i3, i4⟩ := e_layPairs (show 13 ≤ N by omega) h
  have hM := h.2.1.1
  have h9 := h.kg i4
  have hpi : PI τ9 [] := ⟨by rw [i4 0 22 (by omega) (by omega), h22]; rfl, fun j s hs => by simp at hs⟩
  have ha : AccR τ9 V0 := ⟨fun b f w q => q.elim, Or.inl ⟨fun v q => q.elim, by rw [i4 0 33 (by omega) (by omega)]; exact h33⟩⟩
  have hc := cnt_le M S
  refine ⟨τ9, i1, i4, fun hg => ?_, fun hg => ?_⟩
  · obtain ⟨τ', j1, j2, -, j4⟩ := e_pbh (N := N) (M := M) (D := D) (C := C) (gs := gs) (ask := ask) (nt := nt) hN 30 [] S τ9 V0 (by omega) (by simp; omega) hS (fun s hs => by cases hs) List.Pairwise.nil (fun s hs => by cases hs) h9 hpi ha
    refine ⟨τ', j1, ?_, j4⟩
    rw [vor_0] at j2
    have e : Vl D M (askG ask gs C) nt (fun P' => ∃ Q, HP D (ONEs (askG ask gs C) D M) Q S ∧ P' = [] ++ Q) = LawV D M S (askG ask gs C) nt := funext (fun v => propext (hp_V h.2.1 hS hg v))
    rw [e] at j2
    exact j2
  · obtain ⟨τ', j1, j2, -, -, j4⟩ := e_part (N := N) (M := M) (D := D) (C := C) (gs := gs) (ask := ask) (nt := nt) hN hS 30 [] 0 τ9 V0 (by omega) (by omega) (fun s hs => by cases hs) List.Pairwise.nil (Nat.le_refl 0) h9 ⟨i2, i3, by rw [i4 0 26 (by omega) (by omega)]; exact h26⟩ hpi (fun j s hs => by simp at hs) ha
    refine ⟨τ', j1, ?_, j4⟩
    rw [vor_0] at j2
    have e : Vl D M (askG ask gs C) nt (fun P' => GP S (cpR D M ask gs C) (M - 0) 0 [] P') = LawV D M S (askG ask gs C) nt := funext (fun v => propext (gp_V h.2.1 (fun c hc => (h.2.2.2.2.1 c hc).1) hS hg v))
    rw [e] at j2
    exact j2
theorem acc_01 {τ : Mem} {V : VS} (h : AccR τ V) : τ 0 33 = 0 ∨ τ 0 33 = 1 := by
  rcases h.2 with ⟨-, e⟩ | ⟨e, -⟩
  · exact Or.inl e
  · exact Or.inr e
theorem isb_01 {x : Int32} (h : x = 0 ∨ x = 1) : isb x = true := by
  rcases h with e | e <;> rw [e] <;> decide
/-- by one cover -/
theorem e_isTold {τ : Mem} {c : Nat} {g : Nat → Int32} (hw : WR τ c g) (hg : wfC g) (hS : S < 4096) : f_X7_isTold N (nI c) (nI S) τ = some (b2i (cdec (toldS g S)), τ) := by
  have e3 : f_X7_wordOf N (nI c) 3 τ = some (g 3, τ) := e_wordOf N hw (k := 3) (by omega)
  have hcl := cnt_le 12 S
  unfold f_X7_isTold
  rw [e_bc, bnd_s, bc_n hS, nI_lit 8]
  by_cases h : cnt 12 S ≤ 8
  · rw [if_pos ((n_le (by omega) (by omega)).mpr h), isb_1, gd_t, cdec_t (show toldS g S from Or.inl h)]
    rfl
  · rw [if_neg (fun q => h ((n_le (by omega) (by omega)).mp q)), e3, bnd_s]
    by_cases h3 : g 3 = 0
    · rw [if_pos h3, isb_1, gd_t, cdec_t (show toldS g S from Or.inr h3)]
      rfl
    · rw [if_neg h3, isb_0, gd_t, cdec_f (show ¬ toldS g S from fun q => q.elim h h3)]
      rfl
theorem wf3 {g : Nat → Int32} (h : wfC g) : g 3 = 0 ∧ g 3 ≠ 1 ∨ g 3 = 1 ∧ g 3 ≠ 0 := by
  rcases h.2.2.2.1 with e | e
  · exact Or.inl ⟨e, by rw [e]; decide⟩
  · exact Or.inr ⟨e, by rw [e]; decide⟩
theorem e_layAll (hN : 14 ≤ N) {τ : Mem} (hD : LD M D) (hR : LR τ M D) (hC : C ≤ 6) (h7 : τ 0 7 = nI C) (hW : ∀ c, c < C → wfC (gs c) ∧ WR τ c (gs c)) {c : Nat} (hc : c < C) (hS : S < 2 ^ M) :
    (toldS (gs c) S ∧ ∃ τ', f_X7_layAll N (nI c) (nI S) τ = some (τ' 0 33, τ') ∧ AccR τ' (LawV D M S [gs c] (ntF (gs c))) ∧ KR τ τ' ∧ τ' 0 41 = τ 0 41) ∨ (¬ toldS (gs c) S ∧ f_X7_layAll N (nI c) (nI S) τ = some (0, τ)) := by
  have h4096 := Nat.lt_of_lt_of_le hS (n_lt2 hD.1)
  have ht := e_isTold (N := N) (hW c hc).2 (hW c hc).1 h4096
  by_cases hT : toldS (gs c) S
  · refine Or.inl ⟨hT, ?_⟩
    have hk : ∀ a j, ¬ (a = 0 ∧ (j = 25 ∨ j = 34 ∨ j = 26 ∨ j = 33 ∨ j = 22)) → mu (mu (mu (mu (mu τ 0 25 (nI c)) 0 34 0) 0 26 (nI S)) 0 33 0) 0 22 0 a j = τ a j := by
      intro a j q
      rw [mu_e, if_neg (by omega), mu_e, if_neg (by omega), mu_e, if_neg (by omega), mu_e, if_neg (by omega), mu_e, if_neg (by omega)]
    generalize hτ : mu (mu (mu (mu (mu τ 0 25 (nI c)) 0 34 0) 0 26 (nI S)) 0 33 0) 0 22 0 = τ7 at hk
    have hkr : KR τ τ7 := fun a j q => hk a j (by unfold psR at q; omega)
    have k25 : τ7 0 25 = nI c := by rw [← hτ, mu_k (by decide), mu_k (by decide), mu_k (by decide), mu_k (by decide), mu_s]
    have k34 : τ7 0 34 = 0 := by rw [← hτ, mu_k (by decide), mu_k (by decide), mu_k (by decide), mu_s]
    have k26 : τ7 0 26 = nI S := by rw [← hτ, mu_k (by decide), mu_k (by decide), mu_s]
    have k33 : τ7 0 33 = 0 := by rw [← hτ, mu_k (by decide), mu_s]
    have k22 : τ7 0 22 = 0 := by rw [← hτ, mu_s]
    have hSR : SR τ7 M D C gs (fun c' => decide (c' = c)) (ntF (gs c)) := ⟨hR.keep hkr, hD, hC, by rw [hk 0 7 (by omega)]; exact h7, fun c' hc' => ⟨(hW c' hc').1, (hW c' hc').2.keep hkr⟩, Or.inl ⟨k34, c, hc, k25, fun _ => rfl, rfl⟩⟩
    obtain ⟨τ9, i1, i2, i3, i4⟩ := e_run hN hS hSR k26 k33 k22
    rw [(askG_one C).1 hc] at i3 i4
    have e3 : f_X7_wordOf N (nI c) 3 τ9 = some (gs c 3, τ9) := e_wordOf N ((hSR.kg i2).2.2.2.2.1 c hc).2 (k := 3) (by omega)
    have ex : f_X7_layAll N (nI c) (nI S) τ = if gs c 3 = 0 then m_bnd (f_X7_partByHours N 30 (nI S) τ9) (fun _ σ => gd (isb (σ 0 33)) (some (σ 0 33, σ))) else m_bnd (f_X7_part N 30 0 τ9) (fun _ σ => gd (isb (σ 0 33)) (some (σ 0 33, σ))) := by
      unfold f_X7_layAll
      rw [ht, bnd_s, cdec_t hT, if_neg (by decide)]
      simp only [m_let, isb_0, gd_t]
      rw [hτ, i1, bnd_s, e3, bnd_s]
    rw [ex]
    rcases wf3 (hW c hc).1 with ⟨w1, w2⟩ | ⟨w1, w2⟩
    · obtain ⟨τ', j1, j2, j3⟩ := i3 ⟨gs c, List.mem_cons_self, w2⟩
      refine ⟨τ', ?_, j2, (hkr.tr i2.kr).tr j3.kr, ?_⟩
      · rw [if_pos w1, j1, bnd_s, isb_01 (acc_01 j2), gd_t]
      · rw [j3 0 41 (by unfold psS; omega), i2 0 41 (by omega) (by omega), hk 0 41 (by omega)]
    · obtain ⟨τ', j1, j2, j3⟩ := i4 (fun g hg => by rw [List.mem_singleton.mp hg]; exact w1)
      refine ⟨τ', ?_, j2, (hkr.tr i2.kr).tr j3.kr, ?_⟩
      · rw [if_neg w2, j1, bnd_s, isb_01 (acc_01 j2), gd_t]
      · rw [j3 0 41 (by unfold psS; omega), i2 0 41 (by omega) (by omega), hk 0 41 (by omega)]
  · refine Or.inr ⟨hT, ?_⟩
    unfold f_X7_layAll
    rw [ht, bnd_s, cdec_f hT, if_pos b2i_f, isb_0, gd_t]
end RUN
