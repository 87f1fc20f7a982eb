/-! the class's search, whole -/
theorem elems_cnt (s : Nat) : ∀ k, (elems s k).length = cnt k s
  | 0 => rfl
  | k + 1 => by
    have ih := elems_cnt s k
    rw [elems_s]
    show _ = fa_cnt s.testBit k + if s.testBit k then 1 else 0
    by_cases h : s.testBit k = true
    · rw [if_pos h, if_pos h, List.length_append, ih]
      rfl
    · rw [if_neg h, if_neg h, ih]
      rfl
theorem cnt_up {s M : Nat} (h : s < 2 ^ M) : ∀ m, cnt (M + m) s = cnt M s
  | 0 => rfl
  | m + 1 => by
    show fa_cnt s.testBit (M + m) + (if s.testBit (M + m) then 1 else 0) = _
    have ih := cnt_up h m
    rw [if_neg (fun q => by have := lt_of_tb h q; omega), Nat.add_zero]
    exact ih
theorem cnt_12 {s M : Nat} (hM : M ≤ 12) (h : s < 2 ^ M) : cnt 12 s = cnt M s := by
  have := cnt_up h (12 - M)
  rw [show M + (12 - M) = 12 by omega] at this
  exact this
theorem pm_of {M S : Nat} {D : Nat → Nat → Nat} (hM : M ≤ 12) (hS : S < 2 ^ M) {r : List Nat} (hp : r.Perm (elems S M)) (hs : r.Pairwise (rlt D)) : Perm' D M r.length S (fun i => r.getD i 0) := by
  have hl : r.length ≤ 12 := by rw [hp.length_eq]; have := elems_len S M; omega
  have hg : ∀ i, i < r.length → r.getD i 0 ∈ r := fun i hi => by
    rw [List.getD_eq_getElem?_getD, List.getElem?_eq_getElem hi]
    exact List.getElem_mem hi
  refine ⟨hl, fun i hi => elems_lt (hp.mem_iff.mp (hg i hi)), fun i j hij hj => ?_, fun j => ?_⟩
  · have := List.pairwise_iff_getElem.mp hs i j (by omega) hj hij
    show rlt D (r.getD i 0) (r.getD j 0)
    rw [List.getD_eq_getElem?_getD, List.getElem?_eq_getElem (show i < r.length by omega), List.getD_eq_getElem?_getD, List.getElem?_eq_getElem hj]
    exact this
  · constructor
    · intro q
      have hj : j ∈ r := hp.mem_iff.mpr ((elems_mem M).mpr ⟨lt_of_tb hS q, q⟩)
      obtain ⟨i, hi⟩ := List.getElem?_of_mem hj
      have hil : i < r.length := by
        rcases Nat.lt_or_ge i r.length with w | w
        · exact w
        · rw [List.getElem?_eq_none w] at hi; cases hi
      refine ⟨i, hil, ?_⟩
      show r.getD i 0 = j
      rw [List.getD_eq_getElem?_getD, hi]
      rfl
    · rintro ⟨i, hi, e⟩
      have : r.getD i 0 ∈ elems S M := hp.mem_iff.mp (hg i hi)
      rw [show r.getD i 0 = j from e] at this
      exact ((elems_mem M).mp this).2
theorem tot_nil : ∀ G : List (Nat → Int32), tot G [] = 0
  | [] => rfl
  | g :: G => by
    have ih := tot_nil G
    unfold tot at *
    rw [List.map_cons, List.sum_cons, ih]
    show 0 * (100 - wv g 8) + 0 = 0
    rw [Nat.zero_mul]
/-- what a search leaves as it was -/
def psF (a j : Nat) : Prop := (8 ≤ a ∧ a ≤ 18) ∨ (22 ≤ a ∧ a ≤ 32) ∨ a = 39 ∨ a = 40 ∨ a = 42 ∨ a = 21 ∨ (a = 20 ∧ j = 6)
def KF (σ σ' : Mem) : Prop := ∀ a j, psF a j → σ' a j = σ a j
theorem KF.rf (σ : Mem) : KF σ σ := fun _ _ _ => rfl
theorem KF.tr {a b c : Mem} (h : KF a b) (g : KF b c) : KF a c := fun i j q => (g i j q).trans (h i j q)
theorem KI.kf {σ σ' : Mem} (h : KI σ σ') : KF σ σ' := fun a j q => h a j (by unfold psF at q; unfold psI; omega)
theorem KF.up (σ : Mem) {i j : Nat} (v : Int32) (h : ¬ psF i j) : KF σ (mu σ i j v) := by
  intro a b q
  rw [mu_e, if_neg]
  rintro ⟨rfl, rfl⟩
  exact h q
theorem KF.kc {σ σ' : Mem} (h : KF σ σ') : KC σ σ' := fun a j q => h a j (by unfold psC at q; unfold psF; omega)
theorem PayC.kf {σ σ' : Mem} {G : List (Nat → Int32)} (h : PayC σ G) (hk : KF σ σ') : PayC σ' G := by
  obtain ⟨h1, h2, h3⟩ := h
  refine ⟨by rw [hk 21 5 (by unfold psF; omega)]; exact h1, h2, fun p g hp => ?_⟩
  obtain ⟨a, z, z1, z2, z3, z4, z5⟩ := h3 p g hp
  refine ⟨a, z, z1, by rw [hk 42 p (by unfold psF; omega)]; exact z2, ⟨z3.1, fun k hk2 => by rw [hk (8 + z) k (by unfold psF; omega)]; exact z3.2 k hk2⟩, by rw [hk 39 p (by unfold psF; omega)]; exact z4, by rw [hk 40 p (by unfold psF; omega)]; exact z5⟩
theorem WC.kf {σ σ' : Mem} {z : Nat} {g : Nat → Int32} (h : WC σ z g) (hk : KF σ σ') : WC σ' z g := ⟨h.1, fun k hk2 => by rw [hk (8 + z) k (by have := h.1; unfold psF; omega)]; exact h.2 k hk2⟩
section CFIND
variable {N M S z : Nat} {D : Nat → Nat → Nat} {J g : Nat → Int32} {G : List (Nat → Int32)}
theorem e_isToldC {σ : Mem} (hw : WC σ z g) (hg : wfC g) (hS : S < 4096) : f_X3_isToldFor N (nI z) (nI S) σ = some (b2i (cdec (toldS g S)), σ) := by
  have hcl := cnt_le 12 S
  unfold f_X3_isToldFor
  rw [inb_n hw.1 (by omega), gd_t, e_overC hw, bnd_s]
  rcases wf3 hg with ⟨w1, w2⟩ | ⟨w1, w2⟩
  · rw [cdec_f w2, if_pos b2i_f, isb_1, gd_t, cdec_t (show toldS g S from Or.inr w1)]
    rfl
  · rw [cdec_t w1, if_neg (by decide), e_bc, bnd_s, bc_n hS, nI_lit 8]
    by_cases h : cnt 12 S ≤ 8
    · rw [if_neg (fun q => by rw [n_lt (by omega) (by omega)] at q; omega), isb_1, gd_t, cdec_t (show toldS g S from Or.inl h)]
      rfl
    · rw [if_pos ((n_lt (by omega) (by omega)).mpr (by omega)), isb_0, gd_t, cdec_f (show ¬ toldS g S from fun q => q.elim h w2)]
      rfl
theorem VL_law (hD : LD M D) {n : Nat} {rr : Nat → Nat} (hp : Perm' D M n S rr) (hj : Joint J G) (hG : ∀ g ∈ G, wfC g) (nt : List Nat → Int32) : VL J D rr n G nt [] (2 ^ n - 1) = LawV D M S G nt := by
  have hDr := pm_LD hD hp
  have hsr : srt (Dr D rr) n := fun i j hij hj => by
    have := hp.2.2.1 i j hij hj
    unfold rlt at this
    show D 1 (rr i) ≤ D 1 (rr j)
    omega
  rw [← LawV_lft hD hp]
  funext v
  apply propext
  have e : ∀ L, CP (LstJ J (Dr D rr) n) L (2 ^ n - 1) ↔ Law (Dr D rr) n (2 ^ n - 1) G L := fun L => by
    rw [← joint_law hj hG, ← cp_law hDr hsr L]
    by_cases h3 : J 3 = 1
    · rw [if_pos h3]
      have : LstJ J (Dr D rr) n = fun X => okS n X ∧ ONE J (Dr D rr) n X := funext (fun X => by unfold LstJ; rw [if_pos h3])
      rw [this]
    · rw [if_neg h3]
      have : LstJ J (Dr D rr) n = Run (Dr D rr) n J := funext (fun X => by unfold LstJ; rw [if_neg h3])
      rw [this]
  have ev : ∀ L, vC D rr n G nt [] L = val (Dr D rr) n G nt L := fun L => by
    unfold vC val
    rw [List.nil_append, List.length_nil, Nat.zero_add]
  constructor
  · rintro ⟨L, l1, l2⟩
    exact ⟨L, (e L).mp l1, by rw [l2, ev]⟩
  · rintro ⟨L, l1, l2⟩
    exact ⟨L, (e L).mpr l1, by rw [l2, ev]⟩
theorem e_found (hN : 300 ≤ N) {σ : Mem} (hD : LD M D) (h : LC σ M D) (h6 : σ 20 6 = 7) (hw : WC σ 7 J) (hP : PayC σ G) (hT : ∀ p g, G[p]? = some g → σ 41 p = 0) (hj : Joint J G) (hS : S < 2 ^ M) (hG : G ≠ []) (nt : List Nat → Int32) :
    (toldS J S ∧ ∃ σ', f_X3_findForJoined N (nI S) σ = some (σ' 20 4, σ') ∧ AccC σ' (LawV D M S G nt) ∧ KF σ σ') ∨ (¬ toldS J S ∧ ∃ σ', f_X3_findForJoined N (nI S) σ = some (0, σ') ∧ KF σ σ') := by
  have hM := hD.1
  have h4096 := Nat.lt_of_lt_of_le hS (n_lt2 hM)
  have hGw : ∀ g ∈ G, wfC g := fun g hg => by
    obtain ⟨p, hp⟩ := List.getElem?_of_mem hg
    exact (hP.2.2 p g hp).1
  have hJ := hj.1
  generalize hσ1 : mu σ 20 4 0 = σ1
  have k1 : ∀ a j, ¬ (a = 20 ∧ j = 4) → σ1 a j = σ a j := fun a j q => by rw [← hσ1, mu_e, if_neg q]
  have kf1 : KF σ σ1 := fun a j q => k1 a j (by unfold psF at q; omega)
  have hlen : 0 < G.length := List.length_pos_iff.mpr hG
  have hg6 := hP.2.1
  have em : f_X2_isEmpty N σ1 = some (0, σ1) := by
    unfold f_X2_isEmpty
    rw [k1 21 5 (by omega), hP.1, if_neg (n_nz (by omega) (by omega)), isb_0, gd_t]
  have ha : f_X1_hasAll N (nI S) σ1 = some (1, σ1) := by
    rw [e_hasAll N _ hM (show σ1 18 6 = nI M by rw [k1 18 6 (by omega)]; exact h.1), sub2_1 hM hS]
  have e206 : σ1 20 6 = nI 7 := by rw [k1 20 6 (by omega)]; exact h6
  have et : f_X3_isToldFor N (σ1 20 6) (nI S) σ1 = some (b2i (cdec (toldS J S)), σ1) := by
    rw [e206]
    exact e_isToldC (hw.kf kf1) hJ h4096
  have n10 : ¬ (1 : Int32) = 0 := by decide
  by_cases hTd : toldS J S
  · refine Or.inl ⟨hTd, ?_⟩
    obtain ⟨σ2, r, r1, r2, r3, r4, r5⟩ := e_pir_34 (N := N) (s := S) (by omega) hD (h.keep kf1.kc)
    have hp := pm_of hM hS r3 r4
    have hr12 : r.length ≤ 12 := hp.1
    generalize hrr : (fun i => r.getD i 0) = rr at hp
    generalize hσ3 : mu σ2 20 12 (nI r.length) = σ3
    have k3 : ∀ a j, ¬ (a = 20 ∧ j = 12) → a ≠ 34 → σ3 a j = σ1 a j := fun a j q q2 => by rw [← hσ3, mu_e, if_neg q, r2 a q2]
    have kf3 : KF σ σ3 := kf1.tr (fun a j q => k3 a j (by unfold psF at q; omega) (by unfold psF at q; omega))
    have hSC : SC σ3 M D r.length rr J G := by
      refine ⟨h.keep kf3.kc, hD, hr12, hp.2.1, ?_, fun i hi => ?_, ?_, hw.kf kf3, hJ, hP.kf kf3⟩
      · rw [← hσ3, mu_s]
      · rw [← hσ3, mu_c (by decide), ← hrr]
        refine r5 i _ ?_
        show r[i]? = some (r.getD i 0)
        rw [List.getD_eq_getElem?_getD, List.getElem?_eq_getElem hi]
        rfl
      · rw [k3 20 6 (by omega) (by omega)]
        exact e206
    obtain ⟨σ4, i1, i2, i3, i4⟩ := e_near (show 13 ≤ N by omega) hSC
    have h8 : J 3 = 1 → r.length ≤ 8 := fun w => by
      rcases hTd with q | q
      · rw [r3.length_eq, elems_cnt, ← cnt_12 hM hS]
        exact q
      · rw [w] at q; exact absurd q n10
    obtain ⟨σ5, H, F, j1, j2, j3, j4, j5, j6⟩ := e_haps hN h8 (hSC.keep i3) i2
    have hSC5 := (hSC.keep i3).keep j6.ki
    have kx : ∀ a j, a ≠ 34 → a ≠ 35 → a ≠ 36 → a ≠ 37 → a ≠ 38 → ¬ (a = 20 ∧ (j = 12 ∨ j = 13)) → σ5 a j = σ1 a j := fun a j q1 q2 q3 q4 q5 q6 => by
      rw [j6 a j (by omega) q3 q4 q5, i4 a j q2, k3 a j (by omega) q1]
    have hTP : TP σ5 G [] := fun p g hp2 => by
      rw [kx 41 _ (by omega) (by omega) (by omega) (by omega) (by omega) (by omega), k1 41 _ (by omega), List.length_nil, Nat.zero_mul, Nat.zero_add, hT p g hp2]
      rfl
    have hAc : AccC σ5 V0 := ⟨fun b f w q => q.elim, Or.inl ⟨fun v q => q.elim, by rw [kx 20 4 (by omega) (by omega) (by omega) (by omega) (by omega) (by omega), ← hσ1, mu_s]⟩⟩
    have hcl := cnt_le r.length (2 ^ r.length - 1)
    obtain ⟨σ6, l1, l2, l3⟩ := e_cpart (N := N) (M := M) (n := r.length) (D := D) (rr := rr) (J := J) (G := G) (nt := nt) (H := H) (F := F) hN 30 [] (2 ^ r.length - 1) σ5 V0 (by omega) (by simp; omega) (by have := Nat.two_pow_pos r.length; omega) ⟨hSC5, j2, j3, j4, j5⟩ hTP hAc
    rw [vor_0, VL_law hD hp hj hGw nt] at l2
    rw [tot_nil] at l1
    refine ⟨σ6, ?_, l2, ?_⟩
    · have e12 : σ5 20 12 = nI r.length := hSC5.2.2.2.2.1
      unfold f_X3_findForJoined
      simp only [isb_0, gd_t, m_let]
      rw [hσ1, em, bnd_s, if_pos rfl, ha, bnd_s, if_neg n10, et, bnd_s, cdec_t hTd, if_neg (by decide), r1, bnd_s, hσ3, i1, bnd_s, j1]
      unfold endP
      rw [e12, n_all hr12]
      rw [show f_X3_part N 30 (nI (2 ^ r.length - 1)) 0 0 σ5 = some (0, σ6) from l1, bnd_s]
      have hb : σ6 20 4 = 0 ∨ σ6 20 4 = 1 := by
        rcases l2.2 with ⟨-, e⟩ | ⟨e, -⟩
        · exact Or.inl e
        · exact Or.inr e
      rw [isb_01 hb, gd_t]
    · exact ((kf3.tr i3.kf).tr j6.ki.kf).tr l3.ki.kf
  · refine Or.inr ⟨hTd, σ1, ?_, kf1⟩
    unfold f_X3_findForJoined
    simp only [isb_0, gd_t, m_let]
    rw [hσ1, em, bnd_s, if_pos rfl, ha, bnd_s, if_neg n10, et, bnd_s, cdec_f hTd, if_pos b2i_f]
/-- one cover's payer -/
def psG (a j : Nat) : Prop := (8 ≤ a ∧ a ≤ 14) ∨ (16 ≤ a ∧ a ≤ 18) ∨ (22 ≤ a ∧ a ≤ 32) ∨ (a = 20 ∧ j = 6)
def KQ (σ σ' : Mem) : Prop := ∀ a j, psG a j → σ' a j = σ a j
theorem KQ.rf (σ : Mem) : KQ σ σ := fun _ _ _ => rfl
theorem KQ.tr {a b c : Mem} (h : KQ a b) (g : KQ b c) : KQ a c := fun i j q => (g i j q).trans (h i j q)
theorem KF.kq {σ σ' : Mem} (h : KF σ σ') : KQ σ σ' := fun a j q => h a j (by unfold psG at q; unfold psF; omega)
theorem KQ.kc {σ σ' : Mem} (h : KQ σ σ') : KC σ σ' := fun a j q => h a j (by unfold psC at q; unfold psG; omega)
theorem e_payJoin {σ : Mem} (hw : WC σ z g) (hg : wfC g) {m : Nat} (hm : m < 6) (h21 : σ 21 5 = nI m) : f_X2_join N (nI z) σ = some (0, mu (mu (mu (mu (mu σ 42 m (nI z)) 39 m (g 7)) 40 m (nI (100 - wv g 8))) 41 m 0) 21 5 (nI (m + 1))) := by
  have hz := hw.1
  have c1 : ¬ (6 : Int32) ≤ nI m := fun q => by rw [nI_lit 6, n_le (by omega) (by omega)] at q; omega
  have w1 : WC (mu σ 42 m (nI z)) z g := ⟨hz, fun k hk => by rw [mu_c (by omega)]; exact hw.2 k hk⟩
  have w2 : WC (mu (mu σ 42 m (nI z)) 39 m (g 7)) z g := ⟨hz, fun k hk => by rw [mu_c (by omega)]; exact w1.2 k hk⟩
  have e1 : mu σ 42 m (nI z) 21 5 = nI m := h21
  have e2 : mu σ 42 m (nI z) (8 + z) 7 = g 7 := w1.2 7 (by omega)
  have e3 : mu (mu σ 42 m (nI z)) 39 m (g 7) 21 5 = nI m := h21
  have e4 : mu (mu (mu σ 42 m (nI z)) 39 m (g 7)) 40 m (nI (100 - wv g 8)) 21 5 = nI m := h21
  have e5 : mu (mu (mu (mu σ 42 m (nI z)) 39 m (g 7)) 40 m (nI (100 - wv g 8))) 41 m 0 21 5 = nI m := h21
  have k7 : (7 : Int32).toNatClampNeg = 7 := rfl
  unfold f_X2_join
  simp only [h21, if_neg c1, inb_n hm (show 6 < 2 ^ 31 by omega), inb_n hz (show 8 < 2 ^ 31 by omega), inb_n (show m < 78 by omega) (show 78 < 2 ^ 31 by omega), gd_t, m_let, nI_clamp (show m < 2 ^ 31 by omega), nI_clamp (show z < 2 ^ 31 by omega), e1, k7, e2, e3, e_share w2 hg, bnd_s, e4, e5, nI_1, show inb 7 10 = true from rfl]
theorem e_join1 {σ : Mem} (h6 : σ 20 6 = 7) (hz : z < 7) (hw : WC σ z g) (hg : wfC g) :
    ∃ σ3, (∀ v, f_X3_findFor N (nI z) v σ = m_bnd (f_X3_findForJoined N v σ3) (fun r5 σ6 => gd (isb r5) (some (r5, σ6)))) ∧ KQ σ σ3 ∧ PayC σ3 [g] ∧ (∀ p g', [g][p]? = some g' → σ3 41 p = 0) ∧ WC σ3 7 g := by
  generalize hσ1 : mu σ 21 5 0 = σ1
  have k1 : ∀ a j, ¬ (a = 21 ∧ j = 5) → σ1 a j = σ a j := fun a j q => by rw [← hσ1, mu_e, if_neg q]
  have s1 : f_X3_startJoining N σ = some (0, σ1) := by
    unfold f_X3_startJoining f_X2_clear
    simp only [m_let, bnd_s]
    rw [hσ1]
  have h21 : σ1 21 5 = nI 0 := by rw [← hσ1, mu_s]; rfl
  have em : f_X2_isEmpty N σ1 = some (1, σ1) := by
    unfold f_X2_isEmpty
    rw [h21, if_pos nI_z, isb_1, gd_t]
  generalize hσ2 : m_cp σ1 15 (σ1 (8 + z)) = σ2
  have k2 : ∀ a j, a ≠ 15 → σ2 a j = σ1 a j := fun a j q => by rw [← hσ2]; unfold m_cp; rw [if_neg q]
  have k2j : ∀ k, k < 10 → σ2 15 k = g k := fun k hk => by
    rw [← hσ2]
    unfold m_cp
    rw [if_pos rfl, sb_cpy0 hk, k1 (8 + z) k (by omega)]
    exact hw.2 k hk
  have w2 : WC σ2 z g := ⟨hw.1, fun k hk => by rw [k2 (8 + z) k (by omega), k1 (8 + z) k (by omega)]; exact hw.2 k hk⟩
  have hcopy : f_X0_copyFrom N (nI 7) (nI z) σ1 = some (0, σ2) := by
    unfold f_X0_copyFrom
    simp only [inb_n hw.1 (show 8 < 2 ^ 31 by omega), inb_n (show 7 < 8 by omega) (show 8 < 2 ^ 31 by omega), gd_t, m_let, nI_clamp (show z < 2 ^ 31 by omega), nI_clamp (show 7 < 2 ^ 31 by omega)]
    rw [← hσ2]
  have hpj := e_payJoin (N := N) w2 hg (m := 0) (by omega) (by rw [k2 21 5 (by omega)]; exact h21)
  generalize hσ3 : mu (mu (mu (mu (mu σ2 42 0 (nI z)) 39 0 (g 7)) 40 0 (nI (100 - wv g 8))) 41 0 0) 21 5 (nI (0 + 1)) = σ3 at hpj
  have k3 : ∀ a j, a ≠ 42 → a ≠ 39 → a ≠ 40 → a ≠ 41 → a ≠ 21 → σ3 a j = σ2 a j := fun a j q1 q2 q3 q4 q5 => by rw [← hσ3, mu_c q5, mu_c q4, mu_c q3, mu_c q2, mu_c q1]
  have kq : KQ σ σ3 := fun a j q => by
    unfold psG at q
    rw [k3 a j (by omega) (by omega) (by omega) (by omega) (by omega), k2 a j (by omega), k1 a j (by omega)]
  have hj : f_X3_join N (nI z) σ1 = some (0, σ3) := by
    have e206 : σ1 20 6 = nI 7 := by rw [k1 20 6 (by omega)]; exact h6
    unfold f_X3_join j_X3_join_29
    rw [em, bnd_s, if_neg (by decide), e206, inb_n (show 7 < 8 by omega) (by omega), gd_t, hcopy, bnd_s, hpj, bnd_s]
  have hP : PayC σ3 [g] := by
    refine ⟨by rw [← hσ3, mu_s]; rfl, by simp, fun p g' hp => ?_⟩
    have hp0 : p = 0 ∧ g = g' := by
      rcases p with _ | p
      · exact ⟨rfl, by simpa using hp⟩
      · simp at hp
    obtain ⟨rfl, rfl⟩ := hp0
    refine ⟨hg, z, hz, ?_, ⟨hw.1, fun k hk => by rw [k3 (8 + z) k (by omega) (by omega) (by omega) (by omega) (by omega)]; exact w2.2 k hk⟩, ?_, ?_⟩
    · rw [← hσ3, mu_c (by decide), mu_c (by decide), mu_c (by decide), mu_c (by decide), mu_s]
    · rw [← hσ3, mu_c (by decide), mu_c (by decide), mu_c (by decide), mu_s]
    · rw [← hσ3, mu_c (by decide), mu_c (by decide), mu_s]
  have hT : ∀ p g', [g][p]? = some g' → σ3 41 p = 0 := fun p g' hp => by
    have hp0 : p = 0 := by
      rcases p with _ | p
      · rfl
      · simp at hp
    subst hp0
    rw [← hσ3, mu_c (by decide), mu_s]
  have hw7 : WC σ3 7 g := ⟨by omega, fun k hk => by rw [k3 (8 + 7) k (by omega) (by omega) (by omega) (by omega) (by omega)]; exact k2j k hk⟩
  refine ⟨σ3, fun v => ?_, kq, hP, hT, hw7⟩
  unfold f_X3_findFor
  rw [s1, bnd_s, hj, bnd_s]
theorem e_findFor (hN : 300 ≤ N) {σ : Mem} (hD : LD M D) (h : LC σ M D) (h6 : σ 20 6 = 7) (hz : z < 7) (hw : WC σ z g) (hg : wfC g) (hS : S < 2 ^ M) (nt : List Nat → Int32) :
    (toldS g S ∧ ∃ σ', f_X3_findFor N (nI z) (nI S) σ = some (σ' 20 4, σ') ∧ AccC σ' (LawV D M S [g] nt) ∧ KQ σ σ') ∨ (¬ toldS g S ∧ ∃ σ', f_X3_findFor N (nI z) (nI S) σ = some (0, σ') ∧ KQ σ σ') := by
  obtain ⟨σ3, ex, kq, hP, hT, hw7⟩ := e_join1 (N := N) h6 hz hw hg
  have hgo := e_found (S := S) hN hD (h.keep kq.kc) (by rw [kq 20 6 (by unfold psG; omega)]; exact h6) hw7 hP hT (joint_1 hg) hS (List.cons_ne_nil g []) nt
  rcases hgo with ⟨t, σ', a1, a2, a3⟩ | ⟨t, σ', a1, a3⟩
  · refine Or.inl ⟨t, σ', ?_, a2, kq.tr a3.kq⟩
    have hb : σ' 20 4 = 0 ∨ σ' 20 4 = 1 := by
      rcases a2.2 with ⟨-, e⟩ | ⟨e, -⟩
      · exact Or.inl e
      · exact Or.inr e
    rw [ex, a1, bnd_s, isb_01 hb, gd_t]
  · refine Or.inr ⟨t, σ', ?_, kq.tr a3.kq⟩
    rw [ex, a1, bnd_s, isb_0, gd_t]
/-- no such losses -/
theorem e_findNo {σ : Mem} (hM : M ≤ 12) (h18 : σ 18 6 = nI M) (h6 : σ 20 6 = 7) (hz : z < 7) (hw : WC σ z g) (hg : wfC g) {x : Int32} (hx : sub2 x M = 0) : ∃ σ', f_X3_findFor N (nI z) x σ = some (0, σ') ∧ KQ σ σ' := by
  obtain ⟨σ3, ex, kq, hP, hT, hw7⟩ := e_join1 (N := N) h6 hz hw hg
  generalize hσ1 : mu σ3 20 4 0 = σ1
  have k1 : ∀ a j, ¬ (a = 20 ∧ j = 4) → σ1 a j = σ3 a j := fun a j q => by rw [← hσ1, mu_e, if_neg q]
  have em : f_X2_isEmpty N σ1 = some (0, σ1) := by
    unfold f_X2_isEmpty
    rw [k1 21 5 (by omega), show σ3 21 5 = nI 1 from hP.1, if_neg (show ¬ nI 1 = 0 by decide), isb_0, gd_t]
  have ha : f_X1_hasAll N x σ1 = some (0, σ1) := by
    rw [e_hasAll N _ hM (show σ1 18 6 = nI M by rw [k1 18 6 (by omega), kq 18 6 (by unfold psG; omega)]; exact h18), hx]
  refine ⟨σ1, ?_, kq.tr (fun a j q => k1 a j (by unfold psG at q; omega))⟩
  rw [ex]
  unfold f_X3_findForJoined
  simp only [isb_0, gd_t, m_let]
  rw [hσ1, em, bnd_s, if_pos rfl, ha, bnd_s, if_pos rfl, bnd_s, isb_0, gd_t]
end CFIND
