/-! the law from its entry to its loop -/
theorem rel0 : Rel σC0 σR0 := by
  refine ⟨⟨0, by decide, rfl, rfl, fun j hj => absurd hj (Nat.not_lt_zero j)⟩, ⟨0, by decide, rfl, rfl, fun j hj => absurd hj (Nat.not_lt_zero j)⟩, ⟨0, by decide, rfl, rfl, fun j hj => absurd hj (Nat.not_lt_zero j), fun _ _ _ => rfl⟩, ⟨0, 0, by decide, by decide, rfl, rfl, rfl, fun j hj => absurd hj (Nat.not_lt_zero j)⟩, rfl, rfl, fun j hj => ?_⟩
  show (if j < 6 then nI j else -1) = nI j
  rw [if_pos hj]
section PD
variable {D : va_G} {cl : List vw_C} {H : Heap} {ws ws' : va_W} {A : Nat → Prop}
theorem P_left (h : va_P D cl (ws ++ ws') H) : va_P D cl ws H := h.by (fun k => k) (fun k q hq => by rw [List.getElem?_append_left (List.getElem?_eq_some_iff.mp hq).1]; exact hq)
theorem P_right (h : va_P D cl (ws ++ ws') H) : va_P D cl ws' H := h.by (fun k => ws.length + k) (fun k q hq => by
  rw [List.getElem?_append_right (by omega), show ws.length + k - ws.length = k by omega]
  exact hq)
theorem D_cross (h : va_D A (ws ++ ws')) {i j : Nat} {p q : Nat × va_E} (hi : ws[i]? = some p) (hj : ws'[j]? = some q) : p.1 ≠ q.1 := fun z => by
  have h1 : i < ws.length := (List.getElem?_eq_some_iff.mp hi).1
  have h2 := h.1 i (ws.length + j) p q (by rw [List.getElem?_append_left h1]; exact hi) (by rw [List.getElem?_append_right (by omega), show ws.length + j - ws.length = j by omega]; exact hj) z
  omega
theorem D_right (h : va_D A (ws ++ ws')) {j : Nat} {q : Nat × va_E} (hj : ws'[j]? = some q) : A q.1 := h.2 (ws.length + j) q (by rw [List.getElem?_append_right (by omega), show ws.length + j - ws.length = j by omega]; exact hj)
end PD
theorem m_get {w : mW} {sh : mSh} {σ : Mem} {i : Nat} (h : i < sh.length) : ∃ q, (m_cn w sh σ)[i]? = some q ∧ q.1 = w.2.1 i := by
  obtain ⟨c, hc⟩ : ∃ c, sh[i]? = some c := ⟨_, List.getElem?_eq_getElem h⟩
  exact ⟨_, m_at hc, m_ent_1⟩
theorem m_J_of {w : mW} {sh : mSh} {σ : Mem} {A : Nat → Prop} (h : va_D A (m_cn w sh σ)) : m_J w sh := fun i j hi hj e => by
  obtain ⟨p, h1, h2⟩ := m_get (w := w) (σ := σ) hi
  obtain ⟨q, h3, h4⟩ := m_get (w := w) (σ := σ) hj
  exact h.1 i j p q h1 h3 (by rw [h2, h4, e])
theorem m_A_in {w : mW} {sh : mSh} {σ : Mem} {A : Nat → Prop} (h : va_D A (m_cn w sh σ)) {q : Nat} (hq : m_A w sh q) : A q := by
  obtain ⟨i, hi, rfl⟩ := hq
  obtain ⟨p, h1, h2⟩ := m_get (w := w) (σ := σ) hi
  rw [← h2]
  exact h.2 i p h1
theorem m_A_lt {w : mW} {sh : mSh} {σ : Mem} {H : Heap} (h : va_P w.1 vwCl (m_cn w sh σ) H) {q : Nat} (hq : m_A w sh q) : q < H.size := by
  obtain ⟨i, hi, rfl⟩ := hq
  obtain ⟨p, h1, h2⟩ := m_get (w := w) (σ := σ) hi
  rw [← h2]
  exact m_lt h h1
theorem m_A_ex {w : mW} {sh : mSh} (σ : Mem) {q : Nat} (hq : m_A w sh q) : ∃ (i : Nat) (p : Nat × va_E), (m_cn w sh σ)[i]? = some p ∧ p.1 = q := by
  obtain ⟨i, hi, rfl⟩ := hq
  obtain ⟨p, h1, h2⟩ := m_get (w := w) (σ := σ) hi
  exact ⟨i, p, h1, h2⟩
/-- an object is made -/
theorem g_ctor {p : Program} {l : Launch} {e : Env} {R : Room} {s : State} {m : MethodId} {args : Array Value} {below : List Frame} {meth : Method} {c : Code} {H : Heap} {locs : List Loc} {cells slots : Nat} {Q : State → Prop} {w : mW} {cc : ByteArray} {nL : Nat} {own : String} {pc : Nat} {ls : Array Slot} {st : List Value}
    {y : MethodName} {cy : ByteArray} {nLy dy kcy ksy ix q0 ci : Nat} {fs : List Value} {fin : va_W → Prop} (S : CallFix p m c cc nL s args mbig own) (hE : En l w y cy nLy dy kcy ksy [.ref q0] [(q0, .inr (ci, fs))] fin) (hcal : m_cal own ix y cy nLy none) (hini : Cond.instanceMethod y ∈ mbig) (hy1 : y.name = "<init>") (hnp : (parseMethodDescriptor y.desc).map (fun d => d.parameters.length) = some 0) (hR : dy + 1 ≤ R.frames ∧ 8 + (nLy + 11) + 40 * dy ≤ R.locals)
    (hK : va_K w.1 vwCl (m_ty w) s) (hO : va_AO "StormParting$Cover" s) (hP : va_P w.1 vwCl [(q0, .inr (ci, fs))] H) (hq : s.heap.size ≤ q0) (hS : va_S (fun q : Nat => s.heap.size ≤ q) s.heap H locs) (hls : ls.size = nL) (h8 : (st.map fun v => v.category).sum ≤ 8) (hf : cells + kcy ≤ R.cells ∧ slots + ksy ≤ R.slots) (hd : decode cc pc = .ok (.invokespecial ix, 3))
    (k : ∀ (ws1 : va_W) (H1 : Heap) (locs1 : List Loc), fin ws1 → va_P w.1 vwCl ws1 H1 → va_D (va_A [(q0, .inr (ci, fs))] H.size) ws1 → H.size ≤ H1.size → (∀ q : Nat, q < H.size → q ≠ q0 → H1[q]? = H[q]?) → va_S (fun q : Nat => s.heap.size ≤ q) s.heap H1 locs1 → W p l e R s m args below meth c H1 locs1 (cells + kcy) (slots + ksy) Q (F0 m (pc + 3) ls st)) : W p l e R s m args below meth c H locs cells slots Q (F0 m pc ls (.ref q0 :: st)) := by
  obtain ⟨hx, hb, hml, hown, hts⟩ := S
  obtain ⟨g1, g2, g3, g4, g5, g6⟩ := hcal
  have hcb : CallB R s args own ix y cy nLy none (Cond.code y cy nLy none :: mbig) (n_room dy kcy ksy) kcy ksy 0 := callB_of 0 hts (m_good g2) rfl rfl rfl (hts _ g3) (hts _ g1) ⟨g5, g6, hnp⟩ hR
  have hin : ∀ q, va_A [(q0, .inr (ci, fs))] H.size q → s.heap.size ≤ q := fun q h => by
    rcases h with ⟨i, e9, h⟩ | h
    · have h1 : i < 1 := (List.getElem?_eq_some_iff.mp h).1
      obtain rfl : i = 0 := by omega
      cases h
      exact hq
    · exact Nat.le_trans hS.1 h
  have hDc : va_D (fun _ => True) [((q0, .inr (ci, fs)) : Nat × va_E)] := ⟨fun i j a b hi hj _ => by
    have h1 : i < 1 := (List.getElem?_eq_some_iff.mp hi).1
    have h2 : j < 1 := (List.getElem?_eq_some_iff.mp hj).1
    omega, fun _ _ _ => trivial⟩
  have hrun := va_runI (p := p) (l := l) (R := R) (c := c) (H := H) (e := e) (below := below) (meth := meth) (locs := locs) (cells := cells) (slots := slots) (As := []) (rest := st) (g := F0 m pc ls (.ref q0 :: st)) ⟨hx, hb, hml, hown, hts⟩ (hE H.size) ⟨hcb, hy1, hts _ hini⟩ ⟨n_blind, fun U hU hW => ⟨rfl, by rw [hU], by rw [hU]; exact hP, va_K.moved hW.alike hK, hDc, va_AO.moved hW.alike hO⟩⟩ rfl rfl hls rfl (lv_room h8) hd hf
  intro T hT X
  obtain ⟨v0, st₀, t, T', L, h0, X', hL, e1, e2, ⟨hv, ⟨ws1, hfin, hP1, hD1⟩, hz, hk⟩, stp⟩ := hrun T hT X
  cases hv
  rw [h0] at hz hk
  rw [← e1] at hP1 hz hk
  have hk2 : ∀ q : Nat, q < H.size → q ≠ q0 → T'.heap[q]? = H[q]? := fun q h1 h2 => hk q h1 (fun z => by
    rcases z with ⟨i, e9, h⟩ | h
    · have h1 : i < 1 := (List.getElem?_eq_some_iff.mp h).1
      obtain rfl : i = 0 := by omega
      cases h
      exact h2 rfl
    · omega)
  obtain ⟨t2, a1, b1⟩ := k ws1 T'.heap (locs ++ L) hfin hP1 hD1 hz hk2 ⟨Nat.le_trans hS.1 hz, fun q h1 h2 => by rw [hk q (Nat.lt_of_lt_of_le h1 hS.1) (fun z => h2 (hin q z))]; exact hS.2.1 q h1 h2, fun q hq => by
      rcases List.mem_append.mp hq with h | h
      · exact hS.2.2 q h
      · exact hin _ (hL q h)⟩ T' rfl X'
  exact ⟨t2, stp t2 a1, b1⟩
theorem lm_15 : Cond.methodLink RL 15 yX6_init ∈ mbig := m_inD (by decide +kernel) rfl
theorem lm_18 : Cond.methodLink RL 18 yX7_init ∈ mbig := m_inD (by decide +kernel) rfl
theorem lo_X6_init : Cond.code yX6_init cX6_init 2 none ∈ mbig := m_inD (by decide +kernel) rfl
theorem lo_X7_init : Cond.code yX7_init cX7_init 1 none ∈ mbig := m_inD (by decide +kernel) rfl
theorem li_X6_init : Cond.instanceMethod yX6_init ∈ mbig := m_inD (by decide +kernel) rfl
theorem li_X7_init : Cond.instanceMethod yX7_init ∈ mbig := m_inD (by decide +kernel) rfl
theorem lk_15 : m_cal RL 15 yX6_init cX6_init 2 none := ⟨lm_15, lo_X6_init, kz_RX6, by decide, by decide, by decide⟩
theorem lk_18 : m_cal RL 18 yX7_init cX7_init 1 none := ⟨lm_18, lo_X7_init, kz_RX7, by decide, by decide, by decide⟩
theorem ll_8 : Cond.classLink RL 8 RX6 ∈ mbig := m_inD (by decide +kernel) rfl
theorem ll_16 : Cond.classLink RL 16 RX7 ∈ mbig := m_inD (by decide +kernel) rfl
def fs6 : List Value := [.null, .null, .null, .null, .null, .null, .null, .null, .int 0, .int 0]
def fs7 : List Value := [.int 0, .null, .int 0, .int 0, .int 0, .int 0, .null, .int 0, .null, .null, .null, .null, .null, .null, .null, .int 0, .null, .null, .null, .null, .null, .null, .int 0, .int 0, .int 0, .int 0, .int 0, .int 0, .int 0, .int 0, .int 0, .int 0, .int 0, .int 0, .int 0, .null, .null, .int 0, .null, .null, .int 0, .int 0]
theorem fs6_ok : ∀ j, j < 10 → defaultValue (tyX6 j) = vp_V fs6 j := by decide
theorem fs7_ok : ∀ j, j < 42 → defaultValue (tyX7 j) = vp_V fs7 j := by decide
set_option maxHeartbeats 4000000 in
set_option maxRecDepth 100000 in
theorem whole_start {p : Program} {e : Env} {s : State} {m : MethodId} {below : List Frame} {meth : Method} {c : Code} (l : Launch) (hl : l.stackTraces = false) {b L : Nat} {xs : Nat → Int32} (hL : L ≤ 3584) (C0 : lw_At p s m meth c b L xs) : W p l e room_1 s m #[Value.ref b] below meth c s.heap [] 0 0 (lw_Z below #[Value.ref b] s) (entryFrame m ([Value.ref b] : List Value).toArray 7) := by
  obtain ⟨hx, hb, hr, hml, hown, hts, hX, hbl, hlocks, hgv⟩ := id C0
  have htb : ∀ w ∈ mbig, w.before #[Value.ref b] s = true := fun w hw => hts w (List.mem_filter.mp hw).1
  have S : CallFix p m c code 7 s #[Value.ref b] mbig RL := ⟨hx, hb, hml, hown, htb⟩
  obtain ⟨ex, hst, htt⟩ := ws_st hts hgv
  obtain ⟨D, ty, cL0, hK0⟩ := ws_K hts
  have hA : ∀ q : Nat, s.heap.size ≤ q → (fun q : Nat => s.heap.size ≤ q) q := fun _ h => h
  have hO : va_AO "StormParting$Cover" s := va_AO.of (hts _ ka_over)
  have hK : va_K D vwCl (m_ty (D, (fun _ : Nat => (0 : Nat)), ty, ex)) s := hK0.sub [0, 1, 2] rfl
  have hS : va_S (fun q : Nat => s.heap.size ≤ q) s.heap s.heap [] := va_S.rf
  have hP : va_P D vwCl [] s.heap := fun k q h => by simp at h
  have hD : va_D (fun q : Nat => s.heap.size ≤ q) [] := ⟨fun i j p q h => by simp at h, fun k q h => by simp at h⟩
  have hlv := lv_entry ([.ref b]) (n := 7) (Nat.le_of_ble_eq_true rfl)
  rw [lg_entry_eq]
  generalize (lg_sl ([.ref b]) ++ List.replicate (7 - (lg_sl ([.ref b])).length) Slot.unset).toArray = ls at hlv ⊢
  have hlv : lv_has ls 7 [(0, .ref b)] := hlv
  -- the class's object
  refine va_new (ci := 6) (fs := fs6) (C := RX6) (T := TX6) (N := 10) hx hb htb iX6 tyX6 tyX6_ok hown (htb _ ll_8) (htb _ kq_RX6) (htb _ kz_RX6) hK hP hD hS hA rfl fs6_ok (by decide) (by decide) dL_law_0 (fun q0 H1 hP1 hD1 hS1 => ?_)
  have hP1 : va_P D vwCl [(q0, .inr (6, fs6))] H1 := hP1
  have hq0 : s.heap.size ≤ q0 := hD1.2 0 (q0, .inr (6, fs6)) rfl
  refine lv_dup hx hb dL_law_3 rfl ?_
  refine g_ctor (w := (D, (fun _ : Nat => (0 : Nat)), ty, ex)) (ci := 6) (fs := fs6) S (en_X6_init l (D, (fun _ : Nat => (0 : Nat)), ty, ex) q0) lk_15 li_X6_init rfl np_X6_init ⟨by decide, by decide⟩ hK hO hP1 hq0 hS1 hlv.1 (Nat.le_of_ble_eq_true rfl) ⟨by decide, by decide⟩ dL_law_4 (fun ws1 H2 locs2 hfin hP2 hD2 hz2 hk2 hS2 => ?_)
  have hfin : ∃ ad : Nat → Nat, ad 16 = q0 ∧ ws1 = m_cn (D, ad, ty, ex) shC σC0 := hfin
  have hD2 : va_D (va_A [(q0, .inr (6, fs6))] H1.size) ws1 := hD2
  have hP2 : va_P D vwCl ws1 H2 := hP2
  obtain ⟨adC, hadC, hws⟩ := hfin
  rw [hws] at hP2 hD2
  have hC2 : va_P D vwCl (m_cn (D, adC, ty, ex) shC σC0) H2 := hP2
  have hD2 : va_D (va_A [(q0, .inr (6, fs6))] H1.size) (m_cn (D, adC, ty, ex) shC σC0) := hD2
  have hJC : m_J (D, adC, ty, ex) shC := m_J_of hD2
  have hAC : ∀ q, m_A (D, adC, ty, ex) shC q → s.heap.size ≤ q := fun q h => by
    rcases m_A_in hD2 h with ⟨i, e9, h⟩ | h
    · have h1 : i < 1 := (List.getElem?_eq_some_iff.mp h).1
      obtain rfl : i = 0 := by omega
      cases h
      exact hq0
    · exact Nat.le_trans hS1.1 h
  have hDC : va_D (fun q : Nat => s.heap.size ≤ q) (m_cn (D, adC, ty, ex) shC σC0) := (m_D hJC).weaken (fun _ _ _ h => hAC _ h)
  refine lv_astore_n (lv' := [(1, .ref q0), (0, .ref b)]) hx hb dL_law_7 rfl hlv (by decide) rfl (fun ls hlv => ?_)
  -- the reference's object
  refine va_new (ci := 7) (fs := fs7) (C := RX7) (T := TX7) (N := 42) hx hb htb iX7 tyX7 tyX7_ok hown (htb _ ll_16) (htb _ kq_RX7) (htb _ kz_RX7) hK hC2 hDC hS2 hA rfl fs7_ok (by decide) (by decide) dL_law_8 (fun q1 H3 hP3 hD3 hS3 => ?_)
  have hC3 := P_left hP3
  have hM3 := P_right hP3
  have hq1 : s.heap.size ≤ q1 := D_right hD3 (j := 0) (q := (q1, .inr (7, fs7))) rfl
  have hne1 : ∀ q, m_A (D, adC, ty, ex) shC q → q ≠ q1 := fun q h => by
    obtain ⟨i, p9, h1, h2⟩ := m_A_ex σC0 h
    rw [← h2]
    exact D_cross hD3 h1 (j := 0) (q := (q1, .inr (7, fs7))) rfl
  refine lv_dup hx hb dL_law_11 rfl ?_
  refine g_ctor (w := (D, (fun _ : Nat => (0 : Nat)), ty, ex)) (ci := 7) (fs := fs7) S (en_X7_init l (D, (fun _ : Nat => (0 : Nat)), ty, ex) q1) lk_18 li_X7_init rfl np_X7_init ⟨by decide, by decide⟩ hK hO hM3 hq1 hS3 hlv.1 (Nat.le_of_ble_eq_true rfl) ⟨by decide, by decide⟩ dL_law_12 (fun ws1 H4 locs4 hfin hP4 hD4 hz4 hk4 hS4 => ?_)
  have hfin : ∃ ad : Nat → Nat, ad 0 = q1 ∧ ws1 = m_cn (D, ad, ty, ex) shR σR0 := hfin
  have hD4 : va_D (va_A [(q1, .inr (7, fs7))] H3.size) ws1 := hD4
  have hP4 : va_P D vwCl ws1 H4 := hP4
  obtain ⟨adR, hadR, hws4⟩ := hfin
  rw [hws4] at hP4 hD4
  have hR4 : va_P D vwCl (m_cn (D, adR, ty, ex) shR σR0) H4 := hP4
  have hD4 : va_D (va_A [(q1, .inr (7, fs7))] H3.size) (m_cn (D, adR, ty, ex) shR σR0) := hD4
  have hC4 : va_P D vwCl (m_cn (D, adC, ty, ex) shC σC0) H4 := hC3.kept (fun k q hq => hk4 q.1 (m_lt (w := (D, adC, ty, ex)) hC3 hq) (hne1 _ (m_A_of hq)))
  have hJR : m_J (D, adR, ty, ex) shR := m_J_of hD4
  have hRq : ∀ q, m_A (D, adR, ty, ex) shR q → q = q1 ∨ H3.size ≤ q := fun q h => by
    rcases m_A_in hD4 h with ⟨i, e9, h⟩ | h
    · have h1 : i < 1 := (List.getElem?_eq_some_iff.mp h).1
      obtain rfl : i = 0 := by omega
      cases h
      exact Or.inl rfl
    · exact Or.inr h
  have hAR : ∀ q, m_A (D, adR, ty, ex) shR q → s.heap.size ≤ q := fun q h => by
    rcases hRq q h with h | h
    · rw [h]; exact hq1
    · exact Nat.le_trans hS3.1 h
  have hdis : ∀ q, m_A (D, adC, ty, ex) shC q → ¬ m_A (D, adR, ty, ex) shR q := fun q h1 h2 => by
    rcases hRq q h2 with h | h
    · exact hne1 q h1 h
    · have := m_A_lt (w := (D, adC, ty, ex)) hC3 h1
      omega
  have hDR : va_D (fun q : Nat => s.heap.size ≤ q) (m_cn (D, adR, ty, ex) shR σR0) := (m_D hJR).weaken (fun _ _ _ h => hAR _ h)
  refine lv_astore_n (lv' := [(2, .ref q1), (1, .ref q0), (0, .ref b)]) hx hb dL_law_15 rfl hlv (by decide) rfl (fun ls hlv => ?_)
  -- the law's own array
  refine lv_iconst (v := 1) hx hb dL_law_16 (by decide) ?_
  refine va_newa (atype := .long) (a0 := (1, .inr (.inl (fun _ => 0)))) (N' := 1) (ty := .long) hx hb (htb _ ka_long) rfl hK (hC4.app hR4) (hDC.app hDR (fun i j p q h1 h2 z => hdis _ (m_A_of h1) (by rw [z]; exact m_A_of h2))) hS4 hA (fun _ => rfl) (by decide) (by decide) (by decide) (by decide) (by decide) dL_law_17 (fun qo cL H5 hK5 hP5 hD5 hS5 => ?_)
  have hC5 := P_left (P_left hP5)
  have hR5 := P_right (P_left hP5)
  have hO5 : va_P D vwCl (h_o qo cL (fun _ => 0)) H5 := P_right hP5
  have hqo : s.heap.size ≤ qo := D_right hD5 (j := 0) (q := (qo, .inl (cL, 1, .inr (.inl (fun _ => 0))))) rfl
  have hqC : ¬ m_A (D, adC, ty, ex) shC qo := fun h => by
    obtain ⟨i, p9, h1, h2⟩ := m_A_ex σC0 h
    exact D_cross hD5 (i := i) (p := p9) (by rw [List.getElem?_append_left (List.getElem?_eq_some_iff.mp h1).1]; exact h1) (j := 0) (q := (qo, .inl (cL, 1, .inr (.inl (fun _ => 0))))) rfl h2
  have hqR : ¬ m_A (D, adR, ty, ex) shR qo := fun h => by
    obtain ⟨i, p9, h1, h2⟩ := m_A_ex σR0 h
    exact D_cross hD5 (i := (m_cn (D, adC, ty, ex) shC σC0).length + i) (p := p9) (by rw [List.getElem?_append_right (by omega), show (m_cn (D, adC, ty, ex) shC σC0).length + i - (m_cn (D, adC, ty, ex) shC σC0).length = i by omega]; exact h1) (j := 0) (q := (qo, .inl (cL, 1, .inr (.inl (fun _ => 0))))) rfl h2
  refine lv_astore_n (lv' := [(3, .ref qo), (2, .ref q1), (1, .ref q0), (0, .ref b)]) hx hb dL_law_19 rfl hlv (by decide) rfl (fun ls hlv => ?_)
  refine lv_iconst (v := 0) hx hb dL_law_20 (by decide) ?_
  refine lv_istore (lv' := [(4, .int 0), (3, .ref qo), (2, .ref q1), (1, .ref q0), (0, .ref b)]) hx hb dL_law_21 hlv (by decide) rfl (fun ls hlv => ?_)
  -- the loop
  have hg : l_ok (p, l, e, s, m, below, meth, c, b, L, xs) (D, adC, adR, ty, ex, qo, cL) := ⟨C0, hl, hL, hK5, hJC, hJR, hst D adC ty, htt, hAC, hAR, hqo, hdis, hqC, hqR⟩
  refine W.widen (k := 100 + 0) (n := 5000 + 6 * 0) (by decide) (by decide) ?_
  have hl5 : m_lv ls 7 [(0, .ref b), (1, .ref (adC 16)), (2, .ref (adR 0)), (3, .ref qo), (4, .int (nI (7 * 0)))] := by
    rw [hadC, hadR]
    refine ⟨lv_sub hlv [4, 3, 2, 1, 0] rfl, fun q hq => ?_⟩
    simp only [List.mem_cons, List.not_mem_nil, or_false] at hq
    rcases hq with rfl | rfl | rfl | rfl | rfl <;> rfl
  exact law_loop hg (L / 7 + 1) 0 σC0 σR0 (fun _ => 0) (by omega) (by omega) rel0 H5 locs4 ls hC5 hR5 hO5 hS5 hl5
