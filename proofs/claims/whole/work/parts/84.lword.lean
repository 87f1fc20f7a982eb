/-! the law's own word: what it catches -/
theorem kL_7 : Cond.methodLink RL 7 yX6_word ∈ mbig := m_inD (by decide +kernel) rfl
theorem kc_X6_word : Cond.code yX6_word cX6_word 4 (some .int) ∈ mbig := m_inD (by decide +kernel) rfl
theorem ki_X6_word : Cond.instanceMethod yX6_word ∈ mbig := m_inD (by decide +kernel) rfl
theorem ks_RX6_X6_word : Cond.selects RX6 yX6_word yX6_word ∈ mbig := m_inD (by decide +kernel) rfl
theorem np_X6_word : (parseMethodDescriptor yX6_word.desc).map (fun d => d.parameters.length) = some 2 := by decide +kernel
theorem kk_RL_7 : m_cal RL 7 yX6_word cX6_word 4 (some .int) := ⟨kL_7, kc_X6_word, kz_RX6, by decide, by decide, by decide⟩
theorem kl_RL_13 : Cond.classLink RL 13 "java/util/NoSuchElementException" ∈ mbig := m_inD (by decide +kernel) rfl
theorem shC_16 : shC[16]? = some (.inr (6, [19, 24, 1, 20, 21, 22, 25, 26, 0, 0])) := rfl
def h_A (w : mW) (qo : Nat) : Nat → Prop := fun q => m_A w shC q ∨ q = qo
def h_room : Room := { frames := 10, cells := 1, slots := 6, locals := 800 }
def h_o (qo : Nat) (cL : ClassId) (f : Nat → Int64) : va_W := [(qo, .inl (cL, 1, .inr (.inl f)))]
def h_pre (w : mW) (σ : Mem) (qo : Nat) (cL : ClassId) (f : Nat → Int64) (U : State) : Prop := va_P w.1 vwCl (m_cn w shC σ) U.heap ∧ va_P w.1 vwCl (h_o qo cL f) U.heap ∧ va_K w.1 vwCl (m_ty w ++ [(cL, .long)]) U ∧ m_J w shC ∧ m_st w (h_A w qo) U ∧ t_st (h_A w qo) U ∧ ¬ m_A w shC qo
def h_Q (w : mW) (σ : Mem) (qo : Nat) (cL : ClassId) (r : Int32) (P : (Nat → Int64) → Prop) : Array Value → State → Outcome → State → Prop := fun _ st oc t => oc = .returned (some (.int r)) ∧ va_P w.1 vwCl (m_cn w shC σ) t.heap ∧ (∃ f, P f ∧ va_P w.1 vwCl (h_o qo cL f) t.heap) ∧ va_F (h_A w qo) st t
theorem h_blind {w : mW} {σ : Mem} {qo : Nat} {cL : ClassId} {f : Nat → Int64} {av : List Value} : FrameBlind (va_Pc av (h_pre w σ qo cL f)) := by
  intro a U g mk q
  obtain ⟨q0, h1, h2, h3, h4, h5, h6, h7⟩ := q
  exact ⟨q0, h1, h2, va_K.moved (u := U) (U := U.calling g mk a) (Vm.Alike.refl U.vm) h3, h4, h5.same rfl rfl, h6.same rfl rfl, h7⟩
theorem h_oD {w : mW} {σ : Mem} {qo : Nat} {cL : ClassId} {f : Nat → Int64} (hJ : m_J w shC) (hq : ¬ m_A w shC qo) : va_D (h_A w qo) (h_o qo cL f ++ m_cn w shC σ) := by
  refine va_D.app ⟨fun i j p q hi hj _ => ?_, fun k q hk => ?_⟩ ((m_D hJ).weaken (fun _ _ _ h => Or.inl h)) (fun i j p q hi hj => ?_)
  · have h1 : i < 1 := (List.getElem?_eq_some_iff.mp hi).1
    have h2 : j < 1 := (List.getElem?_eq_some_iff.mp hj).1
    omega
  · have h1 : k < 1 := (List.getElem?_eq_some_iff.mp hk).1
    obtain rfl : k = 0 := by omega
    cases hk
    exact Or.inr rfl
  · have h1 : i < 1 := (List.getElem?_eq_some_iff.mp hi).1
    obtain rfl : i = 0 := by omega
    cases hi
    obtain ⟨h3, h4⟩ := m_of hj
    intro z
    exact hq ⟨j, h3, z.trans h4⟩
theorem h_oK {w : mW} {qo : Nat} {cL : ClassId} {f : Nat → Int64} {H H1 : Heap} (h : va_P w.1 vwCl (h_o qo cL f) H) (hk : H1[qo]? = H[qo]?) : va_P w.1 vwCl (h_o qo cL f) H1 := h.kept (fun k q hq => by
  have h1 : k < 1 := (List.getElem?_eq_some_iff.mp hq).1
  obtain rfl : k = 0 := by omega
  cases hq
  exact hk)
theorem h_oL {w : mW} {qo : Nat} {cL : ClassId} {f : Nat → Int64} {H : Heap} (h : va_P w.1 vwCl (h_o qo cL f) H) : qo < H.size := (h 0 _ rfl).lt
theorem h_split {D : va_G} {cl : List vw_C} {q q' : Nat × va_E} {ws : va_W} {H : Heap} (h : va_P D cl (([q'] ++ ws).set 0 q) H) : va_P D cl [q] H ∧ va_P D cl ws H := by
  have h : va_P D cl (q :: ws) H := h
  refine ⟨h.by (fun k => k) (fun k z hz => ?_), h.by (fun k => k + 1) (fun k z hz => ?_)⟩
  · have h1 : k < 1 := (List.getElem?_eq_some_iff.mp hz).1
    obtain rfl : k = 0 := by omega
    exact hz
  · rw [List.getElem?_cons_succ]
    exact hz
section GTHROW
variable {p : Program} {l : Launch} {e : Env} {R : Room} {s : State} {m : MethodId} {args : Array Value} {below : List Frame} {meth : Method} {c : Code} {H : Heap} {locs : List Loc} {cells slots : Nat} {Q : State → Prop}
variable {w : mW} {σ : Mem} {pc : Nat} {ls : Array Slot} {st st0 : List Value} {A : Nat → Prop} {H0 : Heap}
theorem g_throw (hS : va_S A H0 H locs) (hA : ∀ q, m_A w shC q → A q) (hr : vx_Run p l e R s m args below meth c H locs cells slots 1 6 (F0 m pc ls st0) st (fun _ _ _ => False) (t_X w σ) (m_A w shC))
    (k : ∀ (ce : Cell) (q9 : Addr) (H1 : Heap) (locs1 : List Loc), va_P w.1 vwCl (m_cn w shC σ) H1 → H.size ≤ H1.size → (∀ q : Nat, q < H.size → ¬ m_A w shC q → H1[q]? = H[q]?) → va_S A H0 H1 locs1 → H1[q9]? = some ce → ce.vm = .none → s.vm.findClass "java/util/NoSuchElementException" = some ce.cls → vx_W p l e R s m args below meth c H1 locs1 (cells + 1) (slots + 6) Q (F0 m pc ls st) q9) : W p l e R s m args below meth c H locs cells slots Q (F0 m pc ls st0) := by
  intro T hT X
  rcases hr T hT X with ⟨v, st₀, t, T', L, h0, X', hL, e1, e2, hf, -⟩ | ⟨q, st₀, t, T', L, E, ce, h0, X', hL, e1, e2, ⟨hE, hP1, hz, hk⟩, hce, hcv, hcl, stp⟩
  · exact hf.elim
  · subst hE
    rw [h0] at hz hk
    obtain ⟨t2, a1, b1⟩ := k ce q T'.heap (locs ++ L) (by rw [e1]; exact hP1) (by rw [e1]; exact hz) (fun q h1 h2 => by rw [e1]; exact hk q h1 h2) ⟨Nat.le_trans hS.1 (by rw [e1]; exact hz), fun q h1 h2 => by rw [e1, hk q (Nat.lt_of_lt_of_le h1 hS.1) (fun z => h2 (hA q z))]; exact hS.2.1 q h1 h2, fun q hq => by
      rcases List.mem_append.mp hq with h | h
      · exact hS.2.2 q h
      · exact hA _ (hL q h)⟩ (by rw [e1]; exact hce) hcv hcl T' rfl X'
    exact ⟨t2, stp.trans a1, b1⟩
end GTHROW
set_option maxHeartbeats 4000000 in
set_option maxRecDepth 100000 in
theorem h_word {N : Nat} (l : Launch) (hl : l.stackTraces = false) (w : mW) (v1 v2 : Int32) (σ : Mem) (qo : Nat) (cL : ClassId) (f : Nat → Int64) (r : Int32) (P : (Nat → Int64) → Prop)
    (hcase : (∃ v, f_X6_word N v1 v2 σ = some (v, σ) ∧ r = 0 ∧ ∀ f' : Nat → Int64, f' 0 = v.toInt64 → P f') ∨ (wBad N v1 v2 σ ∧ r = 1 ∧ P f)) :
    Met l yL_word (Cond.codeWith yL_word cL_word 5 (some .int) [(0, 10, 13, 13)] :: mbig) h_room (va_Pc [.ref (w.2.1 16), .int v1, .int v2, .ref qo] (h_pre w σ qo cL f)) (h_Q w σ qo cL r P) 1 6 (h_A w qo) := by
  refine va_MetW (cc := cL_word) (maxL := 5) (ret := some .int) (hh := [(0, 10, 13, 13)]) (by decide) rfl ?_
  intro p e s m args below meth c s₁ B hml hv
  obtain ⟨rfl, hP, hO, hK, hJ, hZ, hT, hqo⟩ := hv
  have hts := atoms_spec (ws := Cond.codeWith yL_word cL_word 5 (some .int) [(0, 10, 13, 13)] :: mbig) B.pre
  have htab := vx_table (x := yL_word) B (hts _ List.mem_cons_self)
  have htb : ∀ w ∈ mbig, w.before _ s = true := fun w hw => hts w (List.mem_cons_of_mem _ hw)
  have hx := B.exec
  have hb := B.bytes
  have hret := B.returns
  have hlocks := B.notSynchronized
  have hown : s.vm.findClass RL = some m.cls := findClass_of_methodNamed B.named
  have S : CallFix p m c cL_word 5 s _ mbig RL := ⟨hx, hb, hml, hown, htb⟩
  have hK3 : va_K w.1 vwCl (m_ty w) s := hK.sub [0, 1, 2] rfl
  have hlv := lv_entry [.ref (w.2.1 16), .int v1, .int v2, .ref qo] (n := 5) (Nat.le_of_ble_eq_true rfl)
  rw [lg_entry_eq]
  generalize (lg_sl [.ref (w.2.1 16), .int v1, .int v2, .ref qo] ++ List.replicate (5 - (lg_sl [.ref (w.2.1 16), .int v1, .int v2, .ref qo]).length) Slot.unset).toArray = ls at hlv ⊢
  have hlv : lv_has ls 5 [(0, .ref (w.2.1 16)), (1, .int v1), (2, .int v2), (3, .ref qo)] := hlv
  have hS : va_S (h_A w qo) s.heap s.heap [] := va_S.rf
  refine lv_aload_n hx hb dL_word_0 rfl (lv_at hlv 3 rfl) ?_
  refine lv_iconst (v := 0) hx hb dL_word_1 (by decide) ?_
  refine lv_aload_n hx hb dL_word_2 rfl (lv_at hlv 0 rfl) ?_
  refine lv_iload_n hx hb dL_word_3 rfl (lv_at hlv 1 rfl) ?_
  refine lv_iload_n hx hb dL_word_4 rfl (lv_at hlv 2 rfl) ?_
  rcases hcase with ⟨v, hE, rfl, hPf⟩ | ⟨hB, rfl, hPf⟩
  · refine g_callv (w := w) (sh := shC) (i := 16) (As := [.int v1, .int v2]) (st := [.int 0, .ref qo]) (v := v) (τ := σ) (rky := 1) S (e_X6_word N l w v1 v2 σ _ _ hE) kk_RL_7 ki_X6_word ks_RX6_X6_word rfl rfl np_X6_word ⟨by decide, by decide⟩ hK3 hJ hZ (fun _ h => Or.inl h) hP hS hlv.1 rfl (Nat.le_of_ble_eq_true rfl) ⟨by decide, by decide⟩ dL_word_5 (fun H1 locs1 hP hz hk hS => ?_)
    show W p l e h_room s m _ below meth c H1 locs1 0 0 _ (F0 m 8 ls [.int v, .int 0, .ref qo])
    refine lv_i2l hx hb dL_word_8 rfl ?_
    have hO1 := h_oK hO (hk qo (h_oL hO) hqo)
    refine va_last (A := h_A w qo) hx hb hK (hO1.app hP) (h_oD hJ hqo) hS 0 3 rfl rfl (by unfold vp_in; decide) dL_word_9 (fun H2 locs2 hP2 hD2 hS2 => ?_)
    obtain ⟨hO3, hP3⟩ := h_split hP2
    have hO3 : va_P w.1 vwCl (h_o qo cL (vp_updL f (Int32.toNatClampNeg 0) v.toInt64)) H2 := hO3
    refine lv_goto (tgt := 17) hx hb dL_word_10 (by decide) ?_
    refine lv_iconst (v := 0) hx hb dL_word_17 (by decide) ?_
    refine W.widen (k := 1) (n := 6) (by omega) (by omega) ?_
    exact W.iret (v := 0) hx hb hret (fun t ht hW => ⟨rfl, by rw [ht]; exact hP3, ⟨vp_updL f (Int32.toNatClampNeg 0) v.toInt64, hPf (vp_updL f (Int32.toNatClampNeg 0) v.toInt64) (if_pos rfl), by rw [ht]; exact hO3⟩, hS2.F ht⟩) hS2.2.2 dL_word_18 hlocks
  · have hp : FrameBlind (va_Pc [.ref (w.2.1 16), .int v1, .int v2] (t_pre w σ)) ∧ ∀ U : State, U.heap = s.heap → s.WarmedH U.vm → va_Pc [.ref (w.2.1 16), .int v1, .int v2] (t_pre w σ) (#[.ref (w.2.1 16), .int v1, .int v2] : Array Value) U := ⟨t_blind, fun U hU hW => ⟨rfl, ⟨by rw [hU]; exact hP, va_K.moved hW.alike hK3, hJ, (hZ.warm hW (fun a ha hn => by rw [hU])).narrow (fun _ h => Or.inl h)⟩, (hT.warm hW (fun a ha hn => by rw [hU])).narrow (fun _ h => Or.inl h)⟩⟩
    refine g_throw (A := h_A w qo) (st := [.int 0, .ref qo]) hS (fun _ h => Or.inl h) (vx_runV (C := RX6) (n := 2) (As := [.int v1, .int v2]) (rest := [.int 0, .ref qo]) S (x_word l hl w v1 v2 σ hB) ⟨callB_of 2 htb (m_good kc_X6_word) rfl rfl rfl (htb _ kz_RX6) (htb _ kL_7) ⟨by decide, by decide, np_X6_word⟩ ⟨by decide, by decide⟩, htb _ ki_X6_word, htb _ ks_RX6_X6_word⟩ ⟨hp.1, va_recv (ci := 6) hK3 hP rfl (m_at shC_16), hp.2⟩ rfl rfl hlv.1 rfl (lv_room (Nat.le_of_ble_eq_true rfl)) dL_word_5 ⟨by decide, by decide⟩) (fun ce q9 H1 locs1 hP hz hk hS hce hcv hcl => ?_)
    refine vx_catch (own := RL) (name := "java/util/NoSuchElementException") (E := "java/util/NoSuchElementException") hown [] ⟨0, 10, 13, 13⟩ [] htab (fun z hz => absurd hz List.not_mem_nil) (by decide) (by decide) (htb _ kl_RL_13) (va_Nw.use rfl hT.2.2.1) hce hcv hcl ?_
    have hO1 := h_oK hO (hk qo (h_oL hO) hqo)
    refine lv_astore (lv' := [(4, .ref q9), (0, .ref (w.2.1 16)), (1, .int v1), (2, .int v2), (3, .ref qo)]) hx hb dL_word_13 hlv (by decide) rfl (fun ls hlv => ?_)
    refine lv_iconst (v := 1) hx hb dL_word_15 (by decide) ?_
    exact W.iret (v := 1) hx hb hret (fun t ht hW => ⟨rfl, by rw [ht]; exact hP, ⟨_, hPf, by rw [ht]; exact hO1⟩, hS.F ht⟩) hS.2.2 dL_word_16 hlocks
