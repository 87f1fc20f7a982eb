/-! calls of a world's methods out of any frame -/
section GCALL
variable {p : Program} {l : Launch} {e : Env} {R : Room} {s : State} {m : MethodId} {args : Array Value} {below : List Frame} {meth : Method} {c : Code} {H : Heap} {locs : List Loc} {cells slots : Nat} {Q : State → Prop}
variable {w : mW} {sh : mSh} {cc : ByteArray} {nL : Nat} {own : String} {σ τ : Mem} {pc : Nat} {ls : Array Slot} {st st0 : List Value} {A : Nat → Prop} {H0 : Heap}
variable {y : MethodName} {cy : ByteArray} {nLy rky dy ix : Nat} {rty : Option FieldType} {As : List Value} {v : Int32}
theorem g_after {a : Array Value} (hS : va_S A H0 H locs) (hA : ∀ q, m_A w sh q → A q) (hr : va_Run p l e R s m args below meth c H locs cells slots 0 0 (F0 m pc ls st0) st (m_Q w sh rky v τ a) (m_A w sh))
    (k : ∀ (H1 : Heap) (locs1 : List Loc), va_P w.1 vwCl (m_cn w sh τ) H1 → H.size ≤ H1.size → (∀ q : Nat, q < H.size → ¬ m_A w sh q → H1[q]? = H[q]?) → va_S A H0 H1 locs1 → W p l e R s m args below meth c H1 locs1 cells slots Q (F0 m (pc + 3) ls ((m_ret w rky v).toList ++ st))) : W p l e R s m args below meth c H locs cells slots Q (F0 m pc ls st0) := by
  intro T hT X
  obtain ⟨v0, st₀, t, T', L, h0, X', hL, e1, e2, ⟨hv, hP1, hz, hk⟩, stp⟩ := hr T hT X
  cases hv
  rw [h0] at hz hk
  obtain ⟨t2, a1, b1⟩ := k T'.heap (locs ++ L) (by rw [e1]; exact hP1) (by rw [e1]; exact hz) (fun q h1 h2 => by rw [e1]; exact hk q h1 h2) ⟨Nat.le_trans hS.1 (by rw [e1]; exact hz), fun q h1 h2 => by rw [e1, hk q (Nat.lt_of_lt_of_le h1 hS.1) (fun z => h2 (hA q z))]; exact hS.2.1 q h1 h2, fun q hq => by
      rcases List.mem_append.mp hq with h | h
      · exact hS.2.2 q h
      · exact hA _ (hL q h)⟩ T' rfl X'
  exact ⟨t2, stp t2 a1, b1⟩
theorem g_callB (hts : ∀ w ∈ mbig, w.before args s = true) (hcal : m_cal own ix y cy nLy rty) (hn : (parseMethodDescriptor y.desc).map (fun d => d.parameters.length) = some As.length) (hR : dy + 1 ≤ R.frames ∧ 8 + (nLy + 11) + 40 * dy ≤ R.locals) : CallB R s args own ix y cy nLy rty (Cond.code y cy nLy rty :: mbig) (m_room dy) 0 0 As.length := by
  obtain ⟨h1, h2, h3, h4, h5, h6⟩ := hcal
  exact callB_of As.length hts (m_good h2) rfl rfl rfl (hts _ h3) (hts _ h1) ⟨h5, h6, hn⟩ hR
theorem g_preS {av : List Value} (hP : va_P w.1 vwCl (m_cn w sh σ) H) (hS : va_S A s.heap H locs) (hK : va_K w.1 vwCl (m_ty w) s) (hJ : m_J w sh) (hZ : m_st w A s) (hA : ∀ q, m_A w sh q → A q) : PreS s H (va_Pc av (m_pre w sh σ)) av :=
  ⟨m_blind, fun U hU hW => ⟨rfl, by rw [hU]; exact hP, va_K.moved hW.alike hK, hJ, (hZ.warm hW (fun a ha hn => by rw [hU]; exact hS.2.1 a ha hn)).narrow hA⟩⟩
theorem g_callv {i ci N : Nat} {ks : List Nat} {C : String} {T : u_T} (S : CallFix p m c cc nL s args mbig own) (hM : Met l y (Cond.code y cy nLy rty :: mbig) (m_room dy) (va_Pc (.ref (w.2.1 i) :: As) (m_pre w sh σ)) (m_Q w sh rky v τ) 0 0 (m_A w sh)) (hcal : m_cal own ix y cy nLy rty) (hin : Cond.instanceMethod y ∈ mbig) (hsel : Cond.selects C y y ∈ mbig) (hs : sh[i]? = some (.inr (ci, ks))) (hc : vwCl[ci]? = some (C, T, N))
    (hn : (parseMethodDescriptor y.desc).map (fun d => d.parameters.length) = some As.length) (hR : dy + 1 ≤ R.frames ∧ 8 + (nLy + 11) + 40 * dy ≤ R.locals) (hK : va_K w.1 vwCl (m_ty w) s) (hJ : m_J w sh) (hZ : m_st w A s) (hA : ∀ q, m_A w sh q → A q) (hP : va_P w.1 vwCl (m_cn w sh σ) H) (hS : va_S A s.heap H locs) (hls : ls.size = nL) (hst : st0 = As.reverse ++ .ref (w.2.1 i) :: st) (h8 : (st.map fun v => v.category).sum ≤ 8) (hf : cells ≤ R.cells ∧ slots ≤ R.slots) (hd : decode cc pc = .ok (.invokevirtual ix, 3))
    (k : ∀ (H1 : Heap) (locs1 : List Loc), va_P w.1 vwCl (m_cn w sh τ) H1 → H.size ≤ H1.size → (∀ q : Nat, q < H.size → ¬ m_A w sh q → H1[q]? = H[q]?) → va_S A s.heap H1 locs1 → W p l e R s m args below meth c H1 locs1 cells slots Q (F0 m (pc + 3) ls ((m_ret w rky v).toList ++ st))) : W p l e R s m args below meth c H locs cells slots Q (F0 m pc ls st0) := by
  obtain ⟨hx, hb, hml, hown, hts⟩ := S
  have hp := g_preS (av := .ref (w.2.1 i) :: As) hP hS hK hJ hZ hA
  refine g_after hS hA (va_runV (C := C) (As := As) (rest := st) ⟨hx, hb, hml, hown, hts⟩ hM ⟨g_callB hts hcal hn hR, hts _ hin, hts _ hsel⟩ ⟨hp.1, ?_, hp.2⟩ rfl rfl hls hst (lv_room h8) hd hf) k
  exact va_recv hK hP hc (m_at hs)
theorem g_calls (S : CallFix p m c cc nL s args mbig own) (hM : Met l y (Cond.code y cy nLy rty :: mbig) (m_room dy) (va_Pc As (m_pre w sh σ)) (m_Q w sh rky v τ) 0 0 (m_A w sh)) (hcal : m_cal own ix y cy nLy rty) (hstt : Cond.static y ∈ mbig)
    (hn : (parseMethodDescriptor y.desc).map (fun d => d.parameters.length) = some As.length) (hR : dy + 1 ≤ R.frames ∧ 8 + (nLy + 11) + 40 * dy ≤ R.locals) (hK : va_K w.1 vwCl (m_ty w) s) (hJ : m_J w sh) (hZ : m_st w A s) (hA : ∀ q, m_A w sh q → A q) (hP : va_P w.1 vwCl (m_cn w sh σ) H) (hS : va_S A s.heap H locs) (hls : ls.size = nL) (hst : st0 = As.reverse ++ st) (h8 : (st.map fun v => v.category).sum ≤ 8) (hf : cells ≤ R.cells ∧ slots ≤ R.slots) (hd : decode cc pc = .ok (.invokestatic ix, 3))
    (k : ∀ (H1 : Heap) (locs1 : List Loc), va_P w.1 vwCl (m_cn w sh τ) H1 → H.size ≤ H1.size → (∀ q : Nat, q < H.size → ¬ m_A w sh q → H1[q]? = H[q]?) → va_S A s.heap H1 locs1 → W p l e R s m args below meth c H1 locs1 cells slots Q (F0 m (pc + 3) ls ((m_ret w rky v).toList ++ st))) : W p l e R s m args below meth c H locs cells slots Q (F0 m pc ls st0) := by
  obtain ⟨hx, hb, hml, hown, hts⟩ := S
  exact g_after hS hA (va_runS (As := As) (rest := st) ⟨hx, hb, hml, hown, hts⟩ hM ⟨g_callB hts hcal hn hR, hts _ hstt⟩ (g_preS hP hS hK hJ hZ hA) rfl rfl hls hst (lv_room h8) hd hf) k
end GCALL
/-! word, where the class gives an answer -/
def f_X6_word (N : Nat) (v1 v2 : Int32) (σ : Mem) : Option (Int32 × Mem) :=
  m_bnd (f_X6_coverAt N v1 σ) (fun r1 σ2 => (if r1 < 0 then none else m_bnd (f_X6_isWithin N v2 0 9 σ2) (fun r3 σ4 => (if r3 = 0 then none else gd (inb r1 8) (gd (inb v2 10) (some (σ4 (8 + r1.toNatClampNeg) v2.toNatClampNeg, σ4)))))))
set_option maxHeartbeats 4000000 in
set_option maxRecDepth 100000 in
theorem e_X6_word (N : Nat) (l : Launch) (w : mW) (v1 v2 : Int32) (σ : Mem) : Ev l w shC yX6_word cX6_word 4 (some .int) 1 1 [.ref (w.2.1 16), .int v1, .int v2] σ (f_X6_word N v1 v2 σ) := by
  refine Ev.of (by decide) (m_c1_r (m_c1_i (m_c1_i m_c1_nil))) (Nat.le_of_ble_eq_true rfl) (fun p e s m args below meth c hg => ?_)
  have hdp := Nat.le_refl 1
  unfold f_X6_word
  show Vj (p, l, e, 1, s, m, args, below, meth, c) w shC 4 1 σ 0 [(0, .ref (w.2.1 16)), (1, .int v1), (2, .int v2)] [] _
  refine r_aload_n hg 0 dX6_word_0 rfl ?_
  refine r_iload_n hg 1 dX6_word_1 rfl ?_
  refine q_callv2 hg (e_X6_coverAt N l w v1 σ) kk_RX6_83 ki_X6_coverAt ks_RX6_X6_coverAt rfl rfl np_X6_coverAt (Nat.le_trans (by decide) hdp) rfl m_c1_nil (Nat.le_of_ble_eq_true rfl) dX6_word_2 (fun r1 σ2 => ?_)
  refine r_astoreq_n (lv' := [(3, m_rf w.2.1 r1), (0, .ref (w.2.1 16)), (1, .int v1), (2, .int v2)]) hg dX6_word_5 (by decide) rfl ?_
  refine r_aloadq_n hg 0 dX6_word_6 rfl ?_
  refine r_ifnull hg 20 dX6_word_7 (by decide) Vj.none ?_
  refine r_iload_n hg 3 dX6_word_10 rfl ?_
  refine r_iconst hg 0 dX6_word_11 (by decide) ?_
  refine r_bipush hg 9 dX6_word_12 (by decide) ?_
  refine q_calls1 hg (e_X6_isWithin N l w v2 0 9 σ2) kk_RX6_87 kt_X6_isWithin np_X6_isWithin (Nat.le_trans (by decide) hdp) rfl m_c1_nil (Nat.le_of_ble_eq_true rfl) dX6_word_14 (fun r3 σ4 => ?_)
  refine r_if_ne hg 28 dX6_word_17 (by decide) ?_ Vj.none
  refine r_aloadq_n hg 0 dX6_word_28 rfl ?_
  refine q_getq (b := 8) hg shC_q rfl (by decide) iX0 kf_RX6_94 rfl dX6_word_29 (fun h1 => ?_)
  refine r_iload_n hg 3 dX6_word_32 rfl ?_
  refine r_iaload (n := 10) hg (shC_w h1) dX6_word_33 ?_
  exact r_iret hg dX6_word_34 rfl rfl
/-- where the class throws -/
def wBad (N : Nat) (v1 v2 : Int32) (σ : Mem) : Prop := f_X6_coverAt N v1 σ = some (-1, σ) ∨ ∃ r, ¬ r < 0 ∧ f_X6_coverAt N v1 σ = some (r, σ) ∧ f_X6_isWithin N v2 0 9 σ = some (0, σ)
theorem p_word (N : Nat) {σ τ : Mem} (h : Rel σ τ) (v1 v2 : Int32) : (∃ v τ', f_X6_word N v1 v2 σ = some (v, σ) ∧ f_X7_word N v1 v2 τ = some (v, τ') ∧ τ' 0 0 = 0 ∧ Rel σ τ') ∨ (wBad N v1 v2 σ ∧ ∃ v τ', f_X7_word N v1 v2 τ = some (v, τ') ∧ τ' 0 0 = 1 ∧ Rel σ τ') := by
  obtain ⟨C, hC, c1, c2, c3⟩ := h.2.1
  have eR : f_X7_word N v1 v2 τ = if blw v1 (nI C) = 0 then some (0, mu τ 0 0 1) else if in3 v2 0 9 = 0 then some (0, mu τ 0 0 1) else gd (inb ((10 * v1) + v2) 70) (some (mu τ 0 0 0 2 ((10 * v1) + v2).toNatClampNeg, mu τ 0 0 0)) := by
    simp only [f_X7_word, j_X7_word_23, j_X7_word_24, f_X7_wordOf, e_isCover, c2, bnd_s, e_isIn, m_let, mu_s]
    by_cases a : blw v1 (nI C) = 0
    · rw [if_pos a, if_pos a, if_neg (show ¬ (1 : Int32) ≤ 0 by decide)]
    · rw [if_neg a, if_neg a]
      by_cases b : in3 v2 0 9 = 0
      · rw [if_pos b, if_pos b, if_neg (show ¬ (1 : Int32) ≤ 0 by decide)]
      · rw [if_neg b, if_neg b, if_pos (show (0 : Int32) ≤ 0 by decide)]
        cases inb ((10 * v1) + v2) 70 <;> rfl
  have eC := e_coverAt N hC c1 h.2.2.2.2 v1
  rw [eR]
  by_cases a : blw v1 (nI C) = 0
  · rw [if_pos a] at eC ⊢
    exact Or.inr ⟨Or.inl eC, _, _, rfl, mu_s _ _ _ _, h.th 1⟩
  · rw [if_neg a] at eC ⊢
    obtain ⟨c, hc, rfl⟩ := blw_n (by omega) a
    by_cases b : in3 v2 0 9 = 0
    · rw [if_pos b]
      exact Or.inr ⟨Or.inr ⟨_, nI_pos (by omega), eC, by rw [e_isWithin, b]⟩, _, _, rfl, mu_s _ _ _ _, h.th 1⟩
    · rw [if_neg b]
      obtain ⟨k, -, hk, rfl⟩ := in3_n (a := 0) (b := 9) (by omega) (by omega) b
      have e10 : (10 : Int32) * nI c + nI k = nI (10 * c + k) := by rw [nI_lit 10, pk_mul, nI_add]
      rw [e10, inb_n (show 10 * c + k < 70 by omega) (by omega), gd_t, nI_clamp (show 10 * c + k < 2 ^ 31 by omega), mu_c (by decide), (c3 c hc).2 k (by omega)]
      refine Or.inl ⟨_, _, ?_, rfl, mu_s _ _ _ _, h.th 0⟩
      simp only [f_X6_word, eC, bnd_s, if_neg (nI_pos (show c < 2 ^ 31 by omega)), e_isWithin, if_neg b, inb_n (show c < 8 by omega) (show 8 < 2 ^ 31 by omega), inb_n (show k < 10 by omega) (show 10 < 2 ^ 31 by omega), gd_t, nI_clamp (show c < 2 ^ 31 by omega), nI_clamp (show k < 2 ^ 31 by omega)]
theorem e_thrown (N : Nat) (τ : Mem) : f_X7_thrown N τ = some (τ 0 0, τ) := rfl
/-! what a throw reads and nothing here writes -/
def t_st (A : Nat → Prop) (U : State) : Prop := vx_Zq Bundle.tN "UNASSIGNED_STACK" Bundle.steD A U U.heap ∧ vx_Zq Bundle.tN "SUPPRESSED_SENTINEL" Bundle.listD A U U.heap ∧ va_Nw (.castable "java/util/NoSuchElementException" "java/util/NoSuchElementException") U ∧ va_Nw (.declares (Bundle.init0 "java/lang/RuntimeException")) U ∧ va_Nw (.declares (Bundle.init0 "java/lang/Exception")) U ∧ va_Nw (.declares (Bundle.init0 "java/lang/Throwable")) U
theorem t_st.warm {A : Nat → Prop} {s U : State} (h : t_st A s) (hW : s.WarmedH U.vm) (hq : ∀ a : Nat, a < s.heap.size → ¬ A a → U.heap[a]? = s.heap[a]?) : t_st A U := by
  obtain ⟨h1, h2, h3, h4, h5, h6⟩ := h
  exact ⟨(vx_Zq.moved hW.alike h1).kept hq, (vx_Zq.moved hW.alike h2).kept hq, va_Nw.warmC hW h3, va_Nw.warmD hW h4, va_Nw.warmD hW h5, va_Nw.warmD hW h6⟩
theorem t_st.same {A : Nat → Prop} {s U : State} (h : t_st A s) (hv : U.vm = s.vm) (hh : U.heap = s.heap) : t_st A U := by
  obtain ⟨h1, h2, h3, h4, h5, h6⟩ := h
  have ha : s.vm.Alike U.vm := by rw [hv]; exact Vm.Alike.refl _
  have hq : ∀ a : Nat, a < s.heap.size → ¬ A a → U.heap[a]? = s.heap[a]? := fun a _ _ => by rw [hh]
  exact ⟨(vx_Zq.moved ha h1).kept hq, (vx_Zq.moved ha h2).kept hq, va_Nw.same rfl hv.symm h3, va_Nw.same rfl hv.symm h4, va_Nw.same rfl hv.symm h5, va_Nw.same rfl hv.symm h6⟩
theorem t_st.narrow {A B : Nat → Prop} {s : State} (h : t_st A s) (hAB : ∀ q, B q → A q) : t_st B s := ⟨h.1.narrow hAB, h.2.1.narrow hAB, h.2.2⟩
theorem t_st.no {A : Nat → Prop} {s : State} {args : Array Value} (h : t_st A s) : ∀ w ∈ th_no, w.before args s = true := vx_c (va_Nw.use rfl h.2.2.1) (vx_c (va_Nw.use rfl h.2.2.2.1) (vx_c (va_Nw.use rfl h.2.2.2.2.1) (vx_c (va_Nw.use rfl h.2.2.2.2.2) vx_n)))
def t_room : Room := { frames := 8, cells := 1, slots := 6, locals := 320 }
def t_pre (w : mW) (σ : Mem) (U : State) : Prop := m_pre w shC σ U ∧ t_st (m_A w shC) U
def t_X (w : mW) (σ : Mem) : String → State → State → Prop := fun E st t => E = "java/util/NoSuchElementException" ∧ va_P w.1 vwCl (m_cn w shC σ) t.heap ∧ va_F (m_A w shC) st t
theorem t_blind {w : mW} {σ : Mem} {av : List Value} : FrameBlind (va_Pc av (t_pre w σ)) := by
  intro a U g mk q
  obtain ⟨q0, h1, h2⟩ := q
  exact ⟨q0, (m_blind (w := w) (sh := shC) (σ := σ) (av := av) a U g mk ⟨q0, h1⟩).2, h2.same rfl rfl⟩
theorem m_lt {w : mW} {sh : mSh} {σ : Mem} {H : Heap} (hP : va_P w.1 vwCl (m_cn w sh σ) H) {k : Nat} {q : Nat × va_E} (hk : (m_cn w sh σ)[k]? = some q) : q.1 < H.size := (hP k q hk).lt
set_option maxHeartbeats 4000000 in
set_option maxRecDepth 100000 in
/-- word throws -/
theorem x_word {N : Nat} (l : Launch) (hl : l.stackTraces = false) (w : mW) (v1 v2 : Int32) (σ : Mem) (hB : wBad N v1 v2 σ) :
    vx_Met l yX6_word (Cond.code yX6_word cX6_word 4 (some .int) :: mbig) t_room (va_Pc [.ref (w.2.1 16), .int v1, .int v2] (t_pre w σ)) (fun _ _ _ _ => False) (t_X w σ) 1 6 (m_A w shC) := by
  refine vx_ofW (cc := cX6_word) (maxL := 4) (ret := some .int) (by decide) rfl ?_
  intro p e s m args below meth c s₁ B hml hnt hv
  obtain ⟨rfl, ⟨hP, hK, hJ, hZ⟩, hT⟩ := hv
  have hts := atoms_spec (ws := Cond.code yX6_word cX6_word 4 (some .int) :: mbig) B.pre
  have htb : ∀ w ∈ mbig, w.before _ s = true := fun w hw => hts w (List.mem_cons_of_mem _ hw)
  have hx := B.exec
  have hb := B.bytes
  have hown : s.vm.findClass RX6 = some m.cls := findClass_of_methodNamed B.named
  have S : CallFix p m c cX6_word 4 s _ mbig RX6 := ⟨hx, hb, hml, hown, htb⟩
  have hlv := lv_entry [.ref (w.2.1 16), .int v1, .int v2] (n := 4) (Nat.le_of_ble_eq_true rfl)
  rw [lg_entry_eq]
  generalize (lg_sl [.ref (w.2.1 16), .int v1, .int v2] ++ List.replicate (4 - (lg_sl [.ref (w.2.1 16), .int v1, .int v2]).length) Slot.unset).toArray = ls at hlv ⊢
  have hlv : lv_has ls 4 [(0, .ref (w.2.1 16)), (1, .int v1), (2, .int v2)] := hlv
  have hS : va_S (m_A w shC) s.heap s.heap [] := va_S.rf
  -- the throw itself
  have hthrow : ∀ (H : Heap) (locs : List Loc) (ls : Array Slot), va_P w.1 vwCl (m_cn w shC σ) H → va_S (m_A w shC) s.heap H locs → ls.size = 4 → W p l e t_room s m (#[.ref (w.2.1 16), .int v1, .int v2] : Array Value) below meth c H locs 0 0 (vx_MQ below (fun _ _ _ _ => False) (t_X w σ) (#[.ref (w.2.1 16), .int v1, .int v2] : Array Value) s 1 6 (m_A w shC)) (F0 m 20 ls []) := by
    intro H locs ls hP hS hsz
    refine vx_throw0 (A := m_A w shC) (own := RX6) (cls := "java/util/NoSuchElementException") (names := th_nm) (ik := 91) (ic := 93) hx hb hl hown (by decide) (by decide) (htb _ th_cl) (htb _ th_ini) (th_all htb hT.no) th_ot hT.1 hT.2.1 hS (hsz.trans hml.symm) dX6_word_20 dX6_word_23 dX6_word_24 dX6_word_27 (fun x hx => (hnt x hx).elim) (by decide) (by decide) (by decide) (by decide) B.notSynchronized (fun t hvm hz hk => ⟨rfl, hP.kept (fun k q hq => hk q.1 (m_lt hP hq)), Nat.le_trans hS.1 hz, fun q h1 h2 => ?_⟩) hS.2.2 (by decide) (by decide)
    rw [hk q (Nat.lt_of_lt_of_le h1 hS.1)]
    exact hS.2.1 q h1 h2
  refine lv_aload_n hx hb dX6_word_0 rfl (lv_at hlv 0 rfl) ?_
  refine lv_iload_n hx hb dX6_word_1 rfl (lv_at hlv 1 rfl) ?_
  rcases hB with h1 | ⟨r, hr, h1, h2⟩
  · refine g_callv (w := w) (sh := shC) (i := 16) (As := [.int v1]) (st := []) (v := -1) (τ := σ) (rky := 2) S (e_X6_coverAt N l w v1 σ _ _ h1) kk_RX6_83 ki_X6_coverAt ks_RX6_X6_coverAt rfl rfl np_X6_coverAt ⟨by decide, by decide⟩ hK hJ hZ (fun _ h => h) hP hS hlv.1 rfl (by decide) ⟨by decide, by decide⟩ dX6_word_2 (fun H1 locs1 hP hz hk hS => ?_)
    show W p l e t_room s m _ below meth c H1 locs1 0 0 _ (F0 m 5 ls [.null])
    refine lv_astore_nN (lv' := [(3, .null), (0, .ref (w.2.1 16)), (1, .int v1), (2, .int v2)]) hx hb dX6_word_5 rfl hlv (by decide) rfl (fun ls hlv => ?_)
    refine lv_aload_nN hx hb dX6_word_6 rfl (lv_at hlv 0 rfl) ?_
    refine lv_ifnullN (tgt := 20) hx hb dX6_word_7 (by decide) ?_
    exact hthrow H1 locs1 ls hP hS hlv.1
  · refine g_callv (w := w) (sh := shC) (i := 16) (As := [.int v1]) (st := []) (v := r) (τ := σ) (rky := 2) S (e_X6_coverAt N l w v1 σ _ _ h1) kk_RX6_83 ki_X6_coverAt ks_RX6_X6_coverAt rfl rfl np_X6_coverAt ⟨by decide, by decide⟩ hK hJ hZ (fun _ h => h) hP hS hlv.1 rfl (by decide) ⟨by decide, by decide⟩ dX6_word_2 (fun H1 locs1 hP hz hk hS => ?_)
    show W p l e t_room s m _ below meth c H1 locs1 0 0 _ (F0 m 5 ls [m_rf w.2.1 r])
    rw [show m_rf w.2.1 r = .ref (w.2.1 r.toNatClampNeg) by simp [m_rf, m_ro, hr, va_rf]]
    refine lv_astore_n (lv' := [(3, .ref (w.2.1 r.toNatClampNeg)), (0, .ref (w.2.1 16)), (1, .int v1), (2, .int v2)]) hx hb dX6_word_5 rfl hlv (by decide) rfl (fun ls hlv => ?_)
    refine lv_aload_n hx hb dX6_word_6 rfl (lv_at hlv 0 rfl) ?_
    refine lv_ifnull hx hb dX6_word_7 ?_
    refine lv_iload_n hx hb dX6_word_10 rfl (lv_at hlv 3 rfl) ?_
    refine lv_iconst (v := 0) hx hb dX6_word_11 (by decide) ?_
    refine lv_bipush (v := 9) hx hb dX6_word_12 (by decide) ?_
    refine g_calls (w := w) (sh := shC) (As := [.int v2, .int 0, .int 9]) (st := []) (v := 0) (τ := σ) (rky := 1) S (e_X6_isWithin N l w v2 0 9 σ _ _ h2) kk_RX6_87 kt_X6_isWithin np_X6_isWithin ⟨by decide, by decide⟩ hK hJ hZ (fun _ h => h) hP hS hlv.1 rfl (by decide) ⟨by decide, by decide⟩ dX6_word_14 (fun H1 locs1 hP hz hk hS => ?_)
    show W p l e t_room s m _ below meth c H1 locs1 0 0 _ (F0 m 17 ls [.int 0])
    refine lv_if_ne (tgt := 28) hx hb dX6_word_17 (by decide) (fun q => absurd rfl q) (fun _ => ?_)
    exact hthrow H1 locs1 ls hP hS hlv.1
