/-! THE LAW: its words (out of the skeleton), a judgement over its frame, a row an instruction -/
def R_law : String := "StormPartingLaw"
def lw_P (b : Addr) (xs : List Int32) (args : Array Value) (s : State) : Prop := args = #[.ref b] ∧ s.IntsAt b xs ∧ xs.length ≤ 3584 ∧ (Jvm.Cond.and given_1 narrow_1).before args s = true
def lw_Q (_ : Array Value) (s : State) (o : Outcome) (t : State) : Prop := o = .returned (some (.int 1)) ∧ Framed s o t [] 601024 7293034
def lw_Z (below : List Frame) (a : Array Value) (s : State) : State → Prop := fun t => ∃ o, t.status = .running ∧ Ended t below o ∧ lw_Q a s o t
theorem lw_ret {p : Program} {l : Launch} {e : Env} {s : State} {m : MethodId} {below : List Frame} {meth : Method} {c : Code} {b : Nat} (hx : p.tables.exec = Jvm.exec) (hb : c.code = code) (hr : meth.sig.returnType = ret) (hlocks : meth.locks = false) {pc : Nat} {H : Heap} {ls : Array Slot} (hdg : decode code pc = .ok (.ireturn, 1)) : W p l e room_1 s m #[Value.ref b] below meth c H [] 601024 7293034 (lw_Z below #[Value.ref b] s) (F0 m pc ls [.int 1]) := by
  intro T hT X
  obtain ⟨fs, hret, hrun, hended, hW, hframe⟩ := X.leave (v := some (.int 1)) (hlocks := hlocks) (fun h => by rw [hr] at h; cases h)
  have hmeth' : T.vm.method? m = some meth := X.method'
  refine ⟨T.setFrames fs, ?_, .returned (some (.int 1)), hrun, hended, rfl, ⟨_, rfl⟩, hW, hframe⟩
  jvm_step X.here [X.here.top, hx, hb, hdg, hmeth', hr, ret, narrow_b1]
  (try refine ⟨rfl, ?_⟩); (try refine ⟨rfl, ?_⟩)
  first | (intro acts; rw [hret _ acts rfl rfl rfl]) | rw [hret _ _ rfl rfl rfl]
  exact Steps.refl _
def lw_At (p : Program) (s : State) (m : MethodId) (meth : Method) (c : Code) (b L : Nat) (xs : Nat → Int32) : Prop :=
  p.tables.exec = Jvm.exec ∧ c.code = code ∧ meth.sig.returnType = ret ∧ c.maxLocals = 7 ∧ s.vm.findClass R_law = some m.cls ∧ (∀ w ∈ lw_tbl, w.before #[Value.ref b] s = true) ∧ va_X b L xs s s.heap ∧ b < s.heap.size ∧ meth.locks = false ∧ (Jvm.Cond.and given_1 narrow_1).before #[Value.ref b] s = true
abbrev lG : Type := Program × Launch × Env × State × MethodId × List Frame × Method × Code × Nat × Nat × (Nat → Int32)
/-- the tables' numbers; the cells of the class, of the reference; the array classes; what lies outside; the law's own long[1], its class -/
abbrev lW : Type := va_G × (Nat → Nat) × (Nat → Nat) × (Nat → ClassId) × (Nat → Nat) × Nat × ClassId
abbrev l_C (w : lW) : mW := (w.1, w.2.1, w.2.2.2.1, w.2.2.2.2.1)
abbrev l_R (w : lW) : mW := (w.1, w.2.2.1, w.2.2.2.1, w.2.2.2.2.1)
abbrev l_q (w : lW) : Nat := w.2.2.2.2.2.1
abbrev l_c (w : lW) : ClassId := w.2.2.2.2.2.2
/-- what stays as it is through the whole run -/
def l_fx (w : lW) (s : State) : Prop := va_K w.1 vwCl (m_ty (l_C w) ++ [(l_c w, .long)]) s ∧ m_J (l_C w) shC ∧ m_J (l_R w) shR ∧ m_st (l_C w) (fun q : Nat => s.heap.size ≤ q) s ∧ t_st (fun q : Nat => s.heap.size ≤ q) s ∧ (∀ q, m_A (l_C w) shC q → s.heap.size ≤ q) ∧ (∀ q, m_A (l_R w) shR q → s.heap.size ≤ q) ∧ s.heap.size ≤ l_q w ∧ (∀ q, m_A (l_C w) shC q → ¬ m_A (l_R w) shR q) ∧ ¬ m_A (l_C w) shC (l_q w) ∧ ¬ m_A (l_R w) shR (l_q w)
def l_ok (G : lG) (w : lW) : Prop := match G with
  | (p, l, _, s, m, _, meth, c, b, L, xs) => lw_At p s m meth c b L xs ∧ l.stackTraces = false ∧ L ≤ 3584 ∧ l_fx w s
def Lj (G : lG) (w : lW) (σ τ : Mem) (f : Nat → Int64) (n pc : Nat) (lv : List (Nat × Value)) (st : List Value) : Prop := match G with
  | (p, l, e, s, m, below, meth, c, b, _, _) => ∀ (H : Heap) (locs : List Loc) (ls : Array Slot), va_P w.1 vwCl (m_cn (l_C w) shC σ) H → va_P w.1 vwCl (m_cn (l_R w) shR τ) H → va_P w.1 vwCl (h_o (l_q w) (l_c w) f) H → va_S (fun q : Nat => s.heap.size ≤ q) s.heap H locs → m_lv ls 7 lv → W p l e room_1 s m #[Value.ref b] below meth c H locs (100 + n) (5000 + 6 * n) (lw_Z below #[Value.ref b] s) (F0 m pc ls st)
theorem m_goodAll {ws : List Cond} (h : ∀ v ∈ ws, v ∈ mbig) : GoodIn mbig ws := fun v hv => ⟨h v hv, good_of_word (List.mem_filter.mp (h v hv)).2⟩
theorem m_A_of {w : mW} {sh : mSh} {σ : Mem} {k : Nat} {q : Nat × va_E} (hk : (m_cn w sh σ)[k]? = some q) : m_A w sh q.1 := ⟨k, (m_of hk).1, (m_of hk).2⟩
section LROWS
variable {p : Program} {l : Launch} {e : Env} {s : State} {m : MethodId} {below : List Frame} {meth : Method} {c : Code} {b L : Nat} {xs : Nat → Int32}
variable {w : lW} {σ τ : Mem} {f : Nat → Int64} {n pc : Nat} {lv : List (Nat × Value)} {st st0 : List Value}
theorem l_lv {lv' : List (Nat × Value)} (ks : List Nat) (h : lv_pick lv ks = lv') (k : Lj (p, l, e, s, m, below, meth, c, b, L, xs) w σ τ f n pc lv' st) : Lj (p, l, e, s, m, below, meth, c, b, L, xs) w σ τ f n pc lv st := by
  intro H locs ls hC hR hO hS hl
  refine k H locs ls hC hR hO hS ⟨lv_sub hl.1 ks h, fun q hq => ?_⟩
  rw [← h] at hq
  obtain ⟨i, -, hi⟩ := List.mem_filterMap.mp hq
  exact hl.2 q (List.mem_of_getElem? hi)
theorem l_wide (k : Lj (p, l, e, s, m, below, meth, c, b, L, xs) w σ τ f (n + 1) pc lv st) : Lj (p, l, e, s, m, below, meth, c, b, L, xs) w σ τ f n pc lv st := by
  intro H locs ls hC hR hO hS hl
  exact W.widen (by omega) (by omega) (k H locs ls hC hR hO hS hl)
theorem l_aload {i : Fin 4} (j : Nat) {x : Nat} (hg : l_ok (p, l, e, s, m, below, meth, c, b, L, xs) w) (hd : decode code pc = .ok (.aload_n i, 1)) (hl0 : lv[j]? = some ((i : Nat), .ref x)) (k : Lj (p, l, e, s, m, below, meth, c, b, L, xs) w σ τ f n (pc + 1) lv (.ref x :: st)) : Lj (p, l, e, s, m, below, meth, c, b, L, xs) w σ τ f n pc lv st := by
  intro H locs ls hC hR hO hS hl
  exact lv_aload_n hg.1.1 hg.1.2.1 hd rfl (lv_at hl.1 j hl0) (k H locs ls hC hR hO hS hl)
theorem l_iload {i : Nat} (j : Nat) {x : Int32} (hg : l_ok (p, l, e, s, m, below, meth, c, b, L, xs) w) (hd : decode code pc = .ok (.iload i, 2)) (hl0 : lv[j]? = some (i, .int x)) (k : Lj (p, l, e, s, m, below, meth, c, b, L, xs) w σ τ f n (pc + 2) lv (.int x :: st)) : Lj (p, l, e, s, m, below, meth, c, b, L, xs) w σ τ f n pc lv st := by
  intro H locs ls hC hR hO hS hl
  exact lv_iload hg.1.1 hg.1.2.1 hd (lv_at hl.1 j hl0) (k H locs ls hC hR hO hS hl)
theorem l_iconst {i : Int} (x : Int32) (hg : l_ok (p, l, e, s, m, below, meth, c, b, L, xs) w) (hd : decode code pc = .ok (.iconst i, 1)) (hv : Int32.ofInt i = x) (k : Lj (p, l, e, s, m, below, meth, c, b, L, xs) w σ τ f n (pc + 1) lv (.int x :: st)) : Lj (p, l, e, s, m, below, meth, c, b, L, xs) w σ τ f n pc lv st := by
  intro H locs ls hC hR hO hS hl
  exact lv_iconst hg.1.1 hg.1.2.1 hd hv (k H locs ls hC hR hO hS hl)
theorem l_bipush {i : Int} (x : Int32) (hg : l_ok (p, l, e, s, m, below, meth, c, b, L, xs) w) (hd : decode code pc = .ok (.bipush i, 2)) (hv : (Int8.ofInt i).toInt32 = x) (k : Lj (p, l, e, s, m, below, meth, c, b, L, xs) w σ τ f n (pc + 2) lv (.int x :: st)) : Lj (p, l, e, s, m, below, meth, c, b, L, xs) w σ τ f n pc lv st := by
  intro H locs ls hC hR hO hS hl
  exact lv_bipush hg.1.1 hg.1.2.1 hd hv (k H locs ls hC hR hO hS hl)
theorem l_iadd {x y : Int32} (hg : l_ok (p, l, e, s, m, below, meth, c, b, L, xs) w) (hd : decode code pc = .ok (.iadd, 1)) (k : Lj (p, l, e, s, m, below, meth, c, b, L, xs) w σ τ f n (pc + 1) lv (.int (x + y) :: st)) : Lj (p, l, e, s, m, below, meth, c, b, L, xs) w σ τ f n pc lv (.int y :: .int x :: st) := by
  intro H locs ls hC hR hO hS hl
  exact lv_iadd hg.1.1 hg.1.2.1 hd (k H locs ls hC hR hO hS hl)
theorem l_isub {x y : Int32} (hg : l_ok (p, l, e, s, m, below, meth, c, b, L, xs) w) (hd : decode code pc = .ok (.isub, 1)) (k : Lj (p, l, e, s, m, below, meth, c, b, L, xs) w σ τ f n (pc + 1) lv (.int (x - y) :: st)) : Lj (p, l, e, s, m, below, meth, c, b, L, xs) w σ τ f n pc lv (.int y :: .int x :: st) := by
  intro H locs ls hC hR hO hS hl
  exact lv_isub hg.1.1 hg.1.2.1 hd (k H locs ls hC hR hO hS hl)
theorem l_iand {x y : Int32} (hg : l_ok (p, l, e, s, m, below, meth, c, b, L, xs) w) (hd : decode code pc = .ok (.iand, 1)) (k : Lj (p, l, e, s, m, below, meth, c, b, L, xs) w σ τ f n (pc + 1) lv (.int (x &&& y) :: st)) : Lj (p, l, e, s, m, below, meth, c, b, L, xs) w σ τ f n pc lv (.int y :: .int x :: st) := by
  intro H locs ls hC hR hO hS hl
  exact lv_iand hg.1.1 hg.1.2.1 hd (k H locs ls hC hR hO hS hl)
/-- a number of the script -/
theorem l_sld {i : Int32} (hg : l_ok (p, l, e, s, m, below, meth, c, b, L, xs) w) (hin : vp_in i L) (hd : decode code pc = .ok (.iaload, 1)) (k : Lj (p, l, e, s, m, below, meth, c, b, L, xs) w σ τ f n (pc + 1) lv (.int (xs i.toNatClampNeg) :: st)) : Lj (p, l, e, s, m, below, meth, c, b, L, xs) w σ τ f n pc lv (.int i :: .ref b :: st) := by
  obtain ⟨⟨hx, hb, hr, hml, hown, hts, hX, hbl, hlocks, hgv⟩, -⟩ := hg
  intro H locs ls hC hR hO hS hl
  exact va_sld hx hb hX hbl (Nat.not_le.mpr hbl) hS hin hd (k H locs ls hC hR hO hS hl)
theorem l_slen (hg : l_ok (p, l, e, s, m, below, meth, c, b, L, xs) w) (hd : decode code pc = .ok (.arraylength, 1)) (k : Lj (p, l, e, s, m, below, meth, c, b, L, xs) w σ τ f n (pc + 1) lv (.int (nI L) :: st)) : Lj (p, l, e, s, m, below, meth, c, b, L, xs) w σ τ f n pc lv (.ref b :: st) := by
  obtain ⟨⟨hx, hb, hr, hml, hown, hts, hX, hbl, hlocks, hgv⟩, -⟩ := hg
  intro H locs ls hC hR hO hS hl
  exact va_slen hx hb hX hbl (Nat.not_le.mpr hbl) hS hd (k H locs ls hC hR hO hS hl)
theorem l_istore {i : Nat} {lv' : List (Nat × Value)} {x : Int32} (hg : l_ok (p, l, e, s, m, below, meth, c, b, L, xs) w) (hd : decode code pc = .ok (.istore i, 2)) (hn : i < 7) (hl0 : m_put lv i (.int x) = lv') (k : Lj (p, l, e, s, m, below, meth, c, b, L, xs) w σ τ f n (pc + 2) lv' st) : Lj (p, l, e, s, m, below, meth, c, b, L, xs) w σ τ f n pc lv (.int x :: st) := by
  intro H locs ls hC hR hO hS hl
  subst hl0
  exact lv_istore hg.1.1 hg.1.2.1 hd hl.1 hn (m_put_eq hl.2) (fun ls' h' => k H locs ls' hC hR hO hS ⟨h', m_put_c hl.2 rfl⟩)
theorem l_iinc {i : Nat} {z : Int} (j : Nat) {x : Int32} (y : Int32) {lv' : List (Nat × Value)} (hg : l_ok (p, l, e, s, m, below, meth, c, b, L, xs) w) (hd : decode code pc = .ok (.iinc i z, 3)) (hl1 : lv[j]? = some (i, .int x)) (hv : x + Int32.ofInt z = y) (hn : i < 7) (hl0 : m_put lv i (.int y) = lv') (k : Lj (p, l, e, s, m, below, meth, c, b, L, xs) w σ τ f n (pc + 3) lv' st) : Lj (p, l, e, s, m, below, meth, c, b, L, xs) w σ τ f n pc lv st := by
  intro H locs ls hC hR hO hS hl
  subst hl0
  exact lv_iinc hg.1.1 hg.1.2.1 hd hl.1 hl1 hv hn (m_put_eq hl.2) (fun ls' h' => k H locs ls' hC hR hO hS ⟨h', m_put_c hl.2 rfl⟩)
theorem l_goto {off : Int} (tgt : Nat) (hg : l_ok (p, l, e, s, m, below, meth, c, b, L, xs) w) (hd : decode code pc = .ok (.goto off, 3)) (ht : (pc : Int) + off = (tgt : Int)) (k : Lj (p, l, e, s, m, below, meth, c, b, L, xs) w σ τ f n tgt lv st) : Lj (p, l, e, s, m, below, meth, c, b, L, xs) w σ τ f n pc lv st := by
  intro H locs ls hC hR hO hS hl
  exact lv_goto hg.1.1 hg.1.2.1 hd ht (k H locs ls hC hR hO hS hl)
/-- both answers are one -/
theorem l_same {x : Int32} {off : Int} (tgt : Nat) (hg : l_ok (p, l, e, s, m, below, meth, c, b, L, xs) w) (hd : decode code pc = .ok (.if_icmp .eq off, 3)) (ht : (pc : Int) + off = (tgt : Int)) (k : Lj (p, l, e, s, m, below, meth, c, b, L, xs) w σ τ f n tgt lv st) : Lj (p, l, e, s, m, below, meth, c, b, L, xs) w σ τ f n pc lv (.int x :: .int x :: st) := by
  intro H locs ls hC hR hO hS hl
  exact lv_icmp_eq hg.1.1 hg.1.2.1 hd ht (fun _ => k H locs ls hC hR hO hS hl) (fun z => absurd rfl z)
theorem l_gt {x y : Int32} {off : Int} (tgt : Nat) (hg : l_ok (p, l, e, s, m, below, meth, c, b, L, xs) w) (hd : decode code pc = .ok (.if_icmp .gt off, 3)) (ht : (pc : Int) + off = (tgt : Int)) (k1 : y < x → Lj (p, l, e, s, m, below, meth, c, b, L, xs) w σ τ f n tgt lv st) (k2 : ¬ y < x → Lj (p, l, e, s, m, below, meth, c, b, L, xs) w σ τ f n (pc + 3) lv st) : Lj (p, l, e, s, m, below, meth, c, b, L, xs) w σ τ f n pc lv (.int y :: .int x :: st) := by
  intro H locs ls hC hR hO hS hl
  exact lv_icmp_gt hg.1.1 hg.1.2.1 hd ht (fun z => k1 z H locs ls hC hR hO hS hl) (fun z => k2 z H locs ls hC hR hO hS hl)
theorem l_if0 {x : Int32} {off : Int} (tgt : Nat) (hg : l_ok (p, l, e, s, m, below, meth, c, b, L, xs) w) (hd : decode code pc = .ok (.ifCond .eq off, 3)) (ht : (pc : Int) + off = (tgt : Int)) (k1 : x = 0 → Lj (p, l, e, s, m, below, meth, c, b, L, xs) w σ τ f n tgt lv st) (k2 : ¬ x = 0 → Lj (p, l, e, s, m, below, meth, c, b, L, xs) w σ τ f n (pc + 3) lv st) : Lj (p, l, e, s, m, below, meth, c, b, L, xs) w σ τ f n pc lv (.int x :: st) := by
  intro H locs ls hC hR hO hS hl
  exact lv_if_eq hg.1.1 hg.1.2.1 hd ht (fun z => k1 z H locs ls hC hR hO hS hl) (fun z => k2 z H locs ls hC hR hO hS hl)
theorem l_if1 {x : Int32} {off : Int} (tgt : Nat) (hg : l_ok (p, l, e, s, m, below, meth, c, b, L, xs) w) (hd : decode code pc = .ok (.ifCond .ne off, 3)) (ht : (pc : Int) + off = (tgt : Int)) (k1 : ¬ x = 0 → Lj (p, l, e, s, m, below, meth, c, b, L, xs) w σ τ f n tgt lv st) (k2 : x = 0 → Lj (p, l, e, s, m, below, meth, c, b, L, xs) w σ τ f n (pc + 3) lv st) : Lj (p, l, e, s, m, below, meth, c, b, L, xs) w σ τ f n pc lv (.int x :: st) := by
  intro H locs ls hC hR hO hS hl
  refine lv_if_ne hg.1.1 hg.1.2.1 hd ht (fun z => k1 z H locs ls hC hR hO hS hl) (fun z => k2 ?_ H locs ls hC hR hO hS hl)
  first | exact z | exact Decidable.not_not.mp z
/-- what is in the law's own array is what the reference said -/
theorem l_out {y : Int32} (hg : l_ok (p, l, e, s, m, below, meth, c, b, L, xs) w) (hf : f 0 = y.toInt64) (h1 : decode code pc = .ok (.laload, 1)) {i : Nat} (j : Nat) (h2 : decode code (pc + 1) = .ok (.iload i, 2)) (hl0 : lv[j]? = some (i, .int y)) (h3 : decode code (pc + 3) = .ok (.i2l, 1)) (h4 : decode code (pc + 4) = .ok (.lcmp, 1)) (k : Lj (p, l, e, s, m, below, meth, c, b, L, xs) w σ τ f n (pc + 5) lv (.int 0 :: st)) : Lj (p, l, e, s, m, below, meth, c, b, L, xs) w σ τ f n pc lv (.int 0 :: .ref (l_q w) :: st) := by
  intro H locs ls hC hR hO hS hl
  refine va_lald hg.1.1 hg.1.2.1 hg.2.2.2.1 hO 0 3 rfl rfl (by unfold vp_in; decide) h1 ?_
  refine lv_iload hg.1.1 hg.1.2.1 h2 (lv_at hl.1 j hl0) ?_
  refine lv_i2l hg.1.1 hg.1.2.1 h3 rfl ?_
  refine W.lcmp hg.1.1 hg.1.2.1 h4 ?_
  rw [show f (Int32.toNatClampNeg 0) = y.toInt64 from hf, show lg_cmp y.toInt64 y.toInt64 = 0 by simp [lg_cmp]]
  exact k H locs ls hC hR hO hS hl
/-- a call of the class -/
theorem l_callC {y : MethodName} {cy : ByteArray} {nLy dy ix : Nat} {rty : Option FieldType} {As : List Value} {v : Int32} {σ' : Mem} {o : Option (Int32 × Mem)} (hg : l_ok (p, l, e, s, m, below, meth, c, b, L, xs) w) (hE : Ev l (l_C w) shC y cy nLy rty 1 dy (.ref (w.2.1 16) :: As) σ o) (ho : o = some (v, σ')) (hcal : m_cal RL ix y cy nLy rty) (hin : Cond.instanceMethod y ∈ mbig) (hsel : Cond.selects RX6 y y ∈ mbig)
    (hn : (parseMethodDescriptor y.desc).map (fun d => d.parameters.length) = some As.length) (hdy : dy ≤ 40) (hn6 : n ≤ 600) (hst : st0 = As.reverse ++ .ref (w.2.1 16) :: st) (h8 : (st.map fun v => v.category).sum ≤ 8) (hd : decode code pc = .ok (.invokevirtual ix, 3))
    (k : Lj (p, l, e, s, m, below, meth, c, b, L, xs) w σ' τ f n (pc + 3) lv (.int v :: st)) : Lj (p, l, e, s, m, below, meth, c, b, L, xs) w σ τ f n pc lv st0 := by
  obtain ⟨⟨hx, hb, hr, hml, hown, hts, hX, hbl, hlocks, hgv⟩, hl, hL, hK, hJC, hJR, hZ, hT, hAC, hAR, hqo, hdis, hqC, hqR⟩ := hg
  have htb : ∀ w ∈ mbig, w.before #[Value.ref b] s = true := fun w hw => hts w (List.mem_filter.mp hw).1
  intro H locs ls hC hR hO hS hl
  have h4 : nLy ≤ 21 := hcal.2.2.2.1
  refine g_callv (w := l_C w) (sh := shC) (i := 16) (As := As) (st := st) (v := v) (τ := σ') (rky := 1) (A := fun q : Nat => s.heap.size ≤ q) (cc := code) (nL := 7) (own := RL) ⟨hx, hb, hml, hown, htb⟩ (hE v σ' ho) hcal hin hsel shC_16 rfl hn ⟨by show dy + 1 ≤ 2048; omega, by show 8 + (nLy + 11) + 40 * dy ≤ 84000; omega⟩ (hK.sub [0, 1, 2] rfl) hJC hZ hAC hC hS hl.1.1 hst h8 ⟨by show 100 + n ≤ 601024; omega, by show 5000 + 6 * n ≤ 7293034; omega⟩ hd (fun H1 locs1 hC1 hz hk hS1 => ?_)
  exact k H1 locs1 ls hC1 (hR.kept (fun i q hq => hk q.1 (m_lt (w := l_R w) hR hq) (fun z => hdis _ z (m_A_of hq)))) (h_oK (w := l_C w) hO (hk _ (h_oL (w := l_C w) hO) hqC)) hS1 hl
/-- a call of the reference -/
theorem l_callR {y : MethodName} {cy : ByteArray} {nLy dy ix : Nat} {rty : Option FieldType} {As : List Value} {v : Int32} {τ' : Mem} {o : Option (Int32 × Mem)} (hg : l_ok (p, l, e, s, m, below, meth, c, b, L, xs) w) (hE : Ev l (l_R w) shR y cy nLy rty 1 dy (.ref (w.2.2.1 0) :: As) τ o) (ho : o = some (v, τ')) (hcal : m_cal RL ix y cy nLy rty) (hin : Cond.instanceMethod y ∈ mbig) (hsel : Cond.selects RX7 y y ∈ mbig)
    (hn : (parseMethodDescriptor y.desc).map (fun d => d.parameters.length) = some As.length) (hdy : dy ≤ 40) (hn6 : n ≤ 600) (hst : st0 = As.reverse ++ .ref (w.2.2.1 0) :: st) (h8 : (st.map fun v => v.category).sum ≤ 8) (hd : decode code pc = .ok (.invokevirtual ix, 3))
    (k : Lj (p, l, e, s, m, below, meth, c, b, L, xs) w σ τ' f n (pc + 3) lv (.int v :: st)) : Lj (p, l, e, s, m, below, meth, c, b, L, xs) w σ τ f n pc lv st0 := by
  obtain ⟨⟨hx, hb, hr, hml, hown, hts, hX, hbl, hlocks, hgv⟩, hl, hL, hK, hJC, hJR, hZ, hT, hAC, hAR, hqo, hdis, hqC, hqR⟩ := hg
  have htb : ∀ w ∈ mbig, w.before #[Value.ref b] s = true := fun w hw => hts w (List.mem_filter.mp hw).1
  intro H locs ls hC hR hO hS hl
  have h4 : nLy ≤ 21 := hcal.2.2.2.1
  have s0 : shR[0]? = some (.inr (7, [0, 3, 0, 0, 0, 0, 4, 0, 5, 6, 7, 8, 9, 10, 11, 0, 12, 13, 14, 15, 16, 17, 0, 0, 0, 0, 0, 0, 0, 0, 0, 0, 0, 0, 0, 18, 19, 0, 20, 21, 0, 0])) := rfl
  refine g_callv (w := l_R w) (sh := shR) (i := 0) (As := As) (st := st) (v := v) (τ := τ') (rky := 1) (A := fun q : Nat => s.heap.size ≤ q) (cc := code) (nL := 7) (own := RL) ⟨hx, hb, hml, hown, htb⟩ (hE v τ' ho) hcal hin hsel s0 rfl hn ⟨by show dy + 1 ≤ 2048; omega, by show 8 + (nLy + 11) + 40 * dy ≤ 84000; omega⟩ (hK.sub [0, 1, 2] rfl) hJR hZ hAR hR hS hl.1.1 hst h8 ⟨by show 100 + n ≤ 601024; omega, by show 5000 + 6 * n ≤ 7293034; omega⟩ hd (fun H1 locs1 hR1 hz hk hS1 => ?_)
  exact k H1 locs1 ls (hC.kept (fun i q hq => hk q.1 (m_lt (w := l_C w) hC hq) (fun z => hdis _ (m_A_of hq) z))) hR1 (h_oK (w := l_R w) hO (hk _ (h_oL (w := l_R w) hO) hqR)) hS1 hl
theorem kL_38 : Cond.methodLink RL 38 yL_word ∈ mbig := m_inD (by decide +kernel) rfl
theorem kt_L_word : Cond.static yL_word ∈ mbig := m_inD (by decide +kernel) rfl
theorem kz_RL : Cond.initialized yL_word.cls ∈ mbig := m_inD (by decide +kernel) rfl
theorem kc_L_word : Cond.codeWith yL_word cL_word 5 (some .int) [(0, 10, 13, 13)] ∈ mbig := m_inD (by decide +kernel) rfl
theorem np_L_word : (parseMethodDescriptor yL_word.desc).map (fun d => d.parameters.length) = some 4 := by decide +kernel
theorem gd_L_word : GoodIn mbig (va_wsS RL 38 yL_word (Cond.codeWith yL_word cL_word 5 (some .int) [(0, 10, 13, 13)] :: mbig)) := m_goodAll (fun v hv => by
  unfold va_wsS at hv
  rcases List.mem_append.mp hv with h | h
  · rcases List.mem_cons.mp h with rfl | h
    · exact kL_38
    · rcases List.mem_cons.mp h with rfl | h
      · exact kt_L_word
      · rcases List.mem_cons.mp h with rfl | h
        · exact kz_RL
        · exact absurd h List.not_mem_nil
  · rcases List.mem_cons.mp h with rfl | h
    · exact kc_L_word
    · exact h)
/-- a call of the law's own word -/
theorem l_callW {v1 v2 r : Int32} {P : (Nat → Int64) → Prop} (hg : l_ok (p, l, e, s, m, below, meth, c, b, L, xs) w) (hM : Met l yL_word (Cond.codeWith yL_word cL_word 5 (some .int) [(0, 10, 13, 13)] :: mbig) h_room (va_Pc [.ref (w.2.1 16), .int v1, .int v2, .ref (l_q w)] (h_pre (l_C w) σ (l_q w) (l_c w) f)) (h_Q (l_C w) σ (l_q w) (l_c w) r P) 1 6 (h_A (l_C w) (l_q w)))
    (hn6 : n ≤ 600) (h8 : (st.map fun v => v.category).sum ≤ 8) (hd : decode code pc = .ok (.invokestatic 38, 3))
    (k : ∀ f' : Nat → Int64, P f' → Lj (p, l, e, s, m, below, meth, c, b, L, xs) w σ τ f' (n + 1) (pc + 3) lv (.int r :: st)) : Lj (p, l, e, s, m, below, meth, c, b, L, xs) w σ τ f n pc lv (.ref (l_q w) :: .int v2 :: .int v1 :: .ref (w.2.1 16) :: st) := by
  obtain ⟨⟨hx, hb, hr, hml, hown, hts, hX, hbl, hlocks, hgv⟩, hl, hL, hK, hJC, hJR, hZ, hT, hAC, hAR, hqo, hdis, hqC, hqR⟩ := hg
  have htb : ∀ w ∈ mbig, w.before #[Value.ref b] s = true := fun w hw => hts w (List.mem_filter.mp hw).1
  have hAA : ∀ q, h_A (l_C w) (l_q w) q → s.heap.size ≤ q := fun q h => h.elim (hAC q) (fun z => by rw [z]; exact hqo)
  intro H locs ls hC hR hO hS hl
  have hp : PreS s H (va_Pc [.ref (w.2.1 16), .int v1, .int v2, .ref (l_q w)] (h_pre (l_C w) σ (l_q w) (l_c w) f)) [.ref (w.2.1 16), .int v1, .int v2, .ref (l_q w)] := ⟨h_blind, fun U hU hW => ⟨rfl, by rw [hU]; exact hC, by rw [hU]; exact hO, va_K.moved hW.alike hK, hJC, (hZ.warm hW (fun a ha hn => by rw [hU]; exact hS.2.1 a ha hn)).narrow hAA, (hT.warm hW (fun a ha hn => by rw [hU]; exact hS.2.1 a ha hn)).narrow hAA, hqC⟩⟩
  have hrun := vx_runSW (p := p) (e := e) (m := m) (below := below) (meth := meth) (c := c) (H := H) (locs := locs) (cells := 100 + n) (slots := 5000 + 6 * n) (R := room_1) (As := [.ref (w.2.1 16), .int v1, .int v2, .ref (l_q w)]) (rest := st) (g := F0 m pc ls (.ref (l_q w) :: .int v2 :: .int v1 :: .ref (w.2.1 16) :: st)) (cc := code) (nL := 7) (own := RL) (Ts := mbig) ⟨hx, hb, hml, hown, htb⟩ hM (vx_cwSW 4 htb gd_L_word rfl rfl rfl ⟨by decide, by decide, np_L_word⟩ ⟨by decide, by decide⟩) hp rfl rfl hl.1.1 rfl (lv_room h8) hd ⟨by show 100 + n + 1 ≤ 601024; omega, by show 5000 + 6 * n + 6 ≤ 7293034; omega⟩
  intro T hT' X
  obtain ⟨v0, st₀, t, T', L9, h0, X', hL9, e1, e2, ⟨hv, hP1, ⟨f', hf', hO1⟩, hz, hk⟩, stp⟩ := hrun T hT' X
  cases hv
  rw [h0] at hz hk
  have hR1 : va_P w.1 vwCl (m_cn (l_R w) shR τ) T'.heap := hR.kept (fun i q hq => by
    rw [e1]
    refine hk q.1 (m_lt (w := l_R w) hR hq) (fun z => ?_)
    rcases z with z | z
    · exact hdis _ z (m_A_of hq)
    · exact hqR (by rw [← z]; exact m_A_of hq))
  obtain ⟨t2, a1, b1⟩ := W.widen (k := 100 + (n + 1)) (n := 5000 + 6 * (n + 1)) (cells := 100 + n + 1) (slots := 5000 + 6 * n + 6) (by omega) (by omega) (k f' hf' T'.heap (locs ++ L9) ls (by rw [e1]; exact hP1) hR1 (by rw [e1]; exact hO1) ⟨Nat.le_trans hS.1 (by rw [e1]; exact hz), fun q h1 h2 => by rw [e1, hk q (Nat.lt_of_lt_of_le h1 hS.1) (fun z => h2 (hAA q z))]; exact hS.2.1 q h1 h2, fun q hq => by
      rcases List.mem_append.mp hq with h | h
      · exact hS.2.2 q h
      · exact hAA _ (hL9 q h)⟩ hl) T' rfl X'
  exact ⟨t2, stp t2 a1, b1⟩
/-- the end: true -/
theorem l_end (hg : l_ok (p, l, e, s, m, below, meth, c, b, L, xs) w) (hn6 : n ≤ 600) (hd : decode code pc = .ok (.ireturn, 1)) : Lj (p, l, e, s, m, below, meth, c, b, L, xs) w σ τ f n pc lv [.int 1] := by
  obtain ⟨⟨hx, hb, hr, hml, hown, hts, hX, hbl, hlocks, hgv⟩, -⟩ := hg
  intro H locs ls hC hR hO hS hl
  refine va_forget (fun q hq => hS.2.2 q hq) ?_
  refine W.widen (k := 601024) (n := 7293034) (by omega) (by omega) ?_
  exact lw_ret hx hb hr hlocks hd
theorem l_tabIn {x : Int32} {off : Int} (tgt : Nat) {dflt lo hi : Int} {offs : Array Int} {len : Nat} (hg : l_ok (p, l, e, s, m, below, meth, c, b, L, xs) w) (hd : decode code pc = .ok (.tableswitch dflt lo hi offs, len)) (h1 : ¬ x.toInt < lo) (h2 : ¬ hi < x.toInt) (ho : offs[(x.toInt - lo).toNat]? = some off) (ht : (pc : Int) + off = (tgt : Int)) (k : Lj (p, l, e, s, m, below, meth, c, b, L, xs) w σ τ f n tgt lv st) : Lj (p, l, e, s, m, below, meth, c, b, L, xs) w σ τ f n pc lv (.int x :: st) := by
  intro H locs ls hC hR hO hS hl
  exact lv_tableIn hg.1.1 hg.1.2.1 hd h1 h2 ho ht (k H locs ls hC hR hO hS hl)
theorem l_tabOut {x : Int32} (tgt : Nat) {dflt lo hi : Int} {offs : Array Int} {len : Nat} (hg : l_ok (p, l, e, s, m, below, meth, c, b, L, xs) w) (hd : decode code pc = .ok (.tableswitch dflt lo hi offs, len)) (h : x.toInt < lo ∨ hi < x.toInt) (ht : (pc : Int) + dflt = (tgt : Int)) (k : Lj (p, l, e, s, m, below, meth, c, b, L, xs) w σ τ f n tgt lv st) : Lj (p, l, e, s, m, below, meth, c, b, L, xs) w σ τ f n pc lv (.int x :: st) := by
  intro H locs ls hC hR hO hS hl
  exact lv_tableOut hg.1.1 hg.1.2.1 hd h ht (k H locs ls hC hR hO hS hl)
end LROWS
