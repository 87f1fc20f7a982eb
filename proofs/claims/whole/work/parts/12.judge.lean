/-! what lies outside the worlds and is only read: three static arrays, a text -/
def m_le : List Int32 := [1, 0, 0, 0, 0, 0, 1, 1, 0, 0]
def m_gr : List Int32 := [99, 99, 1, 1, 99, 99, 99, 9, 99, 99]
def m_fi : List Int32 := [99, -1, 0, 0, 0, 0, 99, 9, 0, 0]
def m_tx : List Int32 := [104, 114, 99, 111, 103, 97, 117, 110, 98, 112]
def m_st (w : mW) (A : Nat → Prop) (U : State) : Prop :=
  va_Z "StormParting$Cover" "LEAST" "[I" (.ref (w.2.2.2 0)) A U U.heap ∧ va_T .int (w.2.2.2 0) 10 (fun j => .int (m_le.getD j 0)) A U U.heap ∧
  va_Z "StormParting$Cover" "GREATEST" "[I" (.ref (w.2.2.2 1)) A U U.heap ∧ va_T .int (w.2.2.2 1) 10 (fun j => .int (m_gr.getD j 0)) A U U.heap ∧
  va_Z "StormParting$Cover" "AT_FIRST" "[I" (.ref (w.2.2.2 2)) A U U.heap ∧ va_T .int (w.2.2.2 2) 10 (fun j => .int (m_fi.getD j 0)) A U U.heap ∧
  va_Z "java/lang/String" "COMPACT_STRINGS" "Z" (.int 1) A U U.heap ∧ vk_R "StormParting$Cover" 15 "hrcogaunbp" (w.2.2.2 3) U ∧ vk_R "StormPartingModel" 129 "hrcogaunbp" (w.2.2.2 3) U ∧
  vk_S 1 [10] [m_tx] (fun _ => w.2.2.2 3) (fun _ => w.2.2.2 4) A U U.heap ∧ va_Nw (.methodLinkNest RX0 32 yX6_isWithin "StormParting") U
theorem m_st.warm {w : mW} {A : Nat → Prop} {s U : State} (h : m_st w A s) (hW : s.WarmedH U.vm) (hq : ∀ a : Nat, a < s.heap.size → ¬ A a → U.heap[a]? = s.heap[a]?) : m_st w A U := by
  obtain ⟨h1, h2, h3, h4, h5, h6, h7, h8, h9, h10, h11⟩ := h
  have hv := hW.alike
  exact ⟨(va_Z.moved hv h1).kept hq, (va_T.moved hv h2).kept hq, (va_Z.moved hv h3).kept hq, (va_T.moved hv h4).kept hq, (va_Z.moved hv h5).kept hq, (va_T.moved hv h6).kept hq, (va_Z.moved hv h7).kept hq, vk_R.warm hW h8, vk_R.warm hW h9, (vk_S.moved hv h10).kept hq, va_Nw.warmM hW h11⟩
theorem m_st.same {w : mW} {A : Nat → Prop} {s U : State} (h : m_st w A s) (hv : U.vm = s.vm) (hh : U.heap = s.heap) : m_st w A U := by
  obtain ⟨h1, h2, h3, h4, h5, h6, h7, h8, h9, h10, h11⟩ := h
  have ha : s.vm.Alike U.vm := by rw [hv]; exact Vm.Alike.refl _
  have hq : ∀ a : Nat, a < s.heap.size → ¬ A a → U.heap[a]? = s.heap[a]? := fun a _ _ => by rw [hh]
  exact ⟨(va_Z.moved ha h1).kept hq, (va_T.moved ha h2).kept hq, (va_Z.moved ha h3).kept hq, (va_T.moved ha h4).kept hq, (va_Z.moved ha h5).kept hq, (va_T.moved ha h6).kept hq, (va_Z.moved ha h7).kept hq, vk_R.same hv h8, vk_R.same hv h9, (vk_S.moved ha h10).kept hq, va_Nw.same rfl hv.symm h11⟩
theorem m_st.narrow {w : mW} {A B : Nat → Prop} {s : State} (h : m_st w A s) (hAB : ∀ q, B q → A q) : m_st w B s := by
  obtain ⟨h1, h2, h3, h4, h5, h6, h7, h8, h9, h10, h11⟩ := h
  exact ⟨h1.narrow hAB, h2.narrow hAB, h3.narrow hAB, h4.narrow hAB, h5.narrow hAB, h6.narrow hAB, h7.narrow hAB, h8, h9, h10.narrow hAB, h11⟩
def m_room (d : Nat) : Room := { frames := d, cells := 0, slots := 0, locals := 40 * d }
def m_pre (w : mW) (sh : mSh) (σ : Mem) (U : State) : Prop := va_P w.1 vwCl (m_cn w sh σ) U.heap ∧ va_K w.1 vwCl (m_ty w) U ∧ m_J w sh ∧ m_st w (m_A w sh) U
def m_ret (w : mW) (rk : Nat) (v : Int32) : Option Value := match rk with
  | 0 => none
  | 1 => some (.int v)
  | _ => some (m_rf w.2.1 v)
def m_Q (w : mW) (sh : mSh) (rk : Nat) (v : Int32) (τ : Mem) : Array Value → State → Outcome → State → Prop := fun _ st oc t => oc = .returned (m_ret w rk v) ∧ va_P w.1 vwCl (m_cn w sh τ) t.heap ∧ va_F (m_A w sh) st t
/-- a method of a world: where its function answers, so does it -/
def Ev (l : Launch) (w : mW) (sh : mSh) (y : MethodName) (cc : ByteArray) (nL : Nat) (ret : Option FieldType) (rk d : Nat) (av : List Value) (σ : Mem) (o : Option (Int32 × Mem)) : Prop :=
  ∀ v τ, o = some (v, τ) → Met l y (Cond.code y cc nL ret :: mbig) (m_room d) (va_Pc av (m_pre w sh σ)) (m_Q w sh rk v τ) 0 0 (m_A w sh)
abbrev mG : Type := Program × Launch × Env × Nat × State × MethodId × Array Value × List Frame × Method × Code
def m_ok (G : mG) (w : mW) (sh : mSh) (cc : ByteArray) (nL : Nat) (own : String) (ret : Option FieldType) : Prop := match G with
  | (p, _, _, _, s, m, args, _, meth, c) => CallFix p m c cc nL s args mbig own ∧ meth.locks = false ∧ meth.sig.returnType = ret ∧ va_K w.1 vwCl (m_ty w) s ∧ m_J w sh ∧ m_st w (m_A w sh) s
def m_lv (ls : Array Slot) (nL : Nat) (lv : List (Nat × Value)) : Prop := lv_has ls nL lv ∧ ∀ q ∈ lv, q.2.category = 1
def Vj (G : mG) (w : mW) (sh : mSh) (nL rk : Nat) (σ : Mem) (pc : Nat) (lv : List (Nat × Value)) (st : List Value) (o : Option (Int32 × Mem)) : Prop := match G with
  | (p, l, e, d, s, m, args, below, meth, c) => ∀ v τ, o = some (v, τ) → ∀ (H : Heap) (locs : List Loc) (ls : Array Slot), va_P w.1 vwCl (m_cn w sh σ) H → va_S (m_A w sh) s.heap H locs → m_lv ls nL lv → W p l e (m_room d) s m args below meth c H locs 0 0 (MQ below (m_Q w sh rk v τ) args s 0 0 (m_A w sh)) (F0 m pc ls st)
def gd (b : Bool) (o : Option (Int32 × Mem)) : Option (Int32 × Mem) := if b = true then o else none
def inb (i : Int32) (n : Nat) : Bool := decide (¬ (i < 0 ∨ n ≤ i.toNatClampNeg))
theorem inb_in {i : Int32} {n : Nat} (h : inb i n = true) : vp_in i n := by
  unfold vp_in
  exact of_decide_eq_true h
theorem gd_some {b : Bool} {o : Option (Int32 × Mem)} {r : Int32 × Mem} (h : gd b o = some r) : b = true ∧ o = some r := by
  cases b
  · simp [gd] at h
  · exact ⟨rfl, by simpa [gd] using h⟩
def m_enum : Nat → List Value → List (Nat × Value)
  | _, [] => []
  | i, v :: vs => (i, v) :: m_enum (i + 1) vs
def m_c1 (vs : List Value) : Prop := ∀ v ∈ vs, v.category = 1
theorem m_c1_nil : m_c1 [] := fun _ h => absurd h List.not_mem_nil
theorem m_c1_i {x : Int32} {vs : List Value} (h : m_c1 vs) : m_c1 (.int x :: vs) := fun v hv => (List.mem_cons.mp hv).elim (fun e => by rw [e]; rfl) (h v)
theorem m_c1_r {x : Nat} {vs : List Value} (h : m_c1 vs) : m_c1 (.ref x :: vs) := fun v hv => (List.mem_cons.mp hv).elim (fun e => by rw [e]; rfl) (h v)
theorem m_c1_q {ad : Nat → Nat} {x : Int32} {vs : List Value} (h : m_c1 vs) : m_c1 (m_rf ad x :: vs) := fun v hv => (List.mem_cons.mp hv).elim (fun e => by rw [e]; exact m_rf_cat) (h v)
theorem m_c1_sum {vs : List Value} (h : m_c1 vs) : (vs.map fun v => v.category).sum = vs.length := by
  induction vs with
  | nil => rfl
  | cons a l ih => simp [h a List.mem_cons_self, ih (fun v hv => h v (List.mem_cons_of_mem _ hv))]; omega
theorem m_sl {vs : List Value} (h : m_c1 vs) : (lg_sl vs).length = vs.length := by
  induction vs with
  | nil => rfl
  | cons a l ih =>
    have h1 := h a List.mem_cons_self
    have h2 := ih (fun v hv => h v (List.mem_cons_of_mem _ hv))
    simp only [lg_sl, List.flatMap_cons, h1] at h2 ⊢
    simp [h2]
theorem m_args {vs : List Value} (h : m_c1 vs) : ∀ i, lv_args i vs = m_enum i vs := by
  induction vs with
  | nil => intro i; rfl
  | cons a l ih =>
    intro i
    have h1 := h a List.mem_cons_self
    simp only [lv_args, m_enum, h1]
    rw [if_neg (by decide), ih (fun v hv => h v (List.mem_cons_of_mem _ hv))]
theorem m_enum_c {vs : List Value} (h : m_c1 vs) : ∀ i, ∀ q ∈ m_enum i vs, q.2.category = 1 := by
  induction vs with
  | nil => intro i q hq; exact absurd hq List.not_mem_nil
  | cons a l ih =>
    intro i q hq
    rcases List.mem_cons.mp hq with rfl | hq
    · exact h a List.mem_cons_self
    · exact ih (fun v hv => h v (List.mem_cons_of_mem _ hv)) _ q hq
theorem Ev.of {l : Launch} {w : mW} {sh : mSh} {y : MethodName} {cc : ByteArray} {nL : Nat} {ret : Option FieldType} {rk d : Nat} {av : List Value} {σ : Mem} {o : Option (Int32 × Mem)} (hy : plainName y.cls = true) (hc : m_c1 av) (hn : av.length ≤ nL)
    (body : ∀ p e s m args below meth c, m_ok (p, l, e, d, s, m, args, below, meth, c) w sh cc nL y.cls ret → Vj (p, l, e, d, s, m, args, below, meth, c) w sh nL rk σ 0 (m_enum 0 av) [] o) : Ev l w sh y cc nL ret rk d av σ o := by
  intro v τ ho
  refine Met.ofW (cc := cc) (maxL := nL) (ret := ret) hy rfl ?_
  intro p e s m args below meth c s₁ B hml hv
  obtain ⟨rfl, hP, hK, hJ, hZ⟩ := hv
  have hts := atoms_spec (ws := Cond.code y cc nL ret :: mbig) B.pre
  have hl := lv_entry av (n := nL) (by rw [m_sl hc]; exact hn)
  rw [lg_entry_eq]
  rw [m_args hc] at hl
  exact body p e s m _ below meth c ⟨⟨B.exec, B.bytes, hml, findClass_of_methodNamed B.named, fun w hw => hts w (List.mem_cons_of_mem _ hw)⟩, B.notSynchronized, B.returns, hK, hJ, hZ⟩ v τ ho s.heap [] _ hP va_S.rf ⟨hl, m_enum_c hc 0⟩
section MROWS
variable {G : mG} {w : mW} {sh : mSh} {cc : ByteArray} {nL rk : Nat} {own : String} {ret : Option FieldType} {σ : Mem} {pc : Nat} {lv : List (Nat × Value)} {st : List Value} {o : Option (Int32 × Mem)}
theorem Vj.none : Vj G w sh nL rk σ pc lv st none := by
  obtain ⟨p, l, e, d, s, m, args, below, meth, c⟩ := G
  intro v τ ho
  cases ho
theorem r_lv {lv' : List (Nat × Value)} (ks : List Nat) (h : lv_pick lv ks = lv') (k : Vj G w sh nL rk σ pc lv' st o) : Vj G w sh nL rk σ pc lv st o := by
  obtain ⟨p, l, e, d, s, m, args, below, meth, c⟩ := G
  intro v τ ho H locs ls hP hS hl
  refine k v τ ho H locs ls hP hS ⟨lv_sub hl.1 ks h, fun q hq => ?_⟩
  rw [← h] at hq
  obtain ⟨i, -, hi⟩ := List.mem_filterMap.mp hq
  exact hl.2 q (List.mem_of_getElem? hi)
theorem r_st {st' : List Value} (h : st' = st) (k : Vj G w sh nL rk σ pc lv st' o) : Vj G w sh nL rk σ pc lv st o := h ▸ k
theorem r_o {o' : Option (Int32 × Mem)} (h : o' = o) (k : Vj G w sh nL rk σ pc lv st o') : Vj G w sh nL rk σ pc lv st o := h ▸ k

theorem r_iconst (hg : m_ok G w sh cc nL own ret) {n : Int} (x : Int32) (hd : decode cc pc = .ok (.iconst n, 1)) (hv : Int32.ofInt n = x) (k : Vj G w sh nL rk σ (pc + 1) lv (.int x :: st) o) : Vj G w sh nL rk σ pc lv (st) (o) := by
  obtain ⟨p, l, e, d, s, m, args, below, meth, c⟩ := G
  obtain ⟨⟨hx, hb, hml, hown, hts⟩, hlocks, hr, hK, hJ, hZ⟩ := hg
  intro v τ ho H locs ls hP hS hl
  exact lv_iconst hx hb hd hv (k v τ ho H locs ls hP hS hl)
theorem r_bipush (hg : m_ok G w sh cc nL own ret) {n : Int} (x : Int32) (hd : decode cc pc = .ok (.bipush n, 2)) (hv : (Int8.ofInt n).toInt32 = x) (k : Vj G w sh nL rk σ (pc + 2) lv (.int x :: st) o) : Vj G w sh nL rk σ pc lv (st) (o) := by
  obtain ⟨p, l, e, d, s, m, args, below, meth, c⟩ := G
  obtain ⟨⟨hx, hb, hml, hown, hts⟩, hlocks, hr, hK, hJ, hZ⟩ := hg
  intro v τ ho H locs ls hP hS hl
  exact lv_bipush hx hb hd hv (k v τ ho H locs ls hP hS hl)
theorem r_sipush (hg : m_ok G w sh cc nL own ret) {n : Int} (x : Int32) (hd : decode cc pc = .ok (.sipush n, 3)) (hv : (Int16.ofInt n).toInt32 = x) (k : Vj G w sh nL rk σ (pc + 3) lv (.int x :: st) o) : Vj G w sh nL rk σ pc lv (st) (o) := by
  obtain ⟨p, l, e, d, s, m, args, below, meth, c⟩ := G
  obtain ⟨⟨hx, hb, hml, hown, hts⟩, hlocks, hr, hK, hJ, hZ⟩ := hg
  intro v τ ho H locs ls hP hS hl
  exact lv_sipush hx hb hd hv (k v τ ho H locs ls hP hS hl)
theorem r_ldc (hg : m_ok G w sh cc nL own ret) {ix : Nat} {x : Int32} (hc : Cond.constant own ix x ∈ mbig) (hd : decode cc pc = .ok (.ldc ix, 2)) (k : Vj G w sh nL rk σ (pc + 2) lv (.int x :: st) o) : Vj G w sh nL rk σ pc lv (st) (o) := by
  obtain ⟨p, l, e, d, s, m, args, below, meth, c⟩ := G
  obtain ⟨⟨hx, hb, hml, hown, hts⟩, hlocks, hr, hK, hJ, hZ⟩ := hg
  intro v τ ho H locs ls hP hS hl
  exact lv_ldc hx hb hown (hts _ hc) hd (k v τ ho H locs ls hP hS hl)
theorem r_ldcw (hg : m_ok G w sh cc nL own ret) {ix : Nat} {x : Int32} (hc : Cond.constant own ix x ∈ mbig) (hd : decode cc pc = .ok (.ldc_w ix, 3)) (k : Vj G w sh nL rk σ (pc + 3) lv (.int x :: st) o) : Vj G w sh nL rk σ pc lv (st) (o) := by
  obtain ⟨p, l, e, d, s, m, args, below, meth, c⟩ := G
  obtain ⟨⟨hx, hb, hml, hown, hts⟩, hlocks, hr, hK, hJ, hZ⟩ := hg
  intro v τ ho H locs ls hP hS hl
  exact lv_ldcw hx hb hown (hts _ hc) hd (k v τ ho H locs ls hP hS hl)
theorem r_iload_n (hg : m_ok G w sh cc nL own ret) {i : Fin 4} (j : Nat) {x : Int32} (hd : decode cc pc = .ok (.iload_n i, 1)) (hl0 : lv[j]? = some ((i : Nat), .int x)) (k : Vj G w sh nL rk σ (pc + 1) lv (.int x :: st) o) : Vj G w sh nL rk σ pc lv (st) (o) := by
  obtain ⟨p, l, e, d, s, m, args, below, meth, c⟩ := G
  obtain ⟨⟨hx, hb, hml, hown, hts⟩, hlocks, hr, hK, hJ, hZ⟩ := hg
  intro v τ ho H locs ls hP hS hl
  exact lv_iload_n hx hb hd rfl (lv_at hl.1 j hl0) (k v τ ho H locs ls hP hS hl)
theorem r_iload (hg : m_ok G w sh cc nL own ret) {i : Nat} (j : Nat) {x : Int32} (hd : decode cc pc = .ok (.iload i, 2)) (hl0 : lv[j]? = some (i, .int x)) (k : Vj G w sh nL rk σ (pc + 2) lv (.int x :: st) o) : Vj G w sh nL rk σ pc lv (st) (o) := by
  obtain ⟨p, l, e, d, s, m, args, below, meth, c⟩ := G
  obtain ⟨⟨hx, hb, hml, hown, hts⟩, hlocks, hr, hK, hJ, hZ⟩ := hg
  intro v τ ho H locs ls hP hS hl
  exact lv_iload hx hb hd (lv_at hl.1 j hl0) (k v τ ho H locs ls hP hS hl)
theorem r_aload_n (hg : m_ok G w sh cc nL own ret) {i : Fin 4} (j : Nat) {x : Nat} (hd : decode cc pc = .ok (.aload_n i, 1)) (hl0 : lv[j]? = some ((i : Nat), .ref x)) (k : Vj G w sh nL rk σ (pc + 1) lv (.ref x :: st) o) : Vj G w sh nL rk σ pc lv (st) (o) := by
  obtain ⟨p, l, e, d, s, m, args, below, meth, c⟩ := G
  obtain ⟨⟨hx, hb, hml, hown, hts⟩, hlocks, hr, hK, hJ, hZ⟩ := hg
  intro v τ ho H locs ls hP hS hl
  exact lv_aload_n hx hb hd rfl (lv_at hl.1 j hl0) (k v τ ho H locs ls hP hS hl)
theorem r_aload (hg : m_ok G w sh cc nL own ret) {i : Nat} (j : Nat) {x : Nat} (hd : decode cc pc = .ok (.aload i, 2)) (hl0 : lv[j]? = some (i, .ref x)) (k : Vj G w sh nL rk σ (pc + 2) lv (.ref x :: st) o) : Vj G w sh nL rk σ pc lv (st) (o) := by
  obtain ⟨p, l, e, d, s, m, args, below, meth, c⟩ := G
  obtain ⟨⟨hx, hb, hml, hown, hts⟩, hlocks, hr, hK, hJ, hZ⟩ := hg
  intro v τ ho H locs ls hP hS hl
  exact lv_aload hx hb hd (lv_at hl.1 j hl0) (k v τ ho H locs ls hP hS hl)
theorem r_aloadq_n (hg : m_ok G w sh cc nL own ret) {i : Fin 4} (j : Nat) {x : Int32} (hd : decode cc pc = .ok (.aload_n i, 1)) (hl0 : lv[j]? = some ((i : Nat), m_rf w.2.1 x)) (k : Vj G w sh nL rk σ (pc + 1) lv (m_rf w.2.1 x :: st) o) : Vj G w sh nL rk σ pc lv (st) (o) := by
  obtain ⟨p, l, e, d, s, m, args, below, meth, c⟩ := G
  obtain ⟨⟨hx, hb, hml, hown, hts⟩, hlocks, hr, hK, hJ, hZ⟩ := hg
  intro v τ ho H locs ls hP hS hl
  have k := (k v τ ho H locs ls hP hS hl)
  by_cases hz : x < 0
  · have e1 : m_rf w.2.1 x = .null := by simp [m_rf, m_ro, hz, va_rf]
    rw [e1] at hl0 k
    exact lv_aload_nN hx hb hd rfl (lv_at hl.1 j hl0) k
  · have e1 : m_rf w.2.1 x = .ref (w.2.1 x.toNatClampNeg) := by simp [m_rf, m_ro, hz, va_rf]
    rw [e1] at hl0 k
    exact lv_aload_n hx hb hd rfl (lv_at hl.1 j hl0) k
theorem r_aloadq (hg : m_ok G w sh cc nL own ret) {i : Nat} (j : Nat) {x : Int32} (hd : decode cc pc = .ok (.aload i, 2)) (hl0 : lv[j]? = some (i, m_rf w.2.1 x)) (k : Vj G w sh nL rk σ (pc + 2) lv (m_rf w.2.1 x :: st) o) : Vj G w sh nL rk σ pc lv (st) (o) := by
  obtain ⟨p, l, e, d, s, m, args, below, meth, c⟩ := G
  obtain ⟨⟨hx, hb, hml, hown, hts⟩, hlocks, hr, hK, hJ, hZ⟩ := hg
  intro v τ ho H locs ls hP hS hl
  have k := (k v τ ho H locs ls hP hS hl)
  by_cases hz : x < 0
  · have e1 : m_rf w.2.1 x = .null := by simp [m_rf, m_ro, hz, va_rf]
    rw [e1] at hl0 k
    exact lv_aloadN hx hb hd (lv_at hl.1 j hl0) k
  · have e1 : m_rf w.2.1 x = .ref (w.2.1 x.toNatClampNeg) := by simp [m_rf, m_ro, hz, va_rf]
    rw [e1] at hl0 k
    exact lv_aload hx hb hd (lv_at hl.1 j hl0) k
end MROWS
def m_put (lv : List (Nat × Value)) (i : Nat) (v : Value) : List (Nat × Value) := (i, v) :: lv.filter (fun q => !(q.1 == i))
theorem m_put_eq {lv : List (Nat × Value)} {i : Nat} {v : Value} (hc : ∀ q ∈ lv, q.2.category = 1) : (i, v) :: lv.filter (fun q => !(q.1 == i) && !(q.1 + 1 == i && q.2.category == 2)) = m_put lv i v := by
  unfold m_put
  congr 1
  apply List.filter_congr
  intro q hq
  simp [hc q hq]
theorem m_put_c {lv : List (Nat × Value)} {i : Nat} {v : Value} (hc : ∀ q ∈ lv, q.2.category = 1) (hv : v.category = 1) : ∀ q ∈ m_put lv i v, q.2.category = 1 := by
  intro q hq
  rcases List.mem_cons.mp hq with rfl | h
  · exact hv
  · exact hc q (List.mem_filter.mp h).1
section MROWS
variable {G : mG} {w : mW} {sh : mSh} {cc : ByteArray} {nL rk : Nat} {own : String} {ret : Option FieldType} {σ : Mem} {pc : Nat} {lv : List (Nat × Value)} {st : List Value} {o : Option (Int32 × Mem)}

theorem r_istore_n (hg : m_ok G w sh cc nL own ret) {i : Fin 4} {lv' : List (Nat × Value)} {x : Int32} (hd : decode cc pc = .ok (.istore_n i, 1)) (hn : (i : Nat) < nL) (hl0 : m_put lv (i : Nat) (.int x) = lv') (k : Vj G w sh nL rk σ (pc + 1) lv' (st) o) : Vj G w sh nL rk σ pc lv (.int x :: st) (o) := by
  obtain ⟨p, l, e, d, s, m, args, below, meth, c⟩ := G
  obtain ⟨⟨hx, hb, hml, hown, hts⟩, hlocks, hr, hK, hJ, hZ⟩ := hg
  intro v τ ho H locs ls hP hS hl
  subst hl0
  exact lv_istore_n hx hb hd rfl hl.1 hn (m_put_eq hl.2) (fun ls' h' => k v τ ho H locs ls' hP hS ⟨h', m_put_c hl.2 rfl⟩)
theorem r_istore (hg : m_ok G w sh cc nL own ret) {i : Nat} {lv' : List (Nat × Value)} {x : Int32} (hd : decode cc pc = .ok (.istore i, 2)) (hn : i < nL) (hl0 : m_put lv i (.int x) = lv') (k : Vj G w sh nL rk σ (pc + 2) lv' (st) o) : Vj G w sh nL rk σ pc lv (.int x :: st) (o) := by
  obtain ⟨p, l, e, d, s, m, args, below, meth, c⟩ := G
  obtain ⟨⟨hx, hb, hml, hown, hts⟩, hlocks, hr, hK, hJ, hZ⟩ := hg
  intro v τ ho H locs ls hP hS hl
  subst hl0
  exact lv_istore hx hb hd hl.1 hn (m_put_eq hl.2) (fun ls' h' => k v τ ho H locs ls' hP hS ⟨h', m_put_c hl.2 rfl⟩)
theorem r_astore_n (hg : m_ok G w sh cc nL own ret) {i : Fin 4} {lv' : List (Nat × Value)} {x : Nat} (hd : decode cc pc = .ok (.astore_n i, 1)) (hn : (i : Nat) < nL) (hl0 : m_put lv (i : Nat) (.ref x) = lv') (k : Vj G w sh nL rk σ (pc + 1) lv' (st) o) : Vj G w sh nL rk σ pc lv (.ref x :: st) (o) := by
  obtain ⟨p, l, e, d, s, m, args, below, meth, c⟩ := G
  obtain ⟨⟨hx, hb, hml, hown, hts⟩, hlocks, hr, hK, hJ, hZ⟩ := hg
  intro v τ ho H locs ls hP hS hl
  subst hl0
  exact lv_astore_n hx hb hd rfl hl.1 hn (m_put_eq hl.2) (fun ls' h' => k v τ ho H locs ls' hP hS ⟨h', m_put_c hl.2 rfl⟩)
theorem r_astore (hg : m_ok G w sh cc nL own ret) {i : Nat} {lv' : List (Nat × Value)} {x : Nat} (hd : decode cc pc = .ok (.astore i, 2)) (hn : i < nL) (hl0 : m_put lv i (.ref x) = lv') (k : Vj G w sh nL rk σ (pc + 2) lv' (st) o) : Vj G w sh nL rk σ pc lv (.ref x :: st) (o) := by
  obtain ⟨p, l, e, d, s, m, args, below, meth, c⟩ := G
  obtain ⟨⟨hx, hb, hml, hown, hts⟩, hlocks, hr, hK, hJ, hZ⟩ := hg
  intro v τ ho H locs ls hP hS hl
  subst hl0
  exact lv_astore hx hb hd hl.1 hn (m_put_eq hl.2) (fun ls' h' => k v τ ho H locs ls' hP hS ⟨h', m_put_c hl.2 rfl⟩)
theorem r_astoreq_n (hg : m_ok G w sh cc nL own ret) {i : Fin 4} {lv' : List (Nat × Value)} {x : Int32} (hd : decode cc pc = .ok (.astore_n i, 1)) (hn : (i : Nat) < nL) (hl0 : m_put lv (i : Nat) (m_rf w.2.1 x) = lv') (k : Vj G w sh nL rk σ (pc + 1) lv' (st) o) : Vj G w sh nL rk σ pc lv (m_rf w.2.1 x :: st) (o) := by
  obtain ⟨p, l, e, d, s, m, args, below, meth, c⟩ := G
  obtain ⟨⟨hx, hb, hml, hown, hts⟩, hlocks, hr, hK, hJ, hZ⟩ := hg
  intro v τ ho H locs ls hP hS hl
  subst hl0
  have k := fun ls' h' => k v τ ho H locs ls' hP hS ⟨h', m_put_c hl.2 m_rf_cat⟩
  by_cases hz : x < 0
  · have e1 : m_rf w.2.1 x = .null := by simp [m_rf, m_ro, hz, va_rf]
    rw [e1] at k ⊢
    exact lv_astore_nN hx hb hd rfl hl.1 hn (m_put_eq hl.2) k
  · have e1 : m_rf w.2.1 x = .ref (w.2.1 x.toNatClampNeg) := by simp [m_rf, m_ro, hz, va_rf]
    rw [e1] at k ⊢
    exact lv_astore_n hx hb hd rfl hl.1 hn (m_put_eq hl.2) k
theorem r_astoreq (hg : m_ok G w sh cc nL own ret) {i : Nat} {lv' : List (Nat × Value)} {x : Int32} (hd : decode cc pc = .ok (.astore i, 2)) (hn : i < nL) (hl0 : m_put lv i (m_rf w.2.1 x) = lv') (k : Vj G w sh nL rk σ (pc + 2) lv' (st) o) : Vj G w sh nL rk σ pc lv (m_rf w.2.1 x :: st) (o) := by
  obtain ⟨p, l, e, d, s, m, args, below, meth, c⟩ := G
  obtain ⟨⟨hx, hb, hml, hown, hts⟩, hlocks, hr, hK, hJ, hZ⟩ := hg
  intro v τ ho H locs ls hP hS hl
  subst hl0
  have k := fun ls' h' => k v τ ho H locs ls' hP hS ⟨h', m_put_c hl.2 m_rf_cat⟩
  by_cases hz : x < 0
  · have e1 : m_rf w.2.1 x = .null := by simp [m_rf, m_ro, hz, va_rf]
    rw [e1] at k ⊢
    exact lv_astoreN hx hb hd hl.1 hn (m_put_eq hl.2) k
  · have e1 : m_rf w.2.1 x = .ref (w.2.1 x.toNatClampNeg) := by simp [m_rf, m_ro, hz, va_rf]
    rw [e1] at k ⊢
    exact lv_astore hx hb hd hl.1 hn (m_put_eq hl.2) k
theorem r_iinc (hg : m_ok G w sh cc nL own ret) {i : Nat} {n : Int} (j : Nat) {x : Int32} (y : Int32) {lv' : List (Nat × Value)} (hd : decode cc pc = .ok (.iinc i n, 3)) (hl1 : lv[j]? = some (i, .int x)) (hv : x + Int32.ofInt n = y) (hn : i < nL) (hl0 : m_put lv i (.int y) = lv') (k : Vj G w sh nL rk σ (pc + 3) lv' (st) o) : Vj G w sh nL rk σ pc lv (st) (o) := by
  obtain ⟨p, l, e, d, s, m, args, below, meth, c⟩ := G
  obtain ⟨⟨hx, hb, hml, hown, hts⟩, hlocks, hr, hK, hJ, hZ⟩ := hg
  intro v τ ho H locs ls hP hS hl
  subst hl0
  exact lv_iinc hx hb hd hl.1 hl1 hv hn (m_put_eq hl.2) (fun ls' h' => k v τ ho H locs ls' hP hS ⟨h', m_put_c hl.2 rfl⟩)
theorem r_iadd (hg : m_ok G w sh cc nL own ret) {x y : Int32} (hd : decode cc pc = .ok (.iadd, 1)) (k : Vj G w sh nL rk σ (pc + 1) lv (.int (x + y) :: st) o) : Vj G w sh nL rk σ pc lv (.int y :: .int x :: st) (o) := by
  obtain ⟨p, l, e, d, s, m, args, below, meth, c⟩ := G
  obtain ⟨⟨hx, hb, hml, hown, hts⟩, hlocks, hr, hK, hJ, hZ⟩ := hg
  intro v τ ho H locs ls hP hS hl
  exact lv_iadd hx hb hd (k v τ ho H locs ls hP hS hl)
theorem r_isub (hg : m_ok G w sh cc nL own ret) {x y : Int32} (hd : decode cc pc = .ok (.isub, 1)) (k : Vj G w sh nL rk σ (pc + 1) lv (.int (x - y) :: st) o) : Vj G w sh nL rk σ pc lv (.int y :: .int x :: st) (o) := by
  obtain ⟨p, l, e, d, s, m, args, below, meth, c⟩ := G
  obtain ⟨⟨hx, hb, hml, hown, hts⟩, hlocks, hr, hK, hJ, hZ⟩ := hg
  intro v τ ho H locs ls hP hS hl
  exact lv_isub hx hb hd (k v τ ho H locs ls hP hS hl)
theorem r_imul (hg : m_ok G w sh cc nL own ret) {x y : Int32} (hd : decode cc pc = .ok (.imul, 1)) (k : Vj G w sh nL rk σ (pc + 1) lv (.int (x * y) :: st) o) : Vj G w sh nL rk σ pc lv (.int y :: .int x :: st) (o) := by
  obtain ⟨p, l, e, d, s, m, args, below, meth, c⟩ := G
  obtain ⟨⟨hx, hb, hml, hown, hts⟩, hlocks, hr, hK, hJ, hZ⟩ := hg
  intro v τ ho H locs ls hP hS hl
  exact lv_imul hx hb hd (k v τ ho H locs ls hP hS hl)
theorem r_iand (hg : m_ok G w sh cc nL own ret) {x y : Int32} (hd : decode cc pc = .ok (.iand, 1)) (k : Vj G w sh nL rk σ (pc + 1) lv (.int (x &&& y) :: st) o) : Vj G w sh nL rk σ pc lv (.int y :: .int x :: st) (o) := by
  obtain ⟨p, l, e, d, s, m, args, below, meth, c⟩ := G
  obtain ⟨⟨hx, hb, hml, hown, hts⟩, hlocks, hr, hK, hJ, hZ⟩ := hg
  intro v τ ho H locs ls hP hS hl
  exact lv_iand hx hb hd (k v τ ho H locs ls hP hS hl)
theorem r_ior (hg : m_ok G w sh cc nL own ret) {x y : Int32} (hd : decode cc pc = .ok (.ior, 1)) (k : Vj G w sh nL rk σ (pc + 1) lv (.int (x ||| y) :: st) o) : Vj G w sh nL rk σ pc lv (.int y :: .int x :: st) (o) := by
  obtain ⟨p, l, e, d, s, m, args, below, meth, c⟩ := G
  obtain ⟨⟨hx, hb, hml, hown, hts⟩, hlocks, hr, hK, hJ, hZ⟩ := hg
  intro v τ ho H locs ls hP hS hl
  exact lv_ior hx hb hd (k v τ ho H locs ls hP hS hl)
theorem r_ixor (hg : m_ok G w sh cc nL own ret) {x y : Int32} (hd : decode cc pc = .ok (.ixor, 1)) (k : Vj G w sh nL rk σ (pc + 1) lv (.int (x ^^^ y) :: st) o) : Vj G w sh nL rk σ pc lv (.int y :: .int x :: st) (o) := by
  obtain ⟨p, l, e, d, s, m, args, below, meth, c⟩ := G
  obtain ⟨⟨hx, hb, hml, hown, hts⟩, hlocks, hr, hK, hJ, hZ⟩ := hg
  intro v τ ho H locs ls hP hS hl
  exact lv_ixor hx hb hd (k v τ ho H locs ls hP hS hl)
theorem r_ishl (hg : m_ok G w sh cc nL own ret) {x y : Int32} (hd : decode cc pc = .ok (.ishl, 1)) (k : Vj G w sh nL rk σ (pc + 1) lv (.int (x <<< (y &&& 31)) :: st) o) : Vj G w sh nL rk σ pc lv (.int y :: .int x :: st) (o) := by
  obtain ⟨p, l, e, d, s, m, args, below, meth, c⟩ := G
  obtain ⟨⟨hx, hb, hml, hown, hts⟩, hlocks, hr, hK, hJ, hZ⟩ := hg
  intro v τ ho H locs ls hP hS hl
  exact lv_ishl hx hb hd (k v τ ho H locs ls hP hS hl)
theorem r_ishr (hg : m_ok G w sh cc nL own ret) {x y : Int32} (hd : decode cc pc = .ok (.ishr, 1)) (k : Vj G w sh nL rk σ (pc + 1) lv (.int (x >>> (y &&& 31)) :: st) o) : Vj G w sh nL rk σ pc lv (.int y :: .int x :: st) (o) := by
  obtain ⟨p, l, e, d, s, m, args, below, meth, c⟩ := G
  obtain ⟨⟨hx, hb, hml, hown, hts⟩, hlocks, hr, hK, hJ, hZ⟩ := hg
  intro v τ ho H locs ls hP hS hl
  exact lv_ishr hx hb hd (k v τ ho H locs ls hP hS hl)
def ushr (x y : Int32) : Int32 := (x.toUInt32 >>> (y.toUInt32 &&& Int32.toUInt32 31)).toInt32
def i2b (x : Int32) : Int32 := x.toInt8.toInt32
def i2c (x : Int32) : Int32 := (x.toUInt32 % 65536).toInt32
theorem r_iushr (hg : m_ok G w sh cc nL own ret) {x y : Int32} (hd : decode cc pc = .ok (.iushr, 1)) (k : Vj G w sh nL rk σ (pc + 1) lv (.int (ushr x y) :: st) o) : Vj G w sh nL rk σ pc lv (.int y :: .int x :: st) (o) := by
  obtain ⟨p, l, e, d, s, m, args, below, meth, c⟩ := G
  obtain ⟨⟨hx, hb, hml, hown, hts⟩, hlocks, hr, hK, hJ, hZ⟩ := hg
  intro v τ ho H locs ls hP hS hl
  exact lv_iushr hx hb hd rfl (k v τ ho H locs ls hP hS hl)
theorem r_i2b (hg : m_ok G w sh cc nL own ret) {x : Int32} (hd : decode cc pc = .ok (.i2b, 1)) (k : Vj G w sh nL rk σ (pc + 1) lv (.int (i2b x) :: st) o) : Vj G w sh nL rk σ pc lv (.int x :: st) (o) := by
  obtain ⟨p, l, e, d, s, m, args, below, meth, c⟩ := G
  obtain ⟨⟨hx, hb, hml, hown, hts⟩, hlocks, hr, hK, hJ, hZ⟩ := hg
  intro v τ ho H locs ls hP hS hl
  exact lv_i2b hx hb hd rfl (k v τ ho H locs ls hP hS hl)
theorem r_i2c (hg : m_ok G w sh cc nL own ret) {x : Int32} (hd : decode cc pc = .ok (.i2c, 1)) (k : Vj G w sh nL rk σ (pc + 1) lv (.int (i2c x) :: st) o) : Vj G w sh nL rk σ pc lv (.int x :: st) (o) := by
  obtain ⟨p, l, e, d, s, m, args, below, meth, c⟩ := G
  obtain ⟨⟨hx, hb, hml, hown, hts⟩, hlocks, hr, hK, hJ, hZ⟩ := hg
  intro v τ ho H locs ls hP hS hl
  exact lv_i2c hx hb hd rfl (k v τ ho H locs ls hP hS hl)
theorem r_ineg (hg : m_ok G w sh cc nL own ret) {x : Int32} (hd : decode cc pc = .ok (.ineg, 1)) (k : Vj G w sh nL rk σ (pc + 1) lv (.int (-x) :: st) o) : Vj G w sh nL rk σ pc lv (.int x :: st) (o) := by
  obtain ⟨p, l, e, d, s, m, args, below, meth, c⟩ := G
  obtain ⟨⟨hx, hb, hml, hown, hts⟩, hlocks, hr, hK, hJ, hZ⟩ := hg
  intro v τ ho H locs ls hP hS hl
  exact lv_ineg hx hb hd (k v τ ho H locs ls hP hS hl)
theorem r_idiv (hg : m_ok G w sh cc nL own ret) {x y : Int32} (hd : decode cc pc = .ok (.idiv, 1)) (k : Vj G w sh nL rk σ (pc + 1) lv (.int (x / y) :: st) o) : Vj G w sh nL rk σ pc lv (.int y :: .int x :: st) (gd (decide (¬ y = 0)) o) := by
  obtain ⟨p, l, e, d, s, m, args, below, meth, c⟩ := G
  obtain ⟨⟨hx, hb, hml, hown, hts⟩, hlocks, hr, hK, hJ, hZ⟩ := hg
  intro v τ ho H locs ls hP hS hl
  obtain ⟨h1, ho⟩ := gd_some ho
  exact lv_idiv hx hb hd (by simpa using h1) (k v τ ho H locs ls hP hS hl)
theorem r_dup (hg : m_ok G w sh cc nL own ret) {x : Int32} (hd : decode cc pc = .ok (.dup, 1)) (k : Vj G w sh nL rk σ (pc + 1) lv (.int x :: .int x :: st) o) : Vj G w sh nL rk σ pc lv (.int x :: st) (o) := by
  obtain ⟨p, l, e, d, s, m, args, below, meth, c⟩ := G
  obtain ⟨⟨hx, hb, hml, hown, hts⟩, hlocks, hr, hK, hJ, hZ⟩ := hg
  intro v τ ho H locs ls hP hS hl
  exact lv_dup hx hb hd rfl (k v τ ho H locs ls hP hS hl)
theorem r_dupr (hg : m_ok G w sh cc nL own ret) {x : Nat} (hd : decode cc pc = .ok (.dup, 1)) (k : Vj G w sh nL rk σ (pc + 1) lv (.ref x :: .ref x :: st) o) : Vj G w sh nL rk σ pc lv (.ref x :: st) (o) := by
  obtain ⟨p, l, e, d, s, m, args, below, meth, c⟩ := G
  obtain ⟨⟨hx, hb, hml, hown, hts⟩, hlocks, hr, hK, hJ, hZ⟩ := hg
  intro v τ ho H locs ls hP hS hl
  exact lv_dup hx hb hd rfl (k v τ ho H locs ls hP hS hl)
theorem r_dup2 (hg : m_ok G w sh cc nL own ret) {x : Int32} {y : Nat} (hd : decode cc pc = .ok (.dup2, 1)) (k : Vj G w sh nL rk σ (pc + 1) lv (.int x :: .ref y :: .int x :: .ref y :: st) o) : Vj G w sh nL rk σ pc lv (.int x :: .ref y :: st) (o) := by
  obtain ⟨p, l, e, d, s, m, args, below, meth, c⟩ := G
  obtain ⟨⟨hx, hb, hml, hown, hts⟩, hlocks, hr, hK, hJ, hZ⟩ := hg
  intro v τ ho H locs ls hP hS hl
  exact lv_dup2_11 hx hb hd rfl rfl (k v τ ho H locs ls hP hS hl)
theorem r_pop (hg : m_ok G w sh cc nL own ret) {x : Int32} (hd : decode cc pc = .ok (.pop, 1)) (k : Vj G w sh nL rk σ (pc + 1) lv (st) o) : Vj G w sh nL rk σ pc lv (.int x :: st) (o) := by
  obtain ⟨p, l, e, d, s, m, args, below, meth, c⟩ := G
  obtain ⟨⟨hx, hb, hml, hown, hts⟩, hlocks, hr, hK, hJ, hZ⟩ := hg
  intro v τ ho H locs ls hP hS hl
  exact lv_pop hx hb hd rfl (k v τ ho H locs ls hP hS hl)
theorem r_goto (hg : m_ok G w sh cc nL own ret) {off : Int} (tgt : Nat) (hd : decode cc pc = .ok (.goto off, 3)) (ht : (pc : Int) + off = (tgt : Int)) (k : Vj G w sh nL rk σ tgt lv st o) : Vj G w sh nL rk σ pc lv (st) (o) := by
  obtain ⟨p, l, e, d, s, m, args, below, meth, c⟩ := G
  obtain ⟨⟨hx, hb, hml, hown, hts⟩, hlocks, hr, hK, hJ, hZ⟩ := hg
  intro v τ ho H locs ls hP hS hl
  exact lv_goto hx hb hd ht (k v τ ho H locs ls hP hS hl)
theorem r_if_eq (hg : m_ok G w sh cc nL own ret) {x : Int32} {off : Int} (tgt : Nat) {o1 o2 : Option (Int32 × Mem)} (hd : decode cc pc = .ok (.ifCond .eq off, 3)) (ht : (pc : Int) + off = (tgt : Int)) (k1 : Vj G w sh nL rk σ tgt lv st o1) (k2 : Vj G w sh nL rk σ (pc + 3) lv st o2) : Vj G w sh nL rk σ pc lv (.int x :: st) (if x = 0 then o1 else o2) := by
  obtain ⟨p, l, e, d, s, m, args, below, meth, c⟩ := G
  obtain ⟨⟨hx, hb, hml, hown, hts⟩, hlocks, hr, hK, hJ, hZ⟩ := hg
  intro v τ ho H locs ls hP hS hl
  refine lv_if_eq hx hb hd ht (fun q => ?_) (fun q => ?_)
  · exact k1 v τ (by rw [if_pos q] at ho; exact ho) H locs ls hP hS hl
  · exact k2 v τ (by rw [if_neg q] at ho; exact ho) H locs ls hP hS hl
theorem r_icmp_eq (hg : m_ok G w sh cc nL own ret) {x y : Int32} {off : Int} (tgt : Nat) {o1 o2 : Option (Int32 × Mem)} (hd : decode cc pc = .ok (.if_icmp .eq off, 3)) (ht : (pc : Int) + off = (tgt : Int)) (k1 : Vj G w sh nL rk σ tgt lv st o1) (k2 : Vj G w sh nL rk σ (pc + 3) lv st o2) : Vj G w sh nL rk σ pc lv (.int y :: .int x :: st) (if x = y then o1 else o2) := by
  obtain ⟨p, l, e, d, s, m, args, below, meth, c⟩ := G
  obtain ⟨⟨hx, hb, hml, hown, hts⟩, hlocks, hr, hK, hJ, hZ⟩ := hg
  intro v τ ho H locs ls hP hS hl
  refine lv_icmp_eq hx hb hd ht (fun q => ?_) (fun q => ?_)
  · exact k1 v τ (by rw [if_pos q] at ho; exact ho) H locs ls hP hS hl
  · exact k2 v τ (by rw [if_neg q] at ho; exact ho) H locs ls hP hS hl
theorem r_if_ne (hg : m_ok G w sh cc nL own ret) {x : Int32} {off : Int} (tgt : Nat) {o1 o2 : Option (Int32 × Mem)} (hd : decode cc pc = .ok (.ifCond .ne off, 3)) (ht : (pc : Int) + off = (tgt : Int)) (k1 : Vj G w sh nL rk σ tgt lv st o1) (k2 : Vj G w sh nL rk σ (pc + 3) lv st o2) : Vj G w sh nL rk σ pc lv (.int x :: st) (if x = 0 then o2 else o1) := by
  obtain ⟨p, l, e, d, s, m, args, below, meth, c⟩ := G
  obtain ⟨⟨hx, hb, hml, hown, hts⟩, hlocks, hr, hK, hJ, hZ⟩ := hg
  intro v τ ho H locs ls hP hS hl
  refine lv_if_ne hx hb hd ht (fun q => ?_) (fun q => ?_)
  · exact k1 v τ (by rw [if_neg q] at ho; exact ho) H locs ls hP hS hl
  · exact k2 v τ (by rw [if_pos q] at ho; exact ho) H locs ls hP hS hl
theorem r_icmp_ne (hg : m_ok G w sh cc nL own ret) {x y : Int32} {off : Int} (tgt : Nat) {o1 o2 : Option (Int32 × Mem)} (hd : decode cc pc = .ok (.if_icmp .ne off, 3)) (ht : (pc : Int) + off = (tgt : Int)) (k1 : Vj G w sh nL rk σ tgt lv st o1) (k2 : Vj G w sh nL rk σ (pc + 3) lv st o2) : Vj G w sh nL rk σ pc lv (.int y :: .int x :: st) (if x = y then o2 else o1) := by
  obtain ⟨p, l, e, d, s, m, args, below, meth, c⟩ := G
  obtain ⟨⟨hx, hb, hml, hown, hts⟩, hlocks, hr, hK, hJ, hZ⟩ := hg
  intro v τ ho H locs ls hP hS hl
  refine lv_icmp_ne hx hb hd ht (fun q => ?_) (fun q => ?_)
  · exact k1 v τ (by rw [if_neg q] at ho; exact ho) H locs ls hP hS hl
  · exact k2 v τ (by rw [if_pos q] at ho; exact ho) H locs ls hP hS hl
theorem r_if_lt (hg : m_ok G w sh cc nL own ret) {x : Int32} {off : Int} (tgt : Nat) {o1 o2 : Option (Int32 × Mem)} (hd : decode cc pc = .ok (.ifCond .lt off, 3)) (ht : (pc : Int) + off = (tgt : Int)) (k1 : Vj G w sh nL rk σ tgt lv st o1) (k2 : Vj G w sh nL rk σ (pc + 3) lv st o2) : Vj G w sh nL rk σ pc lv (.int x :: st) (if x < 0 then o1 else o2) := by
  obtain ⟨p, l, e, d, s, m, args, below, meth, c⟩ := G
  obtain ⟨⟨hx, hb, hml, hown, hts⟩, hlocks, hr, hK, hJ, hZ⟩ := hg
  intro v τ ho H locs ls hP hS hl
  refine lv_if_lt hx hb hd ht (fun q => ?_) (fun q => ?_)
  · exact k1 v τ (by rw [if_pos q] at ho; exact ho) H locs ls hP hS hl
  · exact k2 v τ (by rw [if_neg q] at ho; exact ho) H locs ls hP hS hl
theorem r_icmp_lt (hg : m_ok G w sh cc nL own ret) {x y : Int32} {off : Int} (tgt : Nat) {o1 o2 : Option (Int32 × Mem)} (hd : decode cc pc = .ok (.if_icmp .lt off, 3)) (ht : (pc : Int) + off = (tgt : Int)) (k1 : Vj G w sh nL rk σ tgt lv st o1) (k2 : Vj G w sh nL rk σ (pc + 3) lv st o2) : Vj G w sh nL rk σ pc lv (.int y :: .int x :: st) (if x < y then o1 else o2) := by
  obtain ⟨p, l, e, d, s, m, args, below, meth, c⟩ := G
  obtain ⟨⟨hx, hb, hml, hown, hts⟩, hlocks, hr, hK, hJ, hZ⟩ := hg
  intro v τ ho H locs ls hP hS hl
  refine lv_icmp_lt hx hb hd ht (fun q => ?_) (fun q => ?_)
  · exact k1 v τ (by rw [if_pos q] at ho; exact ho) H locs ls hP hS hl
  · exact k2 v τ (by rw [if_neg q] at ho; exact ho) H locs ls hP hS hl
theorem r_if_ge (hg : m_ok G w sh cc nL own ret) {x : Int32} {off : Int} (tgt : Nat) {o1 o2 : Option (Int32 × Mem)} (hd : decode cc pc = .ok (.ifCond .ge off, 3)) (ht : (pc : Int) + off = (tgt : Int)) (k1 : Vj G w sh nL rk σ tgt lv st o1) (k2 : Vj G w sh nL rk σ (pc + 3) lv st o2) : Vj G w sh nL rk σ pc lv (.int x :: st) (if 0 ≤ x then o1 else o2) := by
  obtain ⟨p, l, e, d, s, m, args, below, meth, c⟩ := G
  obtain ⟨⟨hx, hb, hml, hown, hts⟩, hlocks, hr, hK, hJ, hZ⟩ := hg
  intro v τ ho H locs ls hP hS hl
  refine lv_if_ge hx hb hd ht (fun q => ?_) (fun q => ?_)
  · exact k1 v τ (by rw [if_pos q] at ho; exact ho) H locs ls hP hS hl
  · exact k2 v τ (by rw [if_neg q] at ho; exact ho) H locs ls hP hS hl
theorem r_icmp_ge (hg : m_ok G w sh cc nL own ret) {x y : Int32} {off : Int} (tgt : Nat) {o1 o2 : Option (Int32 × Mem)} (hd : decode cc pc = .ok (.if_icmp .ge off, 3)) (ht : (pc : Int) + off = (tgt : Int)) (k1 : Vj G w sh nL rk σ tgt lv st o1) (k2 : Vj G w sh nL rk σ (pc + 3) lv st o2) : Vj G w sh nL rk σ pc lv (.int y :: .int x :: st) (if y ≤ x then o1 else o2) := by
  obtain ⟨p, l, e, d, s, m, args, below, meth, c⟩ := G
  obtain ⟨⟨hx, hb, hml, hown, hts⟩, hlocks, hr, hK, hJ, hZ⟩ := hg
  intro v τ ho H locs ls hP hS hl
  refine lv_icmp_ge hx hb hd ht (fun q => ?_) (fun q => ?_)
  · exact k1 v τ (by rw [if_pos q] at ho; exact ho) H locs ls hP hS hl
  · exact k2 v τ (by rw [if_neg q] at ho; exact ho) H locs ls hP hS hl
theorem r_if_gt (hg : m_ok G w sh cc nL own ret) {x : Int32} {off : Int} (tgt : Nat) {o1 o2 : Option (Int32 × Mem)} (hd : decode cc pc = .ok (.ifCond .gt off, 3)) (ht : (pc : Int) + off = (tgt : Int)) (k1 : Vj G w sh nL rk σ tgt lv st o1) (k2 : Vj G w sh nL rk σ (pc + 3) lv st o2) : Vj G w sh nL rk σ pc lv (.int x :: st) (if 0 < x then o1 else o2) := by
  obtain ⟨p, l, e, d, s, m, args, below, meth, c⟩ := G
  obtain ⟨⟨hx, hb, hml, hown, hts⟩, hlocks, hr, hK, hJ, hZ⟩ := hg
  intro v τ ho H locs ls hP hS hl
  refine lv_if_gt hx hb hd ht (fun q => ?_) (fun q => ?_)
  · exact k1 v τ (by rw [if_pos q] at ho; exact ho) H locs ls hP hS hl
  · exact k2 v τ (by rw [if_neg q] at ho; exact ho) H locs ls hP hS hl
theorem r_icmp_gt (hg : m_ok G w sh cc nL own ret) {x y : Int32} {off : Int} (tgt : Nat) {o1 o2 : Option (Int32 × Mem)} (hd : decode cc pc = .ok (.if_icmp .gt off, 3)) (ht : (pc : Int) + off = (tgt : Int)) (k1 : Vj G w sh nL rk σ tgt lv st o1) (k2 : Vj G w sh nL rk σ (pc + 3) lv st o2) : Vj G w sh nL rk σ pc lv (.int y :: .int x :: st) (if y < x then o1 else o2) := by
  obtain ⟨p, l, e, d, s, m, args, below, meth, c⟩ := G
  obtain ⟨⟨hx, hb, hml, hown, hts⟩, hlocks, hr, hK, hJ, hZ⟩ := hg
  intro v τ ho H locs ls hP hS hl
  refine lv_icmp_gt hx hb hd ht (fun q => ?_) (fun q => ?_)
  · exact k1 v τ (by rw [if_pos q] at ho; exact ho) H locs ls hP hS hl
  · exact k2 v τ (by rw [if_neg q] at ho; exact ho) H locs ls hP hS hl
theorem r_if_le (hg : m_ok G w sh cc nL own ret) {x : Int32} {off : Int} (tgt : Nat) {o1 o2 : Option (Int32 × Mem)} (hd : decode cc pc = .ok (.ifCond .le off, 3)) (ht : (pc : Int) + off = (tgt : Int)) (k1 : Vj G w sh nL rk σ tgt lv st o1) (k2 : Vj G w sh nL rk σ (pc + 3) lv st o2) : Vj G w sh nL rk σ pc lv (.int x :: st) (if x ≤ 0 then o1 else o2) := by
  obtain ⟨p, l, e, d, s, m, args, below, meth, c⟩ := G
  obtain ⟨⟨hx, hb, hml, hown, hts⟩, hlocks, hr, hK, hJ, hZ⟩ := hg
  intro v τ ho H locs ls hP hS hl
  refine lv_if_le hx hb hd ht (fun q => ?_) (fun q => ?_)
  · exact k1 v τ (by rw [if_pos q] at ho; exact ho) H locs ls hP hS hl
  · exact k2 v τ (by rw [if_neg q] at ho; exact ho) H locs ls hP hS hl
theorem r_icmp_le (hg : m_ok G w sh cc nL own ret) {x y : Int32} {off : Int} (tgt : Nat) {o1 o2 : Option (Int32 × Mem)} (hd : decode cc pc = .ok (.if_icmp .le off, 3)) (ht : (pc : Int) + off = (tgt : Int)) (k1 : Vj G w sh nL rk σ tgt lv st o1) (k2 : Vj G w sh nL rk σ (pc + 3) lv st o2) : Vj G w sh nL rk σ pc lv (.int y :: .int x :: st) (if x ≤ y then o1 else o2) := by
  obtain ⟨p, l, e, d, s, m, args, below, meth, c⟩ := G
  obtain ⟨⟨hx, hb, hml, hown, hts⟩, hlocks, hr, hK, hJ, hZ⟩ := hg
  intro v τ ho H locs ls hP hS hl
  refine lv_icmp_le hx hb hd ht (fun q => ?_) (fun q => ?_)
  · exact k1 v τ (by rw [if_pos q] at ho; exact ho) H locs ls hP hS hl
  · exact k2 v τ (by rw [if_neg q] at ho; exact ho) H locs ls hP hS hl
theorem r_ifnull (hg : m_ok G w sh cc nL own ret) {x : Int32} {off : Int} (tgt : Nat) {o1 o2 : Option (Int32 × Mem)} (hd : decode cc pc = .ok (.ifnull off, 3)) (ht : (pc : Int) + off = (tgt : Int)) (k1 : Vj G w sh nL rk σ tgt lv st o1) (k2 : Vj G w sh nL rk σ (pc + 3) lv st o2) : Vj G w sh nL rk σ pc lv (m_rf w.2.1 x :: st) (if x < 0 then o1 else o2) := by
  obtain ⟨p, l, e, d, s, m, args, below, meth, c⟩ := G
  obtain ⟨⟨hx, hb, hml, hown, hts⟩, hlocks, hr, hK, hJ, hZ⟩ := hg
  intro v τ ho H locs ls hP hS hl
  by_cases hz : x < 0
  · have e1 : m_rf w.2.1 x = .null := by simp [m_rf, m_ro, hz, va_rf]
    rw [e1]
    rw [if_pos hz] at ho
    exact lv_ifnullN hx hb hd ht (k1 v τ ho H locs ls hP hS hl)
  · have e1 : m_rf w.2.1 x = .ref (w.2.1 x.toNatClampNeg) := by simp [m_rf, m_ro, hz, va_rf]
    rw [e1]
    rw [if_neg hz] at ho
    exact lv_ifnull hx hb hd (k2 v τ ho H locs ls hP hS hl)
theorem r_ifnonnull (hg : m_ok G w sh cc nL own ret) {x : Int32} {off : Int} (tgt : Nat) {o1 o2 : Option (Int32 × Mem)} (hd : decode cc pc = .ok (.ifnonnull off, 3)) (ht : (pc : Int) + off = (tgt : Int)) (k1 : Vj G w sh nL rk σ (pc + 3) lv st o1) (k2 : Vj G w sh nL rk σ tgt lv st o2) : Vj G w sh nL rk σ pc lv (m_rf w.2.1 x :: st) (if x < 0 then o1 else o2) := by
  obtain ⟨p, l, e, d, s, m, args, below, meth, c⟩ := G
  obtain ⟨⟨hx, hb, hml, hown, hts⟩, hlocks, hr, hK, hJ, hZ⟩ := hg
  intro v τ ho H locs ls hP hS hl
  by_cases hz : x < 0
  · have e1 : m_rf w.2.1 x = .null := by simp [m_rf, m_ro, hz, va_rf]
    rw [e1]
    rw [if_pos hz] at ho
    exact lv_ifnonnullN hx hb hd (k1 v τ ho H locs ls hP hS hl)
  · have e1 : m_rf w.2.1 x = .ref (w.2.1 x.toNatClampNeg) := by simp [m_rf, m_ro, hz, va_rf]
    rw [e1]
    rw [if_neg hz] at ho
    exact lv_ifnonnull hx hb hd ht (k2 v τ ho H locs ls hP hS hl)
theorem r_null (hg : m_ok G w sh cc nL own ret) (hd : decode cc pc = .ok (.aconst_null, 1)) (k : Vj G w sh nL rk σ (pc + 1) lv (m_rf w.2.1 (-1) :: st) o) : Vj G w sh nL rk σ pc lv (st) (o) := by
  obtain ⟨p, l, e, d, s, m, args, below, meth, c⟩ := G
  obtain ⟨⟨hx, hb, hml, hown, hts⟩, hlocks, hr, hK, hJ, hZ⟩ := hg
  intro v τ ho H locs ls hP hS hl
  have k := (k v τ ho H locs ls hP hS hl)
  have e1 : m_rf w.2.1 (-1) = .null := by rfl
  rw [e1] at k
  exact lv_null hx hb hd k
theorem r_iret (hg : m_ok G w sh cc nL own ret) {x : Int32} (hd : decode cc pc = .ok (.ireturn, 1)) (hr0 : ret = some .int) (hk0 : rk = 1)  : Vj G w sh nL rk σ pc lv ([.int x]) (some (x, σ)) := by
  obtain ⟨p, l, e, d, s, m, args, below, meth, c⟩ := G
  obtain ⟨⟨hx, hb, hml, hown, hts⟩, hlocks, hr, hK, hJ, hZ⟩ := hg
  intro v τ ho H locs ls hP hS hl
  cases ho
  subst hr0; subst hk0
  exact W.iret (v := x) hx hb hr (fun t ht hW => ⟨rfl, by rw [ht]; exact hP, hS.F ht⟩) hS.2.2 hd hlocks
def isb (x : Int32) : Bool := x == 0 || x == 1
theorem r_zret (hg : m_ok G w sh cc nL own ret) {x : Int32} (hd : decode cc pc = .ok (.ireturn, 1)) (hr0 : ret = some .boolean) (hk0 : rk = 1)  : Vj G w sh nL rk σ pc lv ([.int x]) (gd (isb x) (some (x, σ))) := by
  obtain ⟨p, l, e, d, s, m, args, below, meth, c⟩ := G
  obtain ⟨⟨hx, hb, hml, hown, hts⟩, hlocks, hr, hK, hJ, hZ⟩ := hg
  intro v τ ho H locs ls hP hS hl
  obtain ⟨h1, ho⟩ := gd_some ho
  cases ho
  subst hr0; subst hk0
  have hn : narrow .boolean (.int x) = .int x := by
    simp only [isb, Bool.or_eq_true, beq_iff_eq] at h1
    rcases h1 with h1 | h1 <;> subst h1 <;> rfl
  exact W.zret (v := x) hx hb hr hn (fun t ht hW => ⟨rfl, by rw [ht]; exact hP, hS.F ht⟩) hS.2.2 hd hlocks
theorem r_ret (hg : m_ok G w sh cc nL own ret) (hd : decode cc pc = .ok (.return_, 1)) (hr0 : ret = none) (hk0 : rk = 0)  : Vj G w sh nL rk σ pc lv ([]) (some (0, σ)) := by
  obtain ⟨p, l, e, d, s, m, args, below, meth, c⟩ := G
  obtain ⟨⟨hx, hb, hml, hown, hts⟩, hlocks, hr, hK, hJ, hZ⟩ := hg
  intro v τ ho H locs ls hP hS hl
  cases ho
  subst hr0; subst hk0
  exact W.vret hx hb hr (fun t ht hW => ⟨rfl, by rw [ht]; exact hP, hS.F ht⟩) hS.2.2 hd hlocks
theorem r_aret (hg : m_ok G w sh cc nL own ret) {x : Int32} {C : String} (hd : decode cc pc = .ok (.areturn, 1)) (hr0 : ret = some (.object C)) (hk0 : rk = 2)  : Vj G w sh nL rk σ pc lv ([m_rf w.2.1 x]) (some (x, σ)) := by
  obtain ⟨p, l, e, d, s, m, args, below, meth, c⟩ := G
  obtain ⟨⟨hx, hb, hml, hown, hts⟩, hlocks, hr, hK, hJ, hZ⟩ := hg
  intro v τ ho H locs ls hP hS hl
  cases ho
  subst hr0; subst hk0
  have hv : m_rf w.2.1 x = .null ∨ ∃ a, m_rf w.2.1 x = .ref a := by
    by_cases hz : x < 0
    · exact Or.inl (by simp [m_rf, m_ro, hz, va_rf])
    · exact Or.inr ⟨w.2.1 x.toNatClampNeg, by simp [m_rf, m_ro, hz, va_rf]⟩
  exact W.aret (v := m_rf w.2.1 x) hx hb hr (Or.inl ⟨C, rfl⟩) hv (fun t ht hW => ⟨rfl, by rw [ht]; exact hP, hS.F ht⟩) hS.2.2 hd hlocks
theorem r_get (hg : m_ok G w sh cc nL own ret) {i ci j ix N : Nat} {ks : List Nat} {kd : Nat} {C ref : String} {T : u_T} (hs : sh[i]? = some (.inr (ci, ks))) (hk : ks[j]? = some kd) (hc : vwCl[ci]? = some (C, T, N)) (hj : j < N) (hin : ∀ v ∈ u_ws C T N, v ∈ mbig) (hlk : Cond.fieldLink own ix ref (T j).2.1 (T j).2.2.1 ∈ mbig) (hrf : (T j).1 = ref) (hd : decode cc pc = .ok (.getfield ix, 3)) (k : Vj G w sh nL rk σ (pc + 3) lv (m_val w.2.1 kd (σ i j) :: st) o) : Vj G w sh nL rk σ pc lv (.ref (w.2.1 i) :: st) (o) := by
  obtain ⟨p, l, e, d, s, m, args, below, meth, c⟩ := G
  obtain ⟨⟨hx, hb, hml, hown, hts⟩, hlocks, hr, hK, hJ, hZ⟩ := hg
  intro v τ ho H locs ls hP hS hl
  subst hrf
  exact va_get hx hb hts hin hown hK hP i (m_at hs) hc j hj (hts _ hlk) (fun _ h9 => h9) (v := m_val w.2.1 kd (σ i j)) (by simp [hk]) hd (k v τ ho H locs ls hP hS hl)
theorem r_put (hg : m_ok G w sh cc nL own ret) {i ci j ix N : Nat} {ks : List Nat} {C ref : String} {T : u_T} {ty : Nat → FieldType} {x : Int32} (hs : sh[i]? = some (.inr (ci, ks))) (hk : ks[j]? = some 0) (hc : vwCl[ci]? = some (C, T, N)) (hj : j < N) (hin : ∀ v ∈ u_ws C T N, v ∈ mbig) (hlk : Cond.fieldLink own ix ref (T j).2.1 (T j).2.2.1 ∈ mbig) (hrf : (T j).1 = ref) (hty : ∀ k, k < N → parseFieldDescriptor (T k).2.2.1 = some (ty k)) (hnm : ∀ a, a < N → ∀ b, b < N → a ≠ b → (T a).2.1 ≠ (T b).2.1) (hfin : (T j).2.2.2 = false) (hi0 : ty j = .int) (hd : decode cc pc = .ok (.putfield ix, 3)) (k : Vj G w sh nL rk (mu σ i j x) (pc + 3) lv st o) : Vj G w sh nL rk σ pc lv (.int x :: .ref (w.2.1 i) :: st) (o) := by
  obtain ⟨p, l, e, d, s, m, args, below, meth, c⟩ := G
  obtain ⟨⟨hx, hb, hml, hown, hts⟩, hlocks, hr, hK, hJ, hZ⟩ := hg
  intro v τ ho H locs ls hP hS hl
  subst hrf
  refine va_put hx hb hts hin ty hty hnm hown hK hP (m_D hJ) hS i (m_at hs) hc j hj (hts _ hlk) (fun _ h9 => h9) hfin (v := .int x) (ty := .int) (by rw [hty j hj, hi0]) rfl rfl (by simpa using (List.getElem?_eq_some_iff.mp hk).1) hd (fun H1 locs1 hP1 hD1 hS1 => ?_)
  rw [m_put_fld hs hk] at hP1
  exact k v τ ho H1 locs1 ls hP1 hS1 hl
theorem r_putz (hg : m_ok G w sh cc nL own ret) {i ci j ix N : Nat} {ks : List Nat} {C ref : String} {T : u_T} {ty : Nat → FieldType} {x : Int32} (hs : sh[i]? = some (.inr (ci, ks))) (hk : ks[j]? = some 0) (hc : vwCl[ci]? = some (C, T, N)) (hj : j < N) (hin : ∀ v ∈ u_ws C T N, v ∈ mbig) (hlk : Cond.fieldLink own ix ref (T j).2.1 (T j).2.2.1 ∈ mbig) (hrf : (T j).1 = ref) (hty : ∀ k, k < N → parseFieldDescriptor (T k).2.2.1 = some (ty k)) (hnm : ∀ a, a < N → ∀ b, b < N → a ≠ b → (T a).2.1 ≠ (T b).2.1) (hfin : (T j).2.2.2 = false) (hi0 : ty j = .boolean) (hd : decode cc pc = .ok (.putfield ix, 3)) (k : Vj G w sh nL rk (mu σ i j x) (pc + 3) lv st o) : Vj G w sh nL rk σ pc lv (.int x :: .ref (w.2.1 i) :: st) (gd (isb x) o) := by
  obtain ⟨p, l, e, d, s, m, args, below, meth, c⟩ := G
  obtain ⟨⟨hx, hb, hml, hown, hts⟩, hlocks, hr, hK, hJ, hZ⟩ := hg
  intro v τ ho H locs ls hP hS hl
  subst hrf
  obtain ⟨h1, ho⟩ := gd_some ho
  have hb01 : x = 0 ∨ x = 1 := by simpa [isb] using h1
  have hn : narrow .boolean (.int x) = .int x := by rcases hb01 with h1 | h1 <;> subst h1 <;> rfl
  have hf : fits .boolean (.int x) = true := by rcases hb01 with h1 | h1 <;> subst h1 <;> rfl
  refine va_put hx hb hts hin ty hty hnm hown hK hP (m_D hJ) hS i (m_at hs) hc j hj (hts _ hlk) (fun _ h9 => h9) hfin (v := .int x) (ty := .boolean) (by rw [hty j hj, hi0]) hn hf (by simpa using (List.getElem?_eq_some_iff.mp hk).1) hd (fun H1 locs1 hP1 hD1 hS1 => ?_)
  rw [m_put_fld hs hk] at hP1
  exact k v τ ho H1 locs1 ls hP1 hS1 hl
theorem r_iaload (hg : m_ok G w sh cc nL own ret) {a n : Nat} {i : Int32} (hs : sh[a]? = some (.inl (0, n))) (hd : decode cc pc = .ok (.iaload, 1)) (k : Vj G w sh nL rk σ (pc + 1) lv (.int (σ a i.toNatClampNeg) :: st) o) : Vj G w sh nL rk σ pc lv (.int i :: .ref (w.2.1 a) :: st) (gd (inb i n) o) := by
  obtain ⟨p, l, e, d, s, m, args, below, meth, c⟩ := G
  obtain ⟨⟨hx, hb, hml, hown, hts⟩, hlocks, hr, hK, hJ, hZ⟩ := hg
  intro v τ ho H locs ls hP hS hl
  obtain ⟨h1, ho⟩ := gd_some ho
  exact va_iald hx hb hK hP a 0 (m_at hs) rfl (inb_in h1) hd (k v τ ho H locs ls hP hS hl)
theorem r_baload (hg : m_ok G w sh cc nL own ret) {a n : Nat} {i : Int32} (hs : sh[a]? = some (.inl (1, n))) (hd : decode cc pc = .ok (.baload, 1)) (k : Vj G w sh nL rk σ (pc + 1) lv (.int (σ a i.toNatClampNeg) :: st) o) : Vj G w sh nL rk σ pc lv (.int i :: .ref (w.2.1 a) :: st) (gd (inb i n) o) := by
  obtain ⟨p, l, e, d, s, m, args, below, meth, c⟩ := G
  obtain ⟨⟨hx, hb, hml, hown, hts⟩, hlocks, hr, hK, hJ, hZ⟩ := hg
  intro v τ ho H locs ls hP hS hl
  obtain ⟨h1, ho⟩ := gd_some ho
  exact va_bald hx hb hK hP a 1 (m_at hs) rfl (inb_in h1) hd (k v τ ho H locs ls hP hS hl)
theorem r_iastore (hg : m_ok G w sh cc nL own ret) {a n : Nat} {i x : Int32} (hs : sh[a]? = some (.inl (0, n))) (hd : decode cc pc = .ok (.iastore, 1)) (k : Vj G w sh nL rk (mu σ a i.toNatClampNeg x) (pc + 1) lv st o) : Vj G w sh nL rk σ pc lv (.int x :: .int i :: .ref (w.2.1 a) :: st) (gd (inb i n) o) := by
  obtain ⟨p, l, e, d, s, m, args, below, meth, c⟩ := G
  obtain ⟨⟨hx, hb, hml, hown, hts⟩, hlocks, hr, hK, hJ, hZ⟩ := hg
  intro v τ ho H locs ls hP hS hl
  obtain ⟨h1, ho⟩ := gd_some ho
  refine va_iast hx hb hK hP (m_D hJ) hS a 0 (m_at hs) rfl (inb_in h1) hd (fun H1 locs1 hP1 hD1 hS1 => ?_)
  rw [m_put_arr hs rfl rfl] at hP1
  exact k v τ ho H1 locs1 ls hP1 hS1 hl
theorem r_bastore (hg : m_ok G w sh cc nL own ret) {a n : Nat} {i x : Int32} (hs : sh[a]? = some (.inl (1, n))) (hd : decode cc pc = .ok (.bastore, 1)) (k : Vj G w sh nL rk (mu σ a i.toNatClampNeg (i2b x)) (pc + 1) lv st o) : Vj G w sh nL rk σ pc lv (.int x :: .int i :: .ref (w.2.1 a) :: st) (gd (inb i n) o) := by
  obtain ⟨p, l, e, d, s, m, args, below, meth, c⟩ := G
  obtain ⟨⟨hx, hb, hml, hown, hts⟩, hlocks, hr, hK, hJ, hZ⟩ := hg
  intro v τ ho H locs ls hP hS hl
  obtain ⟨h1, ho⟩ := gd_some ho
  refine va_bast hx hb hK hP (m_D hJ) hS a 1 (m_at hs) rfl (inb_in h1) hd (fun H1 locs1 hP1 hD1 hS1 => ?_)
  rw [vp_nar_byte, m_put_arr hs rfl rfl] at hP1
  exact k v τ ho H1 locs1 ls hP1 hS1 hl
theorem r_aaload (hg : m_ok G w sh cc nL own ret) {a n : Nat} {i : Int32} (hs : sh[a]? = some (.inl (2, n))) (hd : decode cc pc = .ok (.aaload, 1)) (k : Vj G w sh nL rk σ (pc + 1) lv (m_rf w.2.1 (σ a i.toNatClampNeg) :: st) o) : Vj G w sh nL rk σ pc lv (.int i :: .ref (w.2.1 a) :: st) (gd (inb i n) o) := by
  obtain ⟨p, l, e, d, s, m, args, below, meth, c⟩ := G
  obtain ⟨⟨hx, hb, hml, hown, hts⟩, hlocks, hr, hK, hJ, hZ⟩ := hg
  intro v τ ho H locs ls hP hS hl
  obtain ⟨h1, ho⟩ := gd_some ho
  exact va_aldq hx hb hK hP a 2 (m_at hs) rfl (inb_in h1) hd (k v τ ho H locs ls hP hS hl)
theorem r_aastore (hg : m_ok G w sh cc nL own ret) {a n b : Nat} {i x : Int32} {ks : List Nat} (hs : sh[a]? = some (.inl (2, n))) (hs2 : ∀ q : Nat, q < b → ∃ ks, sh[q]? = some (.inr (0, ks))) (hd : decode cc pc = .ok (.aastore, 1)) (k : Vj G w sh nL rk (mu σ a i.toNatClampNeg x) (pc + 1) lv st o) : Vj G w sh nL rk σ pc lv (m_rf w.2.1 x :: .int i :: .ref (w.2.1 a) :: st) (gd (inb i n) (gd (inb x b) o)) := by
  obtain ⟨p, l, e, d, s, m, args, below, meth, c⟩ := G
  obtain ⟨⟨hx, hb, hml, hown, hts⟩, hlocks, hr, hK, hJ, hZ⟩ := hg
  intro v τ ho H locs ls hP hS hl
  obtain ⟨h1, ho⟩ := gd_some ho
  obtain ⟨h2, ho⟩ := gd_some ho
  have h3 := inb_in h2
  rw [m_rf_in h3]
  have hq : x.toNatClampNeg < b := Nat.not_le.mp (fun z => h3 (Or.inr z))
  obtain ⟨ks, hq⟩ := hs2 _ hq
  refine va_astq hx hb hK hP (m_D hJ) hS a 2 x.toNatClampNeg 0 (r := (RX0, TX0, 1)) (m_at hs) rfl (m_at hq) rfl (inb_in h1) hd (fun H1 locs1 hP1 hD1 hS1 => ?_)
  have e1 : some (w.2.1 x.toNatClampNeg) = m_ro w.2.1 x := by
    have hz : ¬ x < 0 := fun z => h3 (Or.inl z)
    simp [m_ro, hz]
  rw [e1, m_put_ref hs] at hP1
  exact k v τ ho H1 locs1 ls hP1 hS1 hl
theorem r_alen (hg : m_ok G w sh cc nL own ret) {a n : Nat} (hs : sh[a]? = some (.inl (0, n))) (hd : decode cc pc = .ok (.arraylength, 1)) (k : Vj G w sh nL rk σ (pc + 1) lv (.int (nI n) :: st) o) : Vj G w sh nL rk σ pc lv (.ref (w.2.1 a) :: st) (o) := by
  obtain ⟨p, l, e, d, s, m, args, below, meth, c⟩ := G
  obtain ⟨⟨hx, hb, hml, hown, hts⟩, hlocks, hr, hK, hJ, hZ⟩ := hg
  intro v τ ho H locs ls hP hS hl
  exact va_alen hx hb hK hP a 0 (m_at hs) rfl rfl hd (k v τ ho H locs ls hP hS hl)
end MROWS
