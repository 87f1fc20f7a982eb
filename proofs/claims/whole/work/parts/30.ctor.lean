/-! constructors: a world that grows, its cells listed -/
def n_room (d kc ks : Nat) : Room := { frames := d, cells := kc, slots := ks, locals := 40 * d }
def n_pre (w : mW) (ws0 : va_W) (sz : Nat) (U : State) : Prop := U.heap.size = sz ∧ va_P w.1 vwCl ws0 U.heap ∧ va_K w.1 vwCl (m_ty w) U ∧ va_D (fun _ => True) ws0 ∧ va_AO "StormParting$Cover" U
def n_Q (w : mW) (ws0 : va_W) (sz : Nat) (fin : va_W → Prop) : Array Value → State → Outcome → State → Prop := fun _ st oc t => oc = .returned none ∧ (∃ ws1, fin ws1 ∧ va_P w.1 vwCl ws1 t.heap ∧ va_D (va_A ws0 sz) ws1) ∧ va_F (va_A ws0 sz) st t
def En (l : Launch) (w : mW) (y : MethodName) (cc : ByteArray) (nL d kc ks : Nat) (av : List Value) (ws0 : va_W) (fin : va_W → Prop) : Prop :=
  ∀ sz : Nat, Met l y (Cond.code y cc nL none :: mbig) (n_room d kc ks) (va_Pc av (n_pre w ws0 sz)) (n_Q w ws0 sz fin) kc ks (va_A ws0 sz)
def n_ok (G : mG) (w : mW) (A : Nat → Prop) (cc : ByteArray) (nL : Nat) (own : String) : Prop := match G with
  | (p, _, _, _, s, m, args, _, meth, c) => CallFix p m c cc nL s args mbig own ∧ meth.locks = false ∧ meth.sig.returnType = none ∧ va_K w.1 vwCl (m_ty w) s ∧ (∀ q : Nat, s.heap.size ≤ q → A q) ∧ meth.name = "<init>" ∧ va_AO "StormParting$Cover" s
def Nj (G : mG) (w : mW) (A : Nat → Prop) (ws0 : va_W) (fin : va_W → Prop) (nL kc ks k n : Nat) (ws : va_W) (pc : Nat) (lv : List (Nat × Value)) (st : List Value) : Prop := match G with
  | (p, l, e, d, s, m, args, below, meth, c) => ∀ (H : Heap) (locs : List Loc) (ls : Array Slot), va_P w.1 vwCl ws H → va_D A ws → va_S A s.heap H locs → m_lv ls nL lv → W p l e (n_room d kc ks) s m args below meth c H locs k n (MQ below (n_Q w ws0 s.heap.size fin) args s kc ks A) (F0 m pc ls st)
theorem n_blind {w : mW} {ws0 : va_W} {sz : Nat} {av : List Value} : FrameBlind (va_Pc av (n_pre w ws0 sz)) := by
  intro a U g mk q
  obtain ⟨q0, h1, hP, hK, hD, hO⟩ := q
  exact ⟨q0, h1, hP, va_K.moved (u := U) (U := U.calling g mk a) (Vm.Alike.refl U.vm) hK, hD, va_AO.moved (u := U) (U := U.calling g mk a) (Vm.Alike.refl U.vm) hO⟩
theorem En.of {l : Launch} {w : mW} {y : MethodName} {cc : ByteArray} {nL d kc ks : Nat} {av : List Value} {ws0 : va_W} {fin : va_W → Prop} (hy : plainName y.cls = true) (hy1 : y.name = "<init>") (hc : m_c1 av) (hn : av.length ≤ nL)
    (body : ∀ p e s m args below meth c, ∀ A, A = va_A ws0 s.heap.size → n_ok (p, l, e, d, s, m, args, below, meth, c) w A cc nL y.cls → Nj (p, l, e, d, s, m, args, below, meth, c) w A ws0 fin nL kc ks 0 0 ws0 0 (m_enum 0 av) []) : En l w y cc nL d kc ks av ws0 fin := by
  intro sz
  refine Met.ofW (cc := cc) (maxL := nL) (ret := none) hy rfl ?_
  intro p e s m args below meth c s₁ B hml hv
  obtain ⟨rfl, hsz, hP, hK, hD0, hO⟩ := hv
  subst hsz
  have hts := atoms_spec (ws := Cond.code y cc nL none :: mbig) B.pre
  have hl := lv_entry av (n := nL) (by rw [m_sl hc]; exact hn)
  rw [lg_entry_eq]
  rw [m_args hc] at hl
  have hin : meth.name = "<init>" := (name_of_methodNamed B.named B.method).1.trans hy1
  exact body p e s m _ below meth c _ rfl ⟨⟨B.exec, B.bytes, hml, findClass_of_methodNamed B.named, fun w hw => hts w (List.mem_cons_of_mem _ hw)⟩, B.notSynchronized, B.returns, hK, fun q h => Or.inr h, hin, hO⟩ s.heap [] _ hP (hD0.self (sz := s.heap.size)) va_S.rf ⟨hl, m_enum_c hc 0⟩
section NROWS
variable {p : Program} {l : Launch} {e : Env} {d : Nat} {s : State} {m : MethodId} {args : Array Value} {below : List Frame} {meth : Method} {c : Code}
variable {w : mW} {A : Nat → Prop} {ws0 : va_W} {fin : va_W → Prop} {cc : ByteArray} {nL kc ks k n : Nat} {own : String} {ws : va_W} {pc : Nat} {lv : List (Nat × Value)} {st st0 : List Value} {ix : Nat}
theorem n_ws {ws' : va_W} (h : ws = ws') (kk : Nj (p, l, e, d, s, m, args, below, meth, c) w A ws0 fin nL kc ks k n ws' pc lv st) : Nj (p, l, e, d, s, m, args, below, meth, c) w A ws0 fin nL kc ks k n ws pc lv st := h ▸ kk
theorem n_aload {i : Fin 4} (j : Nat) {x : Nat} (hg : n_ok (p, l, e, d, s, m, args, below, meth, c) w A cc nL own) (hd : decode cc pc = .ok (.aload_n i, 1)) (hl0 : lv[j]? = some ((i : Nat), .ref x)) (kk : Nj (p, l, e, d, s, m, args, below, meth, c) w A ws0 fin nL kc ks k n ws (pc + 1) lv (.ref x :: st)) : Nj (p, l, e, d, s, m, args, below, meth, c) w A ws0 fin nL kc ks k n ws pc lv st := by
  obtain ⟨⟨hx, hb, hml, hown, hts⟩, hlocks, hr, hK, hA, hin, hO⟩ := hg
  intro H locs ls hP hD hS hl
  exact lv_aload_n hx hb hd rfl (lv_at hl.1 j hl0) (kk H locs ls hP hD hS hl)
theorem n_iload {i : Fin 4} (j : Nat) {x : Int32} (hg : n_ok (p, l, e, d, s, m, args, below, meth, c) w A cc nL own) (hd : decode cc pc = .ok (.iload_n i, 1)) (hl0 : lv[j]? = some ((i : Nat), .int x)) (kk : Nj (p, l, e, d, s, m, args, below, meth, c) w A ws0 fin nL kc ks k n ws (pc + 1) lv (.int x :: st)) : Nj (p, l, e, d, s, m, args, below, meth, c) w A ws0 fin nL kc ks k n ws pc lv st := by
  obtain ⟨⟨hx, hb, hml, hown, hts⟩, hlocks, hr, hK, hA, hin, hO⟩ := hg
  intro H locs ls hP hD hS hl
  exact lv_iload_n hx hb hd rfl (lv_at hl.1 j hl0) (kk H locs ls hP hD hS hl)
theorem n_dup {x : Nat} (hg : n_ok (p, l, e, d, s, m, args, below, meth, c) w A cc nL own) (hd : decode cc pc = .ok (.dup, 1)) (kk : Nj (p, l, e, d, s, m, args, below, meth, c) w A ws0 fin nL kc ks k n ws (pc + 1) lv (.ref x :: .ref x :: st)) : Nj (p, l, e, d, s, m, args, below, meth, c) w A ws0 fin nL kc ks k n ws pc lv (.ref x :: st) := by
  obtain ⟨⟨hx, hb, hml, hown, hts⟩, hlocks, hr, hK, hA, hin, hO⟩ := hg
  intro H locs ls hP hD hS hl
  exact lv_dup hx hb hd rfl (kk H locs ls hP hD hS hl)
theorem n_iconst {i : Int} (x : Int32) (hg : n_ok (p, l, e, d, s, m, args, below, meth, c) w A cc nL own) (hd : decode cc pc = .ok (.iconst i, 1)) (hv : Int32.ofInt i = x) (kk : Nj (p, l, e, d, s, m, args, below, meth, c) w A ws0 fin nL kc ks k n ws (pc + 1) lv (.int x :: st)) : Nj (p, l, e, d, s, m, args, below, meth, c) w A ws0 fin nL kc ks k n ws pc lv st := by
  obtain ⟨⟨hx, hb, hml, hown, hts⟩, hlocks, hr, hK, hA, hin, hO⟩ := hg
  intro H locs ls hP hD hS hl
  exact lv_iconst hx hb hd hv (kk H locs ls hP hD hS hl)
theorem n_bipush {i : Int} (x : Int32) (hg : n_ok (p, l, e, d, s, m, args, below, meth, c) w A cc nL own) (hd : decode cc pc = .ok (.bipush i, 2)) (hv : (Int8.ofInt i).toInt32 = x) (kk : Nj (p, l, e, d, s, m, args, below, meth, c) w A ws0 fin nL kc ks k n ws (pc + 2) lv (.int x :: st)) : Nj (p, l, e, d, s, m, args, below, meth, c) w A ws0 fin nL kc ks k n ws pc lv st := by
  obtain ⟨⟨hx, hb, hml, hown, hts⟩, hlocks, hr, hK, hA, hin, hO⟩ := hg
  intro H locs ls hP hD hS hl
  exact lv_bipush hx hb hd hv (kk H locs ls hP hD hS hl)
theorem n_sipush {i : Int} (x : Int32) (hg : n_ok (p, l, e, d, s, m, args, below, meth, c) w A cc nL own) (hd : decode cc pc = .ok (.sipush i, 3)) (hv : (Int16.ofInt i).toInt32 = x) (kk : Nj (p, l, e, d, s, m, args, below, meth, c) w A ws0 fin nL kc ks k n ws (pc + 3) lv (.int x :: st)) : Nj (p, l, e, d, s, m, args, below, meth, c) w A ws0 fin nL kc ks k n ws pc lv st := by
  obtain ⟨⟨hx, hb, hml, hown, hts⟩, hlocks, hr, hK, hA, hin, hO⟩ := hg
  intro H locs ls hP hD hS hl
  exact lv_sipush hx hb hd hv (kk H locs ls hP hD hS hl)
theorem n_istore {i : Fin 4} {lv' : List (Nat × Value)} {x : Int32} (hg : n_ok (p, l, e, d, s, m, args, below, meth, c) w A cc nL own) (hd : decode cc pc = .ok (.istore_n i, 1)) (hn : (i : Nat) < nL) (hl0 : m_put lv (i : Nat) (.int x) = lv') (kk : Nj (p, l, e, d, s, m, args, below, meth, c) w A ws0 fin nL kc ks k n ws (pc + 1) lv' st) : Nj (p, l, e, d, s, m, args, below, meth, c) w A ws0 fin nL kc ks k n ws pc lv (.int x :: st) := by
  obtain ⟨⟨hx, hb, hml, hown, hts⟩, hlocks, hr, hK, hA, hin, hO⟩ := hg
  intro H locs ls hP hD hS hl
  subst hl0
  exact lv_istore_n hx hb hd rfl hl.1 hn (m_put_eq hl.2) (fun ls' h' => kk H locs ls' hP hD hS ⟨h', m_put_c hl.2 rfl⟩)
theorem n_iinc {i : Nat} {z : Int} (j : Nat) {x : Int32} (y : Int32) {lv' : List (Nat × Value)} (hg : n_ok (p, l, e, d, s, m, args, below, meth, c) w A cc nL own) (hd : decode cc pc = .ok (.iinc i z, 3)) (hl1 : lv[j]? = some (i, .int x)) (hv : x + Int32.ofInt z = y) (hn : i < nL) (hl0 : m_put lv i (.int y) = lv') (kk : Nj (p, l, e, d, s, m, args, below, meth, c) w A ws0 fin nL kc ks k n ws (pc + 3) lv' st) : Nj (p, l, e, d, s, m, args, below, meth, c) w A ws0 fin nL kc ks k n ws pc lv st := by
  obtain ⟨⟨hx, hb, hml, hown, hts⟩, hlocks, hr, hK, hA, hin, hO⟩ := hg
  intro H locs ls hP hD hS hl
  subst hl0
  exact lv_iinc hx hb hd hl.1 hl1 hv hn (m_put_eq hl.2) (fun ls' h' => kk H locs ls' hP hD hS ⟨h', m_put_c hl.2 rfl⟩)
theorem n_goto {off : Int} (tgt : Nat) (hg : n_ok (p, l, e, d, s, m, args, below, meth, c) w A cc nL own) (hd : decode cc pc = .ok (.goto off, 3)) (ht : (pc : Int) + off = (tgt : Int)) (kk : Nj (p, l, e, d, s, m, args, below, meth, c) w A ws0 fin nL kc ks k n ws tgt lv st) : Nj (p, l, e, d, s, m, args, below, meth, c) w A ws0 fin nL kc ks k n ws pc lv st := by
  obtain ⟨⟨hx, hb, hml, hown, hts⟩, hlocks, hr, hK, hA, hin, hO⟩ := hg
  intro H locs ls hP hD hS hl
  exact lv_goto hx hb hd ht (kk H locs ls hP hD hS hl)
theorem n_gef {x y : Int32} {off : Int} (hg : n_ok (p, l, e, d, s, m, args, below, meth, c) w A cc nL own) (hd : decode cc pc = .ok (.if_icmp .ge off, 3)) (tgt : Nat) (ht : (pc : Int) + off = (tgt : Int)) (hc : ¬ y ≤ x) (kk : Nj (p, l, e, d, s, m, args, below, meth, c) w A ws0 fin nL kc ks k n ws (pc + 3) lv st) : Nj (p, l, e, d, s, m, args, below, meth, c) w A ws0 fin nL kc ks k n ws pc lv (.int y :: .int x :: st) := by
  obtain ⟨⟨hx, hb, hml, hown, hts⟩, hlocks, hr, hK, hA, hin, hO⟩ := hg
  intro H locs ls hP hD hS hl
  exact lv_icmp_ge hx hb hd ht (fun q => absurd q hc) (fun _ => kk H locs ls hP hD hS hl)
theorem n_get {x y : Int32} {off : Int} (hg : n_ok (p, l, e, d, s, m, args, below, meth, c) w A cc nL own) (hd : decode cc pc = .ok (.if_icmp .ge off, 3)) (tgt : Nat) (ht : (pc : Int) + off = (tgt : Int)) (hc : y ≤ x) (kk : Nj (p, l, e, d, s, m, args, below, meth, c) w A ws0 fin nL kc ks k n ws tgt lv st) : Nj (p, l, e, d, s, m, args, below, meth, c) w A ws0 fin nL kc ks k n ws pc lv (.int y :: .int x :: st) := by
  obtain ⟨⟨hx, hb, hml, hown, hts⟩, hlocks, hr, hK, hA, hin, hO⟩ := hg
  intro H locs ls hP hD hS hl
  exact lv_icmp_ge hx hb hd ht (fun _ => kk H locs ls hP hD hS hl) (fun q => absurd hc q)
theorem n_objInit {a : Nat} (hg : n_ok (p, l, e, d, s, m, args, below, meth, c) w A cc nL own) (h1 : Cond.methodLink own ix Lib.objectInit ∈ mbig) (h2 : Cond.instanceMethod Lib.objectInit ∈ mbig) (h3 : Cond.code Lib.objectInit ⟨#[0xb1]⟩ 1 none ∈ mbig) (hdp : 1 ≤ d) (hd : decode cc pc = .ok (.invokespecial ix, 3)) (kk : Nj (p, l, e, d, s, m, args, below, meth, c) w A ws0 fin nL kc ks k n ws (pc + 3) lv []) : Nj (p, l, e, d, s, m, args, below, meth, c) w A ws0 fin nL kc ks k n ws pc lv [.ref a] := by
  obtain ⟨⟨hx, hb, hml, hown, hts⟩, hlocks, hr, hK, hA, hin, hO⟩ := hg
  intro H locs ls hP hD hS hl
  refine W.objInit hx hb hown (hts _ h1) (hts _ h2) (hts _ h3) (g := F0 m pc ls [.ref a]) rfl (hl.1.1.trans hml.symm) (rest := []) rfl hd hdp (by show 2 * 0 + 0 + 12 ≤ 40 * d; omega) ?_
  exact kk H locs ls hP hD hS hl
/-- a new array of numbers -/
theorem n_newa {atype : ArrayType} {t : Nat} {ty : FieldType} {z : Int32} (N' : Nat) (hg : n_ok (p, l, e, d, s, m, args, below, meth, c) w A cc nL own) (harr : Cond.arrayClass (newarray.typeOf atype) ∈ mbig) (hty : newarray.typeOf atype = ty) (ht : (m_ty w)[t]? = some (w.2.2.1 t, ty)) (hpr : ∀ (U : State) (cA : ClassId), va_RA U cA ty → U.vm.findClass ("[" ++ ty.toString) = some cA) (ha : ∀ cA : ClassId, vp_cell cA (N', .inl (fun _ => 0)) = arrV cA N' (fun _ => defaultValue ty)) (hn : ¬ z < 0) (hN : z.toNatClampNeg = N') (hby : N' * componentBytes ty ≤ 536870912) (hcells : k + 1 ≤ kc) (hslots : n + N' ≤ ks) (hd : decode cc pc = .ok (.newarray atype, 2))
    (kk : ∀ q : Nat, Nj (p, l, e, d, s, m, args, below, meth, c) w A ws0 fin nL kc ks (k + 1) (n + N') (ws ++ [(q, .inl (w.2.2.1 t, N', .inl (fun _ => 0)))]) (pc + 2) lv (.ref q :: st)) : Nj (p, l, e, d, s, m, args, below, meth, c) w A ws0 fin nL kc ks k n ws pc lv (.int z :: st) := by
  obtain ⟨⟨hx, hb, hml, hown, hts⟩, hlocks, hr, hK, hA, hin, hO⟩ := hg
  intro H locs ls hP hD hS hl
  refine va_newa (a0 := (N', .inl (fun _ => 0))) hx hb (hts _ harr) hty hK hP hD hS hA ha hn hN hby hcells hslots hd (fun q cA H1 hK1 hP1 hD1 hS1 => ?_)
  have e1 : cA = w.2.2.1 t := by
    have h1 := hpr _ _ (hK1.2 (m_ty w).length (cA, ty) (by simp)).2
    have h2 := hpr _ _ (hK.2 t _ ht).2
    exact Option.some.inj (h1.symm.trans h2)
  subst e1
  exact kk q H1 locs ls hP1 hD1 hS1 hl
/-- a new array of covers -/
theorem n_newq {z : Int32} (N' : Nat) (hg : n_ok (p, l, e, d, s, m, args, below, meth, c) w A cc nL own) (hcl : Cond.classLink own ix "StormParting$Cover" ∈ mbig) (hn : ¬ z < 0) (hN : z.toNatClampNeg = N') (hby : N' * 4 ≤ 536870912) (hcells : k + 1 ≤ kc) (hslots : n + N' ≤ ks) (hd : decode cc pc = .ok (.anewarray ix, 3))
    (kk : ∀ q : Nat, Nj (p, l, e, d, s, m, args, below, meth, c) w A ws0 fin nL kc ks (k + 1) (n + N') (ws ++ [(q, .inl (w.2.2.1 2, N', .inr (.inr (.inr (.inr (fun _ => none))))))]) (pc + 3) lv (.ref q :: st)) : Nj (p, l, e, d, s, m, args, below, meth, c) w A ws0 fin nL kc ks k n ws pc lv (.int z :: st) := by
  obtain ⟨⟨hx, hb, hml, hown, hts⟩, hlocks, hr, hK, hA, hin, hO⟩ := hg
  intro H locs ls hP hD hS hl
  refine va_newq hx hb hown (hts _ hcl) hO hK hP hD hS hA hn hN hby hcells hslots hd (fun q cA H1 hK1 hP1 hD1 hS1 => ?_)
  have e1 : cA = w.2.2.1 2 := by
    obtain ⟨k1, c1, -, -, -, h1⟩ := (hK1.2 (m_ty w).length (cA, .object "StormParting$Cover") (by simp)).2
    obtain ⟨k2, c2, -, -, -, h2⟩ := (hK.2 2 (w.2.2.1 2, .object "StormParting$Cover") rfl).2
    exact Option.some.inj (h1.symm.trans h2)
  subst e1
  exact kk q H1 locs ls hP1 hD1 hS1 hl
/-- a new object -/
theorem n_new {C : String} {T : u_T} {N ci : Nat} {ty : Nat → FieldType} (fs : List Value) (hg : n_ok (p, l, e, d, s, m, args, below, meth, c) w A cc nL own) (hinw : ∀ v ∈ u_ws C T N, v ∈ mbig) (hty : ∀ k, k < N → parseFieldDescriptor (T k).2.2.1 = some (ty k)) (hcl : Cond.classLink own ix C ∈ mbig) (hins : Cond.instantiable C N ∈ mbig) (hini : Cond.initialized C ∈ mbig) (hc : vwCl[ci]? = some (C, T, N)) (hfs : ∀ j, j < N → defaultValue (ty j) = vp_V fs j) (hcells : k + 1 ≤ kc) (hslots : n + N ≤ ks) (hd : decode cc pc = .ok (.new ix, 3))
    (kk : ∀ q : Nat, Nj (p, l, e, d, s, m, args, below, meth, c) w A ws0 fin nL kc ks (k + 1) (n + N) (ws ++ [(q, .inr (ci, fs))]) (pc + 3) lv (.ref q :: st)) : Nj (p, l, e, d, s, m, args, below, meth, c) w A ws0 fin nL kc ks k n ws pc lv st := by
  obtain ⟨⟨hx, hb, hml, hown, hts⟩, hlocks, hr, hK, hA, hin, hO⟩ := hg
  intro H locs ls hP hD hS hl
  exact va_new hx hb hts hinw ty hty hown (hts _ hcl) (hts _ hins) (hts _ hini) hK hP hD hS hA hc hfs hcells hslots hd (fun q H1 hP1 hD1 hS1 => kk q H1 locs ls hP1 hD1 hS1 hl)
/-- a final field gets a cell -/
theorem n_putF {a ci N q : Nat} {C : String} {T : u_T} {ty : Nat → FieldType} {fs : List Value} (q0 j : Nat) (hg : n_ok (p, l, e, d, s, m, args, below, meth, c) w A cc nL own) (hinw : ∀ v ∈ u_ws C T N, v ∈ mbig) (hty : ∀ k, k < N → parseFieldDescriptor (T k).2.2.1 = some (ty k)) (hnm : ∀ a, a < N → ∀ b, b < N → a ≠ b → (T a).2.1 ≠ (T b).2.1) (he : ws[q0]? = some (a, .inr (ci, fs))) (hc : vwCl[ci]? = some (C, T, N)) (hj : j < N) (hlk : Cond.fieldLink own ix (T j).1 (T j).2.1 (T j).2.2.1 ∈ mbig) (hfin : (T j).2.2.2 = true) (hdecl : (T j).1 = own) (hn : narrow (ty j) (.ref q) = .ref q) (hfit : fits (ty j) (.ref q) = true) (hlen : j < fs.length) (hd : decode cc pc = .ok (.putfield ix, 3))
    (kk : Nj (p, l, e, d, s, m, args, below, meth, c) w A ws0 fin nL kc ks k n (ws.set q0 (a, .inr (ci, fs.set j (.ref q)))) (pc + 3) lv st) : Nj (p, l, e, d, s, m, args, below, meth, c) w A ws0 fin nL kc ks k n ws pc lv (.ref q :: .ref a :: st) := by
  obtain ⟨⟨hx, hb, hml, hown, hts⟩, hlocks, hr, hK, hA, hin, hO⟩ := hg
  intro H locs ls hP hD hS hl
  exact va_putF hx hb hts hinw ty hty hnm hown hK hP hD hS q0 he hc j hj (hts _ hlk) (fun _ h9 => h9) hfin hin hdecl (hty j hj) hn hfit hlen hd (fun H1 locs1 hP1 hD1 hS1 => kk H1 locs1 ls hP1 hD1 hS1 hl)
theorem n_put {a ci N : Nat} {x : Int32} {C : String} {T : u_T} {ty : Nat → FieldType} {fs : List Value} (q0 j : Nat) (hg : n_ok (p, l, e, d, s, m, args, below, meth, c) w A cc nL own) (hinw : ∀ v ∈ u_ws C T N, v ∈ mbig) (hty : ∀ k, k < N → parseFieldDescriptor (T k).2.2.1 = some (ty k)) (hnm : ∀ a, a < N → ∀ b, b < N → a ≠ b → (T a).2.1 ≠ (T b).2.1) (he : ws[q0]? = some (a, .inr (ci, fs))) (hc : vwCl[ci]? = some (C, T, N)) (hj : j < N) (hlk : Cond.fieldLink own ix (T j).1 (T j).2.1 (T j).2.2.1 ∈ mbig) (hfin : (T j).2.2.2 = false) (hi0 : ty j = .int) (hlen : j < fs.length) (hd : decode cc pc = .ok (.putfield ix, 3))
    (kk : Nj (p, l, e, d, s, m, args, below, meth, c) w A ws0 fin nL kc ks k n (ws.set q0 (a, .inr (ci, fs.set j (.int x)))) (pc + 3) lv st) : Nj (p, l, e, d, s, m, args, below, meth, c) w A ws0 fin nL kc ks k n ws pc lv (.int x :: .ref a :: st) := by
  obtain ⟨⟨hx, hb, hml, hown, hts⟩, hlocks, hr, hK, hA, hin, hO⟩ := hg
  intro H locs ls hP hD hS hl
  exact va_put hx hb hts hinw ty hty hnm hown hK hP hD hS q0 he hc j hj (hts _ hlk) (fun _ h9 => h9) hfin (ty := .int) (by rw [hty j hj, hi0]) rfl rfl hlen hd (fun H1 locs1 hP1 hD1 hS1 => kk H1 locs1 ls hP1 hD1 hS1 hl)
theorem n_getf {a ci N : Nat} {v : Value} {C : String} {T : u_T} {fs : List Value} (q0 j : Nat) (hg : n_ok (p, l, e, d, s, m, args, below, meth, c) w A cc nL own) (hinw : ∀ v ∈ u_ws C T N, v ∈ mbig) (he : ws[q0]? = some (a, .inr (ci, fs))) (hc : vwCl[ci]? = some (C, T, N)) (hj : j < N) (hlk : Cond.fieldLink own ix (T j).1 (T j).2.1 (T j).2.2.1 ∈ mbig) (hv : fs[j]? = some v) (hd : decode cc pc = .ok (.getfield ix, 3))
    (kk : Nj (p, l, e, d, s, m, args, below, meth, c) w A ws0 fin nL kc ks k n ws (pc + 3) lv (v :: st)) : Nj (p, l, e, d, s, m, args, below, meth, c) w A ws0 fin nL kc ks k n ws pc lv (.ref a :: st) := by
  obtain ⟨⟨hx, hb, hml, hown, hts⟩, hlocks, hr, hK, hA, hin, hO⟩ := hg
  intro H locs ls hP hD hS hl
  exact va_get hx hb hts hinw hown hK hP q0 he hc j hj (hts _ hlk) (fun _ h9 => h9) hv hd (kk H locs ls hP hD hS hl)
/-- a cover into a row of covers -/
theorem n_aast {a N' v : Nat} {vs : List Value} {f : Nat → Option Nat} {i : Int32} (q0 qk j : Nat) (hg : n_ok (p, l, e, d, s, m, args, below, meth, c) w A cc nL own) (ha : ws[q0]? = some (a, .inl (w.2.2.1 2, N', .inr (.inr (.inr (.inr f)))))) (hv : ws[qk]? = some (v, .inr (0, vs))) (hij : i.toNatClampNeg = j) (hi : vp_in i N') (hd : decode cc pc = .ok (.aastore, 1))
    (kk : Nj (p, l, e, d, s, m, args, below, meth, c) w A ws0 fin nL kc ks k n (ws.set q0 (a, .inl (w.2.2.1 2, N', .inr (.inr (.inr (.inr (va_up f j (some v)))))))) (pc + 1) lv st) : Nj (p, l, e, d, s, m, args, below, meth, c) w A ws0 fin nL kc ks k n ws pc lv (.ref v :: .int i :: .ref a :: st) := by
  obtain ⟨⟨hx, hb, hml, hown, hts⟩, hlocks, hr, hK, hA, hin, hO⟩ := hg
  intro H locs ls hP hD hS hl
  subst hij
  exact va_astq hx hb hK hP hD hS q0 2 qk 0 (r := (RX0, TX0, 1)) ha rfl hv rfl hi hd (fun H1 locs1 hP1 hD1 hS1 => kk H1 locs1 ls hP1 hD1 hS1 hl)
/-- a constructor is called -/
theorem n_call {y : MethodName} {cy : ByteArray} {nLy dy kcy ksy b : Nat} {As : List Value} {wc wr : va_W} {fin1 : va_W → Prop} (isC isR : List Nat) (hg : n_ok (p, l, e, d, s, m, args, below, meth, c) w A cc nL own) (hE : En l w y cy nLy dy kcy ksy (.ref b :: As) wc fin1) (hcal : m_cal own ix y cy nLy none) (hini : Cond.instanceMethod y ∈ mbig) (hy1 : y.name = "<init>") (hnp : (parseMethodDescriptor y.desc).map (fun d => d.parameters.length) = some As.length) (hdp : dy + 1 ≤ d)
    (hC : isC.map (fun i => ws[i]?) = wc.map some) (hR : isR.map (fun i => ws[i]?) = wr.map some) (hnC : va_nd isC = true) (hnR : va_nd isR = true) (hdis : ∀ i ∈ isR, i ∉ isC) (hst : st0 = As.reverse ++ .ref b :: st) (hc1 : m_c1 st) (hl8 : st.length ≤ 8) (hcells : k + kcy ≤ kc) (hslots : n + ksy ≤ ks) (hd : decode cc pc = .ok (.invokespecial ix, 3))
    (kk : ∀ ws1, fin1 ws1 → Nj (p, l, e, d, s, m, args, below, meth, c) w A ws0 fin nL kc ks (k + kcy) (n + ksy) (wr ++ ws1) (pc + 3) lv st) : Nj (p, l, e, d, s, m, args, below, meth, c) w A ws0 fin nL kc ks k n ws pc lv st0 := by
  obtain ⟨⟨hx, hb, hml, hown, hts⟩, hlocks, hr, hK, hA, hin, hO⟩ := hg
  intro H locs ls hP hD hS hl
  have hPc : va_P w.1 vwCl wc H := by
    intro i q hq
    have h1 : (isC.map (fun i => ws[i]?))[i]? = some (some q) := by rw [hC, List.getElem?_map, hq]; rfl
    rw [List.getElem?_map] at h1
    cases hi : isC[i]? with
    | none => rw [hi] at h1; cases h1
    | some j => rw [hi] at h1; exact hP j q (Option.some.inj h1)
  have hDc := hD.sub (ws' := wc) isC hnC hC
  have hFc := va_free (wc := wc) hD hS hA isC hC
  obtain ⟨g1, g2, g3, g4, g5, g6⟩ := hcal
  have hcb : CallB (n_room d kc ks) s args own ix y cy nLy none (Cond.code y cy nLy none :: mbig) (n_room dy kcy ksy) kcy ksy As.length := callB_of As.length hts (m_good g2) rfl rfl rfl (hts _ g3) (hts _ g1) ⟨g5, g6, hnp⟩ ⟨hdp, by show 8 + (nLy + 11) + 40 * dy ≤ 40 * d; omega⟩
  have hrun := va_runI (e := e) (below := below) (meth := meth) (locs := locs) (cells := k) (slots := n) (As := As) (rest := st) (g := F0 m pc ls st0) ⟨hx, hb, hml, hown, hts⟩ (hE H.size) ⟨hcb, hy1, hts _ hini⟩ ⟨n_blind, fun U hU hW => ⟨rfl, by rw [hU], by rw [hU]; exact hPc, va_K.moved hW.alike hK, hDc.weaken (fun _ _ _ _ => trivial), va_AO.moved hW.alike hO⟩⟩ rfl rfl hl.1.1 hst (lv_room (by rw [m_c1_sum hc1]; exact hl8)) hd ⟨hcells, hslots⟩
  intro T hT X
  obtain ⟨v0, st₀, t, T', L, h0, X', hL, e1, e2, ⟨hv, ⟨ws1, hf, hP1, hD1⟩, hz, hk⟩, stp⟩ := hrun T hT X
  cases hv
  rw [h0] at hz hk
  rw [← e1] at hP1 hz hk
  obtain ⟨hP2, hD2⟩ := va_join hP hD isC isR hC hR hnR hdis hk hFc hP1 hD1
  obtain ⟨t2, a1, b1⟩ := kk ws1 hf T'.heap (locs ++ L) ls hP2 hD2 ⟨Nat.le_trans hS.1 hz, fun q h1 h2 => by rw [hk q (Nat.lt_of_lt_of_le h1 hS.1) (fun z => h2 (hFc q z))]; exact hS.2.1 q h1 h2, fun q hq => by
      rcases List.mem_append.mp hq with h | h
      · exact hS.2.2 q h
      · exact hFc _ (hL q h)⟩ hl T' rfl X'
  exact ⟨t2, stp t2 a1, b1⟩
theorem n_ret (hA0 : A = va_A ws0 s.heap.size) {ws1 : va_W} (is : List Nat) (hnd : va_nd is = true) (hws : is.map (fun i => ws[i]?) = ws1.map some) (hf : fin ws1) (hk : k ≤ kc) (hn : n ≤ ks) (hg : n_ok (p, l, e, d, s, m, args, below, meth, c) w A cc nL own) (hd : decode cc pc = .ok (.return_, 1)) : Nj (p, l, e, d, s, m, args, below, meth, c) w A ws0 fin nL kc ks k n ws pc lv [] := by
  obtain ⟨⟨hx, hb, hml, hown, hts⟩, hlocks, hr, hK, hA, hin, hO⟩ := hg
  intro H locs ls hP hD hS hl
  have hP1 : va_P w.1 vwCl ws1 H := by
    intro i q hq
    have h1 : (is.map (fun i => ws[i]?))[i]? = some (some q) := by rw [hws, List.getElem?_map, hq]; rfl
    rw [List.getElem?_map] at h1
    cases hi : is[i]? with
    | none => rw [hi] at h1; cases h1
    | some j => rw [hi] at h1; exact hP j q (Option.some.inj h1)
  have hD1 := hD.sub (ws' := ws1) is hnd hws
  refine W.widen (k := kc) (n := ks) hk hn ?_
  subst hA0
  exact W.vret hx hb hr (fun t ht hW => ⟨rfl, ⟨ws1, hf, by rw [ht]; exact hP1, hD1⟩, hS.F ht⟩) hS.2.2 hd hlocks
end NROWS
