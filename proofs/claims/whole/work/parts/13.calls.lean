/-! calls inside a world: the callee's function, then what follows -/
def m_cal (own : String) (ix : Nat) (y : MethodName) (cc : ByteArray) (nL : Nat) (ret : Option FieldType) : Prop := Cond.methodLink own ix y ∈ mbig ∧ Cond.code y cc nL ret ∈ mbig ∧ Cond.initialized y.cls ∈ mbig ∧ nL ≤ 21 ∧ y.cls ≠ "java/lang/invoke/MethodHandle" ∧ y.cls ≠ "java/lang/invoke/VarHandle"
theorem m_blind {w : mW} {sh : mSh} {σ : Mem} {av : List Value} : FrameBlind (va_Pc av (m_pre w sh σ)) := by
  intro a U g mk q
  obtain ⟨q0, hP, hK, hJ, hZ⟩ := q
  exact ⟨q0, hP, va_K.moved (u := U) (U := U.calling g mk a) (Vm.Alike.refl U.vm) hK, hJ, hZ.same rfl rfl⟩
theorem m_good {y : MethodName} {cc : ByteArray} {n : Nat} {r : Option FieldType} (h : Cond.code y cc n r ∈ mbig) : GoodIn mbig (Cond.code y cc n r :: mbig) := m_goodIn (ws := []) h
section MCALL
variable {p : Program} {l : Launch} {e : Env} {d : Nat} {s : State} {m : MethodId} {args : Array Value} {below : List Frame} {meth : Method} {c : Code}
variable {w : mW} {sh : mSh} {cc : ByteArray} {nL rk : Nat} {own : String} {ret : Option FieldType} {σ : Mem} {pc : Nat} {lv : List (Nat × Value)} {st st0 : List Value}
variable {y : MethodName} {cy : ByteArray} {nLy rky dy ix : Nat} {rty : Option FieldType} {As : List Value} {o1 : Option (Int32 × Mem)} {f : Int32 → Mem → Option (Int32 × Mem)}
theorem m_callB (hts : ∀ w ∈ mbig, w.before args s = true) (hcal : m_cal own ix y cy nLy rty) (hn : (parseMethodDescriptor y.desc).map (fun d => d.parameters.length) = some As.length) (hdp : dy + 1 ≤ d) : CallB (m_room d) s args own ix y cy nLy rty (Cond.code y cy nLy rty :: mbig) (m_room dy) 0 0 As.length := by
  obtain ⟨h1, h2, h3, h4, h5, h6⟩ := hcal
  refine callB_of As.length hts (m_good h2) rfl rfl rfl (hts _ h3) (hts _ h1) ⟨h5, h6, hn⟩ ⟨hdp, ?_⟩
  show 8 + (nLy + 11) + 40 * dy ≤ 40 * d
  omega
theorem m_preS {H : Heap} {locs : List Loc} {av : List Value} (hP : va_P w.1 vwCl (m_cn w sh σ) H) (hS : va_S (m_A w sh) s.heap H locs) (hK : va_K w.1 vwCl (m_ty w) s) (hJ : m_J w sh) (hZ : m_st w (m_A w sh) s) : PreS s H (va_Pc av (m_pre w sh σ)) av :=
  ⟨m_blind, fun U hU hW => ⟨rfl, by rw [hU]; exact hP, va_K.moved hW.alike hK, hJ, hZ.warm hW (fun a ha hn => by rw [hU]; exact hS.2.1 a ha hn)⟩⟩
theorem m_after {H : Heap} {locs : List Loc} {ls : Array Slot} {v r : Int32} {τ τ1 : Mem} {a : Array Value} (hS : va_S (m_A w sh) s.heap H locs) (hl : m_lv ls nL lv)
    (hr : va_Run p l e (m_room d) s m args below meth c H locs 0 0 0 0 (F0 m pc ls st0) st (m_Q w sh rky r τ1 a) (m_A w sh))
    (k : Vj (p, l, e, d, s, m, args, below, meth, c) w sh nL rk τ1 (pc + 3) lv ((m_ret w rky r).toList ++ st) (some (v, τ))) : W p l e (m_room d) s m args below meth c H locs 0 0 (MQ below (m_Q w sh rk v τ) args s 0 0 (m_A w sh)) (F0 m pc ls st0) := by
  intro T hT X
  obtain ⟨v0, st₀, t, T', L, h0, X', hL, e1, e2, ⟨hv, hP1, hz, hk⟩, stp⟩ := hr T hT X
  cases hv
  rw [h0] at hz hk
  obtain ⟨t2, a1, b1⟩ := k v τ rfl T'.heap (locs ++ L) ls (by rw [e1]; exact hP1) ⟨Nat.le_trans hS.1 (by rw [e1]; exact hz), fun q h1 h2 => by rw [e1, hk q (Nat.lt_of_lt_of_le h1 hS.1) h2]; exact hS.2.1 q h1 h2, fun q hq => by
      rcases List.mem_append.mp hq with h | h
      · exact hS.2.2 q h
      · exact hL q h⟩ hl T' rfl X'
  exact ⟨t2, stp t2 a1, b1⟩
/-- a method of an object of the world -/
theorem r_callv {i ci N : Nat} {ks : List Nat} {C : String} {T : u_T} (hg : m_ok (p, l, e, d, s, m, args, below, meth, c) w sh cc nL own ret) (hE : Ev l w sh y cy nLy rty rky dy (.ref (w.2.1 i) :: As) σ o1) (hcal : m_cal own ix y cy nLy rty) (hin : Cond.instanceMethod y ∈ mbig) (hsel : Cond.selects C y y ∈ mbig) (hs : sh[i]? = some (.inr (ci, ks))) (hc : vwCl[ci]? = some (C, T, N))
    (hn : (parseMethodDescriptor y.desc).map (fun d => d.parameters.length) = some As.length) (hdp : dy + 1 ≤ d) (hst : st0 = As.reverse ++ .ref (w.2.1 i) :: st) (hc1 : m_c1 st) (hl8 : st.length ≤ 8) (hd : decode cc pc = .ok (.invokevirtual ix, 3))
    (k : ∀ r τ1, Vj (p, l, e, d, s, m, args, below, meth, c) w sh nL rk τ1 (pc + 3) lv ((m_ret w rky r).toList ++ st) (f r τ1)) : Vj (p, l, e, d, s, m, args, below, meth, c) w sh nL rk σ pc lv st0 (o1.bind fun x => f x.1 x.2) := by
  obtain ⟨⟨hx, hb, hml, hown, hts⟩, hlocks, hr, hK, hJ, hZ⟩ := hg
  intro v τ ho H locs ls hP hS hl
  cases o1 with
  | none => cases ho
  | some x =>
    obtain ⟨r, τ1⟩ := x
    have ho : f r τ1 = some (v, τ) := ho
    have hp := m_preS (av := .ref (w.2.1 i) :: As) hP hS hK hJ hZ
    refine m_after (rky := rky) (r := r) (τ1 := τ1) hS hl (va_runV (C := C) (As := As) (rest := st) ⟨hx, hb, hml, hown, hts⟩ (hE r τ1 rfl) ⟨m_callB hts hcal hn hdp, hts _ hin, hts _ hsel⟩ ⟨hp.1, ?_, hp.2⟩ rfl rfl hl.1.1 hst (lv_room (by rw [m_c1_sum hc1]; exact hl8)) hd ⟨Nat.le_refl 0, Nat.le_refl 0⟩) (ho ▸ k r τ1)
    exact va_recv hK hP hc (m_at hs)
/-- a method of a cover (one of the first b cells), by its number -/
theorem r_callq {b : Nat} {z : Int32} (hg : m_ok (p, l, e, d, s, m, args, below, meth, c) w sh cc nL own ret) (hE : Ev l w sh y cy nLy rty rky dy (m_rf w.2.1 z :: As) σ o1) (hcal : m_cal own ix y cy nLy rty) (hin : Cond.instanceMethod y ∈ mbig) (hsel : Cond.selects RX0 y y ∈ mbig) (hs : ∀ q : Nat, q < b → ∃ ks, sh[q]? = some (.inr (0, ks)))
    (hn : (parseMethodDescriptor y.desc).map (fun d => d.parameters.length) = some As.length) (hdp : dy + 1 ≤ d) (hst : st0 = As.reverse ++ m_rf w.2.1 z :: st) (hc1 : m_c1 st) (hl8 : st.length ≤ 8) (hd : decode cc pc = .ok (.invokevirtual ix, 3))
    (k : ∀ r τ1, Vj (p, l, e, d, s, m, args, below, meth, c) w sh nL rk τ1 (pc + 3) lv ((m_ret w rky r).toList ++ st) (f r τ1)) : Vj (p, l, e, d, s, m, args, below, meth, c) w sh nL rk σ pc lv st0 (gd (inb z b) (o1.bind fun x => f x.1 x.2)) := by
  obtain ⟨⟨hx, hb, hml, hown, hts⟩, hlocks, hr, hK, hJ, hZ⟩ := hg
  intro v τ ho H locs ls hP hS hl
  obtain ⟨h1, ho⟩ := gd_some ho
  have h3 := inb_in h1
  have hq : z.toNatClampNeg < b := Nat.not_le.mp (fun z => h3 (Or.inr z))
  obtain ⟨ks, hq⟩ := hs _ hq
  rw [m_rf_in h3] at hE hst
  cases o1 with
  | none => cases ho
  | some x =>
    obtain ⟨r, τ1⟩ := x
    have ho : f r τ1 = some (v, τ) := ho
    have hp := m_preS (av := .ref (w.2.1 z.toNatClampNeg) :: As) hP hS hK hJ hZ
    refine m_after (rky := rky) (r := r) (τ1 := τ1) hS hl (va_runV (C := RX0) (As := As) (rest := st) ⟨hx, hb, hml, hown, hts⟩ (hE r τ1 rfl) ⟨m_callB hts hcal hn hdp, hts _ hin, hts _ hsel⟩ ⟨hp.1, ?_, hp.2⟩ rfl rfl hl.1.1 hst (lv_room (by rw [m_c1_sum hc1]; exact hl8)) hd ⟨Nat.le_refl 0, Nat.le_refl 0⟩) (ho ▸ k r τ1)
    exact va_recv (ci := 0) hK hP rfl (m_at hq)
theorem r_calls (hg : m_ok (p, l, e, d, s, m, args, below, meth, c) w sh cc nL own ret) (hE : Ev l w sh y cy nLy rty rky dy As σ o1) (hcal : m_cal own ix y cy nLy rty) (hstt : Cond.static y ∈ mbig)
    (hn : (parseMethodDescriptor y.desc).map (fun d => d.parameters.length) = some As.length) (hdp : dy + 1 ≤ d) (hst : st0 = As.reverse ++ st) (hc1 : m_c1 st) (hl8 : st.length ≤ 8) (hd : decode cc pc = .ok (.invokestatic ix, 3))
    (k : ∀ r τ1, Vj (p, l, e, d, s, m, args, below, meth, c) w sh nL rk τ1 (pc + 3) lv ((m_ret w rky r).toList ++ st) (f r τ1)) : Vj (p, l, e, d, s, m, args, below, meth, c) w sh nL rk σ pc lv st0 (o1.bind fun x => f x.1 x.2) := by
  obtain ⟨⟨hx, hb, hml, hown, hts⟩, hlocks, hr, hK, hJ, hZ⟩ := hg
  intro v τ ho H locs ls hP hS hl
  cases o1 with
  | none => cases ho
  | some x =>
    obtain ⟨r, τ1⟩ := x
    have ho : f r τ1 = some (v, τ) := ho
    exact m_after (rky := rky) (r := r) (τ1 := τ1) hS hl (va_runS (As := As) (rest := st) ⟨hx, hb, hml, hown, hts⟩ (hE r τ1 rfl) ⟨m_callB hts hcal hn hdp, hts _ hstt⟩ (m_preS hP hS hK hJ hZ) rfl rfl hl.1.1 hst (lv_room (by rw [m_c1_sum hc1]; exact hl8)) hd ⟨Nat.le_refl 0, Nat.le_refl 0⟩) (ho ▸ k r τ1)
def imax (x y : Int32) : Int32 := if x < y then y else x
def imin (x y : Int32) : Int32 := if y < x then y else x
def iabs (x : Int32) : Int32 := if 0 ≤ x then x else 0 - x
variable {o : Option (Int32 × Mem)}
theorem r_max {x z : Int32} (hg : m_ok (p, l, e, d, s, m, args, below, meth, c) w sh cc nL own ret) (h1 : Cond.methodLink own ix Lib.Math.max.name ∈ mbig) (h2 : Cond.static Lib.Math.max.name ∈ mbig) (h3 : Cond.initialized "java/lang/Math" ∈ mbig) (h4 : Cond.code Lib.Math.max.name Lib.Math.max.code 2 (some .int) ∈ mbig) (hdp : 1 ≤ d) (hc1 : m_c1 st) (hl8 : st.length ≤ 8) (hd : decode cc pc = .ok (.invokestatic ix, 3))
    (k : Vj (p, l, e, d, s, m, args, below, meth, c) w sh nL rk σ (pc + 3) lv (.int (imax x z) :: st) o) : Vj (p, l, e, d, s, m, args, below, meth, c) w sh nL rk σ pc lv (.int z :: .int x :: st) o := by
  obtain ⟨⟨hx, hb, hml, hown, hts⟩, hlocks, hr, hK, hJ, hZ⟩ := hg
  intro v τ ho H locs ls hP hS hl
  exact va_mmax hx hb (hml.trans hl.1.1.symm) hown (hts _ h1) (hts _ h2) (hts _ h3) (hts _ h4) hdp (by rw [m_c1_sum hc1]; show _ ≤ 40 * d; omega) (Nat.le_refl 0) (Nat.le_refl 0) hd (k v τ ho H locs ls hP hS hl)
theorem r_min {x z : Int32} (hg : m_ok (p, l, e, d, s, m, args, below, meth, c) w sh cc nL own ret) (h1 : Cond.methodLink own ix Lib.Math.min.name ∈ mbig) (h2 : Cond.static Lib.Math.min.name ∈ mbig) (h3 : Cond.initialized "java/lang/Math" ∈ mbig) (h4 : Cond.code Lib.Math.min.name Lib.Math.min.code 2 (some .int) ∈ mbig) (hdp : 1 ≤ d) (hc1 : m_c1 st) (hl8 : st.length ≤ 8) (hd : decode cc pc = .ok (.invokestatic ix, 3))
    (k : Vj (p, l, e, d, s, m, args, below, meth, c) w sh nL rk σ (pc + 3) lv (.int (imin x z) :: st) o) : Vj (p, l, e, d, s, m, args, below, meth, c) w sh nL rk σ pc lv (.int z :: .int x :: st) o := by
  obtain ⟨⟨hx, hb, hml, hown, hts⟩, hlocks, hr, hK, hJ, hZ⟩ := hg
  intro v τ ho H locs ls hP hS hl
  exact va_mmin hx hb (hml.trans hl.1.1.symm) hown (hts _ h1) (hts _ h2) (hts _ h3) (hts _ h4) hdp (by rw [m_c1_sum hc1]; show _ ≤ 40 * d; omega) (Nat.le_refl 0) (Nat.le_refl 0) hd (k v τ ho H locs ls hP hS hl)
theorem r_abs {x : Int32} (hg : m_ok (p, l, e, d, s, m, args, below, meth, c) w sh cc nL own ret) (h1 : Cond.methodLink own ix Lib.Math.abs.name ∈ mbig) (h2 : Cond.static Lib.Math.abs.name ∈ mbig) (h3 : Cond.initialized "java/lang/Math" ∈ mbig) (h4 : Cond.code Lib.Math.abs.name Lib.Math.abs.code 1 (some .int) ∈ mbig) (hdp : 1 ≤ d) (hc1 : m_c1 st) (hl8 : st.length ≤ 8) (hd : decode cc pc = .ok (.invokestatic ix, 3))
    (k : Vj (p, l, e, d, s, m, args, below, meth, c) w sh nL rk σ (pc + 3) lv (.int (iabs x) :: st) o) : Vj (p, l, e, d, s, m, args, below, meth, c) w sh nL rk σ pc lv (.int x :: st) o := by
  obtain ⟨⟨hx, hb, hml, hown, hts⟩, hlocks, hr, hK, hJ, hZ⟩ := hg
  intro v τ ho H locs ls hP hS hl
  exact va_mabs hx hb (hml.trans hl.1.1.symm) hown (hts _ h1) (hts _ h2) (hts _ h3) (hts _ h4) hdp (by rw [m_c1_sum hc1]; show _ ≤ 40 * d; omega) (Nat.le_refl 0) (Nat.le_refl 0) hd (k v τ ho H locs ls hP hS hl)
/-- a field of the first b cells (covers), by number: the row of words of cover z is the cell b + z -/
theorem r_getq {b N : Nat} {z : Int32} {C ref : String} {T : u_T} (hg : m_ok (p, l, e, d, s, m, args, below, meth, c) w sh cc nL own ret) (hs : ∀ q : Nat, q < b → sh[q]? = some (.inr (0, [b + q + 2]))) (hc : vwCl[0]? = some (C, T, N)) (hj : 0 < N) (hin : ∀ v ∈ u_ws C T N, v ∈ mbig) (hlk : Cond.fieldLink own ix ref (T 0).2.1 (T 0).2.2.1 ∈ mbig) (hrf : (T 0).1 = ref) (hd : decode cc pc = .ok (.getfield ix, 3))
    (k : Vj (p, l, e, d, s, m, args, below, meth, c) w sh nL rk σ (pc + 3) lv (.ref (w.2.1 (b + z.toNatClampNeg)) :: st) o) : Vj (p, l, e, d, s, m, args, below, meth, c) w sh nL rk σ pc lv (m_rf w.2.1 z :: st) (gd (inb z b) o) := by
  obtain ⟨⟨hx, hb, hml, hown, hts⟩, hlocks, hr, hK, hJ, hZ⟩ := hg
  intro v τ ho H locs ls hP hS hl
  obtain ⟨h1, ho⟩ := gd_some ho
  have h3 := inb_in h1
  have hq : z.toNatClampNeg < b := Nat.not_le.mp (fun z => h3 (Or.inr z))
  subst hrf
  rw [m_rf_in h3]
  exact va_get hx hb hts hin hown hK hP z.toNatClampNeg (m_at (hs _ hq)) hc 0 hj (hts _ hlk) (fun _ h9 => h9) (v := .ref (w.2.1 (b + z.toNatClampNeg))) (by simp [m_val]) hd (k v τ ho H locs ls hP hS hl)
end MCALL
