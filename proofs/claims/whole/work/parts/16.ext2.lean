/-! rows of the class's world alone: covers by number, static arrays, copies of rows of words -/
def m_cp (σ : Mem) (i : Nat) (f : Nat → Int32) : Mem := fun a => if a = i then va_cpy f (σ a) 0 0 10 else σ a
theorem m_cp_set {w : mW} {sh : mSh} {σ : Mem} {i n : Nat} {f : Nat → Int32} (h : sh[i]? = some (.inl (0, n))) : (m_cn w sh σ).set i (w.2.1 i, .inl (w.2.2.1 0, n, .inl (va_cpy f (σ i) 0 0 10))) = m_cn w sh (m_cp σ i f) :=
  m_cn_set h (by simp [m_ent, m_cp, m_dat]) (fun a ha => by simp [m_cp, ha])
theorem inb_lt {z : Int32} {b : Nat} (h : inb z b = true) : z.toNatClampNeg < b := Nat.not_le.mp (fun q => inb_in h (Or.inr q))
section MEXT2
variable {p : Program} {l : Launch} {e : Env} {d : Nat} {s : State} {m : MethodId} {args : Array Value} {below : List Frame} {meth : Method} {c : Code}
variable {w : mW} {sh : mSh} {cc : ByteArray} {nL rk : Nat} {own : String} {ret : Option FieldType} {σ : Mem} {pc : Nat} {lv : List (Nat × Value)} {st st0 : List Value} {o o1 : Option (Int32 × Mem)} {F : Mem → Option (Int32 × Mem)}
variable {y : MethodName} {cy : ByteArray} {nLy dy ix : Nat} {rty : Option FieldType} {As : List Value} {f : Int32 → Mem → Option (Int32 × Mem)}
theorem q_getq {b N : Nat} {z : Int32} {C ref : String} {T : u_T} (hg : m_ok (p, l, e, d, s, m, args, below, meth, c) w sh cc nL own ret) (hs : ∀ q : Nat, q < b → sh[q]? = some (.inr (0, [b + q + 2]))) (hc : vwCl[0]? = some (C, T, N)) (hj : 0 < N) (hin : ∀ v ∈ u_ws C T N, v ∈ mbig) (hlk : Cond.fieldLink own ix ref (T 0).2.1 (T 0).2.2.1 ∈ mbig) (hrf : (T 0).1 = ref) (hd : decode cc pc = .ok (.getfield ix, 3))
    (k : inb z b = true → Vj (p, l, e, d, s, m, args, below, meth, c) w sh nL rk σ (pc + 3) lv (.ref (w.2.1 (b + z.toNatClampNeg)) :: st) o) : Vj (p, l, e, d, s, m, args, below, meth, c) w sh nL rk σ pc lv (m_rf w.2.1 z :: st) (gd (inb z b) o) := by
  by_cases h1 : inb z b = true
  · exact r_getq hg hs hc hj hin hlk hrf hd (k h1)
  · intro v τ ho
    exact absurd (gd_some ho).1 h1
theorem r_gets0 (hg : m_ok (p, l, e, d, s, m, args, below, meth, c) w sh cc nL own ret) (hlk : Cond.fieldLink own ix "StormParting$Cover" "LEAST" "[I" ∈ mbig) (hd : decode cc pc = .ok (.getstatic ix, 3)) (k : Vj (p, l, e, d, s, m, args, below, meth, c) w sh nL rk σ (pc + 3) lv (.ref (w.2.2.2 0) :: st) o) : Vj (p, l, e, d, s, m, args, below, meth, c) w sh nL rk σ pc lv st o := by
  obtain ⟨⟨hx, hb, hml, hown, hts⟩, hlocks, hr, hK, hJ, hZ⟩ := hg
  intro v τ ho H locs ls hP hS hl
  exact va_gets hx hb hZ.1 hS hown (hts _ hlk) (fun _ h => h) hd (k v τ ho H locs ls hP hS hl)
theorem r_gets1 (hg : m_ok (p, l, e, d, s, m, args, below, meth, c) w sh cc nL own ret) (hlk : Cond.fieldLink own ix "StormParting$Cover" "GREATEST" "[I" ∈ mbig) (hd : decode cc pc = .ok (.getstatic ix, 3)) (k : Vj (p, l, e, d, s, m, args, below, meth, c) w sh nL rk σ (pc + 3) lv (.ref (w.2.2.2 1) :: st) o) : Vj (p, l, e, d, s, m, args, below, meth, c) w sh nL rk σ pc lv st o := by
  obtain ⟨⟨hx, hb, hml, hown, hts⟩, hlocks, hr, hK, hJ, hZ⟩ := hg
  intro v τ ho H locs ls hP hS hl
  exact va_gets hx hb hZ.2.2.1 hS hown (hts _ hlk) (fun _ h => h) hd (k v τ ho H locs ls hP hS hl)
theorem r_gets2 (hg : m_ok (p, l, e, d, s, m, args, below, meth, c) w sh cc nL own ret) (hlk : Cond.fieldLink own ix "StormParting$Cover" "AT_FIRST" "[I" ∈ mbig) (hd : decode cc pc = .ok (.getstatic ix, 3)) (k : Vj (p, l, e, d, s, m, args, below, meth, c) w sh nL rk σ (pc + 3) lv (.ref (w.2.2.2 2) :: st) o) : Vj (p, l, e, d, s, m, args, below, meth, c) w sh nL rk σ pc lv st o := by
  obtain ⟨⟨hx, hb, hml, hown, hts⟩, hlocks, hr, hK, hJ, hZ⟩ := hg
  intro v τ ho H locs ls hP hS hl
  exact va_gets hx hb hZ.2.2.2.2.1 hS hown (hts _ hlk) (fun _ h => h) hd (k v τ ho H locs ls hP hS hl)
theorem r_ldst0 {i : Int32} (hg : m_ok (p, l, e, d, s, m, args, below, meth, c) w sh cc nL own ret) (hd : decode cc pc = .ok (.iaload, 1)) (k : Vj (p, l, e, d, s, m, args, below, meth, c) w sh nL rk σ (pc + 1) lv (.int (m_le.getD i.toNatClampNeg 0) :: st) o) : Vj (p, l, e, d, s, m, args, below, meth, c) w sh nL rk σ pc lv (.int i :: .ref (w.2.2.2 0) :: st) (gd (inb i 10) o) := by
  obtain ⟨⟨hx, hb, hml, hown, hts⟩, hlocks, hr, hK, hJ, hZ⟩ := hg
  intro v τ ho H locs ls hP hS hl
  obtain ⟨h1, ho⟩ := gd_some ho
  exact va_ti hx hb hZ.2.1 hS (inb_in h1) rfl hd (k v τ ho H locs ls hP hS hl)
theorem r_ldst1 {i : Int32} (hg : m_ok (p, l, e, d, s, m, args, below, meth, c) w sh cc nL own ret) (hd : decode cc pc = .ok (.iaload, 1)) (k : Vj (p, l, e, d, s, m, args, below, meth, c) w sh nL rk σ (pc + 1) lv (.int (m_gr.getD i.toNatClampNeg 0) :: st) o) : Vj (p, l, e, d, s, m, args, below, meth, c) w sh nL rk σ pc lv (.int i :: .ref (w.2.2.2 1) :: st) (gd (inb i 10) o) := by
  obtain ⟨⟨hx, hb, hml, hown, hts⟩, hlocks, hr, hK, hJ, hZ⟩ := hg
  intro v τ ho H locs ls hP hS hl
  obtain ⟨h1, ho⟩ := gd_some ho
  exact va_ti hx hb hZ.2.2.2.1 hS (inb_in h1) rfl hd (k v τ ho H locs ls hP hS hl)
theorem km_nat : Cond.native arraycopyName ∈ mbig := m_in 328 (by decide +kernel) rfl
theorem km_stt : Cond.static arraycopyName ∈ mbig := m_in 327 (by decide +kernel) rfl
theorem km_ini : Cond.initialized "java/lang/System" ∈ mbig := m_in 66 (by decide +kernel) rfl
theorem r_copyW {x z : Int32} (hg : m_ok (p, l, e, d, s, m, args, below, meth, c) w sh cc nL own ret) (hdp : 1 ≤ d) (hx0 : sh[8 + x.toNatClampNeg]? = some (.inl (0, 10))) (hz0 : sh[8 + z.toNatClampNeg]? = some (.inl (0, 10))) (hlk : Cond.methodLink own ix arraycopyName ∈ mbig) (hc1 : m_c1 st) (hl8 : st.length ≤ 8) (hd : decode cc pc = .ok (.invokestatic ix, 3))
    (k : ∀ τ, Vj (p, l, e, d, s, m, args, below, meth, c) w sh nL rk τ (pc + 3) lv st (F τ)) : Vj (p, l, e, d, s, m, args, below, meth, c) w sh nL rk σ pc lv (.int 10 :: .int 0 :: .ref (w.2.1 (8 + z.toNatClampNeg)) :: .int 0 :: .ref (w.2.1 (8 + x.toNatClampNeg)) :: st) (m_let (m_cp σ (8 + z.toNatClampNeg) (σ (8 + x.toNatClampNeg))) F) := by
  obtain ⟨⟨hx, hb, hml, hown, hts⟩, hlocks, hr, hK, hJ, hZ⟩ := hg
  intro v τ ho H locs ls hP hS hl
  refine va_copyi hx hb (hml.trans hl.1.1.symm) hown (hts _ hlk) (hts _ km_nat) (hts _ km_stt) (hts _ km_ini) hK hP (m_D hJ) hS (8 + x.toNatClampNeg) (8 + z.toNatClampNeg) 0 0 (m_at hx0) (m_at hz0) rfl rfl rfl (by decide) (by decide) (by decide) (Nat.le_of_ble_eq_true rfl) (Nat.le_of_ble_eq_true rfl) (fun i hi => rfl) hdp (by rw [m_c1_sum hc1]; show _ + (5 + 2 + 11) ≤ 40 * d; omega) hd (fun H1 locs1 hP1 hD1 hS1 => ?_)
  have e1 := m_cp_set (w := w) (σ := σ) (f := σ (8 + x.toNatClampNeg)) hz0
  rw [show (m_cn w sh σ).set (8 + z.toNatClampNeg) (w.2.1 (8 + z.toNatClampNeg), .inl (w.2.2.1 0, 10, .inl (va_cpy (σ (8 + x.toNatClampNeg)) (σ (8 + z.toNatClampNeg)) (0 : Int32).toNatClampNeg (0 : Int32).toNatClampNeg (10 : Int32).toNatClampNeg))) = m_cn w sh (m_cp σ (8 + z.toNatClampNeg) (σ (8 + x.toNatClampNeg))) from e1] at hP1
  exact k _ v τ ho H1 locs1 ls hP1 hS1 hl
theorem r_copyS {z : Int32} (hg : m_ok (p, l, e, d, s, m, args, below, meth, c) w sh cc nL own ret) (hdp : 1 ≤ d) (hz0 : sh[8 + z.toNatClampNeg]? = some (.inl (0, 10))) (hlk : Cond.methodLink own ix arraycopyName ∈ mbig) (hc1 : m_c1 st) (hl8 : st.length ≤ 8) (hd : decode cc pc = .ok (.invokestatic ix, 3))
    (k : ∀ τ, Vj (p, l, e, d, s, m, args, below, meth, c) w sh nL rk τ (pc + 3) lv st (F τ)) : Vj (p, l, e, d, s, m, args, below, meth, c) w sh nL rk σ pc lv (.int 10 :: .int 0 :: .ref (w.2.1 (8 + z.toNatClampNeg)) :: .int 0 :: .ref (w.2.2.2 2) :: st) (m_let (m_cp σ (8 + z.toNatClampNeg) (fun k => m_fi.getD k 0)) F) := by
  obtain ⟨⟨hx, hb, hml, hown, hts⟩, hlocks, hr, hK, hJ, hZ⟩ := hg
  intro v τ ho H locs ls hP hS hl T hT X
  obtain ⟨scr, hs1, hs2, hs3, hs4, -, hs5, hs7⟩ := hZ.2.2.2.2.2.1
  have hD := m_D (σ := σ) hJ
  have ha1 := m_at (w := w) (σ := σ) hz0
  have hc0 : H[w.2.2.2 2]? = some scr := by rw [hS.2.1 _ (Array.getElem?_eq_some_iff.mp hs1).1 hs7]; exact hs1
  have hcd : H[w.2.1 (8 + z.toNatClampNeg)]? = some (vp_cell (w.2.2.1 0) (10, .inl (σ (8 + z.toNatClampNeg)))) := hP _ _ ha1
  obtain ⟨hs6, k0, hk0, cm0, hkk0⟩ := hs2
  obtain ⟨-, k1, hk1, cm1, hkk1⟩ := (hK.2 0 _ rfl).1 10 (fun j => .int (σ (8 + z.toNatClampNeg) j))
  obtain ⟨vm', X', step⟩ := X.arraycopy hx hown (hts _ hlk) (hts _ km_nat) (hts _ km_stt) (hts _ km_ini) (src := w.2.2.2 2) (dst := w.2.1 (8 + z.toNatClampNeg)) (cs := scr) (cd := vp_cell (w.2.2.1 0) (10, .inl (σ (8 + z.toNatClampNeg)))) (srcPos := 0) (destPos := 0) (n := 10) (by rw [hT]; exact hc0) (by rw [hT]; exact hcd)
    hs6 (fun _ h => by cases h) hs3 (fun h => by cases h) hk0 hk1 hkk0 hkk1 (by simp [refKind]) (by decide) (by decide) (by decide)
    (by show ¬ (0 : Int) + 10 > _; omega)
    (by show ¬ (0 : Int) + 10 > ((arrV (w.2.2.1 0) 10 (fun j => .int (σ (8 + z.toNatClampNeg) j))).slots.size : Int); rw [arrV_size]; decide)
    (fun vm₁ _ i hi => by
      have hi : i < 10 := hi
      have e : scr.slots.getD ((0 : Int32).toNatClampNeg + i) .null = .int (m_fi.getD ((0 : Int32).toNatClampNeg + i) 0) := by
        have z0 : (0 : Int32).toNatClampNeg = 0 := by decide
        rw [z0, Array.getD_eq_getD_getElem?, hs5 _ (show 0 + i < 10 by omega)]
        rfl
      refine ⟨?_, ?_⟩
      · rw [e]; rfl
      · rw [e]; exact trivial)
    (g := F0 m pc ls (.int 10 :: .int 0 :: .ref (w.2.1 (8 + z.toNatClampNeg)) :: .int 0 :: .ref (w.2.2.2 2) :: st)) rfl (by rw [hml]; exact hl.1.1) (rest := st) rfl (by rw [hb]; exact hd) hdp (by show 2 * 0 + _ + (5 + 2 + 11) ≤ 40 * d; rw [m_c1_sum hc1]; omega)
  have e1 : copied scr (vp_cell (w.2.2.1 0) (10, .inl (σ (8 + z.toNatClampNeg)))) 0 0 10 = vp_cell (w.2.2.1 0) (10, .inl (va_cpy (fun k => m_fi.getD k 0) (σ (8 + z.toNatClampNeg)) 0 0 10)) := va_copiedX (fun z => .int z) scr (w.2.2.1 0) (fun k => m_fi.getD k 0) (σ (8 + z.toNatClampNeg)) hs5 (Nat.le_refl 10)
  rw [e1] at X' step
  have hlt : w.2.1 (8 + z.toNatClampNeg) < H.size := (Array.getElem?_eq_some_iff.mp hcd).1
  have oq : ∀ q : Nat, q ≠ w.2.1 (8 + z.toNatClampNeg) → (H.setIfInBounds (w.2.1 (8 + z.toNatClampNeg)) (vp_cell (w.2.2.1 0) (10, .inl (va_cpy (fun k => m_fi.getD k 0) (σ (8 + z.toNatClampNeg)) 0 0 10))))[q]? = H[q]? := fun q hq => by simp [Array.getElem?_setIfInBounds, Ne.symm hq]
  have hP1 : va_P w.1 vwCl (m_cn w sh (m_cp σ (8 + z.toNatClampNeg) (fun k => m_fi.getD k 0))) (H.setIfInBounds (w.2.1 (8 + z.toNatClampNeg)) (vp_cell (w.2.2.1 0) (10, .inl (va_cpy (fun k => m_fi.getD k 0) (σ (8 + z.toNatClampNeg)) 0 0 10)))) := by
    rw [← m_cp_set hz0]
    exact hP.set hD ha1 (show (H.setIfInBounds _ _)[w.2.1 (8 + z.toNatClampNeg)]? = some _ by simp [Array.getElem?_setIfInBounds, hlt]) oq
  have hA : m_A w sh (w.2.1 (8 + z.toNatClampNeg)) := hD.2 _ _ ha1
  obtain ⟨t, a1, b1⟩ := k _ v τ ho _ (locs ++ (scr.stretch (0 : Int32).toNatClampNeg (10 : Int32).toNatClampNeg).zipIdx.map fun q => ⟨w.2.1 (8 + z.toNatClampNeg), (0 : Int32).toNatClampNeg + q.2⟩) ls hP1 ⟨by simp; exact hS.1, fun q g1 g2 => by
      rw [oq q (fun e => g2 (by rw [e]; exact hA))]
      exact hS.2.1 q g1 g2, fun q hq => by
      rcases List.mem_append.mp hq with h | h
      · exact hS.2.2 q h
      · obtain ⟨z, -, hz⟩ := List.mem_map.mp h
        rw [← hz]
        exact hA⟩ hl ((T.setVm vm').setCell (w.2.1 (8 + z.toNatClampNeg)) _) (by rw [← hT]; rfl) X'
  exact ⟨t, step t a1, b1⟩
/-- a private static method of the class around -/
theorem q_callsN1 (hg : m_ok (p, l, e, d, s, m, args, below, meth, c) w sh cc nL own ret) (hE : Ev l w sh y cy nLy rty 1 dy As σ o1) (h1 : va_Nw (.methodLinkNest RX0 32 yX6_isWithin "StormParting") s → va_Nw (.methodLinkNest own ix y "StormParting") s) (h2 : Cond.code y cy nLy rty ∈ mbig) (h3 : Cond.initialized y.cls ∈ mbig) (h4 : nLy ≤ 21) (h5 : y.cls ≠ "java/lang/invoke/MethodHandle") (h6 : y.cls ≠ "java/lang/invoke/VarHandle") (hstt : Cond.static y ∈ mbig)
    (hn : (parseMethodDescriptor y.desc).map (fun d => d.parameters.length) = some As.length) (hdp : dy + 1 ≤ d) (hst : st0 = As.reverse ++ st) (hc1 : m_c1 st) (hl8 : st.length ≤ 8) (hd : decode cc pc = .ok (.invokestatic ix, 3))
    (k : ∀ r τ1, Vj (p, l, e, d, s, m, args, below, meth, c) w sh nL rk τ1 (pc + 3) lv (.int r :: st) (f r τ1)) : Vj (p, l, e, d, s, m, args, below, meth, c) w sh nL rk σ pc lv st0 (m_bnd o1 f) := by
  obtain ⟨⟨hx, hb, hml, hown, hts⟩, hlocks, hr, hK, hJ, hZ⟩ := hg
  intro v τ ho H locs ls hP hS hl
  cases o1 with
  | none => cases ho
  | some x =>
    obtain ⟨r, τ1⟩ := x
    have ho : f r τ1 = some (v, τ) := ho
    have hcw := va_cnB (rm := m_room dy) (R := m_room d) (ws := Cond.code y cy nLy rty :: mbig) As.length hts (m_good h2) rfl rfl rfl (h1 hZ.2.2.2.2.2.2.2.2.2.2) (hts _ h3) ⟨h5, h6, hn⟩ ⟨hdp, by show 8 + (nLy + 11) + 40 * dy ≤ 40 * d; omega⟩
    exact m_after (rky := 1) (r := r) (τ1 := τ1) hS hl (va_runSN (As := As) (rest := st) ⟨hx, hb, hml, hown, hts⟩ (hE r τ1 rfl) ⟨hcw, hts _ hstt, trivial⟩ (m_preS hP hS hK hJ hZ) rfl rfl hl.1.1 hst (lv_room (by rw [m_c1_sum hc1]; exact hl8)) hd ⟨Nat.le_refl 0, Nat.le_refl 0⟩) (ho ▸ k r τ1)
end MEXT2
