/-! what the Statement gives at the law's entry -/
theorem ws_el {tm : Term} {vs : List Int32} (h : ∀ j, j < 10 → Cond.eq (.elem tm (.int (Int32.ofNat j))) (.int (vs.getD j 0)) ∈ flatC (Jvm.Cond.and given_1 narrow_1)) {args : Array Value} {s : State} (hs : ∀ c ∈ flatC (Jvm.Cond.and given_1 narrow_1), c.before args s = true) : ∀ j : Nat, j < 10 → (Term.elem tm (.int (Int32.ofNat j))).eval args s none [] s = some (.int (vs.getD j 0)) := fun j hj => va_eqt (hs _ (h j hj))
theorem ws_le : ∀ j, j < 10 → Cond.eq (.elem (.static "StormParting$Cover" "LEAST" "[I") (.int (Int32.ofNat j))) (.int (m_le.getD j 0)) ∈ flatC (Jvm.Cond.and given_1 narrow_1) := by decide +kernel
theorem ws_gr : ∀ j, j < 10 → Cond.eq (.elem (.static "StormParting$Cover" "GREATEST" "[I") (.int (Int32.ofNat j))) (.int (m_gr.getD j 0)) ∈ flatC (Jvm.Cond.and given_1 narrow_1) := by decide +kernel
theorem ws_fi : ∀ j, j < 10 → Cond.eq (.elem (.static "StormParting$Cover" "AT_FIRST" "[I") (.int (Int32.ofNat j))) (.int (m_fi.getD j 0)) ∈ flatC (Jvm.Cond.and given_1 narrow_1) := by decide +kernel
theorem ws_tx : ∀ j, j < 10 → Cond.eq (.elem (.field (.string "StormParting$Cover" 15) "java/lang/String" "value" "[B") (.int (Int32.ofNat j))) (.int (m_tx.getD j 0)) ∈ flatC (Jvm.Cond.and given_1 narrow_1) := by decide +kernel
set_option maxHeartbeats 4000000 in
set_option maxRecDepth 100000 in
theorem ws_st {s : State} {b : Nat} (hts : ∀ w ∈ lw_tbl, w.before #[Value.ref b] s = true) (hgv : (Jvm.Cond.and given_1 narrow_1).before #[Value.ref b] s = true) :
    ∃ ex : Nat → Nat, (∀ (D : va_G) (ad : Nat → Nat) (ty : Nat → ClassId), m_st (D, ad, ty, ex) (fun q : Nat => s.heap.size ≤ q) s) ∧ t_st (fun q : Nat => s.heap.size ≤ q) s := by
  have hs := flat_of_before _ hgv
  have hA : ∀ a : Nat, a < s.heap.size → ¬ (fun q : Nat => s.heap.size ≤ q) a := fun a h z => Nat.not_le.mpr h z
  obtain ⟨t0, e0, T0⟩ := va_Tof (tm := .static "StormParting$Cover" "LEAST" "[I") (ty := .int) (N := 10) (f := fun j => .int (m_le.getD j 0)) (A := fun q : Nat => s.heap.size ≤ q) (by decide) (hs _ (by decide +kernel)) (va_eqt (hs _ (by decide +kernel))) (ws_el ws_le hs) hA
  obtain ⟨t1, e1, T1⟩ := va_Tof (tm := .static "StormParting$Cover" "GREATEST" "[I") (ty := .int) (N := 10) (f := fun j => .int (m_gr.getD j 0)) (A := fun q : Nat => s.heap.size ≤ q) (by decide) (hs _ (by decide +kernel)) (va_eqt (hs _ (by decide +kernel))) (ws_el ws_gr hs) hA
  obtain ⟨t2, e2, T2⟩ := va_Tof (tm := .static "StormParting$Cover" "AT_FIRST" "[I") (ty := .int) (N := 10) (f := fun j => .int (m_fi.getD j 0)) (A := fun q : Nat => s.heap.size ≤ q) (by decide) (hs _ (by decide +kernel)) (va_eqt (hs _ (by decide +kernel))) (ws_el ws_fi hs) hA
  have q1 : ∀ i : Nat, i < 1 → ([10] : List Nat).getD i 0 < 2 ^ 31 := by decide
  have q2 : ∀ i : Nat, i < 1 → (Cond.eq (.length (.field (.string "StormParting$Cover" 15) "java/lang/String" "value" "[B")) (.int (Int32.ofNat (([10] : List Nat).getD i 0)))).before #[Value.ref b] s = true := fun i hi => by
    obtain rfl : i = 0 := by omega
    exact hs _ (by decide +kernel)
  have q3 : ∀ i : Nat, i < 1 → ∀ j : Nat, j < ([10] : List Nat).getD i 0 → (Cond.eq (.elem (.field (.string "StormParting$Cover" 15) "java/lang/String" "value" "[B") (.int (Int32.ofNat j))) (.int ((([m_tx] : List (List Int32)).getD i []).getD j 0))).before #[Value.ref b] s = true := fun i hi j hj => by
    obtain rfl : i = 0 := by omega
    exact hs _ (ws_tx j hj)
  obtain ⟨adK, adV, hSt, hEv⟩ := vk_Sof (args := #[Value.ref b]) (s := s) (N := 1) (tm := fun _ => .string "StormParting$Cover" 15) (len := [10]) (byt := [m_tx]) (A := fun q : Nat => s.heap.size ≤ q) q1 (fun _ _ => hs _ (by decide +kernel)) (fun _ _ => hs _ (by decide +kernel)) (fun _ _ => hs _ (by decide +kernel)) q2 q3 (fun i j hi hj hij => absurd (show i = j by omega) hij) hA
  have hE0 := hEv 0 (by decide)
  obtain ⟨y, hy1, hy2⟩ := Cond.eq_one (show (Cond.eq (.string "StormParting$Cover" 15) (.string "StormPartingModel" 129)).holds #[Value.ref b] s none s [] = true from hs _ (by decide +kernel))
  have hyk : y = .ref (adK 0) := Option.some.inj (hy1.symm.trans hE0)
  subst hyk
  refine ⟨fun i => if i = 0 then t0 else if i = 1 then t1 else if i = 2 then t2 else if i = 3 then adK 0 else adV 0, fun D ad ty => ⟨va_Zof (hts _ (by decide +kernel)) (hts _ (by decide +kernel)) e0 hA, T0, va_Zof (hts _ (by decide +kernel)) (hts _ (by decide +kernel)) e1 hA, T1, va_Zof (hts _ (by decide +kernel)) (hts _ (by decide +kernel)) e2 hA, T2, va_Zof (hts _ (by decide +kernel)) (hts _ (by decide +kernel)) (va_eqi (hs _ (by decide +kernel))) hA, vk_R.of (hts _ (by decide +kernel)) hE0, vk_R.of (hts _ (by decide +kernel)) hy2, ⟨fun i hi => ?_, fun i j hi hj _ => by omega⟩, va_Nw.of rfl (hts _ (by decide +kernel))⟩, vx_Zqof (hts _ (by decide +kernel)) (hts _ (by decide +kernel)) (hs _ (by decide +kernel)) hA, vx_Zqof (hts _ (by decide +kernel)) (hts _ (by decide +kernel)) (hs _ (by decide +kernel)) hA, va_Nw.of rfl (hts _ (by decide +kernel)), va_Nw.of rfl (hts _ (by decide +kernel)), va_Nw.of rfl (hts _ (by decide +kernel)), va_Nw.of rfl (hts _ (by decide +kernel))⟩
  obtain rfl : i = 0 := by omega
  exact hSt.1 0 (by decide)
theorem kq_RX6 : Cond.instantiable RX6 10 ∈ mbig := m_inD (by decide +kernel) rfl
theorem kq_RX7 : Cond.instantiable RX7 42 ∈ mbig := m_inD (by decide +kernel) rfl
theorem ka_long : Cond.arrayClass .long ∈ mbig := m_inD (by decide +kernel) rfl
theorem ka_over : Cond.arrayOver (.object "StormParting$Cover") ∈ lw_tbl := by decide +kernel
theorem ws_arr {s : State} {args : Array Value} {ty : FieldType} (h : (Cond.arrayClass ty).before args s = true) (hr : ∀ cA : ClassId, s.vm.findClass ("[" ++ ty.toString) = some cA → va_RA s cA ty) : ∃ cA : ClassId, ArrOfT s cA ty ∧ va_RA s cA ty := by
  obtain ⟨cA, k, comp, h1, h2, h3⟩ := Cond.arrayClass_spec h
  exact ⟨cA, fun n z => ⟨(fun k h => by cases h), k, h2, comp, h3⟩, hr cA h1⟩
theorem ws_arq {s : State} {args : Array Value} {C : String} (h : (Cond.arrayOver (.object C)).before args s = true) : ∃ cA : ClassId, ArrOfT s cA (.object C) ∧ va_RA s cA (.object C) := by
  obtain ⟨comp, cA, k, h1, -, h3, h4, h5⟩ := Cond.arrayOver_spec h
  exact ⟨cA, fun n z => ⟨(fun k h => by cases h), k, h3, comp, h4⟩, k, comp, h3, h4, h1, h5⟩
theorem ws_K {s : State} {b : Nat} (hts : ∀ w ∈ lw_tbl, w.before #[Value.ref b] s = true) : ∃ (D : va_G) (ty : Nat → ClassId) (cL : ClassId), va_K D vwCl ([(ty 0, .int), (ty 1, .byte), (ty 2, .object "StormParting$Cover")] ++ [(cL, .long)]) s := by
  have htb : ∀ w ∈ mbig, w.before #[Value.ref b] s = true := fun w hw => hts w (List.mem_filter.mp hw).1
  obtain ⟨c0, i0, k0⟩ := u_known (C := RX0) (T := TX0) (N := 1) htb iX0 (htb _ kq_RX0)
  obtain ⟨c1, i1, k1⟩ := u_known (C := RX1) (T := TX1) (N := 7) htb iX1 (htb _ kq_RX1)
  obtain ⟨c2, i2, k2⟩ := u_known (C := RX2) (T := TX2) (N := 6) htb iX2 (htb _ kq_RX2)
  obtain ⟨c3, i3, k3⟩ := u_known (C := RX3) (T := TX3) (N := 14) htb iX3 (htb _ kq_RX3)
  obtain ⟨c4, i4, k4⟩ := u_known (C := RX4) (T := TX4) (N := 2) htb iX4 (htb _ kq_RX4)
  obtain ⟨c5, i5, k5⟩ := u_known (C := RX5) (T := TX5) (N := 6) htb iX5 (htb _ kq_RX5)
  obtain ⟨c6, i6, k6⟩ := u_known (C := RX6) (T := TX6) (N := 10) htb iX6 (htb _ kq_RX6)
  obtain ⟨c7, i7, k7⟩ := u_known (C := RX7) (T := TX7) (N := 42) htb iX7 (htb _ kq_RX7)
  obtain ⟨a0, g0, r0⟩ := ws_arr (ty := .int) (htb _ ka_int) (fun _ h => h)
  obtain ⟨a1, g1, r1⟩ := ws_arr (ty := .byte) (htb _ ka_byte) (fun _ h => h)
  obtain ⟨a2, g2, r2⟩ := ws_arq (hts _ ka_over)
  obtain ⟨a3, g3, r3⟩ := ws_arr (ty := .long) (htb _ ka_long) (fun _ h => h)
  refine ⟨(fun k => if k = 0 then c0 else if k = 1 then c1 else if k = 2 then c2 else if k = 3 then c3 else if k = 4 then c4 else if k = 5 then c5 else if k = 6 then c6 else c7, fun k => if k = 0 then i0 else if k = 1 then i1 else if k = 2 then i2 else if k = 3 then i3 else if k = 4 then i4 else if k = 5 then i5 else if k = 6 then i6 else i7), fun k => if k = 0 then a0 else if k = 1 then a1 else a2, a3, fun k q hq => ?_, fun k q hq => ?_⟩
  · match k, hq with
    | 0, hq => cases hq; exact k0
    | 1, hq => cases hq; exact k1
    | 2, hq => cases hq; exact k2
    | 3, hq => cases hq; exact k3
    | 4, hq => cases hq; exact k4
    | 5, hq => cases hq; exact k5
    | 6, hq => cases hq; exact k6
    | 7, hq => cases hq; exact k7
    | k + 8, hq => exact absurd hq (by simp)
  · match k, hq with
    | 0, hq => cases hq; exact ⟨g0, r0⟩
    | 1, hq => cases hq; exact ⟨g1, r1⟩
    | 2, hq => cases hq; exact ⟨g2, r2⟩
    | 3, hq => cases hq; exact ⟨g3, r3⟩
    | k + 4, hq => exact absurd hq (by simp)
