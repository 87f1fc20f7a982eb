/-! what lies outside the worlds: the letters' text -/
section MEXT
variable {p : Program} {l : Launch} {e : Env} {d : Nat} {s : State} {m : MethodId} {args : Array Value} {below : List Frame} {meth : Method} {c : Code}
variable {w : mW} {sh : mSh} {cc : ByteArray} {nL rk : Nat} {own : String} {ret : Option FieldType} {σ : Mem} {pc : Nat} {lv : List (Nat × Value)} {st st0 : List Value} {o o1 : Option (Int32 × Mem)} {ix : Nat} {y : MethodName} {cy : ByteArray} {nLy dy : Nat} {rty : Option FieldType} {As : List Value}
theorem r_ldcS1 (hg : m_ok (p, l, e, d, s, m, args, below, meth, c) w sh cc nL RX7 ret) (hd : decode cc pc = .ok (.ldc 129, 2)) (k : Vj (p, l, e, d, s, m, args, below, meth, c) w sh nL rk σ (pc + 2) lv (.ref (w.2.2.2 3) :: st) o) : Vj (p, l, e, d, s, m, args, below, meth, c) w sh nL rk σ pc lv st o := by
  obtain ⟨⟨hx, hb, hml, hown, hts⟩, hlocks, hr, hK, hJ, hZ⟩ := hg
  intro v τ ho H locs ls hP hS hl
  exact va_ldcS hx hb hown hZ.2.2.2.2.2.2.2.2.1 hd (k v τ ho H locs ls hP hS hl)
theorem r_ldcS0 (hg : m_ok (p, l, e, d, s, m, args, below, meth, c) w sh cc nL RX0 ret) (hd : decode cc pc = .ok (.ldc 15, 2)) (k : Vj (p, l, e, d, s, m, args, below, meth, c) w sh nL rk σ (pc + 2) lv (.ref (w.2.2.2 3) :: st) o) : Vj (p, l, e, d, s, m, args, below, meth, c) w sh nL rk σ pc lv st o := by
  obtain ⟨⟨hx, hb, hml, hown, hts⟩, hlocks, hr, hK, hJ, hZ⟩ := hg
  intro v τ ho H locs ls hP hS hl
  exact va_ldcS hx hb hown hZ.2.2.2.2.2.2.2.1 hd (k v τ ho H locs ls hP hS hl)
theorem r_getsCS (hg : m_ok (p, l, e, d, s, m, args, below, meth, c) w sh cc nL own ret) (hlk : Cond.fieldLink own ix "java/lang/String" "COMPACT_STRINGS" "Z" ∈ mbig) (hd : decode cc pc = .ok (.getstatic ix, 3)) (k : Vj (p, l, e, d, s, m, args, below, meth, c) w sh nL rk σ (pc + 3) lv (.int 1 :: st) o) : Vj (p, l, e, d, s, m, args, below, meth, c) w sh nL rk σ pc lv st o := by
  obtain ⟨⟨hx, hb, hml, hown, hts⟩, hlocks, hr, hK, hJ, hZ⟩ := hg
  intro v τ ho H locs ls hP hS hl
  exact va_gets hx hb hZ.2.2.2.2.2.2.1 hS hown (hts _ hlk) (fun _ h => h) hd (k v τ ho H locs ls hP hS hl)
theorem r_strcoder (hg : m_ok (p, l, e, d, s, m, args, below, meth, c) w sh cc nL own ret) (hlk : Cond.fieldLink own ix "java/lang/String" "coder" "B" ∈ mbig) (hd : decode cc pc = .ok (.getfield ix, 3)) (k : Vj (p, l, e, d, s, m, args, below, meth, c) w sh nL rk σ (pc + 3) lv (.int 0 :: st) o) : Vj (p, l, e, d, s, m, args, below, meth, c) w sh nL rk σ pc lv (.ref (w.2.2.2 3) :: st) o := by
  obtain ⟨⟨hx, hb, hml, hown, hts⟩, hlocks, hr, hK, hJ, hZ⟩ := hg
  intro v τ ho H locs ls hP hS hl
  exact vk_getf hx hb (hZ.2.2.2.2.2.2.2.2.2.1.1 0 (by decide)).2.1 hS hown (hts _ hlk) (fun _ h => h) hd (k v τ ho H locs ls hP hS hl)
theorem r_strvalue (hg : m_ok (p, l, e, d, s, m, args, below, meth, c) w sh cc nL own ret) (hlk : Cond.fieldLink own ix "java/lang/String" "value" "[B" ∈ mbig) (hd : decode cc pc = .ok (.getfield ix, 3)) (k : Vj (p, l, e, d, s, m, args, below, meth, c) w sh nL rk σ (pc + 3) lv (.ref (w.2.2.2 4) :: st) o) : Vj (p, l, e, d, s, m, args, below, meth, c) w sh nL rk σ pc lv (.ref (w.2.2.2 3) :: st) o := by
  obtain ⟨⟨hx, hb, hml, hown, hts⟩, hlocks, hr, hK, hJ, hZ⟩ := hg
  intro v τ ho H locs ls hP hS hl
  exact vk_getf hx hb (hZ.2.2.2.2.2.2.2.2.2.1.1 0 (by decide)).2.2.1 hS hown (hts _ hlk) (fun _ h => h) hd (k v τ ho H locs ls hP hS hl)
theorem r_xlen (hg : m_ok (p, l, e, d, s, m, args, below, meth, c) w sh cc nL own ret) (hd : decode cc pc = .ok (.arraylength, 1)) (k : Vj (p, l, e, d, s, m, args, below, meth, c) w sh nL rk σ (pc + 1) lv (.int 10 :: st) o) : Vj (p, l, e, d, s, m, args, below, meth, c) w sh nL rk σ pc lv (.ref (w.2.2.2 4) :: st) o := by
  obtain ⟨⟨hx, hb, hml, hown, hts⟩, hlocks, hr, hK, hJ, hZ⟩ := hg
  intro v τ ho H locs ls hP hS hl
  exact va_tlen hx hb (hZ.2.2.2.2.2.2.2.2.2.1.1 0 (by decide)).2.2.2 hS rfl hd (k v τ ho H locs ls hP hS hl)
theorem r_xbald {i : Int32} (hg : m_ok (p, l, e, d, s, m, args, below, meth, c) w sh cc nL own ret) (hd : decode cc pc = .ok (.baload, 1)) (k : Vj (p, l, e, d, s, m, args, below, meth, c) w sh nL rk σ (pc + 1) lv (.int (m_tx.getD i.toNatClampNeg 0) :: st) o) : Vj (p, l, e, d, s, m, args, below, meth, c) w sh nL rk σ pc lv (.int i :: .ref (w.2.2.2 4) :: st) (gd (inb i 10) o) := by
  obtain ⟨⟨hx, hb, hml, hown, hts⟩, hlocks, hr, hK, hJ, hZ⟩ := hg
  intro v τ ho H locs ls hP hS hl
  obtain ⟨h1, ho⟩ := gd_some ho
  exact va_tb hx hb (hZ.2.2.2.2.2.2.2.2.2.1.1 0 (by decide)).2.2.2 hS (inb_in h1) rfl hd (k v τ ho H locs ls hP hS hl)
theorem r_bret {x : Int32} (hg : m_ok (p, l, e, d, s, m, args, below, meth, c) w sh cc nL own ret) (hd : decode cc pc = .ok (.ireturn, 1)) (hr0 : ret = some .byte) (hk0 : rk = 1) : Vj (p, l, e, d, s, m, args, below, meth, c) w sh nL rk σ pc lv [.int x] (gd (isb x) (some (x, σ))) := by
  obtain ⟨⟨hx, hb, hml, hown, hts⟩, hlocks, hr, hK, hJ, hZ⟩ := hg
  intro v τ ho H locs ls hP hS hl
  obtain ⟨h1, ho⟩ := gd_some ho
  cases ho
  subst hr0; subst hk0
  have hn : narrow .byte (.int x) = .int x := by
    simp only [isb, Bool.or_eq_true, beq_iff_eq] at h1
    rcases h1 with h1 | h1 <;> subst h1 <;> rfl
  exact W.zret (v := x) hx hb hr hn (fun t ht hW => ⟨rfl, by rw [ht]; exact hP, hS.F ht⟩) hS.2.2 hd hlocks
/-- a method of the text -/
theorem q_callx1 {f : Int32 → Mem → Option (Int32 × Mem)} (hg : m_ok (p, l, e, d, s, m, args, below, meth, c) w sh cc nL own ret) (hE : Ev l w sh y cy nLy rty 1 dy (.ref (w.2.2.2 3) :: As) σ o1) (hcal : m_cal own ix y cy nLy rty) (hin : Cond.instanceMethod y ∈ mbig) (hsel : Cond.selects "java/lang/String" y y ∈ mbig)
    (hn : (parseMethodDescriptor y.desc).map (fun d => d.parameters.length) = some As.length) (hdp : dy + 1 ≤ d) (hst : st0 = As.reverse ++ .ref (w.2.2.2 3) :: st) (hc1 : m_c1 st) (hl8 : st.length ≤ 8) (hd : decode cc pc = .ok (.invokevirtual ix, 3))
    (k : ∀ r τ1, Vj (p, l, e, d, s, m, args, below, meth, c) w sh nL rk τ1 (pc + 3) lv (.int r :: st) (f r τ1)) : Vj (p, l, e, d, s, m, args, below, meth, c) w sh nL rk σ pc lv st0 (m_bnd o1 f) := by
  obtain ⟨⟨hx, hb, hml, hown, hts⟩, hlocks, hr, hK, hJ, hZ⟩ := hg
  intro v τ ho H locs ls hP hS hl
  cases o1 with
  | none => cases ho
  | some x =>
    obtain ⟨r, τ1⟩ := x
    have ho : f r τ1 = some (v, τ) := ho
    have hp := m_preS (av := .ref (w.2.2.2 3) :: As) hP hS hK hJ hZ
    refine m_after (rky := 1) (r := r) (τ1 := τ1) hS hl (va_runV (C := "java/lang/String") (As := As) (rest := st) ⟨hx, hb, hml, hown, hts⟩ (hE r τ1 rfl) ⟨m_callB hts hcal hn hdp, hts _ hin, hts _ hsel⟩ ⟨hp.1, ?_, hp.2⟩ rfl rfl hl.1.1 hst (lv_room (by rw [m_c1_sum hc1]; exact hl8)) hd ⟨Nat.le_refl 0, Nat.le_refl 0⟩) (ho ▸ k r τ1)
    exact vk_recv (i := 0) hZ.2.2.2.2.2.2.2.2.2.1 (by decide) hS
end MEXT
