/-! what lies outside the worlds: the letters' text -/
section MEXT
variable {p : Program} {l : Launch} {e : Env} {d : Nat} {s : State} {m : MethodId} {args : Array Value} {below : List Frame} {meth : Method} {c : Code}
variable {w : mW} {sh : mSh} {cc : ByteArray} {nL rk : Nat} {own : String} {ret : Option FieldType} {σ : Mem} {pc : Nat} {lv : List (Nat × Value)} {st st0 : List Value} {o : Option (Int32 × Mem)}
theorem r_ldcS1 (hg : m_ok (p, l, e, d, s, m, args, below, meth, c) w sh cc nL RX7 ret) (hd : decode cc pc = .ok (.ldc 129, 2)) (k : Vj (p, l, e, d, s, m, args, below, meth, c) w sh nL rk σ (pc + 2) lv (.ref (w.2.2.2 3) :: st) o) : Vj (p, l, e, d, s, m, args, below, meth, c) w sh nL rk σ pc lv st o := by
  obtain ⟨⟨hx, hb, hml, hown, hts⟩, hlocks, hr, hK, hJ, hZ⟩ := hg
  intro v τ ho H locs ls hP hS hl
  exact va_ldcS hx hb hown hZ.2.2.2.2.2.2.2.2.1 hd (k v τ ho H locs ls hP hS hl)
theorem r_ldcS0 (hg : m_ok (p, l, e, d, s, m, args, below, meth, c) w sh cc nL RX0 ret) (hd : decode cc pc = .ok (.ldc 15, 2)) (k : Vj (p, l, e, d, s, m, args, below, meth, c) w sh nL rk σ (pc + 2) lv (.ref (w.2.2.2 3) :: st) o) : Vj (p, l, e, d, s, m, args, below, meth, c) w sh nL rk σ pc lv st o := by
  obtain ⟨⟨hx, hb, hml, hown, hts⟩, hlocks, hr, hK, hJ, hZ⟩ := hg
  intro v τ ho H locs ls hP hS hl
  exact va_ldcS hx hb hown hZ.2.2.2.2.2.2.2.1 hd (k v τ ho H locs ls hP hS hl)
theorem r_sidx1 {x : Int32} (hg : m_ok (p, l, e, d, s, m, args, below, meth, c) w sh cc nL RX7 ret) (hdp : 6 ≤ d) (hc1 : m_c1 st) (hl8 : st.length ≤ 8) (hd : decode cc pc = .ok (.invokevirtual 131, 3)) (k : Vj (p, l, e, d, s, m, args, below, meth, c) w sh nL rk σ (pc + 3) lv (.int (sidx x) :: st) o) : Vj (p, l, e, d, s, m, args, below, meth, c) w sh nL rk σ pc lv (.int x :: .ref (w.2.2.2 3) :: st) o := by
  sorry
end MEXT
section MEXT3
variable {p : Program} {l : Launch} {e : Env} {d : Nat} {s : State} {m : MethodId} {args : Array Value} {below : List Frame} {meth : Method} {c : Code}
variable {w : mW} {sh : mSh} {cc : ByteArray} {nL rk : Nat} {own : String} {ret : Option FieldType} {σ : Mem} {pc : Nat} {lv : List (Nat × Value)} {st st0 : List Value} {o : Option (Int32 × Mem)}
theorem r_sidx0 {x : Int32} (hg : m_ok (p, l, e, d, s, m, args, below, meth, c) w sh cc nL RX0 ret) (hdp : 6 ≤ d) (hc1 : m_c1 st) (hl8 : st.length ≤ 8) (hd : decode cc pc = .ok (.invokevirtual 17, 3)) (k : Vj (p, l, e, d, s, m, args, below, meth, c) w sh nL rk σ (pc + 3) lv (.int (sidx x) :: st) o) : Vj (p, l, e, d, s, m, args, below, meth, c) w sh nL rk σ pc lv (.int x :: .ref (w.2.2.2 3) :: st) o := by
  sorry
end MEXT3
