/-! MEMORY WORLDS: a world is a fixed list of cells (its shape); what they hold is one function of cell and place. A method's body is tied to a function that gives (answer, memory) or nothing. -/
abbrev Mem : Type := Nat → Nat → Int32
abbrev mSh : Type := List ((Nat × Nat) ⊕ (Nat × List Nat))
/-- the tables' numbers; the cells' addresses; the array classes; the addresses of what lies outside -/
abbrev mW : Type := va_G × (Nat → Nat) × (Nat → ClassId) × (Nat → Nat)
def m_ro (ad : Nat → Nat) (x : Int32) : Option Nat := if x < 0 then none else some (ad x.toNatClampNeg)
def m_rf (ad : Nat → Nat) (x : Int32) : Value := va_rf (m_ro ad x)
def m_val (ad : Nat → Nat) (k : Nat) (x : Int32) : Value := match k with
  | 0 => .int x
  | 1 => m_rf ad x
  | k + 2 => .ref (ad k)
def m_dat (ad : Nat → Nat) (t : Nat) (f : Nat → Int32) : (Nat → Int32) ⊕ (Nat → Int64) ⊕ (Nat → UInt32) ⊕ (Nat → UInt64) ⊕ (Nat → Option Nat) := match t with
  | 2 => .inr (.inr (.inr (.inr (fun j => m_ro ad (f j)))))
  | _ => .inl f
def m_ent (w : mW) (σ : Mem) (i : Nat) (c : (Nat × Nat) ⊕ (Nat × List Nat)) : Nat × va_E := match c with
  | .inl (t, n) => (w.2.1 i, .inl (w.2.2.1 t, n, m_dat w.2.1 t (σ i)))
  | .inr (ci, ks) => (w.2.1 i, .inr (ci, ks.mapIdx (fun j k => m_val w.2.1 k (σ i j))))
def m_cn (w : mW) (sh : mSh) (σ : Mem) : va_W := sh.mapIdx (fun i c => m_ent w σ i c)
def mu (σ : Mem) (i j : Nat) (v : Int32) : Mem := fun a => if a = i then upd (σ a) j v else σ a
def m_ty (w : mW) : List (ClassId × FieldType) := [(w.2.2.1 0, .int), (w.2.2.1 1, .byte), (w.2.2.1 2, .object "StormParting$Cover")]
def m_A (w : mW) (sh : mSh) : Nat → Prop := fun q => ∃ i, i < sh.length ∧ q = w.2.1 i
def m_J (w : mW) (sh : mSh) : Prop := ∀ i j : Nat, i < sh.length → j < sh.length → w.2.1 i = w.2.1 j → i = j
theorem m_ent_1 {w : mW} {σ : Mem} {i : Nat} {c : (Nat × Nat) ⊕ (Nat × List Nat)} : (m_ent w σ i c).1 = w.2.1 i := by
  cases c <;> rfl
theorem m_ent_ext {w : mW} {σ τ : Mem} {i : Nat} {c : (Nat × Nat) ⊕ (Nat × List Nat)} (h : τ i = σ i) : m_ent w τ i c = m_ent w σ i c := by
  cases c <;> simp [m_ent, h]
theorem m_at {w : mW} {sh : mSh} {σ : Mem} {i : Nat} {c : (Nat × Nat) ⊕ (Nat × List Nat)} (h : sh[i]? = some c) : (m_cn w sh σ)[i]? = some (m_ent w σ i c) := by
  simp [m_cn, h]
theorem m_of {w : mW} {sh : mSh} {σ : Mem} {i : Nat} {q : Nat × va_E} (h : (m_cn w sh σ)[i]? = some q) : i < sh.length ∧ q.1 = w.2.1 i := by
  have hl : i < (m_cn w sh σ).length := (List.getElem?_eq_some_iff.mp h).1
  have hl2 : i < sh.length := by simpa [m_cn] using hl
  obtain ⟨c, hc⟩ : ∃ c, sh[i]? = some c := ⟨_, List.getElem?_eq_getElem hl2⟩
  rw [m_at hc] at h
  cases h
  exact ⟨hl2, m_ent_1⟩
theorem m_D {w : mW} {sh : mSh} {σ : Mem} (h : m_J w sh) : va_D (m_A w sh) (m_cn w sh σ) := by
  refine ⟨fun i j p q hi hj e => ?_, fun k q hk => ?_⟩
  · obtain ⟨h1, h2⟩ := m_of hi
    obtain ⟨h3, h4⟩ := m_of hj
    exact h i j h1 h3 (by rw [← h2, ← h4, e])
  · obtain ⟨h1, h2⟩ := m_of hk
    exact ⟨k, h1, h2⟩
theorem m_cn_set {w : mW} {sh : mSh} {σ τ : Mem} {i : Nat} {c : (Nat × Nat) ⊕ (Nat × List Nat)} {q : Nat × va_E} (h : sh[i]? = some c) (he : q = m_ent w τ i c) (ho : ∀ a, a ≠ i → τ a = σ a) : (m_cn w sh σ).set i q = m_cn w sh τ := by
  apply List.ext_getElem?
  intro k
  by_cases hk : k = i
  · subst hk
    have hl : k < (m_cn w sh σ).length := by
      have := (List.getElem?_eq_some_iff.mp h).1
      simpa [m_cn] using this
    rw [List.getElem?_set_self hl, m_at h, he]
  · rw [List.getElem?_set_ne (Ne.symm hk)]
    simp only [m_cn, List.getElem?_mapIdx]
    cases hs : sh[k]? with
    | none => rfl
    | some c' => simp [m_ent_ext (ho k hk)]
theorem mu_ne {σ : Mem} {i j : Nat} {v : Int32} (a : Nat) (h : a ≠ i) : mu σ i j v a = σ a := by simp [mu, h]
theorem mu_self {σ : Mem} {i j : Nat} {v : Int32} : mu σ i j v i = upd (σ i) j v := by simp [mu]
theorem m_put_arr {w : mW} {sh : mSh} {σ : Mem} {i t n j : Nat} {v : Int32} (h : sh[i]? = some (.inl (t, n))) (ht : m_dat w.2.1 t (σ i) = .inl (σ i)) (ht2 : m_dat w.2.1 t (upd (σ i) j v) = .inl (upd (σ i) j v)) : (m_cn w sh σ).set i (w.2.1 i, .inl (w.2.2.1 t, n, .inl (upd (σ i) j v))) = m_cn w sh (mu σ i j v) :=
  m_cn_set h (by simp [m_ent, mu_self, ht2]) (fun a ha => mu_ne a ha)
theorem m_put_ref {w : mW} {sh : mSh} {σ : Mem} {i n j : Nat} {v : Int32} (h : sh[i]? = some (.inl (2, n))) : (m_cn w sh σ).set i (w.2.1 i, .inl (w.2.2.1 2, n, .inr (.inr (.inr (.inr (va_up (fun j => m_ro w.2.1 (σ i j)) j (m_ro w.2.1 v))))))) = m_cn w sh (mu σ i j v) := by
  refine m_cn_set h ?_ (fun a ha => mu_ne a ha)
  simp only [m_ent, mu_self, m_dat]
  congr 8
  funext k
  by_cases hk : k = j <;> simp [va_up, upd, hk]
theorem m_put_fld {w : mW} {sh : mSh} {σ : Mem} {i ci j : Nat} {ks : List Nat} {v : Int32} (h : sh[i]? = some (.inr (ci, ks))) (hk : ks[j]? = some 0) : (m_cn w sh σ).set i (w.2.1 i, .inr (ci, (ks.mapIdx (fun j k => m_val w.2.1 k (σ i j))).set j (.int v))) = m_cn w sh (mu σ i j v) := by
  refine m_cn_set h ?_ (fun a ha => mu_ne a ha)
  simp only [m_ent, mu_self]
  congr 3
  apply List.ext_getElem?
  intro k
  by_cases e : k = j
  · subst e
    have hl : k < (ks.mapIdx (fun j k => m_val w.2.1 k (σ i j))).length := by simpa using (List.getElem?_eq_some_iff.mp hk).1
    rw [List.getElem?_set_self hl]
    simp [hk, m_val, upd]
  · rw [List.getElem?_set_ne (Ne.symm e)]
    simp [upd, e]
theorem m_rf_cat {ad : Nat → Nat} {x : Int32} : (m_rf ad x).category = 1 := by
  unfold m_rf m_ro
  by_cases h : x < 0 <;> simp [h, va_rf, Value.category]
theorem m_rf_in {ad : Nat → Nat} {x : Int32} {n : Nat} (h : vp_in x n) : m_rf ad x = .ref (ad x.toNatClampNeg) := by
  have h1 : ¬ x < 0 := fun z => h (Or.inl z)
  simp [m_rf, m_ro, h1, va_rf]
/-! the words that every method has -/
def mbig : List Cond := lw_tbl.filter goodWord
theorem m_in {w : Cond} (i : Nat) (h : lw_tbl[i]? = some w) (hg : goodWord w = true) : w ∈ mbig := List.mem_filter.mpr ⟨List.mem_of_getElem? h, hg⟩
theorem m_goodIn {ws : List Cond} {y : MethodName} {cc : ByteArray} {n : Nat} {r : Option FieldType} (h : Cond.code y cc n r ∈ mbig) : GoodIn (ws ++ mbig) (Cond.code y cc n r :: mbig) := by
  intro v hv
  have h1 : v ∈ mbig := by
    rcases List.mem_cons.mp hv with rfl | h2
    · exact h
    · exact h2
  exact ⟨List.mem_append_right _ h1, good_of_word (List.mem_filter.mp h1).2⟩
