/-! the class: its cells, and a function for each of its methods (written by program) -/
def shC : mSh := [.inr (0, [10]), .inr (0, [11]), .inr (0, [12]), .inr (0, [13]), .inr (0, [14]), .inr (0, [15]), .inr (0, [16]), .inr (0, [17]), .inl (0, 10), .inl (0, 10), .inl (0, 10), .inl (0, 10), .inl (0, 10), .inl (0, 10), .inl (0, 10), .inl (0, 10), .inr (6, [19, 24, 1, 20, 21, 22, 25, 26, 0, 0]), .inr (4, [27, 0]), .inr (1, [28, 29, 30, 31, 32, 33, 0]), .inr (5, [34, 0, 0, 0, 20, 35]), .inr (3, [0, 0, 0, 0, 0, 20, 1, 23, 36, 37, 38, 39, 0, 0]), .inr (2, [40, 41, 42, 43, 44, 0]), .inl (2, 6), .inl (0, 12), .inl (0, 12), .inl (0, 120), .inl (0, 12), .inl (0, 12), .inl (0, 12), .inl (0, 12), .inl (0, 12), .inl (0, 12), .inl (0, 12), .inl (0, 12), .inl (0, 12), .inl (0, 12), .inl (0, 256), .inl (0, 13), .inl (0, 1536), .inl (0, 6), .inl (0, 6), .inl (0, 78), .inl (2, 6)]
theorem shC_q : ∀ q : Nat, q < 8 → shC[q]? = some (.inr (0, [8 + q + 2])) := by decide
theorem shC_w8 : ∀ q : Nat, q < 8 → shC[8 + q]? = some (.inl (0, 10)) := by decide
theorem shC_w {z : Int32} (h : inb z 8 = true) : shC[8 + z.toNatClampNeg]? = some (.inl (0, 10)) := shC_w8 _ (inb_lt h)
theorem shC_q2 : ∀ q : Nat, q < 8 → ∃ ks, shC[q]? = some (.inr (0, ks)) := fun q h => ⟨_, shC_q q h⟩
-- X4_bytesIn depth 0
def b_X4_bytesIn_5 (N : Nat) (K5 : Int32 → Int32 → Int32 → Mem → Option (Int32 × Mem)) (x0 x1 x2 : Int32) (σ : Mem) : Option (Int32 × Mem) :=
  (if x2 < 0 then some (x1, σ) else (if ((ushr x0 x2) &&& 255) = 0 then K5 x0 x1 (x2 + (-8)) σ else K5 x0 (x1 + 1) (x2 + (-8)) σ))
def l_X4_bytesIn_5 (N : Nat) : Nat → Int32 → Int32 → Int32 → Mem → Option (Int32 × Mem)
  | 0, _, _, _, _ => none
   | n + 1, x0, x1, x2, σ => b_X4_bytesIn_5 N (l_X4_bytesIn_5 N n) x0 x1 x2 σ
def f_X4_bytesIn (N : Nat) (v0 : Int32) (σ : Mem) : Option (Int32 × Mem) :=
  l_X4_bytesIn_5 N N v0 0 24 σ
-- X4_append depth 0
def b_X4_append_3 (N : Nat) (K3 : Int32 → Int32 → Mem → Option (Int32 × Mem)) (x1 x2 : Int32) (σ : Mem) : Option (Int32 × Mem) :=
  (if x2 < 0 then some (0, σ) else m_leti ((ushr x1 x2) &&& 255) (fun u1 => (if u1 = 0 then K3 x1 (x2 + (-8)) σ else (if 120 ≤ (σ 17 1) then K3 x1 (x2 + (-8)) σ else gd (inb (σ 17 1) 120) (m_let (mu σ 25 (σ 17 1).toNatClampNeg u1) (fun σ2 => m_let (mu σ2 17 1 ((σ2 17 1) + 1)) (fun σ3 => K3 x1 (x2 + (-8)) σ3)))))))
def l_X4_append_3 (N : Nat) : Nat → Int32 → Int32 → Mem → Option (Int32 × Mem)
  | 0, _, _, _ => none
   | n + 1, x1, x2, σ => b_X4_append_3 N (l_X4_append_3 N n) x1 x2 σ
def f_X4_append (N : Nat) (v1 : Int32) (σ : Mem) : Option (Int32 × Mem) :=
  l_X4_append_3 N N v1 24 σ
-- X6_feed depth 1
def f_X6_feed (N : Nat) (v1 v2 v3 v4 v5 : Int32) (σ : Mem) : Option (Int32 × Mem) :=
  m_bnd (f_X4_bytesIn N v1 σ) (fun r1 σ2 => m_bnd (f_X4_bytesIn N v2 σ2) (fun r3 σ4 => m_bnd (f_X4_bytesIn N v3 σ4) (fun r5 σ6 => m_bnd (f_X4_bytesIn N v4 σ6) (fun r7 σ8 => m_bnd (f_X4_bytesIn N v5 σ8) (fun r9 σ10 => m_leti ((((r1 + r3) + r5) + r7) + r9) (fun u11 => (if ((σ10 17 1) + u11) ≤ 120 then m_bnd (f_X4_append N v1 σ10) (fun r12 σ13 => m_bnd (f_X4_append N v2 σ13) (fun r14 σ15 => m_bnd (f_X4_append N v3 σ15) (fun r16 σ17 => m_bnd (f_X4_append N v4 σ17) (fun r18 σ19 => m_bnd (f_X4_append N v5 σ19) (fun r20 σ21 => some (σ21 17 1, σ21)))))) else some ((-1), σ10))))))))
-- X6_end depth 0
def f_X6_end (N : Nat) (v1 : Int32) (σ : Mem) : Option (Int32 × Mem) :=
  (if v1 < 0 then gd (isb 0) (some (0, σ)) else (if v1 ≤ (σ 17 1) then m_let (mu σ 17 1 v1) (fun σ1 => gd (isb 1) (some (1, σ1))) else gd (isb 0) (some (0, σ))))
-- X0_forget depth 1
def f_X0_forget (N : Nat) (v0 : Int32) (σ : Mem) : Option (Int32 × Mem) :=
  gd (inb v0 8) (m_let (m_cp σ (8 + v0.toNatClampNeg) (fun k => m_fi.getD k 0)) (fun σ2 => some (0, σ2)))
-- X4_pastBlanks depth 0
def b_X4_pastBlanks_2 (N : Nat) (K2 : Int32 → Mem → Option (Int32 × Mem)) (x2 : Int32) (σ : Mem) : Option (Int32 × Mem) :=
  (if (σ 17 1) ≤ x2 then some (x2, σ) else gd (inb x2 120) ((if (σ 25 x2.toNatClampNeg) = 32 then K2 (x2 + 1) σ else some (x2, σ))))
def l_X4_pastBlanks_2 (N : Nat) : Nat → Int32 → Mem → Option (Int32 × Mem)
  | 0, _, _ => none
   | n + 1, x2, σ => b_X4_pastBlanks_2 N (l_X4_pastBlanks_2 N n) x2 σ
def f_X4_pastBlanks (N : Nat) (v1 : Int32) (σ : Mem) : Option (Int32 × Mem) :=
  l_X4_pastBlanks_2 N N v1 σ
-- X0_whatOf depth 4
def f_X0_whatOf (N : Nat) (v0 : Int32) (σ : Mem) : Option (Int32 × Mem) :=
  m_bnd (f_J0_indexOf_0f7a4 N (i2c v0) σ) (fun r1 σ2 => some (r1, σ2))
-- X4_isDigit depth 0
def f_X4_isDigit (N : Nat) (v1 : Int32) (σ : Mem) : Option (Int32 × Mem) :=
  (if (σ 17 1) ≤ v1 then gd (isb 0) (some (0, σ)) else gd (inb v1 120) ((if (σ 25 v1.toNatClampNeg) < 48 then gd (isb 0) (some (0, σ)) else gd (inb v1 120) ((if 57 < (σ 25 v1.toNatClampNeg) then gd (isb 0) (some (0, σ)) else gd (isb 1) (some (1, σ)))))))
-- X4_valueOf depth 0
def b_X4_valueOf_5 (N : Nat) (K5 : Int32 → Int32 → Int32 → Mem → Option (Int32 × Mem)) (x2 x3 x4 : Int32) (σ : Mem) : Option (Int32 × Mem) :=
  (if x2 < x4 then some (x3, σ) else (if (σ 17 1) ≤ x4 then some (x3, σ) else gd (inb x4 120) (m_leti (((10 * x3) + (σ 25 x4.toNatClampNeg)) - 48) (fun u1 => K5 x2 u1 (x4 + 1) σ))))
def l_X4_valueOf_5 (N : Nat) : Nat → Int32 → Int32 → Int32 → Mem → Option (Int32 × Mem)
  | 0, _, _, _, _ => none
   | n + 1, x2, x3, x4, σ => b_X4_valueOf_5 N (l_X4_valueOf_5 N n) x2 x3 x4 σ
def f_X4_valueOf (N : Nat) (v1 v2 : Int32) (σ : Mem) : Option (Int32 × Mem) :=
  l_X4_valueOf_5 N N v2 0 v1 σ
-- X6_isWithin depth 0
def f_X6_isWithin (N : Nat) (v0 v1 v2 : Int32) (σ : Mem) : Option (Int32 × Mem) :=
  (if v0 < v1 then gd (isb 0) (some (0, σ)) else (if v2 < v0 then gd (isb 0) (some (0, σ)) else gd (isb 1) (some (1, σ))))
-- X0_tell depth 1
def f_X0_tell (N : Nat) (v0 v1 v2 : Int32) (σ : Mem) : Option (Int32 × Mem) :=
  m_bnd (f_X6_isWithin N v1 0 9 σ) (fun r1 σ2 => (if r1 = 0 then gd (isb 0) (some (0, σ2)) else gd (inb v1 10) (gd (inb v1 10) (m_bnd (f_X6_isWithin N v2 (m_le.getD v1.toNatClampNeg 0) (m_gr.getD v1.toNatClampNeg 0) σ2) (fun r3 σ4 => (if r3 = 0 then gd (isb 0) (some (0, σ4)) else gd (inb v0 8) (gd (inb v1 10) (m_let (mu σ4 (8 + v0.toNatClampNeg) v1.toNatClampNeg v2) (fun σ6 => gd (isb 1) (some (1, σ6)))))))))))
-- X4_readInto depth 5
def j_X4_readInto_122 (N : Nat) (K8 : Int32 → Int32 → Int32 → Mem → Option (Int32 × Mem)) (x1 x3 x4 x5 y0 : Int32) (σ : Mem) : Option (Int32 × Mem) :=
  m_bnd (f_X4_valueOf N x5 y0 σ) (fun r1 σ2 => gd (inb x1 8) (m_bnd (f_X0_tell N x1 x4 r1 σ2) (fun r3 σ4 => (if r3 = 0 then some (y0, σ4) else m_bnd (f_X4_pastBlanks N (y0 + 1) σ4) (fun r5 σ6 => (if r5 < (σ6 17 1) then gd (inb r5 120) ((if (σ6 25 r5.toNatClampNeg) = 59 then K8 x1 (r5 + 1) (x3 + 1) σ6 else some (r5, σ6))) else some ((-1), σ6)))))))
def j_X4_readInto_41 (N : Nat) (K8 : Int32 → Int32 → Int32 → Mem → Option (Int32 × Mem)) (x1 x2 x3 y0 : Int32) (σ : Mem) : Option (Int32 × Mem) :=
  (if y0 = (-1) then some (x2, σ) else (if y0 = 0 then (if x3 = 0 then m_leti 1 (fun u22 => (if 1 = u22 then m_bnd (f_X4_pastBlanks N (x2 + 1) σ) (fun r23 σ24 => (if r23 = (x2 + 1) then some (r23, σ24) else m_bnd (f_X4_isDigit N r23 σ24) (fun r25 σ26 => (if r25 = 0 then some (r23, σ26) else m_bnd (f_X4_isDigit N (r23 + 1) σ26) (fun r27 σ28 => (if r27 = 0 then j_X4_readInto_122 N K8 x1 x3 y0 r23 r23 σ28 else j_X4_readInto_122 N K8 x1 x3 y0 r23 (r23 + 1) σ28)))))) else some (x2, σ))) else m_leti 0 (fun u15 => (if 1 = u15 then m_bnd (f_X4_pastBlanks N (x2 + 1) σ) (fun r16 σ17 => (if r16 = (x2 + 1) then some (r16, σ17) else m_bnd (f_X4_isDigit N r16 σ17) (fun r18 σ19 => (if r18 = 0 then some (r16, σ19) else m_bnd (f_X4_isDigit N (r16 + 1) σ19) (fun r20 σ21 => (if r20 = 0 then j_X4_readInto_122 N K8 x1 x3 y0 r16 r16 σ21 else j_X4_readInto_122 N K8 x1 x3 y0 r16 (r16 + 1) σ21)))))) else some (x2, σ)))) else (if x3 = 0 then m_leti 1 (fun u8 => (if 0 = u8 then m_bnd (f_X4_pastBlanks N (x2 + 1) σ) (fun r9 σ10 => (if r9 = (x2 + 1) then some (r9, σ10) else m_bnd (f_X4_isDigit N r9 σ10) (fun r11 σ12 => (if r11 = 0 then some (r9, σ12) else m_bnd (f_X4_isDigit N (r9 + 1) σ12) (fun r13 σ14 => (if r13 = 0 then j_X4_readInto_122 N K8 x1 x3 y0 r9 r9 σ14 else j_X4_readInto_122 N K8 x1 x3 y0 r9 (r9 + 1) σ14)))))) else some (x2, σ))) else m_leti 0 (fun u1 => (if 0 = u1 then m_bnd (f_X4_pastBlanks N (x2 + 1) σ) (fun r2 σ3 => (if r2 = (x2 + 1) then some (r2, σ3) else m_bnd (f_X4_isDigit N r2 σ3) (fun r4 σ5 => (if r4 = 0 then some (r2, σ5) else m_bnd (f_X4_isDigit N (r2 + 1) σ5) (fun r6 σ7 => (if r6 = 0 then j_X4_readInto_122 N K8 x1 x3 y0 r2 r2 σ7 else j_X4_readInto_122 N K8 x1 x3 y0 r2 (r2 + 1) σ7)))))) else some (x2, σ))))))
def b_X4_readInto_8 (N : Nat) (K8 : Int32 → Int32 → Int32 → Mem → Option (Int32 × Mem)) (x1 x2 x3 : Int32) (σ : Mem) : Option (Int32 × Mem) :=
  (if 120 < x3 then some (x2, σ) else m_bnd (f_X4_pastBlanks N x2 σ) (fun r1 σ2 => (if (σ2 17 1) ≤ r1 then j_X4_readInto_41 N K8 x1 r1 x3 (-1) σ2 else gd (inb r1 120) (m_bnd (f_X0_whatOf N (σ2 25 r1.toNatClampNeg) σ2) (fun r3 σ4 => j_X4_readInto_41 N K8 x1 r1 x3 r3 σ4)))))
def l_X4_readInto_8 (N : Nat) : Nat → Int32 → Int32 → Int32 → Mem → Option (Int32 × Mem)
  | 0, _, _, _, _ => none
   | n + 1, x1, x2, x3, σ => b_X4_readInto_8 N (l_X4_readInto_8 N n) x1 x2 x3 σ
def f_X4_readInto (N : Nat) (v1 : Int32) (σ : Mem) : Option (Int32 × Mem) :=
  gd (inb v1 8) (m_bnd (f_X0_forget N v1 σ) (fun r1 σ2 => l_X4_readInto_8 N N v1 0 0 σ2))
-- X6_fault depth 6
def f_X6_fault (N : Nat) (σ : Mem) : Option (Int32 × Mem) :=
  m_bnd (f_X4_readInto N (σ 16 2) σ) (fun r1 σ2 => some (r1, σ2))
-- X0_copyFrom depth 1
def f_X0_copyFrom (N : Nat) (v0 v1 : Int32) (σ : Mem) : Option (Int32 × Mem) :=
  gd (inb v1 8) (gd (inb v0 8) (m_let (m_cp σ (8 + v0.toNatClampNeg) (σ (8 + v1.toNatClampNeg))) (fun σ3 => some (0, σ3))))
-- X6_cover depth 6
def f_X6_cover (N : Nat) (σ : Mem) : Option (Int32 × Mem) :=
  (if 6 ≤ (σ 16 8) then some ((-1), σ) else m_bnd (f_X4_readInto N (σ 16 2) σ) (fun r1 σ2 => (if r1 = (-1) then gd (inb (σ2 16 8) 6) ((if (σ2 22 (σ2 16 8).toNatClampNeg) < 0 then some ((-1), σ2) else gd (inb (σ2 22 (σ2 16 8).toNatClampNeg) 8) (m_bnd (f_X0_copyFrom N (σ2 22 (σ2 16 8).toNatClampNeg) (σ2 16 2) σ2) (fun r3 σ4 => m_let (mu σ4 17 1 0) (fun σ5 => m_let (mu σ5 16 8 ((σ5 16 8) + 1)) (fun σ6 => some ((σ6 16 8) - 1, σ6))))))) else some ((-1), σ2))))
-- X6_loss depth 1
def j_X6_loss_64 (N : Nat) (x1 x2 x3 x4 x5 x6 x7 y0 : Int32) (σ : Mem) : Option (Int32 × Mem) :=
  m_bnd (f_X6_isWithin N x6 1 63 σ) (fun r1 σ2 => (if 12 ≤ (σ2 18 6) then some ((-1), σ2) else m_bnd (f_X6_isWithin N x1 1 99 σ2) (fun r3 σ4 => (if r3 = 0 then some ((-1), σ4) else (if x7 = 0 then some ((-1), σ4) else (if y0 = 0 then some ((-1), σ4) else (if r1 = 0 then some ((-1), σ4) else m_leti (σ4 18 6) (fun u5 => gd (inb u5 12) (m_let (mu σ4 26 u5.toNatClampNeg x1) (fun σ6 => gd (inb u5 12) (m_let (mu σ6 27 u5.toNatClampNeg x2) (fun σ7 => gd (inb u5 12) (m_let (mu σ7 28 u5.toNatClampNeg (x2 + x3)) (fun σ8 => gd (inb u5 12) (m_let (mu σ8 29 u5.toNatClampNeg x4) (fun σ9 => gd (inb u5 12) (m_let (mu σ9 30 u5.toNatClampNeg x5) (fun σ10 => gd (inb u5 12) (m_let (mu σ10 31 u5.toNatClampNeg x6) (fun σ11 => m_let (mu σ11 18 6 (u5 + 1)) (fun σ12 => some (u5, σ12))))))))))))))))))))))
def j_X6_loss_63 (N : Nat) (x1 x2 x3 x4 x5 x6 x7 : Int32) (σ : Mem) : Option (Int32 × Mem) :=
  j_X6_loss_64 N x1 x2 x3 x4 x5 x6 x7 0 σ
def j_X6_loss_35 (N : Nat) (x1 x2 x3 x4 x5 x6 y0 : Int32) (σ : Mem) : Option (Int32 × Mem) :=
  m_bnd (f_X6_isWithin N x4 0 99 σ) (fun r1 σ2 => (if r1 = 0 then j_X6_loss_63 N x1 x2 x3 x4 x5 x6 y0 σ2 else m_bnd (f_X6_isWithin N x5 0 99 σ2) (fun r3 σ4 => (if r3 = 0 then j_X6_loss_63 N x1 x2 x3 x4 x5 x6 y0 σ4 else j_X6_loss_64 N x1 x2 x3 x4 x5 x6 y0 1 σ4))))
def j_X6_loss_34 (N : Nat) (x1 x2 x3 x4 x5 x6 : Int32) (σ : Mem) : Option (Int32 × Mem) :=
  j_X6_loss_35 N x1 x2 x3 x4 x5 x6 0 σ
def f_X6_loss (N : Nat) (v1 v2 v3 v4 v5 v6 : Int32) (σ : Mem) : Option (Int32 × Mem) :=
  m_bnd (f_X6_isWithin N v2 0 999 σ) (fun r1 σ2 => (if r1 = 0 then j_X6_loss_34 N v1 v2 v3 v4 v5 v6 σ2 else m_bnd (f_X6_isWithin N v3 0 99 σ2) (fun r3 σ4 => (if r3 = 0 then j_X6_loss_34 N v1 v2 v3 v4 v5 v6 σ4 else (if 999 < (v2 + v3) then j_X6_loss_34 N v1 v2 v3 v4 v5 v6 σ4 else j_X6_loss_35 N v1 v2 v3 v4 v5 v6 1 σ4)))))
-- X6_coverAt depth 0
def f_X6_coverAt (N : Nat) (v1 : Int32) (σ : Mem) : Option (Int32 × Mem) :=
  (if v1 < 0 then some ((-1), σ) else (if (σ 16 8) ≤ v1 then some ((-1), σ) else gd (inb v1 6) (some (σ 22 v1.toNatClampNeg, σ))))
-- X1_all depth 0
def f_X1_all (N : Nat) (σ : Mem) : Option (Int32 × Mem) :=
  some ((1 <<< ((σ 18 6) &&& 31)) - 1, σ)
-- X1_hasAll depth 1
def f_X1_hasAll (N : Nat) (v1 : Int32) (σ : Mem) : Option (Int32 × Mem) :=
  m_bnd (f_X1_all N σ) (fun r1 σ2 => (if (v1 &&& (r1 ^^^ (-1))) = 0 then gd (isb 1) (some (1, σ2)) else gd (isb 0) (some (0, σ2))))
-- X0_asksCauses depth 0
def f_X0_asksCauses (N : Nat) (v0 : Int32) (σ : Mem) : Option (Int32 × Mem) :=
  gd (inb v0 8) (gd (inb 2 10) ((if (σ (8 + v0.toNatClampNeg) (Int32.toNatClampNeg 2)) = 1 then gd (isb 1) (some (1, σ)) else gd (isb 0) (some (0, σ)))))
-- X1_isIn depth 0
def f_X1_isIn (N : Nat) (v0 v1 : Int32) (σ : Mem) : Option (Int32 × Mem) :=
  (if (v1 &&& (1 <<< (v0 &&& 31))) = 0 then gd (isb 0) (some (0, σ)) else gd (isb 1) (some (1, σ)))
-- X1_areNear depth 1
def f_X1_areNear (N : Nat) (v1 v2 v3 : Int32) (σ : Mem) : Option (Int32 × Mem) :=
  gd (inb v2 12) (gd (inb v3 12) (gd (inb v1 8) (gd (inb 0 10) ((if (iabs ((σ 27 v2.toNatClampNeg) - (σ 27 v3.toNatClampNeg))) < (σ (8 + v1.toNatClampNeg) (Int32.toNatClampNeg 0)) then gd (inb v1 8) (gd (inb 1 10) (m_leti (σ (8 + v1.toNatClampNeg) (Int32.toNatClampNeg 1)) (fun u3 => gd (inb v2 12) (gd (inb v3 12) (m_leti ((σ 29 v2.toNatClampNeg) - (σ 29 v3.toNatClampNeg)) (fun u4 => gd (inb v2 12) (gd (inb v3 12) (m_leti ((σ 30 v2.toNatClampNeg) - (σ 30 v3.toNatClampNeg)) (fun u5 => (if u3 = (-1) then gd (isb 1) (some (1, σ)) else (if (u3 * u3) < ((u4 * u4) + (u5 * u5)) then gd (isb 0) (some (0, σ)) else gd (isb 1) (some (1, σ))))))))))))) else gd (isb 0) (some (0, σ)))))))
-- X1_areOne depth 2
def b_X1_areOne_42 (N : Nat) (K5 : Int32 → Int32 → Int32 → Int32 → Mem → Option (Int32 × Mem)) (K42 : Int32 → Int32 → Int32 → Int32 → Int32 → Mem → Option (Int32 × Mem)) (x1 x2 x3 x4 x5 : Int32) (σ : Mem) : Option (Int32 × Mem) :=
  (if (σ 18 6) ≤ x5 then K5 x1 x2 x3 (x4 + 1) σ else m_bnd (f_X1_isIn N x5 x2 σ) (fun r1 σ2 => (if r1 = 0 then K42 x1 x2 x3 x4 (x5 + 1) σ2 else m_bnd (f_X1_areNear N x1 x4 x5 σ2) (fun r3 σ4 => (if r3 = 0 then gd (isb 0) (some (0, σ4)) else K42 x1 x2 x3 x4 (x5 + 1) σ4)))))
def l_X1_areOne_42 (N : Nat) (K5 : Int32 → Int32 → Int32 → Int32 → Mem → Option (Int32 × Mem)) : Nat → Int32 → Int32 → Int32 → Int32 → Int32 → Mem → Option (Int32 × Mem)
  | 0, _, _, _, _, _, _ => none
   | n + 1, x1, x2, x3, x4, x5, σ => b_X1_areOne_42 N K5 (l_X1_areOne_42 N K5 n) x1 x2 x3 x4 x5 σ
def b_X1_areOne_5 (N : Nat) (K5 : Int32 → Int32 → Int32 → Int32 → Mem → Option (Int32 × Mem)) (x1 x2 x3 x4 : Int32) (σ : Mem) : Option (Int32 × Mem) :=
  (if (σ 18 6) ≤ x4 then (if x3 = 0 then gd (inb x1 8) (m_bnd (f_X0_asksCauses N x1 σ) (fun r1 σ2 => (if r1 = 0 then gd (isb 1) (some (1, σ2)) else gd (isb 0) (some (0, σ2))))) else gd (isb 1) (some (1, σ))) else m_bnd (f_X1_isIn N x4 x2 σ) (fun r3 σ4 => (if r3 = 0 then K5 x1 x2 x3 (x4 + 1) σ4 else gd (inb x4 12) (m_leti (x3 &&& (σ4 31 x4.toNatClampNeg)) (fun u5 => m_leti (x4 + 1) (fun u6 => l_X1_areOne_42 N K5 N x1 x2 u5 x4 u6 σ4))))))
def l_X1_areOne_5 (N : Nat) : Nat → Int32 → Int32 → Int32 → Int32 → Mem → Option (Int32 × Mem)
  | 0, _, _, _, _, _ => none
   | n + 1, x1, x2, x3, x4, σ => b_X1_areOne_5 N (l_X1_areOne_5 N n) x1 x2 x3 x4 σ
def f_X1_areOne (N : Nat) (v1 v2 : Int32) (σ : Mem) : Option (Int32 × Mem) :=
  m_leti (-1) (fun u1 => l_X1_areOne_5 N N v1 v2 u1 0 σ)
-- X6_may depth 3
def f_X6_may (N : Nat) (v1 v2 : Int32) (σ : Mem) : Option (Int32 × Mem) :=
  m_bnd (f_X6_coverAt N v1 σ) (fun r1 σ2 => (if r1 < 0 then some ((-1), σ2) else (if v2 = 0 then some ((-1), σ2) else m_bnd (f_X1_hasAll N v2 σ2) (fun r3 σ4 => (if r3 = 0 then some ((-1), σ4) else m_bnd (f_X1_areOne N r1 v2 σ4) (fun r5 σ6 => (if r5 = 0 then some (0, σ6) else some (1, σ6))))))))
-- X1_sumBefore depth 1
def b_X1_sumBefore_5 (N : Nat) (K5 : Int32 → Int32 → Int32 → Int32 → Mem → Option (Int32 × Mem)) (x1 x2 x3 x4 : Int32) (σ : Mem) : Option (Int32 × Mem) :=
  (if (σ 18 6) ≤ x4 then some (x3, σ) else m_bnd (f_X1_isIn N x4 x1 σ) (fun r1 σ2 => (if r1 = 0 then K5 x1 x2 x3 (x4 + 1) σ2 else gd (inb x4 12) ((if x2 ≤ (σ2 27 x4.toNatClampNeg) then K5 x1 x2 x3 (x4 + 1) σ2 else gd (inb x4 12) (m_leti (x3 + (σ2 26 x4.toNatClampNeg)) (fun u3 => K5 x1 x2 u3 (x4 + 1) σ2)))))))
def l_X1_sumBefore_5 (N : Nat) : Nat → Int32 → Int32 → Int32 → Int32 → Mem → Option (Int32 × Mem)
  | 0, _, _, _, _, _ => none
   | n + 1, x1, x2, x3, x4, σ => b_X1_sumBefore_5 N (l_X1_sumBefore_5 N n) x1 x2 x3 x4 σ
def f_X1_sumBefore (N : Nat) (v1 v2 : Int32) (σ : Mem) : Option (Int32 × Mem) :=
  l_X1_sumBefore_5 N N v1 v2 0 0 σ
-- X1_sumOf depth 2
def f_X1_sumOf (N : Nat) (v1 : Int32) (σ : Mem) : Option (Int32 × Mem) :=
  m_bnd (f_X1_sumBefore N v1 1000 σ) (fun r1 σ2 => some (r1, σ2))
-- X0_payFor depth 0
def j_X0_payFor_22 (N : Nat) (x0 y0 : Int32) (σ : Mem) : Option (Int32 × Mem) :=
  gd (inb x0 8) (gd (inb 6 10) ((if (σ (8 + x0.toNatClampNeg) (Int32.toNatClampNeg 6)) ≤ y0 then gd (inb x0 8) (gd (inb 6 10) (some (σ (8 + x0.toNatClampNeg) (Int32.toNatClampNeg 6), σ))) else some (y0, σ))))
def f_X0_payFor (N : Nat) (v0 v1 : Int32) (σ : Mem) : Option (Int32 × Mem) :=
  gd (inb v0 8) (gd (inb 5 10) ((if v1 ≤ (σ (8 + v0.toNatClampNeg) (Int32.toNatClampNeg 5)) then j_X0_payFor_22 N v0 0 σ else gd (inb v0 8) (gd (inb 5 10) (j_X0_payFor_22 N v0 (v1 - (σ (8 + v0.toNatClampNeg) (Int32.toNatClampNeg 5))) σ)))))
-- X6_paid depth 3
def f_X6_paid (N : Nat) (v1 v2 : Int32) (σ : Mem) : Option (Int32 × Mem) :=
  m_bnd (f_X6_coverAt N v1 σ) (fun r1 σ2 => (if r1 < 0 then some ((-1), σ2) else (if v2 = 0 then some ((-1), σ2) else m_bnd (f_X1_hasAll N v2 σ2) (fun r3 σ4 => (if r3 = 0 then some ((-1), σ4) else m_bnd (f_X1_sumOf N v2 σ4) (fun r5 σ6 => gd (inb r1 8) (m_bnd (f_X0_payFor N r1 r5 σ6) (fun r7 σ8 => some (r7, σ8)))))))))
-- X1_has depth 0
def f_X1_has (N : Nat) (v1 : Int32) (σ : Mem) : Option (Int32 × Mem) :=
  (if v1 < 0 then gd (isb 0) (some (0, σ)) else (if (σ 18 6) ≤ v1 then gd (isb 0) (some (0, σ)) else gd (isb 1) (some (1, σ))))
-- X6_put depth 1
def f_X6_put (N : Nat) (v1 v2 : Int32) (σ : Mem) : Option (Int32 × Mem) :=
  m_bnd (f_X1_has N v1 σ) (fun r1 σ2 => (if r1 = 0 then gd (isb 0) (some (0, σ2)) else m_bnd (f_X6_isWithin N v2 0 15 σ2) (fun r3 σ4 => (if r3 = 0 then gd (isb 0) (some (0, σ4)) else gd (inb v1 12) (m_let (mu σ4 32 v1.toNatClampNeg v2) (fun σ5 => gd (isb 1) (some (1, σ5))))))))
-- X5_happeningOf depth 0
def b_X5_happeningOf_4 (N : Nat) (K4 : Int32 → Int32 → Int32 → Mem → Option (Int32 × Mem)) (x1 x2 x3 : Int32) (σ : Mem) : Option (Int32 × Mem) :=
  (if (σ 18 6) ≤ x3 then some (x2, σ) else gd (inb x3 12) (gd (inb x1 12) ((if (σ 32 x3.toNatClampNeg) = (σ 32 x1.toNatClampNeg) then m_leti (x2 ||| (1 <<< (x3 &&& 31))) (fun u1 => K4 x1 u1 (x3 + 1) σ) else K4 x1 x2 (x3 + 1) σ))))
def l_X5_happeningOf_4 (N : Nat) : Nat → Int32 → Int32 → Int32 → Mem → Option (Int32 × Mem)
  | 0, _, _, _, _ => none
   | n + 1, x1, x2, x3, σ => b_X5_happeningOf_4 N (l_X5_happeningOf_4 N n) x1 x2 x3 σ
def f_X5_happeningOf (N : Nat) (v1 : Int32) (σ : Mem) : Option (Int32 × Mem) :=
  l_X5_happeningOf_4 N N v1 0 0 σ
-- X0_overlaps depth 0
def f_X0_overlaps (N : Nat) (v0 : Int32) (σ : Mem) : Option (Int32 × Mem) :=
  gd (inb v0 8) (gd (inb 3 10) ((if (σ (8 + v0.toNatClampNeg) (Int32.toNatClampNeg 3)) = 1 then gd (isb 1) (some (1, σ)) else gd (isb 0) (some (0, σ)))))
-- X1_greatestHourOf depth 1
def b_X1_greatestHourOf_4 (N : Nat) (K4 : Int32 → Int32 → Int32 → Mem → Option (Int32 × Mem)) (x1 x2 x3 : Int32) (σ : Mem) : Option (Int32 × Mem) :=
  (if (σ 18 6) ≤ x3 then some (x2, σ) else m_bnd (f_X1_isIn N x3 x1 σ) (fun r1 σ2 => (if r1 = 0 then K4 x1 x2 (x3 + 1) σ2 else gd (inb x3 12) (m_leti (imax x2 (σ2 27 x3.toNatClampNeg)) (fun u3 => K4 x1 u3 (x3 + 1) σ2)))))
def l_X1_greatestHourOf_4 (N : Nat) : Nat → Int32 → Int32 → Int32 → Mem → Option (Int32 × Mem)
  | 0, _, _, _, _ => none
   | n + 1, x1, x2, x3, σ => b_X1_greatestHourOf_4 N (l_X1_greatestHourOf_4 N n) x1 x2 x3 σ
def f_X1_greatestHourOf (N : Nat) (v1 : Int32) (σ : Mem) : Option (Int32 × Mem) :=
  l_X1_greatestHourOf_4 N N v1 0 0 σ
-- X1_leastHourOf depth 1
def b_X1_leastHourOf_6 (N : Nat) (K6 : Int32 → Int32 → Int32 → Mem → Option (Int32 × Mem)) (x1 x2 x3 : Int32) (σ : Mem) : Option (Int32 × Mem) :=
  (if (σ 18 6) ≤ x3 then some (x2, σ) else m_bnd (f_X1_isIn N x3 x1 σ) (fun r1 σ2 => (if r1 = 0 then K6 x1 x2 (x3 + 1) σ2 else gd (inb x3 12) (m_leti (imin x2 (σ2 27 x3.toNatClampNeg)) (fun u3 => K6 x1 u3 (x3 + 1) σ2)))))
def l_X1_leastHourOf_6 (N : Nat) : Nat → Int32 → Int32 → Int32 → Mem → Option (Int32 × Mem)
  | 0, _, _, _, _ => none
   | n + 1, x1, x2, x3, σ => b_X1_leastHourOf_6 N (l_X1_leastHourOf_6 N n) x1 x2 x3 σ
def f_X1_leastHourOf (N : Nat) (v1 : Int32) (σ : Mem) : Option (Int32 × Mem) :=
  l_X1_leastHourOf_6 N N v1 999 0 σ
-- X5_areTooNear depth 2
def j_X5_areTooNear_26 (N : Nat) (x1 x2 x3 y0 : Int32) (σ : Mem) : Option (Int32 × Mem) :=
  m_bnd (f_X1_greatestHourOf N x2 σ) (fun r1 σ2 => m_bnd (f_X1_leastHourOf N x1 σ2) (fun r3 σ4 => (if r3 ≤ (r1 + x3) then (if y0 = 0 then m_leti 0 (fun u5 => (if u5 = 0 then gd (isb 1) (some (1, σ4)) else gd (isb 0) (some (0, σ4)))) else gd (isb 0) (some (0, σ4))) else (if y0 = 0 then m_leti 1 (fun u6 => (if u6 = 0 then gd (isb 1) (some (1, σ4)) else gd (isb 0) (some (0, σ4)))) else gd (isb 0) (some (0, σ4))))))
def f_X5_areTooNear (N : Nat) (v1 v2 v3 : Int32) (σ : Mem) : Option (Int32 × Mem) :=
  m_bnd (f_X1_greatestHourOf N v1 σ) (fun r1 σ2 => m_bnd (f_X1_leastHourOf N v2 σ2) (fun r3 σ4 => (if r3 ≤ (r1 + v3) then j_X5_areTooNear_26 N v1 v2 v3 0 σ4 else j_X5_areTooNear_26 N v1 v2 v3 1 σ4)))
-- X5_bar depth 3
def f_X5_bar (N : Nat) (v1 v2 v3 : Int32) (σ : Mem) : Option (Int32 × Mem) :=
  gd (inb v2 12) (gd (inb v3 12) ((if (σ 32 v2.toNatClampNeg) = (σ 32 v3.toNatClampNeg) then m_bnd (f_X1_areOne N v1 ((1 <<< (v2 &&& 31)) ||| (1 <<< (v3 &&& 31))) σ) (fun r10 σ11 => (if r10 = 0 then gd (isb 1) (some (1, σ11)) else gd (isb 0) (some (0, σ11)))) else gd (inb v1 8) (m_bnd (f_X0_overlaps N v1 σ) (fun r1 σ2 => (if r1 = 0 then m_bnd (f_X5_happeningOf N v2 σ2) (fun r3 σ4 => m_bnd (f_X5_happeningOf N v3 σ4) (fun r5 σ6 => gd (inb v1 8) (gd (inb 4 10) (m_bnd (f_X5_areTooNear N r3 r5 (σ6 (8 + v1.toNatClampNeg) (Int32.toNatClampNeg 4)) σ6) (fun r8 σ9 => (if r8 = 0 then gd (isb 0) (some (0, σ9)) else gd (isb 1) (some (1, σ9)))))))) else gd (isb 0) (some (0, σ2))))))))
-- X5_firstBar depth 4
def b_X5_firstBar_17 (N : Nat) (K2 : Int32 → Int32 → Mem → Option (Int32 × Mem)) (K17 : Int32 → Int32 → Int32 → Mem → Option (Int32 × Mem)) (x1 x2 x3 : Int32) (σ : Mem) : Option (Int32 × Mem) :=
  (if (σ 18 6) ≤ x3 then K2 x1 (x2 + 1) σ else m_bnd (f_X5_bar N x1 x2 x3 σ) (fun r1 σ2 => (if r1 = 0 then K17 x1 x2 (x3 + 1) σ2 else some ((16 * x2) + x3, σ2))))
def l_X5_firstBar_17 (N : Nat) (K2 : Int32 → Int32 → Mem → Option (Int32 × Mem)) : Nat → Int32 → Int32 → Int32 → Mem → Option (Int32 × Mem)
  | 0, _, _, _, _ => none
   | n + 1, x1, x2, x3, σ => b_X5_firstBar_17 N K2 (l_X5_firstBar_17 N K2 n) x1 x2 x3 σ
def b_X5_firstBar_59 (N : Nat) (K59 : Int32 → Int32 → Mem → Option (Int32 × Mem)) (x1 x2 : Int32) (σ : Mem) : Option (Int32 × Mem) :=
  (if (σ 18 6) ≤ x2 then some ((-1), σ) else m_bnd (f_X5_happeningOf N x2 σ) (fun r1 σ2 => m_bnd (f_X1_areOne N x1 r1 σ2) (fun r3 σ4 => (if r3 = 0 then m_bnd (f_J6_numberOfTrailingZeros_0f7a4 N (r1 &&& ((1 <<< (x2 &&& 31)) ^^^ (-1))) σ4) (fun r5 σ6 => some ((16 * x2) + r5, σ6)) else K59 x1 (x2 + 1) σ4))))
def l_X5_firstBar_59 (N : Nat) : Nat → Int32 → Int32 → Mem → Option (Int32 × Mem)
  | 0, _, _, _ => none
   | n + 1, x1, x2, σ => b_X5_firstBar_59 N (l_X5_firstBar_59 N n) x1 x2 σ
def b_X5_firstBar_2 (N : Nat) (K2 : Int32 → Int32 → Mem → Option (Int32 × Mem)) (x1 x2 : Int32) (σ : Mem) : Option (Int32 × Mem) :=
  (if (σ 18 6) ≤ x2 then l_X5_firstBar_59 N N x1 0 σ else m_leti (x2 + 1) (fun u1 => l_X5_firstBar_17 N K2 N x1 x2 u1 σ))
def l_X5_firstBar_2 (N : Nat) : Nat → Int32 → Int32 → Mem → Option (Int32 × Mem)
  | 0, _, _, _ => none
   | n + 1, x1, x2, σ => b_X5_firstBar_2 N (l_X5_firstBar_2 N n) x1 x2 σ
def f_X5_firstBar (N : Nat) (v1 : Int32) (σ : Mem) : Option (Int32 × Mem) :=
  l_X5_firstBar_2 N N v1 0 σ
-- X6_judge depth 5
def f_X6_judge (N : Nat) (v1 : Int32) (σ : Mem) : Option (Int32 × Mem) :=
  m_bnd (f_X6_coverAt N v1 σ) (fun r1 σ2 => (if r1 < 0 then some ((-1), σ2) else m_bnd (f_X5_firstBar N r1 σ2) (fun r3 σ4 => some (r3, σ4))))
-- X1_putInRow_33 depth 1
def j_X1_putInRow_33_77 (N : Nat) (K5 : Int32 → Int32 → Int32 → Mem → Option (Int32 × Mem)) (x1 x3 x4 x5 : Int32) (σ : Mem) : Option (Int32 × Mem) :=
  gd (inb x5 12) (m_let (mu σ 33 x5.toNatClampNeg x4) (fun σ1 => K5 x1 (x3 + 1) (x4 + 1) σ1))
def b_X1_putInRow_33_35 (N : Nat) (K5 : Int32 → Int32 → Int32 → Mem → Option (Int32 × Mem)) (K35 : Int32 → Int32 → Int32 → Int32 → Mem → Option (Int32 × Mem)) (x1 x3 x4 x5 : Int32) (σ : Mem) : Option (Int32 × Mem) :=
  (if x5 ≤ 0 then j_X1_putInRow_33_77 N K5 x1 x3 x4 x5 σ else gd (inb (x5 - 1) 12) (gd (inb (σ 33 (x5 - 1).toNatClampNeg) 12) (gd (inb x4 12) ((if (σ 27 (σ 33 (x5 - 1).toNatClampNeg).toNatClampNeg) ≤ (σ 27 x4.toNatClampNeg) then j_X1_putInRow_33_77 N K5 x1 x3 x4 x5 σ else gd (inb (x5 - 1) 12) (gd (inb x5 12) (m_let (mu σ 33 x5.toNatClampNeg (σ 33 (x5 - 1).toNatClampNeg)) (fun σ1 => K35 x1 x3 x4 (x5 + (-1)) σ1))))))))
def l_X1_putInRow_33_35 (N : Nat) (K5 : Int32 → Int32 → Int32 → Mem → Option (Int32 × Mem)) : Nat → Int32 → Int32 → Int32 → Int32 → Mem → Option (Int32 × Mem)
  | 0, _, _, _, _, _ => none
   | n + 1, x1, x3, x4, x5, σ => b_X1_putInRow_33_35 N K5 (l_X1_putInRow_33_35 N K5 n) x1 x3 x4 x5 σ
def b_X1_putInRow_33_5 (N : Nat) (K5 : Int32 → Int32 → Int32 → Mem → Option (Int32 × Mem)) (x1 x3 x4 : Int32) (σ : Mem) : Option (Int32 × Mem) :=
  (if (σ 18 6) ≤ x4 then some (x3, σ) else (if (nI 12) ≤ x3 then some (x3, σ) else m_bnd (f_X1_isIn N x4 x1 σ) (fun r1 σ2 => (if r1 = 0 then K5 x1 x3 (x4 + 1) σ2 else l_X1_putInRow_33_35 N K5 N x1 x3 x4 x3 σ2))))
def l_X1_putInRow_33_5 (N : Nat) : Nat → Int32 → Int32 → Int32 → Mem → Option (Int32 × Mem)
  | 0, _, _, _, _ => none
   | n + 1, x1, x3, x4, σ => b_X1_putInRow_33_5 N (l_X1_putInRow_33_5 N n) x1 x3 x4 σ
def f_X1_putInRow_33 (N : Nat) (v1 : Int32) (σ : Mem) : Option (Int32 × Mem) :=
  l_X1_putInRow_33_5 N N v1 0 0 σ
-- X5_reckon depth 3
def b_X5_reckon_39 (N : Nat) (K39 : Int32 → Int32 → Int32 → Int32 → Mem → Option (Int32 × Mem)) (x1 x2 x3 x4 : Int32) (σ : Mem) : Option (Int32 × Mem) :=
  (if x2 ≤ x4 then some (0, σ) else gd (inb x4 12) (m_bnd (f_X1_isIn N (σ 33 x4.toNatClampNeg) x3 σ) (fun r1 σ2 => (if r1 = 0 then gd (inb x4 12) (m_bnd (f_X5_happeningOf N (σ2 33 x4.toNatClampNeg) σ2) (fun r3 σ4 => m_leti (x3 ||| r3) (fun u5 => m_let (mu σ4 19 1 ((σ4 19 1) + 1)) (fun σ6 => m_bnd (f_X1_sumOf N r3 σ6) (fun r7 σ8 => gd (inb x1 8) (m_bnd (f_X0_payFor N x1 r7 σ8) (fun r9 σ10 => (if r9 ≤ 0 then K39 x1 x2 u5 (x4 + 1) σ10 else gd (inb x1 8) (gd (inb 7 10) ((if (σ10 (8 + x1.toNatClampNeg) (Int32.toNatClampNeg 7)) ≤ (σ10 19 2) then K39 x1 x2 u5 (x4 + 1) σ10 else m_let (mu σ10 19 2 ((σ10 19 2) + 1)) (fun σ12 => m_let (mu σ12 19 3 ((σ12 19 3) + r9)) (fun σ13 => K39 x1 x2 u5 (x4 + 1) σ13))))))))))))) else K39 x1 x2 x3 (x4 + 1) σ2))))
def l_X5_reckon_39 (N : Nat) : Nat → Int32 → Int32 → Int32 → Int32 → Mem → Option (Int32 × Mem)
  | 0, _, _, _, _, _ => none
   | n + 1, x1, x2, x3, x4, σ => b_X5_reckon_39 N (l_X5_reckon_39 N n) x1 x2 x3 x4 σ
def f_X5_reckon (N : Nat) (v1 : Int32) (σ : Mem) : Option (Int32 × Mem) :=
  m_bnd (f_X1_all N σ) (fun r1 σ2 => m_bnd (f_X1_putInRow_33 N r1 σ2) (fun r3 σ4 => m_let (mu σ4 19 1 0) (fun σ5 => m_let (mu σ5 19 2 0) (fun σ6 => m_let (mu σ6 19 3 0) (fun σ7 => l_X5_reckon_39 N N v1 r3 0 0 σ7)))))
-- X0_share depth 0
def f_X0_share (N : Nat) (v0 : Int32) (σ : Mem) : Option (Int32 × Mem) :=
  gd (inb v0 8) (gd (inb 8 10) (some (100 - (σ (8 + v0.toNatClampNeg) (Int32.toNatClampNeg 8)), σ)))
-- X0_bringFor depth 1
def f_X0_bringFor (N : Nat) (v0 v1 : Int32) (σ : Mem) : Option (Int32 × Mem) :=
  gd (inb v0 8) (m_bnd (f_X0_share N v0 σ) (fun r1 σ2 => some (v1 * r1, σ2)))
-- X0_netOf depth 1
def j_X0_netOf_16 (N : Nat) (x0 x1 y0 : Int32) (σ : Mem) : Option (Int32 × Mem) :=
  gd (inb x0 8) (gd (inb 6 10) (gd (inb x0 8) (gd (inb 7 10) (m_leti (imin y0 ((σ (8 + x0.toNatClampNeg) (Int32.toNatClampNeg 6)) * ((σ (8 + x0.toNatClampNeg) (Int32.toNatClampNeg 7)) - 1))) (fun u3 => gd (inb x0 8) (gd (inb 6 10) (gd (inb x0 8) (gd (inb 9 10) (some ((x1 * (σ (8 + x0.toNatClampNeg) (Int32.toNatClampNeg 6))) - ((100 * (σ (8 + x0.toNatClampNeg) (Int32.toNatClampNeg 9))) * u3), σ))))))))))
def f_X0_netOf (N : Nat) (v0 v1 : Int32) (σ : Mem) : Option (Int32 × Mem) :=
  gd (inb v0 8) (m_bnd (f_X0_share N v0 σ) (fun r1 σ2 => (if r1 ≤ 0 then j_X0_netOf_16 N v0 v1 0 σ2 else gd (decide (¬ r1 = 0)) (j_X0_netOf_16 N v0 v1 (v1 / r1) σ2))))
-- X6_brings depth 5
def f_X6_brings (N : Nat) (v1 v2 : Int32) (σ : Mem) : Option (Int32 × Mem) :=
  m_bnd (f_X6_coverAt N v1 σ) (fun r1 σ2 => (if r1 < 0 then some ((-100000000), σ2) else m_bnd (f_X6_isWithin N v2 0 3 σ2) (fun r3 σ4 => (if r3 = 0 then some ((-100000000), σ4) else m_bnd (f_X5_firstBar N r1 σ4) (fun r5 σ6 => (if r5 = (-1) then m_bnd (f_X5_reckon N r1 σ6) (fun r7 σ8 => (if v2 = 2 then some (σ8 19 1, σ8) else (if v2 = 3 then some (σ8 19 2, σ8) else gd (inb r1 8) (m_bnd (f_X0_bringFor N r1 (σ8 19 3) σ8) (fun r9 σ10 => (if v2 = 0 then some (r9, σ10) else gd (inb r1 8) (m_bnd (f_X0_netOf N r1 r9 σ10) (fun r11 σ12 => some (r11, σ12))))))))) else some ((-100000000), σ6)))))))
-- X6_year depth 3
def f_X6_year (N : Nat) (v1 v2 v3 : Int32) (σ : Mem) : Option (Int32 × Mem) :=
  m_bnd (f_X1_has N v1 σ) (fun r1 σ2 => (if r1 = 0 then some ((-1), σ2) else m_bnd (f_X6_isWithin N v2 0 999 σ2) (fun r3 σ4 => (if r3 = 0 then some ((-1), σ4) else m_bnd (f_X5_happeningOf N v1 σ4) (fun r5 σ6 => (if v3 = 0 then m_bnd (f_X1_leastHourOf N r5 σ6) (fun r11 σ12 => (if v2 ≤ r11 then some (1, σ12) else some (0, σ12))) else m_bnd (f_X1_sumBefore N r5 v2 σ6) (fun r7 σ8 => m_bnd (f_X1_sumOf N r5 σ8) (fun r9 σ10 => (if r7 < (r9 - r7) then some (1, σ10) else some (0, σ10))))))))))
-- X2_clear depth 0
def f_X2_clear (N : Nat) (σ : Mem) : Option (Int32 × Mem) :=
  m_let (mu σ 21 5 0) (fun σ1 => some (0, σ1))
-- X3_startJoining depth 1
def f_X3_startJoining (N : Nat) (σ : Mem) : Option (Int32 × Mem) :=
  m_bnd (f_X2_clear N σ) (fun r1 σ2 => some (0, σ2))
-- X2_isEmpty depth 0
def f_X2_isEmpty (N : Nat) (σ : Mem) : Option (Int32 × Mem) :=
  (if (σ 21 5) = 0 then gd (isb 1) (some (1, σ)) else gd (isb 0) (some (0, σ)))
-- X0_narrowBy depth 1
def j_X0_narrowBy_121 (N : Nat) (x0 x1 x2 x3 x4 : Int32) (σ : Mem) : Option (Int32 × Mem) :=
  gd (inb x0 8) (gd (inb x0 8) (gd (inb 2 10) (gd (inb x1 8) (gd (inb 2 10) (gd (inb 2 10) (m_let (mu σ (8 + x0.toNatClampNeg) (Int32.toNatClampNeg 2) (imax (σ (8 + x0.toNatClampNeg) (Int32.toNatClampNeg 2)) (σ (8 + x1.toNatClampNeg) (Int32.toNatClampNeg 2)))) (fun σ4 => gd (inb x0 8) ((if x2 = 0 then gd (inb 3 10) (m_let (mu σ4 (8 + x0.toNatClampNeg) (Int32.toNatClampNeg 3) 0) (fun σ6 => gd (inb x0 8) (gd (inb 4 10) (m_let (mu σ6 (8 + x0.toNatClampNeg) (Int32.toNatClampNeg 4) (imax x3 x4)) (fun σ8 => some (0, σ8)))))) else gd (inb 3 10) (m_let (mu σ4 (8 + x0.toNatClampNeg) (Int32.toNatClampNeg 3) 1) (fun σ9 => gd (inb x0 8) (gd (inb 4 10) (m_let (mu σ9 (8 + x0.toNatClampNeg) (Int32.toNatClampNeg 4) (imax x3 x4)) (fun σ11 => some (0, σ11)))))))))))))))
def j_X0_narrowBy_113 (N : Nat) (x0 x1 x2 x3 x4 x6 : Int32) (σ : Mem) : Option (Int32 × Mem) :=
  gd (inb x0 8) (gd (inb 1 10) (m_let (mu σ (8 + x0.toNatClampNeg) (Int32.toNatClampNeg 1) x6) (fun σ2 => j_X0_narrowBy_121 N x0 x1 x2 x3 x4 σ2)))
def j_X0_narrowBy_55 (N : Nat) (x0 x1 x2 x3 y0 : Int32) (σ : Mem) : Option (Int32 × Mem) :=
  gd (inb x0 8) (gd (inb 1 10) (m_leti (σ (8 + x0.toNatClampNeg) (Int32.toNatClampNeg 1)) (fun u2 => gd (inb x1 8) (gd (inb 1 10) (m_leti (σ (8 + x1.toNatClampNeg) (Int32.toNatClampNeg 1)) (fun u4 => gd (inb x0 8) (gd (inb x0 8) (gd (inb 0 10) (gd (inb x1 8) (gd (inb 0 10) (gd (inb 0 10) (m_let (mu σ (8 + x0.toNatClampNeg) (Int32.toNatClampNeg 0) (imin (σ (8 + x0.toNatClampNeg) (Int32.toNatClampNeg 0)) (σ (8 + x1.toNatClampNeg) (Int32.toNatClampNeg 0)))) (fun σ8 => (if u2 = (-1) then j_X0_narrowBy_113 N x0 x1 x2 x3 y0 u4 σ8 else (if u4 = (-1) then j_X0_narrowBy_121 N x0 x1 x2 x3 y0 σ8 else (if u2 ≤ u4 then j_X0_narrowBy_121 N x0 x1 x2 x3 y0 σ8 else j_X0_narrowBy_113 N x0 x1 x2 x3 y0 u4 σ8))))))))))))))))
def j_X0_narrowBy_37 (N : Nat) (x0 x1 x2 y0 : Int32) (σ : Mem) : Option (Int32 × Mem) :=
  gd (inb x1 8) (m_bnd (f_X0_overlaps N x1 σ) (fun r1 σ2 => (if r1 = 0 then gd (inb x1 8) (gd (inb 4 10) (j_X0_narrowBy_55 N x0 x1 x2 y0 (σ2 (8 + x1.toNatClampNeg) (Int32.toNatClampNeg 4)) σ2)) else j_X0_narrowBy_55 N x0 x1 x2 y0 0 σ2)))
def j_X0_narrowBy_19 (N : Nat) (x0 x1 y0 : Int32) (σ : Mem) : Option (Int32 × Mem) :=
  gd (inb x0 8) (m_bnd (f_X0_overlaps N x0 σ) (fun r1 σ2 => (if r1 = 0 then gd (inb x0 8) (gd (inb 4 10) (j_X0_narrowBy_37 N x0 x1 y0 (σ2 (8 + x0.toNatClampNeg) (Int32.toNatClampNeg 4)) σ2)) else j_X0_narrowBy_37 N x0 x1 y0 0 σ2)))
def j_X0_narrowBy_18 (N : Nat) (x0 x1 : Int32) (σ : Mem) : Option (Int32 × Mem) :=
  j_X0_narrowBy_19 N x0 x1 0 σ
def f_X0_narrowBy (N : Nat) (v0 v1 : Int32) (σ : Mem) : Option (Int32 × Mem) :=
  gd (inb v0 8) (m_bnd (f_X0_overlaps N v0 σ) (fun r1 σ2 => (if r1 = 0 then j_X0_narrowBy_18 N v0 v1 σ2 else gd (inb v1 8) (m_bnd (f_X0_overlaps N v1 σ2) (fun r3 σ4 => (if r3 = 0 then j_X0_narrowBy_18 N v0 v1 σ4 else j_X0_narrowBy_19 N v0 v1 1 σ4))))))
-- X2_join depth 1
def f_X2_join (N : Nat) (v1 : Int32) (σ : Mem) : Option (Int32 × Mem) :=
  (if 6 ≤ (σ 21 5) then some (0, σ) else gd (inb (σ 21 5) 6) (gd (inb v1 8) (m_let (mu σ 42 (σ 21 5).toNatClampNeg v1) (fun σ1 => gd (inb v1 8) (gd (inb 7 10) (gd (inb (σ1 21 5) 6) (m_let (mu σ1 39 (σ1 21 5).toNatClampNeg (σ1 (8 + v1.toNatClampNeg) (Int32.toNatClampNeg 7))) (fun σ3 => gd (inb v1 8) (m_bnd (f_X0_share N v1 σ3) (fun r4 σ5 => gd (inb (σ3 21 5) 6) (m_let (mu σ5 40 (σ3 21 5).toNatClampNeg r4) (fun σ6 => gd (inb (σ6 21 5) 78) (m_let (mu σ6 41 (σ6 21 5).toNatClampNeg 0) (fun σ7 => m_let (mu σ7 21 5 ((σ7 21 5) + 1)) (fun σ8 => some (0, σ8))))))))))))))))
-- X3_join depth 2
def j_X3_join_29 (N : Nat) (x1 : Int32) (σ : Mem) : Option (Int32 × Mem) :=
  m_bnd (f_X2_join N x1 σ) (fun r1 σ2 => some (0, σ2))
def f_X3_join (N : Nat) (v1 : Int32) (σ : Mem) : Option (Int32 × Mem) :=
  m_bnd (f_X2_isEmpty N σ) (fun r1 σ2 => (if r1 = 0 then gd (inb (σ2 20 6) 8) (m_bnd (f_X0_narrowBy N (σ2 20 6) v1 σ2) (fun r3 σ4 => j_X3_join_29 N v1 σ4)) else gd (inb (σ2 20 6) 8) (m_bnd (f_X0_copyFrom N (σ2 20 6) v1 σ2) (fun r5 σ6 => j_X3_join_29 N v1 σ6))))
-- X3_isToldFor depth 1
def f_X3_isToldFor (N : Nat) (v0 v1 : Int32) (σ : Mem) : Option (Int32 × Mem) :=
  gd (inb v0 8) (m_bnd (f_X0_overlaps N v0 σ) (fun r1 σ2 => (if r1 = 0 then gd (isb 1) (some (1, σ2)) else m_bnd (f_J6_bitCount_0f7a4 N v1 σ2) (fun r3 σ4 => (if 8 < r3 then gd (isb 0) (some (0, σ4)) else gd (isb 1) (some (1, σ4)))))))
-- X1_putInRow_34 depth 1
def j_X1_putInRow_34_77 (N : Nat) (K5 : Int32 → Int32 → Int32 → Mem → Option (Int32 × Mem)) (x1 x3 x4 x5 : Int32) (σ : Mem) : Option (Int32 × Mem) :=
  gd (inb x5 12) (m_let (mu σ 34 x5.toNatClampNeg x4) (fun σ1 => K5 x1 (x3 + 1) (x4 + 1) σ1))
def b_X1_putInRow_34_35 (N : Nat) (K5 : Int32 → Int32 → Int32 → Mem → Option (Int32 × Mem)) (K35 : Int32 → Int32 → Int32 → Int32 → Mem → Option (Int32 × Mem)) (x1 x3 x4 x5 : Int32) (σ : Mem) : Option (Int32 × Mem) :=
  (if x5 ≤ 0 then j_X1_putInRow_34_77 N K5 x1 x3 x4 x5 σ else gd (inb (x5 - 1) 12) (gd (inb (σ 34 (x5 - 1).toNatClampNeg) 12) (gd (inb x4 12) ((if (σ 27 (σ 34 (x5 - 1).toNatClampNeg).toNatClampNeg) ≤ (σ 27 x4.toNatClampNeg) then j_X1_putInRow_34_77 N K5 x1 x3 x4 x5 σ else gd (inb (x5 - 1) 12) (gd (inb x5 12) (m_let (mu σ 34 x5.toNatClampNeg (σ 34 (x5 - 1).toNatClampNeg)) (fun σ1 => K35 x1 x3 x4 (x5 + (-1)) σ1))))))))
def l_X1_putInRow_34_35 (N : Nat) (K5 : Int32 → Int32 → Int32 → Mem → Option (Int32 × Mem)) : Nat → Int32 → Int32 → Int32 → Int32 → Mem → Option (Int32 × Mem)
  | 0, _, _, _, _, _ => none
   | n + 1, x1, x3, x4, x5, σ => b_X1_putInRow_34_35 N K5 (l_X1_putInRow_34_35 N K5 n) x1 x3 x4 x5 σ
def b_X1_putInRow_34_5 (N : Nat) (K5 : Int32 → Int32 → Int32 → Mem → Option (Int32 × Mem)) (x1 x3 x4 : Int32) (σ : Mem) : Option (Int32 × Mem) :=
  (if (σ 18 6) ≤ x4 then some (x3, σ) else (if (nI 12) ≤ x3 then some (x3, σ) else m_bnd (f_X1_isIn N x4 x1 σ) (fun r1 σ2 => (if r1 = 0 then K5 x1 x3 (x4 + 1) σ2 else l_X1_putInRow_34_35 N K5 N x1 x3 x4 x3 σ2))))
def l_X1_putInRow_34_5 (N : Nat) : Nat → Int32 → Int32 → Int32 → Mem → Option (Int32 × Mem)
  | 0, _, _, _, _ => none
   | n + 1, x1, x3, x4, σ => b_X1_putInRow_34_5 N (l_X1_putInRow_34_5 N n) x1 x3 x4 σ
def f_X1_putInRow_34 (N : Nat) (v1 : Int32) (σ : Mem) : Option (Int32 × Mem) :=
  l_X1_putInRow_34_5 N N v1 0 0 σ
-- X3_seeWhoIsNear depth 2
def b_X3_seeWhoIsNear_19 (N : Nat) (K2 : Int32 → Mem → Option (Int32 × Mem)) (K19 : Int32 → Int32 → Mem → Option (Int32 × Mem)) (x1 x2 : Int32) (σ : Mem) : Option (Int32 × Mem) :=
  (if (σ 20 12) ≤ x2 then K2 (x1 + 1) σ else gd (inb x1 12) (gd (inb x2 12) (m_bnd (f_X1_areNear N (σ 20 6) (σ 34 x1.toNatClampNeg) (σ 34 x2.toNatClampNeg) σ) (fun r1 σ2 => (if r1 = 0 then K19 x1 (x2 + 1) σ2 else gd (inb x1 12) (gd (inb x1 12) (m_let (mu σ2 35 x1.toNatClampNeg ((σ2 35 x1.toNatClampNeg) ||| (1 <<< (x2 &&& 31)))) (fun σ3 => K19 x1 (x2 + 1) σ3))))))))
def l_X3_seeWhoIsNear_19 (N : Nat) (K2 : Int32 → Mem → Option (Int32 × Mem)) : Nat → Int32 → Int32 → Mem → Option (Int32 × Mem)
  | 0, _, _, _ => none
   | n + 1, x1, x2, σ => b_X3_seeWhoIsNear_19 N K2 (l_X3_seeWhoIsNear_19 N K2 n) x1 x2 σ
def b_X3_seeWhoIsNear_2 (N : Nat) (K2 : Int32 → Mem → Option (Int32 × Mem)) (x1 : Int32) (σ : Mem) : Option (Int32 × Mem) :=
  (if (σ 20 12) ≤ x1 then some (0, σ) else gd (inb x1 12) (m_let (mu σ 35 x1.toNatClampNeg 0) (fun σ1 => l_X3_seeWhoIsNear_19 N K2 N x1 0 σ1)))
def l_X3_seeWhoIsNear_2 (N : Nat) : Nat → Int32 → Mem → Option (Int32 × Mem)
  | 0, _, _ => none
   | n + 1, x1, σ => b_X3_seeWhoIsNear_2 N (l_X3_seeWhoIsNear_2 N n) x1 σ
def f_X3_seeWhoIsNear (N : Nat) (σ : Mem) : Option (Int32 × Mem) :=
  l_X3_seeWhoIsNear_2 N N 0 σ
-- X2_price depth 1
def b_X2_price_2 (N : Nat) (K2 : Int32 → Int32 → Int32 → Mem → Option (Int32 × Mem)) (x1 x2 x3 : Int32) (σ : Mem) : Option (Int32 × Mem) :=
  (if (σ 21 5) ≤ x3 then some (0, σ) else gd (inb x3 6) ((if (σ 42 x3.toNatClampNeg) < 0 then K2 x1 x2 (x3 + 1) σ else gd (inb (σ 42 x3.toNatClampNeg) 8) (m_bnd (f_X0_payFor N (σ 42 x3.toNatClampNeg) x2 σ) (fun r1 σ2 => gd (inb ((x3 * 256) + x1) 1536) (m_let (mu σ2 38 ((x3 * 256) + x1).toNatClampNeg r1) (fun σ3 => K2 x1 x2 (x3 + 1) σ3)))))))
def l_X2_price_2 (N : Nat) : Nat → Int32 → Int32 → Int32 → Mem → Option (Int32 × Mem)
  | 0, _, _, _, _ => none
   | n + 1, x1, x2, x3, σ => b_X2_price_2 N (l_X2_price_2 N n) x1 x2 x3 σ
def f_X2_price (N : Nat) (v1 v2 : Int32) (σ : Mem) : Option (Int32 × Mem) :=
  l_X2_price_2 N N v1 v2 0 σ
-- X3_priceHappenings depth 2
def b_X3_priceHappenings_14 (N : Nat) (K2 : Int32 → Mem → Option (Int32 × Mem)) (K14 : Int32 → Int32 → Int32 → Mem → Option (Int32 × Mem)) (x1 x2 x3 : Int32) (σ : Mem) : Option (Int32 × Mem) :=
  (if (σ 20 12) ≤ x3 then m_bnd (f_X2_price N x1 x2 σ) (fun r1 σ2 => K2 (x1 + 1) σ2) else gd (inb x1 256) ((if ((σ 36 x1.toNatClampNeg) &&& (1 <<< (x3 &&& 31))) = 0 then K14 x1 x2 (x3 + 1) σ else gd (inb x3 12) (gd (inb (σ 34 x3.toNatClampNeg) 12) (m_leti (x2 + (σ 26 (σ 34 x3.toNatClampNeg).toNatClampNeg)) (fun u3 => K14 x1 u3 (x3 + 1) σ))))))
def l_X3_priceHappenings_14 (N : Nat) (K2 : Int32 → Mem → Option (Int32 × Mem)) : Nat → Int32 → Int32 → Int32 → Mem → Option (Int32 × Mem)
  | 0, _, _, _, _ => none
   | n + 1, x1, x2, x3, σ => b_X3_priceHappenings_14 N K2 (l_X3_priceHappenings_14 N K2 n) x1 x2 x3 σ
def b_X3_priceHappenings_2 (N : Nat) (K2 : Int32 → Mem → Option (Int32 × Mem)) (x1 : Int32) (σ : Mem) : Option (Int32 × Mem) :=
  (if (σ 20 13) ≤ x1 then some (0, σ) else l_X3_priceHappenings_14 N K2 N x1 0 0 σ)
def l_X3_priceHappenings_2 (N : Nat) : Nat → Int32 → Mem → Option (Int32 × Mem)
  | 0, _, _ => none
   | n + 1, x1, σ => b_X3_priceHappenings_2 N (l_X3_priceHappenings_2 N n) x1 σ
def f_X3_priceHappenings (N : Nat) (σ : Mem) : Option (Int32 × Mem) :=
  l_X3_priceHappenings_2 N N 0 σ
-- X3_note depth 0
def j_X3_note_72 (N : Nat) (x1 x2 : Int32) (σ : Mem) : Option (Int32 × Mem) :=
  m_let (mu σ 20 1 x1) (fun σ1 => m_let (mu σ1 20 3 x2) (fun σ2 => gd (isb 1) (m_let (mu σ2 20 4 1) (fun σ3 => some (0, σ3)))))
def j_X3_note_31 (N : Nat) (x1 x2 : Int32) (σ : Mem) : Option (Int32 × Mem) :=
  m_let (mu σ 20 0 x1) (fun σ1 => m_let (mu σ1 20 2 x2) (fun σ2 => (if (σ2 20 4) = 0 then j_X3_note_72 N x1 x2 σ2 else (if x1 < (σ2 20 1) then j_X3_note_72 N x1 x2 σ2 else (if x1 = (σ2 20 1) then (if (σ2 20 3) ≤ x2 then gd (isb 1) (m_let (mu σ2 20 4 1) (fun σ4 => some (0, σ4))) else j_X3_note_72 N x1 x2 σ2) else gd (isb 1) (m_let (mu σ2 20 4 1) (fun σ3 => some (0, σ3))))))))
def f_X3_note (N : Nat) (v1 v2 : Int32) (σ : Mem) : Option (Int32 × Mem) :=
  (if (σ 20 4) = 0 then j_X3_note_31 N v1 v2 σ else (if (σ 20 0) < v1 then j_X3_note_31 N v1 v2 σ else (if v1 = (σ 20 0) then (if (σ 20 2) ≤ v2 then (if (σ 20 4) = 0 then j_X3_note_72 N v1 v2 σ else (if v1 < (σ 20 1) then j_X3_note_72 N v1 v2 σ else (if v1 = (σ 20 1) then (if (σ 20 3) ≤ v2 then gd (isb 1) (m_let (mu σ 20 4 1) (fun σ4 => some (0, σ4))) else j_X3_note_72 N v1 v2 σ) else gd (isb 1) (m_let (mu σ 20 4 1) (fun σ3 => some (0, σ3)))))) else j_X3_note_31 N v1 v2 σ) else (if (σ 20 4) = 0 then j_X3_note_72 N v1 v2 σ else (if v1 < (σ 20 1) then j_X3_note_72 N v1 v2 σ else (if v1 = (σ 20 1) then (if (σ 20 3) ≤ v2 then gd (isb 1) (m_let (mu σ 20 4 1) (fun σ2 => some (0, σ2))) else j_X3_note_72 N v1 v2 σ) else gd (isb 1) (m_let (mu σ 20 4 1) (fun σ1 => some (0, σ1)))))))))
-- X2_bringFor depth 0
def j_X2_bringFor_86 (N : Nat) (K5 : Int32 → Int32 → Int32 → Int32 → Mem → Option (Int32 × Mem)) (x1 x2 x3 x4 x6 y0 y1 : Int32) (σ : Mem) : Option (Int32 × Mem) :=
  gd (inb y1 78) (m_let (mu σ 41 y1.toNatClampNeg y0) (fun σ1 => gd (inb x4 6) (m_leti (x3 + (x6 * (σ1 40 x4.toNatClampNeg))) (fun u2 => K5 x1 x2 u2 (x4 + 1) σ1))))
def j_X2_bringFor_57 (N : Nat) (K5 : Int32 → Int32 → Int32 → Int32 → Mem → Option (Int32 × Mem)) (x1 x2 x3 x4 x5 y0 : Int32) (σ : Mem) : Option (Int32 × Mem) :=
  (if y0 ≤ 0 then j_X2_bringFor_86 N K5 x1 x2 x3 x4 y0 x5 (((x2 + 1) * 6) + x4) σ else j_X2_bringFor_86 N K5 x1 x2 x3 x4 y0 (x5 + 1) (((x2 + 1) * 6) + x4) σ)
def b_X2_bringFor_5 (N : Nat) (K5 : Int32 → Int32 → Int32 → Int32 → Mem → Option (Int32 × Mem)) (x1 x2 x3 x4 : Int32) (σ : Mem) : Option (Int32 × Mem) :=
  (if (σ 21 5) ≤ x4 then some (x3, σ) else gd (inb ((x2 * 6) + x4) 78) (m_leti (σ 41 ((x2 * 6) + x4).toNatClampNeg) (fun u1 => gd (inb x4 6) ((if (σ 39 x4.toNatClampNeg) ≤ u1 then j_X2_bringFor_57 N K5 x1 x2 x3 x4 u1 0 σ else gd (inb ((x4 * 256) + x1) 1536) (j_X2_bringFor_57 N K5 x1 x2 x3 x4 u1 (σ 38 ((x4 * 256) + x1).toNatClampNeg) σ))))))
def l_X2_bringFor_5 (N : Nat) : Nat → Int32 → Int32 → Int32 → Int32 → Mem → Option (Int32 × Mem)
  | 0, _, _, _, _, _ => none
   | n + 1, x1, x2, x3, x4, σ => b_X2_bringFor_5 N (l_X2_bringFor_5 N n) x1 x2 x3 x4 σ
def f_X2_bringFor (N : Nat) (v1 v2 : Int32) (σ : Mem) : Option (Int32 × Mem) :=
  l_X2_bringFor_5 N N v1 v2 0 0 σ
-- X3_part depth 1
def b_X3_part_53 (N : Nat) (rec : Int32 → Int32 → Int32 → Mem → Option (Int32 × Mem)) (K53 : Int32 → Int32 → Int32 → Int32 → Int32 → Mem → Option (Int32 × Mem)) (x1 x2 x3 x5 x6 : Int32) (σ : Mem) : Option (Int32 × Mem) :=
  (if x5 ≤ x6 then some (0, σ) else gd (inb x6 256) (m_leti (σ 36 x6.toNatClampNeg) (fun u1 => (if (u1 &&& (x1 ^^^ (-1))) = 0 then m_bnd (f_X2_bringFor N x6 x2 σ) (fun r2 σ3 => m_bnd (rec (x1 ^^^ u1) (x2 + 1) (x3 + r2) σ3) (fun r4 σ5 => K53 x1 x2 x3 x5 (x6 + 1) σ5)) else K53 x1 x2 x3 x5 (x6 + 1) σ))))
def l_X3_part_53 (N : Nat) (rec : Int32 → Int32 → Int32 → Mem → Option (Int32 × Mem)) : Nat → Int32 → Int32 → Int32 → Int32 → Int32 → Mem → Option (Int32 × Mem)
  | 0, _, _, _, _, _, _ => none
   | n + 1, x1, x2, x3, x5, x6, σ => b_X3_part_53 N rec (l_X3_part_53 N rec n) x1 x2 x3 x5 x6 σ
def fb_X3_part (N : Nat) (rec : Int32 → Int32 → Int32 → Mem → Option (Int32 × Mem)) (v1 v2 v3 : Int32) (σ : Mem) : Option (Int32 × Mem) :=
  (if v1 = 0 then m_bnd (f_X3_note N v3 v2 σ) (fun r5 σ6 => some (0, σ6)) else m_bnd (f_J6_numberOfTrailingZeros_0f7a4 N v1 σ) (fun r1 σ2 => (if 12 ≤ v2 then some (0, σ2) else (if r1 < (σ2 20 12) then gd (inb (r1 + 1) 13) (m_leti (σ2 37 (r1 + 1).toNatClampNeg) (fun u3 => gd (inb r1 13) (m_leti (σ2 37 r1.toNatClampNeg) (fun u4 => l_X3_part_53 N rec N v1 v2 v3 u3 u4 σ2)))) else some (0, σ2)))))
def f_X3_part (N : Nat) : Nat → Int32 → Int32 → Int32 → Mem → Option (Int32 × Mem)
  | 0, _, _, _, _ => none
  | n + 1, v1, v2, v3, σ => fb_X3_part N (f_X3_part N n) v1 v2 v3 σ
-- X3_areOne depth 1
def b_X3_areOne_4 (N : Nat) (K4 : Int32 → Int32 → Int32 → Mem → Option (Int32 × Mem)) (x1 x2 x3 : Int32) (σ : Mem) : Option (Int32 × Mem) :=
  (if (σ 20 12) ≤ x3 then (if x2 = 0 then gd (inb (σ 20 6) 8) (m_bnd (f_X0_asksCauses N (σ 20 6) σ) (fun r1 σ2 => (if r1 = 0 then gd (isb 1) (some (1, σ2)) else gd (isb 0) (some (0, σ2))))) else gd (isb 1) (some (1, σ))) else (if (x1 &&& (1 <<< (x3 &&& 31))) = 0 then K4 x1 x2 (x3 + 1) σ else gd (inb x3 12) ((if (x1 &&& ((σ 35 x3.toNatClampNeg) ^^^ (-1))) = 0 then gd (inb x3 12) (gd (inb (σ 34 x3.toNatClampNeg) 12) (m_leti (x2 &&& (σ 31 (σ 34 x3.toNatClampNeg).toNatClampNeg)) (fun u3 => K4 x1 u3 (x3 + 1) σ))) else gd (isb 0) (some (0, σ))))))
def l_X3_areOne_4 (N : Nat) : Nat → Int32 → Int32 → Int32 → Mem → Option (Int32 × Mem)
  | 0, _, _, _, _ => none
   | n + 1, x1, x2, x3, σ => b_X3_areOne_4 N (l_X3_areOne_4 N n) x1 x2 x3 σ
def f_X3_areOne (N : Nat) (v1 : Int32) (σ : Mem) : Option (Int32 × Mem) :=
  m_leti (-1) (fun u1 => l_X3_areOne_4 N N v1 u1 0 σ)
-- X3_list depth 0
def f_X3_list (N : Nat) (v1 : Int32) (σ : Mem) : Option (Int32 × Mem) :=
  (if 256 ≤ (σ 20 13) then some (0, σ) else gd (inb (σ 20 13) 256) (m_let (mu σ 36 (σ 20 13).toNatClampNeg v1) (fun σ1 => m_let (mu σ1 20 13 ((σ1 20 13) + 1)) (fun σ2 => some (0, σ2)))))
-- X3_listRunsFrom depth 2
def j_X3_listRunsFrom_92 (N : Nat) (K4 : Int32 → Int32 → Mem → Option (Int32 × Mem)) (x2 x3 : Int32) (σ : Mem) : Option (Int32 × Mem) :=
  m_bnd (f_X3_list N x2 σ) (fun r1 σ2 => K4 x2 (x3 + 1) σ2)
def b_X3_listRunsFrom_4 (N : Nat) (K4 : Int32 → Int32 → Mem → Option (Int32 × Mem)) (x2 x3 : Int32) (σ : Mem) : Option (Int32 × Mem) :=
  (if (σ 20 12) ≤ x3 then some (0, σ) else m_leti (x2 ||| (1 <<< (x3 &&& 31))) (fun u1 => m_bnd (f_X3_areOne N u1 σ) (fun r2 σ3 => (if r2 = 0 then some (0, σ3) else (if (x3 + 1) = (σ3 20 12) then m_leti 1 (fun u6 => (if u6 = 0 then gd (inb x3 12) (gd (inb (σ3 34 x3.toNatClampNeg) 12) (gd (inb (σ3 20 6) 8) (gd (inb 4 10) (gd (inb (x3 + 1) 12) (gd (inb (σ3 34 (x3 + 1).toNatClampNeg) 12) ((if (σ3 27 (σ3 34 (x3 + 1).toNatClampNeg).toNatClampNeg) ≤ ((σ3 27 (σ3 34 x3.toNatClampNeg).toNatClampNeg) + (σ3 (8 + (σ3 20 6).toNatClampNeg) (Int32.toNatClampNeg 4))) then K4 u1 (x3 + 1) σ3 else j_X3_listRunsFrom_92 N K4 u1 x3 σ3))))))) else j_X3_listRunsFrom_92 N K4 u1 x3 σ3)) else m_leti 0 (fun u4 => (if u4 = 0 then gd (inb x3 12) (gd (inb (σ3 34 x3.toNatClampNeg) 12) (gd (inb (σ3 20 6) 8) (gd (inb 4 10) (gd (inb (x3 + 1) 12) (gd (inb (σ3 34 (x3 + 1).toNatClampNeg) 12) ((if (σ3 27 (σ3 34 (x3 + 1).toNatClampNeg).toNatClampNeg) ≤ ((σ3 27 (σ3 34 x3.toNatClampNeg).toNatClampNeg) + (σ3 (8 + (σ3 20 6).toNatClampNeg) (Int32.toNatClampNeg 4))) then K4 u1 (x3 + 1) σ3 else j_X3_listRunsFrom_92 N K4 u1 x3 σ3))))))) else j_X3_listRunsFrom_92 N K4 u1 x3 σ3)))))))
def l_X3_listRunsFrom_4 (N : Nat) : Nat → Int32 → Int32 → Mem → Option (Int32 × Mem)
  | 0, _, _, _ => none
   | n + 1, x2, x3, σ => b_X3_listRunsFrom_4 N (l_X3_listRunsFrom_4 N n) x2 x3 σ
def f_X3_listRunsFrom (N : Nat) (v1 : Int32) (σ : Mem) : Option (Int32 × Mem) :=
  l_X3_listRunsFrom_4 N N 0 v1 σ
-- X3_listSetsFrom depth 2
def b_X3_listSetsFrom_13 (N : Nat) (K13 : Int32 → Int32 → Int32 → Mem → Option (Int32 × Mem)) (x1 x2 x3 : Int32) (σ : Mem) : Option (Int32 × Mem) :=
  (if x2 ≤ x3 then some (0, σ) else m_leti (((2 * x3) + 1) <<< (x1 &&& 31)) (fun u1 => m_bnd (f_X3_areOne N u1 σ) (fun r2 σ3 => (if r2 = 0 then K13 x1 x2 (x3 + 1) σ3 else m_bnd (f_X3_list N u1 σ3) (fun r4 σ5 => K13 x1 x2 (x3 + 1) σ5)))))
def l_X3_listSetsFrom_13 (N : Nat) : Nat → Int32 → Int32 → Int32 → Mem → Option (Int32 × Mem)
  | 0, _, _, _, _ => none
   | n + 1, x1, x2, x3, σ => b_X3_listSetsFrom_13 N (l_X3_listSetsFrom_13 N n) x1 x2 x3 σ
def f_X3_listSetsFrom (N : Nat) (v1 : Int32) (σ : Mem) : Option (Int32 × Mem) :=
  m_leti (1 <<< ((((σ 20 12) - 1) - v1) &&& 31)) (fun u1 => l_X3_listSetsFrom_13 N N v1 u1 0 σ)
-- X3_findForJoined depth 32
def b_X3_findForJoined_66 (N : Nat) (K66 : Int32 → Mem → Option (Int32 × Mem)) (x2 : Int32) (σ : Mem) : Option (Int32 × Mem) :=
  (if (σ 20 12) ≤ x2 then gd (inb (σ 20 12) 13) (m_let (mu σ 37 (σ 20 12).toNatClampNeg (σ 20 13)) (fun σ1 => m_bnd (f_X3_priceHappenings N σ1) (fun r2 σ3 => m_bnd (f_X3_part N 30 ((1 <<< ((σ3 20 12) &&& 31)) - 1) 0 0 σ3) (fun r4 σ5 => gd (isb (σ5 20 4)) (some (σ5 20 4, σ5)))))) else gd (inb x2 13) (m_let (mu σ 37 x2.toNatClampNeg (σ 20 13)) (fun σ6 => gd (inb (σ6 20 6) 8) (m_bnd (f_X0_overlaps N (σ6 20 6) σ6) (fun r7 σ8 => (if r7 = 0 then m_bnd (f_X3_listRunsFrom N x2 σ8) (fun r9 σ10 => K66 (x2 + 1) σ10) else m_bnd (f_X3_listSetsFrom N x2 σ8) (fun r11 σ12 => K66 (x2 + 1) σ12)))))))
def l_X3_findForJoined_66 (N : Nat) : Nat → Int32 → Mem → Option (Int32 × Mem)
  | 0, _, _ => none
   | n + 1, x2, σ => b_X3_findForJoined_66 N (l_X3_findForJoined_66 N n) x2 σ
def f_X3_findForJoined (N : Nat) (v1 : Int32) (σ : Mem) : Option (Int32 × Mem) :=
  gd (isb 0) (m_let (mu σ 20 4 0) (fun σ1 => m_bnd (f_X2_isEmpty N σ1) (fun r2 σ3 => (if r2 = 0 then m_bnd (f_X1_hasAll N v1 σ3) (fun r4 σ5 => (if r4 = 0 then gd (isb 0) (some (0, σ5)) else m_bnd (f_X3_isToldFor N (σ5 20 6) v1 σ5) (fun r6 σ7 => (if r6 = 0 then gd (isb 0) (some (0, σ7)) else m_bnd (f_X1_putInRow_34 N v1 σ7) (fun r8 σ9 => m_let (mu σ9 20 12 r8) (fun σ10 => m_bnd (f_X3_seeWhoIsNear N σ10) (fun r11 σ12 => m_let (mu σ12 20 13 0) (fun σ13 => l_X3_findForJoined_66 N N 0 σ13)))))))) else gd (isb 0) (some (0, σ3))))))
-- X3_findFor depth 33
def f_X3_findFor (N : Nat) (v1 v2 : Int32) (σ : Mem) : Option (Int32 × Mem) :=
  m_bnd (f_X3_startJoining N σ) (fun r1 σ2 => m_bnd (f_X3_join N v1 σ2) (fun r3 σ4 => m_bnd (f_X3_findForJoined N v2 σ4) (fun r5 σ6 => gd (isb r5) (some (r5, σ6)))))
-- X6_most depth 34
def f_X6_most (N : Nat) (v1 v2 v3 : Int32) (σ : Mem) : Option (Int32 × Mem) :=
  m_bnd (f_X6_coverAt N v1 σ) (fun r1 σ2 => (if r1 < 0 then some ((-100000000), σ2) else m_bnd (f_X6_isWithin N v3 0 3 σ2) (fun r3 σ4 => (if r3 = 0 then some ((-100000000), σ4) else m_bnd (f_X3_findFor N r1 v2 σ4) (fun r5 σ6 => (if r5 = 0 then some ((-100000000), σ6) else (if v3 = 0 then some (σ6 20 0, σ6) else (if v3 = 1 then some (σ6 20 1, σ6) else (if v3 = 2 then some (σ6 20 2, σ6) else some (σ6 20 3, σ6))))))))))
-- X6_net depth 34
def f_X6_net (N : Nat) (v1 v2 v3 : Int32) (σ : Mem) : Option (Int32 × Mem) :=
  m_bnd (f_X6_coverAt N v1 σ) (fun r1 σ2 => (if r1 < 0 then some ((-100000000), σ2) else m_bnd (f_X6_isWithin N v3 0 1 σ2) (fun r3 σ4 => (if r3 = 0 then some ((-100000000), σ4) else m_bnd (f_X3_findFor N r1 v2 σ4) (fun r5 σ6 => (if r5 = 0 then some ((-100000000), σ6) else gd (inb r1 8) (m_bnd (f_X0_netOf N r1 (σ6 20 0) σ6) (fun r7 σ8 => gd (inb r1 8) (m_bnd (f_X0_netOf N r1 (σ8 20 1) σ8) (fun r9 σ10 => (if r9 ≤ r7 then (if v3 = 0 then some (r7, σ10) else some (σ10 20 0, σ10)) else (if v3 = 0 then some (r9, σ10) else some (σ10 20 1, σ10)))))))))))))
-- X1_standsAnewAt depth 0
def j_X1_standsAnewAt_102 (N : Nat) (K19 : Int32 → Int32 → Int32 → Int32 → Int32 → Mem → Option (Int32 × Mem)) (x1 x2 x4 x5 x6 x8 x9 y0 : Int32) (σ : Mem) : Option (Int32 × Mem) :=
  (if x6 = x2 then K19 x1 x2 x4 x5 (x6 + 1) σ else (if x8 = 0 then (if x9 = 0 then (if y0 = 0 then K19 x1 x2 x4 x5 (x6 + 1) σ else gd (isb 1) (some (1, σ))) else gd (isb 1) (some (1, σ))) else gd (isb 1) (some (1, σ))))
def j_X1_standsAnewAt_78 (N : Nat) (K19 : Int32 → Int32 → Int32 → Int32 → Int32 → Mem → Option (Int32 × Mem)) (x1 x2 x4 x5 x6 x7 x8 y0 : Int32) (σ : Mem) : Option (Int32 × Mem) :=
  (if x7 = (-x5) then j_X1_standsAnewAt_102 N K19 x1 x2 x4 x5 x6 x8 y0 1 σ else (if x7 = (x5 + 1) then j_X1_standsAnewAt_102 N K19 x1 x2 x4 x5 x6 x8 y0 1 σ else j_X1_standsAnewAt_102 N K19 x1 x2 x4 x5 x6 x8 y0 0 σ))
def j_X1_standsAnewAt_55 (N : Nat) (K19 : Int32 → Int32 → Int32 → Int32 → Int32 → Mem → Option (Int32 × Mem)) (x1 x2 x4 x5 x6 x7 y0 : Int32) (σ : Mem) : Option (Int32 × Mem) :=
  (if x7 = (1 - x4) then j_X1_standsAnewAt_78 N K19 x1 x2 x4 x5 x6 x7 y0 1 σ else (if x7 = x4 then j_X1_standsAnewAt_78 N K19 x1 x2 x4 x5 x6 x7 y0 1 σ else j_X1_standsAnewAt_78 N K19 x1 x2 x4 x5 x6 x7 y0 0 σ))
def b_X1_standsAnewAt_19 (N : Nat) (K19 : Int32 → Int32 → Int32 → Int32 → Int32 → Mem → Option (Int32 × Mem)) (x1 x2 x4 x5 x6 : Int32) (σ : Mem) : Option (Int32 × Mem) :=
  (if (σ 18 6) ≤ x6 then gd (isb 0) (some (0, σ)) else gd (inb x6 12) (m_leti (x1 - (σ 27 x6.toNatClampNeg)) (fun u1 => (if u1 = 0 then j_X1_standsAnewAt_55 N K19 x1 x2 x4 x5 x6 u1 1 σ else (if u1 = 1 then j_X1_standsAnewAt_55 N K19 x1 x2 x4 x5 x6 u1 1 σ else j_X1_standsAnewAt_55 N K19 x1 x2 x4 x5 x6 u1 0 σ)))))
def l_X1_standsAnewAt_19 (N : Nat) : Nat → Int32 → Int32 → Int32 → Int32 → Int32 → Mem → Option (Int32 × Mem)
  | 0, _, _, _, _, _, _ => none
   | n + 1, x1, x2, x4, x5, x6, σ => b_X1_standsAnewAt_19 N (l_X1_standsAnewAt_19 N n) x1 x2 x4 x5 x6 σ
def f_X1_standsAnewAt (N : Nat) (v1 v2 v3 : Int32) (σ : Mem) : Option (Int32 × Mem) :=
  gd (inb v3 8) (gd (inb 0 10) (m_leti (σ (8 + v3.toNatClampNeg) (Int32.toNatClampNeg 0)) (fun u2 => gd (inb v3 8) (gd (inb 4 10) (m_leti (σ (8 + v3.toNatClampNeg) (Int32.toNatClampNeg 4)) (fun u4 => l_X1_standsAnewAt_19 N N v1 v2 u2 u4 0 σ))))))
-- X6_greatestFor depth 34
def f_X6_greatestFor (N : Nat) (v1 v2 : Int32) (σ : Mem) : Option (Int32 × Mem) :=
  m_bnd (f_X3_findFor N v1 v2 σ) (fun r1 σ2 => (if r1 = 0 then some ((-100000000), σ2) else some (σ2 20 0, σ2)))
-- X6_ends depth 35
def j_X6_ends_154 (N : Nat) (K65 : Int32 → Int32 → Int32 → Int32 → Int32 → Int32 → Int32 → Mem → Option (Int32 × Mem)) (x2 x3 x4 x5 x6 x7 x8 x9 y0 : Int32) (σ : Mem) : Option (Int32 × Mem) :=
  (if x9 = (-100000000) then K65 x2 x3 x4 x5 x6 x7 (x8 + 1) σ else (if x7 = (-100000000) then K65 x2 x3 x4 x5 x6 x9 (x8 + 1) σ else (if y0 = 0 then K65 x2 x3 x4 x5 x6 x7 (x8 + 1) σ else K65 x2 x3 x4 x5 x6 x9 (x8 + 1) σ)))
def j_X6_ends_97 (N : Nat) (K65 : Int32 → Int32 → Int32 → Int32 → Int32 → Int32 → Int32 → Mem → Option (Int32 × Mem)) (x2 x3 x4 x5 x6 x7 x8 : Int32) (σ : Mem) : Option (Int32 × Mem) :=
  gd (inb x2 12) (m_let (mu σ 27 x2.toNatClampNeg x8) (fun σ1 => m_bnd (f_X1_all N σ1) (fun r2 σ3 => m_bnd (f_X6_greatestFor N x4 r2 σ3) (fun r4 σ5 => (if x3 = 0 then (if x7 ≤ r4 then j_X6_ends_154 N K65 x2 x3 x4 x5 x6 x7 x8 r4 0 σ5 else j_X6_ends_154 N K65 x2 x3 x4 x5 x6 x7 x8 r4 1 σ5) else (if r4 ≤ x7 then j_X6_ends_154 N K65 x2 x3 x4 x5 x6 x7 x8 r4 0 σ5 else j_X6_ends_154 N K65 x2 x3 x4 x5 x6 x7 x8 r4 1 σ5))))))
def b_X6_ends_65 (N : Nat) (K65 : Int32 → Int32 → Int32 → Int32 → Int32 → Int32 → Int32 → Mem → Option (Int32 × Mem)) (x2 x3 x4 x5 x6 x7 x8 : Int32) (σ : Mem) : Option (Int32 × Mem) :=
  (if x6 < x8 then gd (inb x2 12) (m_let (mu σ 27 x2.toNatClampNeg x5) (fun σ1 => some (x7, σ1))) else (if x8 ≤ x5 then j_X6_ends_97 N K65 x2 x3 x4 x5 x6 x7 x8 σ else m_bnd (f_X1_standsAnewAt N x8 x2 x4 σ) (fun r2 σ3 => (if r2 = 0 then K65 x2 x3 x4 x5 x6 x7 (x8 + 1) σ3 else j_X6_ends_97 N K65 x2 x3 x4 x5 x6 x7 x8 σ3))))
def l_X6_ends_65 (N : Nat) : Nat → Int32 → Int32 → Int32 → Int32 → Int32 → Int32 → Int32 → Mem → Option (Int32 × Mem)
  | 0, _, _, _, _, _, _, _, _ => none
   | n + 1, x2, x3, x4, x5, x6, x7, x8, σ => b_X6_ends_65 N (l_X6_ends_65 N n) x2 x3 x4 x5 x6 x7 x8 σ
def f_X6_ends (N : Nat) (v1 v2 v3 : Int32) (σ : Mem) : Option (Int32 × Mem) :=
  m_bnd (f_X6_coverAt N v1 σ) (fun r1 σ2 => (if r1 < 0 then some ((-100000000), σ2) else m_bnd (f_X1_has N v2 σ2) (fun r3 σ4 => (if r3 = 0 then some ((-100000000), σ4) else m_bnd (f_X6_isWithin N v3 0 1 σ4) (fun r5 σ6 => (if r5 = 0 then some ((-100000000), σ6) else gd (inb v2 12) (m_leti (σ6 27 v2.toNatClampNeg) (fun u7 => gd (inb v2 12) (m_leti (σ6 28 v2.toNatClampNeg) (fun u8 => m_leti (-100000000) (fun u9 => l_X6_ends_65 N N v2 v3 r1 u7 u8 u9 u7 σ6)))))))))))
-- X6_lossOfGreatestWeight depth 35
def b_X6_lossOfGreatestWeight_9 (N : Nat) (K9 : Int32 → Int32 → Int32 → Int32 → Int32 → Mem → Option (Int32 × Mem)) (x1 x2 x3 x4 x5 : Int32) (σ : Mem) : Option (Int32 × Mem) :=
  (if (σ 18 6) ≤ x5 then some (x3, σ) else m_bnd (f_X1_all N σ) (fun r1 σ2 => m_bnd (f_X6_greatestFor N x1 (r1 ^^^ (1 <<< (x5 &&& 31))) σ2) (fun r3 σ4 => (if r3 = (-100000000) then (if x2 = 0 then K9 x1 x2 x3 x4 (x5 + 1) σ4 else some ((-1), σ4)) else (if x3 = (-1) then K9 x1 x2 x5 r3 (x5 + 1) σ4 else (if x4 ≤ r3 then K9 x1 x2 x3 x4 (x5 + 1) σ4 else K9 x1 x2 x5 r3 (x5 + 1) σ4))))))
def l_X6_lossOfGreatestWeight_9 (N : Nat) : Nat → Int32 → Int32 → Int32 → Int32 → Int32 → Mem → Option (Int32 × Mem)
  | 0, _, _, _, _, _, _ => none
   | n + 1, x1, x2, x3, x4, x5, σ => b_X6_lossOfGreatestWeight_9 N (l_X6_lossOfGreatestWeight_9 N n) x1 x2 x3 x4 x5 σ
def f_X6_lossOfGreatestWeight (N : Nat) (v1 v2 : Int32) (σ : Mem) : Option (Int32 × Mem) :=
  m_leti (-1) (fun u1 => m_leti (-100000000) (fun u2 => l_X6_lossOfGreatestWeight_9 N N v1 v2 u1 u2 0 σ))
-- X6_hangs depth 36
def f_X6_hangs (N : Nat) (v1 : Int32) (σ : Mem) : Option (Int32 × Mem) :=
  m_bnd (f_X6_coverAt N v1 σ) (fun r1 σ2 => (if r1 < 0 then some ((-1), σ2) else m_bnd (f_X6_lossOfGreatestWeight N r1 0 σ2) (fun r3 σ4 => some (r3, σ4))))
-- X6_told depth 35
def f_X6_told (N : Nat) (v1 v2 v3 : Int32) (σ : Mem) : Option (Int32 × Mem) :=
  m_bnd (f_X6_coverAt N v1 σ) (fun r1 σ2 => (if r1 < 0 then some ((-100000000), σ2) else m_bnd (f_X1_has N v2 σ2) (fun r3 σ4 => (if r3 = 0 then some ((-100000000), σ4) else m_bnd (f_X6_isWithin N v3 0 5 σ4) (fun r5 σ6 => (if r5 = 0 then some ((-100000000), σ6) else gd (inb v2 12) (m_leti (σ6 31 v2.toNatClampNeg) (fun u7 => (if (u7 &&& (1 <<< (v3 &&& 31))) = 0 then some ((-100000000), σ6) else gd (inb v2 12) (m_let (mu σ6 31 v2.toNatClampNeg (1 <<< (v3 &&& 31))) (fun σ8 => m_bnd (f_X1_all N σ8) (fun r9 σ10 => m_bnd (f_X6_greatestFor N r1 r9 σ10) (fun r11 σ12 => gd (inb v2 12) (m_let (mu σ12 31 v2.toNatClampNeg u7) (fun σ13 => some (r11, σ13))))))))))))))))
-- X6_greatestByOwnPartings depth 35
def b_X6_greatestByOwnPartings_4 (N : Nat) (K4 : Int32 → Int32 → Int32 → Mem → Option (Int32 × Mem)) (x1 x2 x3 : Int32) (σ : Mem) : Option (Int32 × Mem) :=
  (if (σ 16 8) ≤ x3 then some (x2, σ) else m_bnd (f_X6_coverAt N x3 σ) (fun r1 σ2 => (if r1 < 0 then K4 x1 x2 (x3 + 1) σ2 else (if (x1 &&& (1 <<< (x3 &&& 31))) = 0 then K4 x1 x2 (x3 + 1) σ2 else m_bnd (f_X1_all N σ2) (fun r3 σ4 => m_bnd (f_X6_greatestFor N r1 r3 σ4) (fun r5 σ6 => (if r5 = (-100000000) then some ((-100000000), σ6) else m_leti (x2 + r5) (fun u7 => K4 x1 u7 (x3 + 1) σ6))))))))
def l_X6_greatestByOwnPartings_4 (N : Nat) : Nat → Int32 → Int32 → Int32 → Mem → Option (Int32 × Mem)
  | 0, _, _, _, _ => none
   | n + 1, x1, x2, x3, σ => b_X6_greatestByOwnPartings_4 N (l_X6_greatestByOwnPartings_4 N n) x1 x2 x3 σ
def f_X6_greatestByOwnPartings (N : Nat) (v1 : Int32) (σ : Mem) : Option (Int32 × Mem) :=
  l_X6_greatestByOwnPartings_4 N N v1 0 0 σ
-- X6_greatestByOneParting depth 33
def b_X6_greatestByOneParting_9 (N : Nat) (K9 : Int32 → Int32 → Mem → Option (Int32 × Mem)) (x1 x2 : Int32) (σ : Mem) : Option (Int32 × Mem) :=
  (if (σ 16 8) ≤ x2 then m_bnd (f_X1_all N σ) (fun r1 σ2 => m_bnd (f_X3_findForJoined N r1 σ2) (fun r3 σ4 => (if r3 = 0 then some ((-100000000), σ4) else some (σ4 20 0, σ4)))) else m_bnd (f_X6_coverAt N x2 σ) (fun r5 σ6 => (if r5 < 0 then K9 x1 (x2 + 1) σ6 else (if (x1 &&& (1 <<< (x2 &&& 31))) = 0 then K9 x1 (x2 + 1) σ6 else m_bnd (f_X3_join N r5 σ6) (fun r7 σ8 => K9 x1 (x2 + 1) σ8)))))
def l_X6_greatestByOneParting_9 (N : Nat) : Nat → Int32 → Int32 → Mem → Option (Int32 × Mem)
  | 0, _, _, _ => none
   | n + 1, x1, x2, σ => b_X6_greatestByOneParting_9 N (l_X6_greatestByOneParting_9 N n) x1 x2 σ
def f_X6_greatestByOneParting (N : Nat) (v1 : Int32) (σ : Mem) : Option (Int32 × Mem) :=
  m_bnd (f_X3_startJoining N σ) (fun r1 σ2 => l_X6_greatestByOneParting_9 N N v1 0 σ2)
-- X6_layers depth 36
def f_X6_layers (N : Nat) (v1 v2 : Int32) (σ : Mem) : Option (Int32 × Mem) :=
  m_leti ((1 <<< ((σ 16 8) &&& 31)) - 1) (fun u1 => (if v1 = 0 then some ((-100000000), σ) else (if (v1 &&& (u1 ^^^ (-1))) = 0 then (if v2 = 0 then m_bnd (f_X6_greatestByOwnPartings N v1 σ) (fun r2 σ3 => some (r2, σ3)) else m_bnd (f_X6_greatestByOneParting N v1 σ) (fun r4 σ5 => some (r4, σ5))) else some ((-100000000), σ))))
-- X1_someAreApartBy depth 0
def b_X1_someAreApartBy_12 (N : Nat) (K2 : Int32 → Int32 → Mem → Option (Int32 × Mem)) (K12 : Int32 → Int32 → Int32 → Mem → Option (Int32 × Mem)) (x1 x2 x3 : Int32) (σ : Mem) : Option (Int32 × Mem) :=
  (if (σ 18 6) ≤ x3 then K2 x1 (x2 + 1) σ else gd (inb x3 12) (gd (inb x2 12) ((if ((σ 27 x3.toNatClampNeg) - (σ 27 x2.toNatClampNeg)) = x1 then gd (isb 1) (some (1, σ)) else K12 x1 x2 (x3 + 1) σ))))
def l_X1_someAreApartBy_12 (N : Nat) (K2 : Int32 → Int32 → Mem → Option (Int32 × Mem)) : Nat → Int32 → Int32 → Int32 → Mem → Option (Int32 × Mem)
  | 0, _, _, _, _ => none
   | n + 1, x1, x2, x3, σ => b_X1_someAreApartBy_12 N K2 (l_X1_someAreApartBy_12 N K2 n) x1 x2 x3 σ
def b_X1_someAreApartBy_2 (N : Nat) (K2 : Int32 → Int32 → Mem → Option (Int32 × Mem)) (x1 x2 : Int32) (σ : Mem) : Option (Int32 × Mem) :=
  (if (σ 18 6) ≤ x2 then gd (isb 0) (some (0, σ)) else l_X1_someAreApartBy_12 N K2 N x1 x2 0 σ)
def l_X1_someAreApartBy_2 (N : Nat) : Nat → Int32 → Int32 → Mem → Option (Int32 × Mem)
  | 0, _, _, _ => none
   | n + 1, x1, x2, σ => b_X1_someAreApartBy_2 N (l_X1_someAreApartBy_2 N n) x1 x2 σ
def f_X1_someAreApartBy (N : Nat) (v1 : Int32) (σ : Mem) : Option (Int32 × Mem) :=
  l_X1_someAreApartBy_2 N N v1 0 σ
-- X6_nearest depth 34
def j_X6_nearest_71 (N : Nat) (K41 : Int32 → Int32 → Int32 → Int32 → Mem → Option (Int32 × Mem)) (x2 x4 x5 x6 : Int32) (σ : Mem) : Option (Int32 × Mem) :=
  gd (inb (σ 16 2) 8) (gd (inb 0 10) (m_let (mu σ (8 + (σ 16 2).toNatClampNeg) (Int32.toNatClampNeg 0) x6) (fun σ2 => m_bnd (f_X1_all N σ2) (fun r3 σ4 => m_bnd (f_X3_findFor N (σ2 16 2) r3 σ4) (fun r5 σ6 => (if r5 = 0 then K41 x2 x4 x5 (x6 + 1) σ6 else m_leti ((σ6 20 0) - (σ6 20 1)) (fun u7 => (if x4 = (-100000000) then K41 x2 x6 u7 (x6 + 1) σ6 else (if x5 ≤ u7 then K41 x2 x4 x5 (x6 + 1) σ6 else K41 x2 x6 u7 (x6 + 1) σ6)))))))))
def b_X6_nearest_41 (N : Nat) (K41 : Int32 → Int32 → Int32 → Int32 → Mem → Option (Int32 × Mem)) (x2 x4 x5 x6 : Int32) (σ : Mem) : Option (Int32 × Mem) :=
  (if 99 < x6 then (if x2 = 0 then some (x4, σ) else some (x5, σ)) else (if x6 ≤ 1 then j_X6_nearest_71 N K41 x2 x4 x5 x6 σ else m_bnd (f_X1_someAreApartBy N (x6 - 1) σ) (fun r1 σ2 => (if r1 = 0 then K41 x2 x4 x5 (x6 + 1) σ2 else j_X6_nearest_71 N K41 x2 x4 x5 x6 σ2))))
def l_X6_nearest_41 (N : Nat) : Nat → Int32 → Int32 → Int32 → Int32 → Mem → Option (Int32 × Mem)
  | 0, _, _, _, _, _ => none
   | n + 1, x2, x4, x5, x6, σ => b_X6_nearest_41 N (l_X6_nearest_41 N n) x2 x4 x5 x6 σ
def f_X6_nearest (N : Nat) (v1 v2 : Int32) (σ : Mem) : Option (Int32 × Mem) :=
  m_bnd (f_X6_coverAt N v1 σ) (fun r1 σ2 => (if r1 < 0 then some ((-100000000), σ2) else m_bnd (f_X6_isWithin N v2 0 1 σ2) (fun r3 σ4 => (if r3 = 0 then some ((-100000000), σ4) else gd (inb (σ4 16 2) 8) (m_bnd (f_X0_copyFrom N (σ4 16 2) r1 σ4) (fun r5 σ6 => m_leti (-100000000) (fun u7 => m_leti (-100000000) (fun u8 => l_X6_nearest_41 N N v2 u7 u8 1 σ6))))))))
-- X6_storm depth 2
def f_X6_storm (N : Nat) (v1 v2 : Int32) (σ : Mem) : Option (Int32 × Mem) :=
  (if 12 ≤ (σ 16 9) then some ((-1), σ) else m_bnd (f_X1_hasAll N v1 σ) (fun r1 σ2 => (if r1 = 0 then some ((-1), σ2) else m_bnd (f_X6_isWithin N v2 1 99 σ2) (fun r3 σ4 => (if r3 = 0 then some ((-1), σ4) else gd (inb (σ4 16 9) 12) (m_let (mu σ4 23 (σ4 16 9).toNatClampNeg v1) (fun σ5 => gd (inb (σ5 16 9) 12) (m_let (mu σ5 24 (σ5 16 9).toNatClampNeg v2) (fun σ6 => m_let (mu σ6 16 9 ((σ6 16 9) + 1)) (fun σ7 => some (σ7 16 9, σ7)))))))))))
-- X6_mean depth 34
def b_X6_mean_31 (N : Nat) (K31 : Int32 → Int32 → Int32 → Int32 → Int32 → Mem → Option (Int32 × Mem)) (x2 x3 x4 x5 x6 : Int32) (σ : Mem) : Option (Int32 × Mem) :=
  (if (σ 16 9) ≤ x6 then (if x2 = 2 then some (x5, σ) else some (x4, σ)) else gd (inb x6 12) (m_bnd (f_X3_isToldFor N x3 (σ 23 x6.toNatClampNeg) σ) (fun r1 σ2 => (if r1 = 0 then some ((-100000000), σ2) else gd (inb x6 12) (m_leti (σ2 24 x6.toNatClampNeg) (fun u3 => m_leti (x5 + u3) (fun u4 => (if x2 = 2 then K31 x2 x3 x4 u4 (x6 + 1) σ2 else gd (inb x6 12) (m_bnd (f_X3_findFor N x3 (σ2 23 x6.toNatClampNeg) σ2) (fun r5 σ6 => (if r5 = 0 then K31 x2 x3 x4 u4 (x6 + 1) σ6 else (if x2 = 0 then m_leti (x4 + (u3 * (σ6 20 0))) (fun u8 => K31 x2 x3 u8 u4 (x6 + 1) σ6) else m_leti (x4 + (u3 * (σ6 20 1))) (fun u7 => K31 x2 x3 u7 u4 (x6 + 1) σ6)))))))))))))
def l_X6_mean_31 (N : Nat) : Nat → Int32 → Int32 → Int32 → Int32 → Int32 → Mem → Option (Int32 × Mem)
  | 0, _, _, _, _, _, _ => none
   | n + 1, x2, x3, x4, x5, x6, σ => b_X6_mean_31 N (l_X6_mean_31 N n) x2 x3 x4 x5 x6 σ
def f_X6_mean (N : Nat) (v1 v2 : Int32) (σ : Mem) : Option (Int32 × Mem) :=
  m_bnd (f_X6_coverAt N v1 σ) (fun r1 σ2 => (if r1 < 0 then some ((-100000000), σ2) else m_bnd (f_X6_isWithin N v2 0 2 σ2) (fun r3 σ4 => (if r3 = 0 then some ((-100000000), σ4) else l_X6_mean_31 N N v2 r1 0 0 0 σ4))))
-- X6_game depth 36
def f_X6_game (N : Nat) (v1 v2 v3 : Int32) (σ : Mem) : Option (Int32 × Mem) :=
  m_bnd (f_X6_coverAt N v1 σ) (fun r1 σ2 => m_bnd (f_X6_coverAt N v2 σ2) (fun r3 σ4 => (if r1 < 0 then some ((-100000000), σ4) else (if r3 < 0 then some ((-100000000), σ4) else m_bnd (f_X6_isWithin N v3 0 2 σ4) (fun r5 σ6 => (if r5 = 0 then some ((-100000000), σ6) else m_bnd (f_X6_lossOfGreatestWeight N r1 1 σ6) (fun r7 σ8 => m_bnd (f_X6_lossOfGreatestWeight N r3 1 σ8) (fun r9 σ10 => (if r7 = (-1) then some ((-100000000), σ10) else (if r9 = (-1) then some ((-100000000), σ10) else m_bnd (f_X1_all N σ10) (fun r11 σ12 => m_bnd (f_X6_greatestFor N r1 (r11 ^^^ (1 <<< (r7 &&& 31))) σ12) (fun r13 σ14 => m_bnd (f_X1_all N σ14) (fun r15 σ16 => m_bnd (f_X6_greatestFor N r3 (r15 ^^^ (1 <<< (r9 &&& 31))) σ16) (fun r17 σ18 => (if r17 ≤ r13 then (if v3 = 0 then m_leti 0 (fun u21 => (if u21 = 0 then some (0, σ18) else some (1, σ18))) else (if v3 = 1 then m_leti 0 (fun u20 => (if u20 = 0 then some (r13, σ18) else some (r17, σ18))) else m_leti 0 (fun u19 => (if u19 = 0 then some (r7, σ18) else some (r9, σ18))))) else (if v3 = 0 then m_leti 1 (fun u24 => (if u24 = 0 then some (0, σ18) else some (1, σ18))) else (if v3 = 1 then m_leti 1 (fun u23 => (if u23 = 0 then some (r13, σ18) else some (r17, σ18))) else m_leti 1 (fun u22 => (if u22 = 0 then some (r7, σ18) else some (r9, σ18))))))))))))))))))))
-- X6_mend depth 1
def f_X6_mend (N : Nat) (v1 v2 v3 : Int32) (σ : Mem) : Option (Int32 × Mem) :=
  m_bnd (f_X1_has N v1 σ) (fun r1 σ2 => (if r1 = 0 then gd (isb 0) (some (0, σ2)) else m_bnd (f_X6_isWithin N v2 0 999 σ2) (fun r3 σ4 => (if r3 = 0 then gd (isb 0) (some (0, σ4)) else m_bnd (f_X6_isWithin N v3 1 99 σ4) (fun r5 σ6 => (if r5 = 0 then gd (isb 0) (some (0, σ6)) else gd (inb v1 12) (m_let (mu σ6 27 v1.toNatClampNeg v2) (fun σ7 => gd (inb v1 12) (gd (inb v1 12) (m_let (mu σ7 28 v1.toNatClampNeg (imax v2 (σ7 28 v1.toNatClampNeg))) (fun σ8 => gd (inb v1 12) (m_let (mu σ8 26 v1.toNatClampNeg v3) (fun σ9 => gd (isb 1) (some (1, σ9)))))))))))))))
-- X6_count depth 0
def f_X6_count (N : Nat) (v1 : Int32) (σ : Mem) : Option (Int32 × Mem) :=
  (if v1 = 0 then some (σ 16 8, σ) else if v1 = 1 then some (σ 18 6, σ) else if v1 = 2 then some (σ 16 9, σ) else if v1 = 3 then some (σ 17 1, σ) else some ((-1), σ))
