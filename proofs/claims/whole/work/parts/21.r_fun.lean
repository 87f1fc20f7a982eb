/-! the reference: its cells, and a function for each of its methods (written by program) -/
def shR : mSh := [.inr (7, [0, 3, 0, 0, 0, 0, 4, 0, 5, 6, 7, 8, 9, 10, 11, 0, 12, 13, 14, 15, 16, 17, 0, 0, 0, 0, 0, 0, 0, 0, 0, 0, 0, 0, 0, 18, 19, 0, 20, 21, 0, 0]), .inl (1, 120), .inl (0, 70), .inl (0, 12), .inl (0, 12), .inl (0, 12), .inl (0, 12), .inl (0, 12), .inl (0, 12), .inl (0, 12), .inl (0, 12), .inl (0, 12), .inl (0, 12), .inl (0, 12), .inl (0, 12), .inl (0, 12), .inl (0, 12), .inl (0, 12), .inl (0, 12), .inl (0, 12)]
-- X7_bytesIn depth 0
def b_X7_bytesIn_5 (N : Nat) (K5 : Int32 → Int32 → Int32 → Mem → Option (Int32 × Mem)) (x0 x1 x2 : Int32) (σ : Mem) : Option (Int32 × Mem) :=
  (if x2 < 0 then some (x1, σ) else (if ((x0 >>> (x2 &&& 31)) &&& 255) = 0 then m_leti (x1 + 0) (fun u1 => K5 x0 u1 (x2 + (-8)) σ) else m_leti (x1 + 1) (fun u2 => K5 x0 u2 (x2 + (-8)) σ)))
def l_X7_bytesIn_5 (N : Nat) : Nat → Int32 → Int32 → Int32 → Mem → Option (Int32 × Mem)
  | 0, _, _, _, _ => none
   | n + 1, x0, x1, x2, σ => b_X7_bytesIn_5 N (l_X7_bytesIn_5 N n) x0 x1 x2 σ
def f_X7_bytesIn (N : Nat) (v0 : Int32) (σ : Mem) : Option (Int32 × Mem) :=
  l_X7_bytesIn_5 N N v0 0 24 σ
-- X7_put depth 0
def b_X7_put_3 (N : Nat) (K3 : Int32 → Int32 → Mem → Option (Int32 × Mem)) (x1 x2 : Int32) (σ : Mem) : Option (Int32 × Mem) :=
  (if x2 < 0 then some (0, σ) else (if ((x1 >>> (x2 &&& 31)) &&& 255) = 0 then K3 x1 (x2 + (-8)) σ else gd (inb (σ 0 2) 120) (m_let (mu σ 1 (σ 0 2).toNatClampNeg (i2b (i2b (x1 >>> (x2 &&& 31))))) (fun σ1 => m_let (mu σ1 0 2 ((σ1 0 2) + 1)) (fun σ2 => K3 x1 (x2 + (-8)) σ2)))))
def l_X7_put_3 (N : Nat) : Nat → Int32 → Int32 → Mem → Option (Int32 × Mem)
  | 0, _, _, _ => none
   | n + 1, x1, x2, σ => b_X7_put_3 N (l_X7_put_3 N n) x1 x2 σ
def f_X7_put (N : Nat) (v1 : Int32) (σ : Mem) : Option (Int32 × Mem) :=
  l_X7_put_3 N N v1 24 σ
-- X7_feed depth 1
def f_X7_feed (N : Nat) (v1 v2 v3 v4 v5 : Int32) (σ : Mem) : Option (Int32 × Mem) :=
  m_let (mu σ 0 0 0) (fun σ1 => m_bnd (f_X7_bytesIn N v1 σ1) (fun r2 σ3 => m_bnd (f_X7_bytesIn N v2 σ3) (fun r4 σ5 => m_bnd (f_X7_bytesIn N v3 σ5) (fun r6 σ7 => m_bnd (f_X7_bytesIn N v4 σ7) (fun r8 σ9 => m_bnd (f_X7_bytesIn N v5 σ9) (fun r10 σ11 => (if ((((((σ1 0 2) + r2) + r4) + r6) + r8) + r10) ≤ 120 then m_bnd (f_X7_put N v1 σ11) (fun r12 σ13 => m_bnd (f_X7_put N v2 σ13) (fun r14 σ15 => m_bnd (f_X7_put N v3 σ15) (fun r16 σ17 => m_bnd (f_X7_put N v4 σ17) (fun r18 σ19 => m_bnd (f_X7_put N v5 σ19) (fun r20 σ21 => some (σ21 0 2, σ21)))))) else some ((-1), σ11))))))))
-- X7_end depth 0
def f_X7_end (N : Nat) (v1 : Int32) (σ : Mem) : Option (Int32 × Mem) :=
  m_let (mu σ 0 0 0) (fun σ1 => (if v1 < 0 then gd (isb 0) (some (0, σ1)) else (if v1 ≤ (σ1 0 2) then m_let (mu σ1 0 2 v1) (fun σ2 => gd (isb 1) (some (1, σ2))) else gd (isb 0) (some (0, σ1)))))
-- X7_here depth 0
def f_X7_here (N : Nat) (σ : Mem) : Option (Int32 × Mem) :=
  (if (σ 0 2) ≤ (σ 0 3) then some ((-1), σ) else gd (inb (σ 0 3) 120) (some ((σ 1 (σ 0 3).toNatClampNeg) &&& 255, σ)))
-- X7_look depth 1
def b_X7_look_0 (N : Nat) (K0 : Mem → Option (Int32 × Mem)) (σ : Mem) : Option (Int32 × Mem) :=
  m_bnd (f_X7_here N σ) (fun r1 σ2 => (if r1 = 32 then m_let (mu σ2 0 3 ((σ2 0 3) + 1)) (fun σ5 => K0 σ5) else m_bnd (f_X7_here N σ2) (fun r3 σ4 => some (r3, σ4))))
def l_X7_look_0 (N : Nat) : Nat → Mem → Option (Int32 × Mem)
  | 0, _ => none
   | n + 1, σ => b_X7_look_0 N (l_X7_look_0 N n) σ
def f_X7_look (N : Nat) (σ : Mem) : Option (Int32 × Mem) :=
  l_X7_look_0 N N σ
-- X7_leastOf depth 0
def f_X7_leastOf (N : Nat) (v0 : Int32) (σ : Mem) : Option (Int32 × Mem) :=
  (if v0 = 0 then some (1, σ) else (if v0 = 6 then some (1, σ) else (if v0 = 7 then some (1, σ) else some (0, σ))))
-- X7_mostOf depth 0
def f_X7_mostOf (N : Nat) (v0 : Int32) (σ : Mem) : Option (Int32 × Mem) :=
  (if v0 = 2 then some (1, σ) else (if v0 = 3 then some (1, σ) else (if v0 = 7 then some (9, σ) else some (99, σ))))
-- X7_isDigit depth 1
def f_X7_isDigit (N : Nat) (σ : Mem) : Option (Int32 × Mem) :=
  m_bnd (f_X7_here N σ) (fun r1 σ2 => (if r1 < 48 then gd (isb 0) (some (0, σ2)) else m_bnd (f_X7_here N σ2) (fun r3 σ4 => (if 57 < r3 then gd (isb 0) (some (0, σ4)) else gd (isb 1) (some (1, σ4))))))
-- X7_fails depth 0
def f_X7_fails (N : Nat) (v1 : Int32) (σ : Mem) : Option (Int32 × Mem) :=
  (if (σ 0 4) = (-1) then m_let (mu σ 0 4 v1) (fun σ1 => gd (isb 0) (some (0, σ1))) else gd (isb 0) (some (0, σ)))
-- X7_isIn depth 0
def f_X7_isIn (N : Nat) (v0 v1 v2 : Int32) (σ : Mem) : Option (Int32 × Mem) :=
  (if v0 < v1 then gd (isb 0) (some (0, σ)) else (if v2 < v0 then gd (isb 0) (some (0, σ)) else gd (isb 1) (some (1, σ))))
-- X7_number depth 2
def j_X7_number_96 (N : Nat) (x1 x2 : Int32) (σ : Mem) : Option (Int32 × Mem) :=
  m_bnd (f_X7_isIn N (σ 0 5) x1 x2 σ) (fun r1 σ2 => (if r1 = 0 then m_bnd (f_X7_fails N ((σ2 0 3) - 1) σ2) (fun r7 σ8 => gd (isb r7) (some (r7, σ8))) else m_bnd (f_X7_isDigit N σ2) (fun r3 σ4 => (if r3 = 0 then gd (isb 1) (some (1, σ4)) else m_bnd (f_X7_fails N (σ4 0 3) σ4) (fun r5 σ6 => (if r5 = 0 then gd (isb 0) (some (0, σ6)) else gd (isb 1) (some (1, σ6))))))))
def f_X7_number (N : Nat) (v1 v2 : Int32) (σ : Mem) : Option (Int32 × Mem) :=
  m_bnd (f_X7_here N σ) (fun r1 σ2 => (if r1 = 32 then m_bnd (f_X7_look N σ2) (fun r3 σ4 => m_bnd (f_X7_isDigit N σ4) (fun r5 σ6 => (if r5 = 0 then m_bnd (f_X7_fails N (σ6 0 3) σ6) (fun r17 σ18 => gd (isb r17) (some (r17, σ18))) else m_bnd (f_X7_here N σ6) (fun r7 σ8 => m_let (mu σ8 0 5 (r7 - 48)) (fun σ9 => m_let (mu σ9 0 3 ((σ9 0 3) + 1)) (fun σ10 => m_bnd (f_X7_isDigit N σ10) (fun r11 σ12 => (if r11 = 0 then j_X7_number_96 N v1 v2 σ12 else m_bnd (f_X7_here N σ12) (fun r13 σ14 => m_let (mu σ14 0 5 (((10 * (σ12 0 5)) + r13) - 48)) (fun σ15 => m_let (mu σ15 0 3 ((σ15 0 3) + 1)) (fun σ16 => j_X7_number_96 N v1 v2 σ16))))))))))) else m_bnd (f_X7_fails N (σ2 0 3) σ2) (fun r19 σ20 => gd (isb r19) (some (r19, σ20)))))
-- X7_readWord depth 3
def f_X7_readWord (N : Nat) (v1 : Int32) (σ : Mem) : Option (Int32 × Mem) :=
  m_let (mu σ 0 3 ((σ 0 3) + 1)) (fun σ1 => m_bnd (f_X7_leastOf N v1 σ1) (fun r2 σ3 => m_bnd (f_X7_mostOf N v1 σ3) (fun r4 σ5 => m_bnd (f_X7_number N r2 r4 σ5) (fun r6 σ7 => (if r6 = 0 then gd (isb 0) (some (0, σ7)) else gd (inb ((10 * (σ7 0 7)) + v1) 70) (m_let (mu σ7 2 ((10 * (σ7 0 7)) + v1).toNatClampNeg (σ7 0 5)) (fun σ8 => gd (isb 1) (some (1, σ8)))))))))
-- X7_firstOf depth 0
def f_X7_firstOf (N : Nat) (v0 : Int32) (σ : Mem) : Option (Int32 × Mem) :=
  (if v0 = 1 then some ((-1), σ) else (if v0 = 6 then some (99, σ) else (if v0 = 7 then some (9, σ) else some (0, σ))))
-- J0_isLatin1_aae02 depth 0
def f_J0_isLatin1_aae02 (N : Nat) (σ : Mem) : Option (Int32 × Mem) :=
  m_leti 1 (fun u1 => (if u1 = 0 then gd (isb 0) (some (0, σ)) else m_leti 0 (fun u2 => (if u2 = 0 then gd (isb 1) (some (1, σ)) else gd (isb 0) (some (0, σ))))))
-- J0_coder_7d493 depth 0
def f_J0_coder_7d493 (N : Nat) (σ : Mem) : Option (Int32 × Mem) :=
  m_leti 1 (fun u1 => (if u1 = 0 then gd (isb 1) (some (1, σ)) else gd (isb 0) (some (0, σ))))
-- J0_length_8abf5 depth 1
def f_J0_length_8abf5 (N : Nat) (σ : Mem) : Option (Int32 × Mem) :=
  m_bnd (f_J0_coder_7d493 N σ) (fun r1 σ2 => some (10 >>> (r1 &&& 31), σ2))
-- J1_canEncode_9a6ad depth 0
def f_J1_canEncode_9a6ad (N : Nat) (v0 : Int32) (σ : Mem) : Option (Int32 × Mem) :=
  (if v0 < 0 then gd (isb 0) (some (0, σ)) else (if 255 < v0 then gd (isb 0) (some (0, σ)) else gd (isb 1) (some (1, σ))))
-- J1_indexOfChar_4cfef depth 0
def b_J1_indexOfChar_4cfef_7 (N : Nat) (K7 : Int32 → Int32 → Int32 → Mem → Option (Int32 × Mem)) (x3 x4 x5 : Int32) (σ : Mem) : Option (Int32 × Mem) :=
  (if x3 ≤ x5 then some ((-1), σ) else gd (inb x5 10) ((if (m_tx.getD x5.toNatClampNeg 0) = x4 then some (x5, σ) else K7 x3 x4 (x5 + 1) σ)))
def l_J1_indexOfChar_4cfef_7 (N : Nat) : Nat → Int32 → Int32 → Int32 → Mem → Option (Int32 × Mem)
  | 0, _, _, _, _ => none
   | n + 1, x3, x4, x5, σ => b_J1_indexOfChar_4cfef_7 N (l_J1_indexOfChar_4cfef_7 N n) x3 x4 x5 σ
def f_J1_indexOfChar_4cfef (N : Nat) (v1 v2 v3 : Int32) (σ : Mem) : Option (Int32 × Mem) :=
  m_leti (i2b v1) (fun u1 => l_J1_indexOfChar_4cfef_7 N N v3 u1 v2 σ)
-- J1_indexOf_4cfef depth 1
def f_J1_indexOf_4cfef (N : Nat) (v1 v2 v3 : Int32) (σ : Mem) : Option (Int32 × Mem) :=
  m_bnd (f_J1_canEncode_9a6ad N v1 σ) (fun r1 σ2 => (if r1 = 0 then some ((-1), σ2) else m_leti (imax v2 0) (fun u3 => m_leti (imin v3 10) (fun u4 => (if u3 < u4 then m_bnd (f_J1_indexOfChar_4cfef N v1 u3 u4 σ2) (fun r5 σ6 => some (r5, σ6)) else some ((-1), σ2))))))
-- J0_indexOf_7cf53 depth 2
def f_J0_indexOf_7cf53 (N : Nat) (v1 v2 : Int32) (σ : Mem) : Option (Int32 × Mem) :=
  m_bnd (f_J0_isLatin1_aae02 N σ) (fun r1 σ2 => (if r1 = 0 then m_bnd (f_J0_length_8abf5 N σ2) (fun r3 σ4 => none) else m_bnd (f_J0_length_8abf5 N σ2) (fun r5 σ6 => m_bnd (f_J1_indexOf_4cfef N v1 v2 r5 σ6) (fun r7 σ8 => some (r7, σ8)))))
-- J0_indexOf_0f7a4 depth 3
def f_J0_indexOf_0f7a4 (N : Nat) (v1 : Int32) (σ : Mem) : Option (Int32 × Mem) :=
  m_bnd (f_J0_indexOf_7cf53 N v1 0 σ) (fun r1 σ2 => some (r1, σ2))
-- X7_readCover depth 4
def j_X7_readCover_110 (N : Nat) (K70 : Mem → Option (Int32 × Mem)) (y0 : Int32) (σ : Mem) : Option (Int32 × Mem) :=
  (if 1 ≤ y0 then m_bnd (f_X7_readWord N y0 σ) (fun r1 σ2 => (if r1 = 0 then gd (isb 0) (some (0, σ2)) else K70 σ2)) else m_bnd (f_X7_fails N (σ 0 3) σ) (fun r3 σ4 => gd (isb r3) (some (r3, σ4))))
def b_X7_readCover_70 (N : Nat) (K70 : Mem → Option (Int32 × Mem)) (σ : Mem) : Option (Int32 × Mem) :=
  m_bnd (f_X7_look N σ) (fun r1 σ2 => (if r1 = 59 then m_let (mu σ2 0 3 ((σ2 0 3) + 1)) (fun σ5 => m_bnd (f_X7_look N σ5) (fun r6 σ7 => (if r6 = (-1) then j_X7_readCover_110 N K70 (-1) σ7 else m_bnd (f_X7_look N σ7) (fun r8 σ9 => m_bnd (f_J0_indexOf_0f7a4 N r8 σ9) (fun r10 σ11 => j_X7_readCover_110 N K70 r10 σ11))))) else (if (σ2 0 3) = (σ2 0 2) then gd (isb 1) (some (1, σ2)) else m_bnd (f_X7_fails N (σ2 0 3) σ2) (fun r3 σ4 => (if r3 = 0 then gd (isb 0) (some (0, σ4)) else gd (isb 1) (some (1, σ4)))))))
def l_X7_readCover_70 (N : Nat) : Nat → Mem → Option (Int32 × Mem)
  | 0, _ => none
   | n + 1, σ => b_X7_readCover_70 N (l_X7_readCover_70 N n) σ
def b_X7_readCover_12 (N : Nat) (K12 : Int32 → Mem → Option (Int32 × Mem)) (x1 : Int32) (σ : Mem) : Option (Int32 × Mem) :=
  (if 10 ≤ x1 then m_bnd (f_X7_look N σ) (fun r1 σ2 => (if r1 = 104 then m_bnd (f_X7_readWord N 0 σ2) (fun r3 σ4 => (if r3 = 0 then gd (isb 0) (some (0, σ4)) else l_X7_readCover_70 N N σ4)) else m_bnd (f_X7_fails N (σ2 0 3) σ2) (fun r5 σ6 => gd (isb r5) (some (r5, σ6))))) else m_bnd (f_X7_firstOf N x1 σ) (fun r7 σ8 => gd (inb ((10 * (σ 0 7)) + x1) 70) (m_let (mu σ8 2 ((10 * (σ 0 7)) + x1).toNatClampNeg r7) (fun σ9 => K12 (x1 + 1) σ9))))
def l_X7_readCover_12 (N : Nat) : Nat → Int32 → Mem → Option (Int32 × Mem)
  | 0, _, _ => none
   | n + 1, x1, σ => b_X7_readCover_12 N (l_X7_readCover_12 N n) x1 σ
def f_X7_readCover (N : Nat) (σ : Mem) : Option (Int32 × Mem) :=
  m_let (mu σ 0 3 0) (fun σ1 => m_let (mu σ1 0 4 (-1)) (fun σ2 => l_X7_readCover_12 N N 0 σ2))
-- X7_fault depth 5
def f_X7_fault (N : Nat) (σ : Mem) : Option (Int32 × Mem) :=
  m_let (mu σ 0 0 0) (fun σ1 => m_bnd (f_X7_readCover N σ1) (fun r2 σ3 => some (σ3 0 4, σ3)))
-- X7_cover depth 5
def f_X7_cover (N : Nat) (σ : Mem) : Option (Int32 × Mem) :=
  m_let (mu σ 0 0 0) (fun σ1 => (if (σ1 0 7) = 6 then some ((-1), σ1) else m_bnd (f_X7_readCover N σ1) (fun r2 σ3 => (if r2 = 0 then some ((-1), σ3) else m_let (mu σ3 0 2 0) (fun σ4 => m_let (mu σ4 0 7 ((σ4 0 7) + 1)) (fun σ5 => some ((σ5 0 7) - 1, σ5)))))))
-- X7_isCover depth 0
def f_X7_isCover (N : Nat) (v1 : Int32) (σ : Mem) : Option (Int32 × Mem) :=
  (if v1 < 0 then gd (isb 0) (some (0, σ)) else (if (σ 0 7) ≤ v1 then gd (isb 0) (some (0, σ)) else gd (isb 1) (some (1, σ))))
-- X7_wordOf depth 0
def f_X7_wordOf (N : Nat) (v1 v2 : Int32) (σ : Mem) : Option (Int32 × Mem) :=
  gd (inb ((10 * v1) + v2) 70) (some (σ 2 ((10 * v1) + v2).toNatClampNeg, σ))
-- X7_word depth 1
def j_X7_word_24 (N : Nat) (x1 x2 y0 : Int32) (σ : Mem) : Option (Int32 × Mem) :=
  m_let (mu σ 0 0 y0) (fun σ1 => (if (σ1 0 0) ≤ 0 then m_bnd (f_X7_wordOf N x1 x2 σ1) (fun r2 σ3 => some (r2, σ3)) else some (0, σ1)))
def j_X7_word_23 (N : Nat) (x1 x2 : Int32) (σ : Mem) : Option (Int32 × Mem) :=
  j_X7_word_24 N x1 x2 1 σ
def f_X7_word (N : Nat) (v1 v2 : Int32) (σ : Mem) : Option (Int32 × Mem) :=
  m_bnd (f_X7_isCover N v1 σ) (fun r1 σ2 => (if r1 = 0 then j_X7_word_23 N v1 v2 σ2 else m_bnd (f_X7_isIn N v2 0 9 σ2) (fun r3 σ4 => (if r3 = 0 then j_X7_word_23 N v1 v2 σ4 else j_X7_word_24 N v1 v2 0 σ4))))
-- X7_loss depth 1
def f_X7_loss (N : Nat) (v1 v2 v3 v4 v5 v6 : Int32) (σ : Mem) : Option (Int32 × Mem) :=
  m_let (mu σ 0 0 0) (fun σ1 => (if (σ1 0 15) = 12 then some ((-1), σ1) else m_bnd (f_X7_isIn N v1 1 99 σ1) (fun r2 σ3 => (if r2 = 0 then some ((-1), σ3) else m_bnd (f_X7_isIn N v2 0 999 σ3) (fun r4 σ5 => (if r4 = 0 then some ((-1), σ5) else m_bnd (f_X7_isIn N v3 0 99 σ5) (fun r6 σ7 => (if r6 = 0 then some ((-1), σ7) else (if 999 < (v2 + v3) then some ((-1), σ7) else m_bnd (f_X7_isIn N v4 0 99 σ7) (fun r8 σ9 => (if r8 = 0 then some ((-1), σ9) else m_bnd (f_X7_isIn N v5 0 99 σ9) (fun r10 σ11 => (if r10 = 0 then some ((-1), σ11) else m_bnd (f_X7_isIn N v6 1 63 σ11) (fun r12 σ13 => (if r12 = 0 then some ((-1), σ13) else gd (inb (σ13 0 15) 12) (m_let (mu σ13 3 (σ13 0 15).toNatClampNeg v1) (fun σ14 => gd (inb (σ14 0 15) 12) (m_let (mu σ14 4 (σ14 0 15).toNatClampNeg v2) (fun σ15 => gd (inb (σ15 0 15) 12) (m_let (mu σ15 5 (σ15 0 15).toNatClampNeg (v2 + v3)) (fun σ16 => gd (inb (σ16 0 15) 12) (m_let (mu σ16 6 (σ16 0 15).toNatClampNeg v4) (fun σ17 => gd (inb (σ17 0 15) 12) (m_let (mu σ17 7 (σ17 0 15).toNatClampNeg v5) (fun σ18 => gd (inb (σ18 0 15) 12) (m_let (mu σ18 8 (σ18 0 15).toNatClampNeg v6) (fun σ19 => gd (inb (σ19 0 15) 12) (m_let (mu σ19 9 (σ19 0 15).toNatClampNeg 0) (fun σ20 => m_let (mu σ20 0 15 ((σ20 0 15) + 1)) (fun σ21 => some ((σ21 0 15) - 1, σ21)))))))))))))))))))))))))))))))
-- X7_isSet depth 0
def f_X7_isSet (N : Nat) (v1 : Int32) (σ : Mem) : Option (Int32 × Mem) :=
  (if v1 < 0 then gd (isb 0) (some (0, σ)) else (if (1 <<< ((σ 0 15) &&& 31)) ≤ v1 then gd (isb 0) (some (0, σ)) else gd (isb 1) (some (1, σ))))
-- X7_has depth 0
def f_X7_has (N : Nat) (v0 v1 : Int32) (σ : Mem) : Option (Int32 × Mem) :=
  (if ((v0 >>> (v1 &&& 31)) &&& 1) = 1 then gd (isb 1) (some (1, σ)) else gd (isb 0) (some (0, σ)))
-- X7_mostHour depth 1
def b_X7_mostHour_4 (N : Nat) (K4 : Int32 → Int32 → Int32 → Mem → Option (Int32 × Mem)) (x1 x2 x3 : Int32) (σ : Mem) : Option (Int32 × Mem) :=
  (if (σ 0 15) ≤ x3 then some (x2, σ) else m_bnd (f_X7_has N x1 x3 σ) (fun r1 σ2 => (if r1 = 0 then K4 x1 x2 (x3 + 1) σ2 else gd (inb x3 12) (m_leti (imax x2 (σ2 4 x3.toNatClampNeg)) (fun u3 => K4 x1 u3 (x3 + 1) σ2)))))
def l_X7_mostHour_4 (N : Nat) : Nat → Int32 → Int32 → Int32 → Mem → Option (Int32 × Mem)
  | 0, _, _, _, _ => none
   | n + 1, x1, x2, x3, σ => b_X7_mostHour_4 N (l_X7_mostHour_4 N n) x1 x2 x3 σ
def f_X7_mostHour (N : Nat) (v1 : Int32) (σ : Mem) : Option (Int32 × Mem) :=
  m_leti (-1) (fun u1 => l_X7_mostHour_4 N N v1 u1 0 σ)
-- X7_leastHour depth 1
def b_X7_leastHour_6 (N : Nat) (K6 : Int32 → Int32 → Int32 → Mem → Option (Int32 × Mem)) (x1 x2 x3 : Int32) (σ : Mem) : Option (Int32 × Mem) :=
  (if (σ 0 15) ≤ x3 then some (x2, σ) else m_bnd (f_X7_has N x1 x3 σ) (fun r1 σ2 => (if r1 = 0 then K6 x1 x2 (x3 + 1) σ2 else gd (inb x3 12) (m_leti (imin x2 (σ2 4 x3.toNatClampNeg)) (fun u3 => K6 x1 u3 (x3 + 1) σ2)))))
def l_X7_leastHour_6 (N : Nat) : Nat → Int32 → Int32 → Int32 → Mem → Option (Int32 × Mem)
  | 0, _, _, _, _ => none
   | n + 1, x1, x2, x3, σ => b_X7_leastHour_6 N (l_X7_leastHour_6 N n) x1 x2 x3 σ
def f_X7_leastHour (N : Nat) (v1 : Int32) (σ : Mem) : Option (Int32 × Mem) :=
  l_X7_leastHour_6 N N v1 1000 0 σ
-- X7_areNear depth 0
def f_X7_areNear (N : Nat) (v1 v2 v3 : Int32) (σ : Mem) : Option (Int32 × Mem) :=
  gd (inb v1 12) (gd (inb v2 12) (m_leti ((σ 6 v1.toNatClampNeg) - (σ 6 v2.toNatClampNeg)) (fun u1 => gd (inb v1 12) (gd (inb v2 12) (m_leti ((σ 7 v1.toNatClampNeg) - (σ 7 v2.toNatClampNeg)) (fun u2 => (if (v3 * v3) < ((u1 * u1) + (u2 * u2)) then gd (isb 0) (some (0, σ)) else gd (isb 1) (some (1, σ)))))))))
-- X7_mayBeOne depth 2
def b_X7_mayBeOne_62 (N : Nat) (K28 : Int32 → Int32 → Int32 → Int32 → Mem → Option (Int32 × Mem)) (K62 : Int32 → Int32 → Int32 → Int32 → Int32 → Mem → Option (Int32 × Mem)) (x1 x2 x3 x4 x5 : Int32) (σ : Mem) : Option (Int32 × Mem) :=
  (if x4 ≤ x5 then K28 x1 x2 x3 (x4 + 1) σ else m_bnd (f_X7_wordOf N x1 1 σ) (fun r1 σ2 => (if r1 = (-1) then K28 x1 x2 x3 (x4 + 1) σ2 else m_bnd (f_X7_has N x2 x5 σ2) (fun r3 σ4 => (if r3 = 0 then K62 x1 x2 x3 x4 (x5 + 1) σ4 else m_bnd (f_X7_wordOf N x1 1 σ4) (fun r5 σ6 => m_bnd (f_X7_areNear N x4 x5 r5 σ6) (fun r7 σ8 => (if r7 = 0 then gd (isb 0) (some (0, σ8)) else K62 x1 x2 x3 x4 (x5 + 1) σ8))))))))
def l_X7_mayBeOne_62 (N : Nat) (K28 : Int32 → Int32 → Int32 → Int32 → Mem → Option (Int32 × Mem)) : Nat → Int32 → Int32 → Int32 → Int32 → Int32 → Mem → Option (Int32 × Mem)
  | 0, _, _, _, _, _, _ => none
   | n + 1, x1, x2, x3, x4, x5, σ => b_X7_mayBeOne_62 N K28 (l_X7_mayBeOne_62 N K28 n) x1 x2 x3 x4 x5 σ
def b_X7_mayBeOne_28 (N : Nat) (K28 : Int32 → Int32 → Int32 → Int32 → Mem → Option (Int32 × Mem)) (x1 x2 x3 x4 : Int32) (σ : Mem) : Option (Int32 × Mem) :=
  (if (σ 0 15) ≤ x4 then m_bnd (f_X7_wordOf N x1 2 σ) (fun r1 σ2 => (if r1 = 0 then gd (isb 1) (some (1, σ2)) else (if x3 = 0 then gd (isb 0) (some (0, σ2)) else gd (isb 1) (some (1, σ2))))) else m_bnd (f_X7_has N x2 x4 σ) (fun r3 σ4 => (if r3 = 0 then K28 x1 x2 x3 (x4 + 1) σ4 else gd (inb x4 12) (m_leti (x3 &&& (σ4 8 x4.toNatClampNeg)) (fun u5 => l_X7_mayBeOne_62 N K28 N x1 x2 u5 x4 0 σ4)))))
def l_X7_mayBeOne_28 (N : Nat) : Nat → Int32 → Int32 → Int32 → Int32 → Mem → Option (Int32 × Mem)
  | 0, _, _, _, _, _ => none
   | n + 1, x1, x2, x3, x4, σ => b_X7_mayBeOne_28 N (l_X7_mayBeOne_28 N n) x1 x2 x3 x4 σ
def f_X7_mayBeOne (N : Nat) (v1 v2 : Int32) (σ : Mem) : Option (Int32 × Mem) :=
  m_bnd (f_X7_mostHour N v2 σ) (fun r1 σ2 => m_bnd (f_X7_leastHour N v2 σ2) (fun r3 σ4 => m_bnd (f_X7_wordOf N v1 0 σ4) (fun r5 σ6 => (if (r1 - r3) < r5 then l_X7_mayBeOne_28 N N v1 v2 63 0 σ6 else gd (isb 0) (some (0, σ6))))))
-- X7_may depth 3
def f_X7_may (N : Nat) (v1 v2 : Int32) (σ : Mem) : Option (Int32 × Mem) :=
  m_let (mu σ 0 0 0) (fun σ1 => m_bnd (f_X7_isCover N v1 σ1) (fun r2 σ3 => (if r2 = 0 then some ((-1), σ3) else m_bnd (f_X7_isSet N v2 σ3) (fun r4 σ5 => (if r4 = 0 then some ((-1), σ5) else (if v2 = 0 then some ((-1), σ5) else m_bnd (f_X7_mayBeOne N v1 v2 σ5) (fun r6 σ7 => (if r6 = 0 then some (0, σ7) else some (1, σ7)))))))))
-- X7_sumOf depth 1
def b_X7_sumOf_4 (N : Nat) (K4 : Int32 → Int32 → Int32 → Mem → Option (Int32 × Mem)) (x1 x2 x3 : Int32) (σ : Mem) : Option (Int32 × Mem) :=
  (if (σ 0 15) ≤ x3 then some (x2, σ) else m_bnd (f_X7_has N x1 x3 σ) (fun r1 σ2 => (if r1 = 0 then m_leti (x2 + 0) (fun u3 => K4 x1 u3 (x3 + 1) σ2) else gd (inb x3 12) (m_leti (x2 + (σ2 3 x3.toNatClampNeg)) (fun u4 => K4 x1 u4 (x3 + 1) σ2)))))
def l_X7_sumOf_4 (N : Nat) : Nat → Int32 → Int32 → Int32 → Mem → Option (Int32 × Mem)
  | 0, _, _, _, _ => none
   | n + 1, x1, x2, x3, σ => b_X7_sumOf_4 N (l_X7_sumOf_4 N n) x1 x2 x3 σ
def f_X7_sumOf (N : Nat) (v1 : Int32) (σ : Mem) : Option (Int32 × Mem) :=
  l_X7_sumOf_4 N N v1 0 0 σ
-- X7_paidOf depth 1
def f_X7_paidOf (N : Nat) (v1 v2 : Int32) (σ : Mem) : Option (Int32 × Mem) :=
  m_bnd (f_X7_wordOf N v1 6 σ) (fun r1 σ2 => m_bnd (f_X7_wordOf N v1 5 σ2) (fun r3 σ4 => some (imin r1 (imax 0 (v2 - r3)), σ4)))
-- X7_paid depth 2
def f_X7_paid (N : Nat) (v1 v2 : Int32) (σ : Mem) : Option (Int32 × Mem) :=
  m_let (mu σ 0 0 0) (fun σ1 => m_bnd (f_X7_isCover N v1 σ1) (fun r2 σ3 => (if r2 = 0 then some ((-1), σ3) else m_bnd (f_X7_isSet N v2 σ3) (fun r4 σ5 => (if r4 = 0 then some ((-1), σ5) else (if v2 = 0 then some ((-1), σ5) else m_bnd (f_X7_sumOf N v2 σ5) (fun r6 σ7 => m_bnd (f_X7_paidOf N v1 r6 σ7) (fun r8 σ9 => some (r8, σ9)))))))))
-- X7_isLoss depth 0
def f_X7_isLoss (N : Nat) (v1 : Int32) (σ : Mem) : Option (Int32 × Mem) :=
  (if v1 < 0 then gd (isb 0) (some (0, σ)) else (if (σ 0 15) ≤ v1 then gd (isb 0) (some (0, σ)) else gd (isb 1) (some (1, σ))))
-- X7_put_ depth 1
def f_X7_put_ (N : Nat) (v1 v2 : Int32) (σ : Mem) : Option (Int32 × Mem) :=
  m_let (mu σ 0 0 0) (fun σ1 => m_bnd (f_X7_isLoss N v1 σ1) (fun r2 σ3 => (if r2 = 0 then gd (isb 0) (some (0, σ3)) else m_bnd (f_X7_isIn N v2 0 15 σ3) (fun r4 σ5 => (if r4 = 0 then gd (isb 0) (some (0, σ5)) else gd (inb v1 12) (m_let (mu σ5 9 v1.toNatClampNeg v2) (fun σ6 => gd (isb 1) (some (1, σ6)))))))))
-- X7_toldWith depth 0
def b_X7_toldWith_4 (N : Nat) (K4 : Int32 → Int32 → Int32 → Mem → Option (Int32 × Mem)) (x1 x2 x3 : Int32) (σ : Mem) : Option (Int32 × Mem) :=
  (if (σ 0 15) ≤ x3 then some (x2, σ) else gd (inb x3 12) (gd (inb x1 12) ((if (σ 9 x3.toNatClampNeg) = (σ 9 x1.toNatClampNeg) then m_leti (x2 ||| (1 <<< (x3 &&& 31))) (fun u2 => K4 x1 u2 (x3 + 1) σ) else m_leti (x2 ||| 0) (fun u1 => K4 x1 u1 (x3 + 1) σ)))))
def l_X7_toldWith_4 (N : Nat) : Nat → Int32 → Int32 → Int32 → Mem → Option (Int32 × Mem)
  | 0, _, _, _, _ => none
   | n + 1, x1, x2, x3, σ => b_X7_toldWith_4 N (l_X7_toldWith_4 N n) x1 x2 x3 σ
def f_X7_toldWith (N : Nat) (v1 : Int32) (σ : Mem) : Option (Int32 × Mem) :=
  l_X7_toldWith_4 N N v1 0 0 σ
-- J6_numberOfTrailingZeros_0f7a4 depth 0
def f_J6_numberOfTrailingZeros_0f7a4 (N : Nat) (v0 : Int32) (σ : Mem) : Option (Int32 × Mem) :=
  m_leti ((v0 ^^^ (-1)) &&& (v0 - 1)) (fun u1 => (if 0 < u1 then (if u1 ≤ 65536 then (if u1 ≤ 256 then (if u1 ≤ 16 then (if u1 ≤ 4 then some (1 + (ushr u1 1), σ) else m_leti (ushr u1 2) (fun u2 => some ((1 + 2) + (ushr u2 1), σ))) else m_leti (ushr u1 4) (fun u3 => (if u3 ≤ 4 then some ((1 + 4) + (ushr u3 1), σ) else m_leti (ushr u3 2) (fun u4 => some (((1 + 4) + 2) + (ushr u4 1), σ))))) else m_leti (ushr u1 8) (fun u5 => (if u5 ≤ 16 then (if u5 ≤ 4 then some ((1 + 8) + (ushr u5 1), σ) else m_leti (ushr u5 2) (fun u6 => some (((1 + 8) + 2) + (ushr u6 1), σ))) else m_leti (ushr u5 4) (fun u7 => (if u7 ≤ 4 then some (((1 + 8) + 4) + (ushr u7 1), σ) else m_leti (ushr u7 2) (fun u8 => some ((((1 + 8) + 4) + 2) + (ushr u8 1), σ))))))) else m_leti (ushr u1 16) (fun u9 => (if u9 ≤ 256 then (if u9 ≤ 16 then (if u9 ≤ 4 then some ((1 + 16) + (ushr u9 1), σ) else m_leti (ushr u9 2) (fun u10 => some (((1 + 16) + 2) + (ushr u10 1), σ))) else m_leti (ushr u9 4) (fun u11 => (if u11 ≤ 4 then some (((1 + 16) + 4) + (ushr u11 1), σ) else m_leti (ushr u11 2) (fun u12 => some ((((1 + 16) + 4) + 2) + (ushr u12 1), σ))))) else m_leti (ushr u9 8) (fun u13 => (if u13 ≤ 16 then (if u13 ≤ 4 then some (((1 + 16) + 8) + (ushr u13 1), σ) else m_leti (ushr u13 2) (fun u14 => some ((((1 + 16) + 8) + 2) + (ushr u14 1), σ))) else m_leti (ushr u13 4) (fun u15 => (if u15 ≤ 4 then some ((((1 + 16) + 8) + 4) + (ushr u15 1), σ) else m_leti (ushr u15 2) (fun u16 => some (((((1 + 16) + 8) + 4) + 2) + (ushr u16 1), σ))))))))) else some (u1 &&& 32, σ)))
-- X7_areApart depth 2
def f_X7_areApart (N : Nat) (v1 v2 v3 : Int32) (σ : Mem) : Option (Int32 × Mem) :=
  m_bnd (f_X7_wordOf N v1 3 σ) (fun r1 σ2 => (if r1 = 1 then gd (isb 1) (some (1, σ2)) else m_bnd (f_X7_mostHour N v2 σ2) (fun r3 σ4 => m_bnd (f_X7_wordOf N v1 4 σ4) (fun r5 σ6 => m_bnd (f_X7_leastHour N v3 σ6) (fun r7 σ8 => (if (r3 + r5) < r7 then gd (isb 1) (some (1, σ8)) else m_bnd (f_X7_mostHour N v3 σ8) (fun r9 σ10 => m_bnd (f_X7_wordOf N v1 4 σ10) (fun r11 σ12 => m_bnd (f_X7_leastHour N v2 σ12) (fun r13 σ14 => (if r13 ≤ (r9 + r11) then gd (isb 0) (some (0, σ14)) else gd (isb 1) (some (1, σ14))))))))))))
-- X7_bars depth 3
def f_X7_bars (N : Nat) (v1 v2 v3 : Int32) (σ : Mem) : Option (Int32 × Mem) :=
  gd (inb v2 12) (gd (inb v3 12) ((if (σ 9 v2.toNatClampNeg) = (σ 9 v3.toNatClampNeg) then m_bnd (f_X7_mayBeOne N v1 ((1 <<< (v2 &&& 31)) ||| (1 <<< (v3 &&& 31))) σ) (fun r7 σ8 => (if r7 = 0 then gd (isb 1) (some (1, σ8)) else gd (isb 0) (some (0, σ8)))) else m_bnd (f_X7_toldWith N v2 σ) (fun r1 σ2 => m_bnd (f_X7_toldWith N v3 σ2) (fun r3 σ4 => m_bnd (f_X7_areApart N v1 r1 r3 σ4) (fun r5 σ6 => (if r5 = 0 then gd (isb 1) (some (1, σ6)) else gd (isb 0) (some (0, σ6)))))))))
-- X7_judged depth 4
def b_X7_judged_53 (N : Nat) (K53 : Int32 → Int32 → Mem → Option (Int32 × Mem)) (x1 x2 : Int32) (σ : Mem) : Option (Int32 × Mem) :=
  (if (σ 0 15) ≤ x2 then some ((-1), σ) else m_bnd (f_X7_toldWith N x2 σ) (fun r1 σ2 => m_bnd (f_J6_numberOfTrailingZeros_0f7a4 N r1 σ2) (fun r3 σ4 => (if r3 = x2 then m_bnd (f_X7_mayBeOne N x1 r1 σ4) (fun r5 σ6 => (if r5 = 0 then m_leti (r1 &&& (r1 - 1)) (fun u7 => m_bnd (f_J6_numberOfTrailingZeros_0f7a4 N u7 σ6) (fun r8 σ9 => some ((16 * x2) + r8, σ9))) else K53 x1 (x2 + 1) σ6)) else K53 x1 (x2 + 1) σ4))))
def l_X7_judged_53 (N : Nat) : Nat → Int32 → Int32 → Mem → Option (Int32 × Mem)
  | 0, _, _, _ => none
   | n + 1, x1, x2, σ => b_X7_judged_53 N (l_X7_judged_53 N n) x1 x2 σ
def b_X7_judged_14 (N : Nat) (K2 : Int32 → Int32 → Mem → Option (Int32 × Mem)) (K14 : Int32 → Int32 → Int32 → Mem → Option (Int32 × Mem)) (x1 x2 x3 : Int32) (σ : Mem) : Option (Int32 × Mem) :=
  (if (σ 0 15) ≤ x3 then K2 x1 (x2 + 1) σ else m_bnd (f_X7_bars N x1 x2 x3 σ) (fun r1 σ2 => (if r1 = 0 then K14 x1 x2 (x3 + 1) σ2 else some ((16 * x2) + x3, σ2))))
def l_X7_judged_14 (N : Nat) (K2 : Int32 → Int32 → Mem → Option (Int32 × Mem)) : Nat → Int32 → Int32 → Int32 → Mem → Option (Int32 × Mem)
  | 0, _, _, _, _ => none
   | n + 1, x1, x2, x3, σ => b_X7_judged_14 N K2 (l_X7_judged_14 N K2 n) x1 x2 x3 σ
def b_X7_judged_2 (N : Nat) (K2 : Int32 → Int32 → Mem → Option (Int32 × Mem)) (x1 x2 : Int32) (σ : Mem) : Option (Int32 × Mem) :=
  (if (σ 0 15) ≤ x2 then l_X7_judged_53 N N x1 0 σ else m_leti (x2 + 1) (fun u1 => l_X7_judged_14 N K2 N x1 x2 u1 σ))
def l_X7_judged_2 (N : Nat) : Nat → Int32 → Int32 → Mem → Option (Int32 × Mem)
  | 0, _, _, _ => none
   | n + 1, x1, x2, σ => b_X7_judged_2 N (l_X7_judged_2 N n) x1 x2 σ
def f_X7_judged (N : Nat) (v1 : Int32) (σ : Mem) : Option (Int32 × Mem) :=
  l_X7_judged_2 N N v1 0 σ
-- X7_judge depth 5
def f_X7_judge (N : Nat) (v1 : Int32) (σ : Mem) : Option (Int32 × Mem) :=
  m_let (mu σ 0 0 0) (fun σ1 => m_bnd (f_X7_isCover N v1 σ1) (fun r2 σ3 => (if r2 = 0 then some ((-1), σ3) else m_bnd (f_X7_judged N v1 σ3) (fun r4 σ5 => some (r4, σ5)))))
-- X7_isAhead depth 0
def f_X7_isAhead (N : Nat) (v1 v2 v3 : Int32) (σ : Mem) : Option (Int32 × Mem) :=
  gd (inb v3 12) ((if v2 = (σ 13 v3.toNatClampNeg) then gd (inb v3 12) ((if (σ 15 v3.toNatClampNeg) ≤ v1 then gd (isb 0) (some (0, σ)) else gd (isb 1) (some (1, σ)))) else gd (inb v3 12) ((if (σ 13 v3.toNatClampNeg) ≤ v2 then gd (isb 0) (some (0, σ)) else gd (isb 1) (some (1, σ))))))
-- X7_layRow depth 1
def j_X7_layRow_229 (N : Nat) (K2 : Int32 → Mem → Option (Int32 × Mem)) (x1 x2 x3 x4 x5 x6 : Int32) (σ : Mem) : Option (Int32 × Mem) :=
  gd (inb x6 12) (m_let (mu σ 15 x6.toNatClampNeg x5) (fun σ1 => gd (inb x1 12) (gd (inb x6 12) (m_let (mu σ1 11 x6.toNatClampNeg (σ1 10 x1.toNatClampNeg)) (fun σ2 => gd (inb x6 12) (m_let (mu σ2 12 x6.toNatClampNeg x4) (fun σ3 => gd (inb x6 12) (m_let (mu σ3 13 x6.toNatClampNeg x2) (fun σ4 => gd (inb x6 12) (m_let (mu σ4 14 x6.toNatClampNeg x3) (fun σ5 => K2 (x1 + 1) σ5)))))))))))
def b_X7_layRow_124 (N : Nat) (K2 : Int32 → Mem → Option (Int32 × Mem)) (K124 : Int32 → Int32 → Int32 → Int32 → Int32 → Int32 → Mem → Option (Int32 × Mem)) (x1 x2 x3 x4 x5 x6 : Int32) (σ : Mem) : Option (Int32 × Mem) :=
  (if x6 ≤ 0 then j_X7_layRow_229 N K2 x1 x2 x3 x4 x5 x6 σ else m_bnd (f_X7_isAhead N x5 x2 (x6 - 1) σ) (fun r1 σ2 => (if r1 = 0 then j_X7_layRow_229 N K2 x1 x2 x3 x4 x5 x6 σ2 else gd (inb (x6 - 1) 12) (gd (inb x6 12) (m_let (mu σ2 15 x6.toNatClampNeg (σ2 15 (x6 - 1).toNatClampNeg)) (fun σ3 => gd (inb (x6 - 1) 12) (gd (inb x6 12) (m_let (mu σ3 11 x6.toNatClampNeg (σ3 11 (x6 - 1).toNatClampNeg)) (fun σ4 => gd (inb (x6 - 1) 12) (gd (inb x6 12) (m_let (mu σ4 12 x6.toNatClampNeg (σ4 12 (x6 - 1).toNatClampNeg)) (fun σ5 => gd (inb (x6 - 1) 12) (gd (inb x6 12) (m_let (mu σ5 13 x6.toNatClampNeg (σ5 13 (x6 - 1).toNatClampNeg)) (fun σ6 => gd (inb (x6 - 1) 12) (gd (inb x6 12) (m_let (mu σ6 14 x6.toNatClampNeg (σ6 14 (x6 - 1).toNatClampNeg)) (fun σ7 => K124 x1 x2 x3 x4 x5 (x6 + (-1)) σ7))))))))))))))))))
def l_X7_layRow_124 (N : Nat) (K2 : Int32 → Mem → Option (Int32 × Mem)) : Nat → Int32 → Int32 → Int32 → Int32 → Int32 → Int32 → Mem → Option (Int32 × Mem)
  | 0, _, _, _, _, _, _, _ => none
   | n + 1, x1, x2, x3, x4, x5, x6, σ => b_X7_layRow_124 N K2 (l_X7_layRow_124 N K2 n) x1 x2 x3 x4 x5 x6 σ
def b_X7_layRow_90 (N : Nat) (K2 : Int32 → Mem → Option (Int32 × Mem)) (K90 : Int32 → Int32 → Int32 → Int32 → Int32 → Mem → Option (Int32 × Mem)) (x1 x2 x3 x4 x5 : Int32) (σ : Mem) : Option (Int32 × Mem) :=
  gd (inb x1 12) (m_bnd (f_X7_has N (σ 10 x1.toNatClampNeg) x5 σ) (fun r1 σ2 => (if r1 = 0 then K90 x1 x2 x3 x4 (x5 + 1) σ2 else gd (inb x5 12) ((if (σ2 4 x5.toNatClampNeg) = x2 then l_X7_layRow_124 N K2 N x1 x2 x3 x4 x5 x1 σ2 else K90 x1 x2 x3 x4 (x5 + 1) σ2)))))
def l_X7_layRow_90 (N : Nat) (K2 : Int32 → Mem → Option (Int32 × Mem)) : Nat → Int32 → Int32 → Int32 → Int32 → Int32 → Mem → Option (Int32 × Mem)
  | 0, _, _, _, _, _, _ => none
   | n + 1, x1, x2, x3, x4, x5, σ => b_X7_layRow_90 N K2 (l_X7_layRow_90 N K2 n) x1 x2 x3 x4 x5 σ
def b_X7_layRow_27 (N : Nat) (K2 : Int32 → Mem → Option (Int32 × Mem)) (K27 : Int32 → Int32 → Int32 → Int32 → Int32 → Mem → Option (Int32 × Mem)) (x1 x2 x3 x4 x5 : Int32) (σ : Mem) : Option (Int32 × Mem) :=
  (if x5 = 0 then l_X7_layRow_90 N K2 N x1 x2 x3 x4 0 σ else m_bnd (f_J6_numberOfTrailingZeros_0f7a4 N x5 σ) (fun r1 σ2 => gd (inb r1 12) (m_leti (imin x2 (σ2 4 r1.toNatClampNeg)) (fun u3 => gd (inb r1 12) (m_leti (imax x3 (σ2 4 r1.toNatClampNeg)) (fun u4 => gd (inb r1 12) (m_leti (x4 + (σ2 3 r1.toNatClampNeg)) (fun u5 => m_leti (x5 &&& (x5 - 1)) (fun u6 => K27 x1 u3 u4 u5 u6 σ2)))))))))
def l_X7_layRow_27 (N : Nat) (K2 : Int32 → Mem → Option (Int32 × Mem)) : Nat → Int32 → Int32 → Int32 → Int32 → Int32 → Mem → Option (Int32 × Mem)
  | 0, _, _, _, _, _, _ => none
   | n + 1, x1, x2, x3, x4, x5, σ => b_X7_layRow_27 N K2 (l_X7_layRow_27 N K2 n) x1 x2 x3 x4 x5 σ
def b_X7_layRow_2 (N : Nat) (K2 : Int32 → Mem → Option (Int32 × Mem)) (x1 : Int32) (σ : Mem) : Option (Int32 × Mem) :=
  (if (σ 0 22) ≤ x1 then some (0, σ) else m_leti (-1) (fun u1 => gd (inb x1 12) (m_leti (σ 10 x1.toNatClampNeg) (fun u2 => l_X7_layRow_27 N K2 N x1 1000 u1 0 u2 σ))))
def l_X7_layRow_2 (N : Nat) : Nat → Int32 → Mem → Option (Int32 × Mem)
  | 0, _, _ => none
   | n + 1, x1, σ => b_X7_layRow_2 N (l_X7_layRow_2 N n) x1 σ
def f_X7_layRow (N : Nat) (σ : Mem) : Option (Int32 × Mem) :=
  l_X7_layRow_2 N N 0 σ
-- X7_bringsBy depth 2
def b_X7_bringsBy_12 (N : Nat) (K12 : Int32 → Int32 → Mem → Option (Int32 × Mem)) (x1 x2 : Int32) (σ : Mem) : Option (Int32 × Mem) :=
  (if (σ 0 22) ≤ x2 then m_bnd (f_X7_wordOf N x1 8 σ) (fun r1 σ2 => some ((σ 0 24) * (100 - r1), σ2)) else gd (inb x2 12) (m_bnd (f_X7_paidOf N x1 (σ 12 x2.toNatClampNeg) σ) (fun r3 σ4 => (if r3 = 0 then K12 x1 (x2 + 1) σ4 else m_bnd (f_X7_wordOf N x1 7 σ4) (fun r5 σ6 => (if (σ4 0 23) = r5 then K12 x1 (x2 + 1) σ6 else m_let (mu σ6 0 23 ((σ6 0 23) + 1)) (fun σ7 => m_let (mu σ7 0 24 ((σ7 0 24) + r3)) (fun σ8 => K12 x1 (x2 + 1) σ8))))))))
def l_X7_bringsBy_12 (N : Nat) : Nat → Int32 → Int32 → Mem → Option (Int32 × Mem)
  | 0, _, _, _ => none
   | n + 1, x1, x2, σ => b_X7_bringsBy_12 N (l_X7_bringsBy_12 N n) x1 x2 σ
def f_X7_bringsBy (N : Nat) (v1 : Int32) (σ : Mem) : Option (Int32 × Mem) :=
  m_let (mu σ 0 23 0) (fun σ1 => m_let (mu σ1 0 24 0) (fun σ2 => l_X7_bringsBy_12 N N v1 0 σ2))
-- X7_netBy depth 3
def f_X7_netBy (N : Nat) (v1 : Int32) (σ : Mem) : Option (Int32 × Mem) :=
  m_bnd (f_X7_bringsBy N v1 σ) (fun r1 σ2 => m_bnd (f_X7_wordOf N v1 6 σ2) (fun r3 σ4 => m_bnd (f_X7_wordOf N v1 7 σ4) (fun r5 σ6 => m_leti (imin (σ2 0 24) (r3 * (r5 - 1))) (fun u7 => m_bnd (f_X7_wordOf N v1 6 σ6) (fun r8 σ9 => m_bnd (f_X7_wordOf N v1 9 σ9) (fun r10 σ11 => some ((r1 * r8) - ((100 * r10) * u7), σ11)))))))
-- X7_brings depth 5
def b_X7_brings_41 (N : Nat) (K41 : Int32 → Int32 → Int32 → Mem → Option (Int32 × Mem)) (x1 x2 x3 : Int32) (σ : Mem) : Option (Int32 × Mem) :=
  (if (σ 0 15) ≤ x3 then m_bnd (f_X7_layRow N σ) (fun r1 σ2 => m_bnd (f_X7_bringsBy N x1 σ2) (fun r3 σ4 => (if x2 = 0 then some (r3, σ4) else (if x2 = 1 then m_bnd (f_X7_netBy N x1 σ4) (fun r5 σ6 => some (r5, σ6)) else (if x2 = 2 then some (σ4 0 22, σ4) else some (σ4 0 23, σ4)))))) else m_bnd (f_X7_toldWith N x3 σ) (fun r7 σ8 => m_bnd (f_J6_numberOfTrailingZeros_0f7a4 N r7 σ8) (fun r9 σ10 => (if r9 = x3 then gd (inb (σ10 0 22) 12) (m_let (mu σ10 10 (σ10 0 22).toNatClampNeg r7) (fun σ11 => m_let (mu σ11 0 22 ((σ11 0 22) + 1)) (fun σ12 => K41 x1 x2 (x3 + 1) σ12))) else K41 x1 x2 (x3 + 1) σ10))))
def l_X7_brings_41 (N : Nat) : Nat → Int32 → Int32 → Int32 → Mem → Option (Int32 × Mem)
  | 0, _, _, _, _ => none
   | n + 1, x1, x2, x3, σ => b_X7_brings_41 N (l_X7_brings_41 N n) x1 x2 x3 σ
def f_X7_brings (N : Nat) (v1 v2 : Int32) (σ : Mem) : Option (Int32 × Mem) :=
  m_let (mu σ 0 0 0) (fun σ1 => m_bnd (f_X7_isCover N v1 σ1) (fun r2 σ3 => (if r2 = 0 then some ((-100000000), σ3) else m_bnd (f_X7_isIn N v2 0 3 σ3) (fun r4 σ5 => (if r4 = 0 then some ((-100000000), σ5) else m_bnd (f_X7_judged N v1 σ5) (fun r6 σ7 => (if r6 = (-1) then m_let (mu σ7 0 22 0) (fun σ8 => l_X7_brings_41 N N v1 v2 0 σ8) else some ((-100000000), σ7))))))))
-- X7_year depth 2
def b_X7_year_59 (N : Nat) (K59 : Int32 → Int32 → Int32 → Int32 → Mem → Option (Int32 × Mem)) (x2 x4 x5 x6 : Int32) (σ : Mem) : Option (Int32 × Mem) :=
  (if (σ 0 15) ≤ x6 then m_bnd (f_X7_sumOf N x4 σ) (fun r1 σ2 => (if (2 * x5) < r1 then some (1, σ2) else some (0, σ2))) else m_bnd (f_X7_has N x4 x6 σ) (fun r3 σ4 => (if r3 = 0 then m_leti (x5 + 0) (fun u5 => K59 x2 x4 u5 (x6 + 1) σ4) else gd (inb x6 12) ((if x2 ≤ (σ4 4 x6.toNatClampNeg) then m_leti (x5 + 0) (fun u6 => K59 x2 x4 u6 (x6 + 1) σ4) else gd (inb x6 12) (m_leti (x5 + (σ4 3 x6.toNatClampNeg)) (fun u7 => K59 x2 x4 u7 (x6 + 1) σ4)))))))
def l_X7_year_59 (N : Nat) : Nat → Int32 → Int32 → Int32 → Int32 → Mem → Option (Int32 × Mem)
  | 0, _, _, _, _, _ => none
   | n + 1, x2, x4, x5, x6, σ => b_X7_year_59 N (l_X7_year_59 N n) x2 x4 x5 x6 σ
def f_X7_year (N : Nat) (v1 v2 v3 : Int32) (σ : Mem) : Option (Int32 × Mem) :=
  m_let (mu σ 0 0 0) (fun σ1 => m_bnd (f_X7_isLoss N v1 σ1) (fun r2 σ3 => (if r2 = 0 then some ((-1), σ3) else m_bnd (f_X7_isIn N v2 0 999 σ3) (fun r4 σ5 => (if r4 = 0 then some ((-1), σ5) else m_bnd (f_X7_toldWith N v1 σ5) (fun r6 σ7 => (if v3 = 0 then m_bnd (f_X7_leastHour N r6 σ7) (fun r8 σ9 => (if v2 ≤ r8 then some (1, σ9) else some (0, σ9))) else l_X7_year_59 N N v2 r6 0 0 σ7)))))))
-- J6_bitCount_0f7a4 depth 0
def f_J6_bitCount_0f7a4 (N : Nat) (v0 : Int32) (σ : Mem) : Option (Int32 × Mem) :=
  m_leti (v0 - ((ushr v0 1) &&& 1431655765)) (fun u1 => m_leti ((u1 &&& 858993459) + ((ushr u1 2) &&& 858993459)) (fun u2 => m_leti ((u2 + (ushr u2 4)) &&& 252645135) (fun u3 => m_leti (u3 + (ushr u3 8)) (fun u4 => m_leti (u4 + (ushr u4 16)) (fun u5 => some (u5 &&& 63, σ))))))
-- X7_isTold depth 1
def f_X7_isTold (N : Nat) (v1 v2 : Int32) (σ : Mem) : Option (Int32 × Mem) :=
  m_bnd (f_J6_bitCount_0f7a4 N v2 σ) (fun r1 σ2 => (if r1 ≤ 8 then gd (isb 1) (some (1, σ2)) else m_bnd (f_X7_wordOf N v1 3 σ2) (fun r3 σ4 => (if r3 = 0 then gd (isb 1) (some (1, σ4)) else gd (isb 0) (some (0, σ4))))))
-- X7_every depth 0
def f_X7_every (N : Nat) (σ : Mem) : Option (Int32 × Mem) :=
  some ((1 <<< ((σ 0 15) &&& 31)) - 1, σ)
-- X7_isAsked depth 1
def f_X7_isAsked (N : Nat) (v1 : Int32) (σ : Mem) : Option (Int32 × Mem) :=
  (if (σ 0 34) = 0 then (if v1 = (σ 0 25) then gd (isb 1) (some (1, σ)) else gd (isb 0) (some (0, σ))) else m_bnd (f_X7_has N (σ 0 25) v1 σ) (fun r1 σ2 => gd (isb r1) (some (r1, σ2))))
-- X7_layPairs depth 3
def b_X7_layPairs_90 (N : Nat) (K33 : Int32 → Mem → Option (Int32 × Mem)) (K80 : Int32 → Int32 → Mem → Option (Int32 × Mem)) (K90 : Int32 → Int32 → Int32 → Mem → Option (Int32 × Mem)) (x1 x2 x3 : Int32) (σ : Mem) : Option (Int32 × Mem) :=
  (if (σ 0 15) ≤ x3 then K80 x1 (x2 + 1) σ else (if x2 = x3 then K90 x1 x2 (x3 + 1) σ else m_bnd (f_X7_mayBeOne N x1 ((1 <<< (x2 &&& 31)) ||| (1 <<< (x3 &&& 31))) σ) (fun r1 σ2 => (if r1 = 0 then gd (inb x2 12) (gd (inb x2 12) (m_let (mu σ2 16 x2.toNatClampNeg ((σ2 16 x2.toNatClampNeg) &&& ((1 <<< (x3 &&& 31)) ^^^ (-1)))) (fun σ3 => K90 x1 x2 (x3 + 1) σ3))) else K90 x1 x2 (x3 + 1) σ2))))
def l_X7_layPairs_90 (N : Nat) (K33 : Int32 → Mem → Option (Int32 × Mem)) (K80 : Int32 → Int32 → Mem → Option (Int32 × Mem)) : Nat → Int32 → Int32 → Int32 → Mem → Option (Int32 × Mem)
  | 0, _, _, _, _ => none
   | n + 1, x1, x2, x3, σ => b_X7_layPairs_90 N K33 K80 (l_X7_layPairs_90 N K33 K80 n) x1 x2 x3 σ
def b_X7_layPairs_80 (N : Nat) (K33 : Int32 → Mem → Option (Int32 × Mem)) (K80 : Int32 → Int32 → Mem → Option (Int32 × Mem)) (x1 x2 : Int32) (σ : Mem) : Option (Int32 × Mem) :=
  (if (σ 0 15) ≤ x2 then K33 (x1 + 1) σ else l_X7_layPairs_90 N K33 K80 N x1 x2 0 σ)
def l_X7_layPairs_80 (N : Nat) (K33 : Int32 → Mem → Option (Int32 × Mem)) : Nat → Int32 → Int32 → Mem → Option (Int32 × Mem)
  | 0, _, _, _ => none
   | n + 1, x1, x2, σ => b_X7_layPairs_80 N K33 (l_X7_layPairs_80 N K33 n) x1 x2 σ
def b_X7_layPairs_33 (N : Nat) (K33 : Int32 → Mem → Option (Int32 × Mem)) (x1 : Int32) (σ : Mem) : Option (Int32 × Mem) :=
  (if (σ 0 7) ≤ x1 then some (0, σ) else m_bnd (f_X7_isAsked N x1 σ) (fun r1 σ2 => (if r1 = 0 then K33 (x1 + 1) σ2 else (if (σ2 0 37) = 0 then m_bnd (f_X7_wordOf N x1 2 σ2) (fun r4 σ5 => (if r4 = 1 then gd (isb 1) (m_let (mu σ5 0 37 1) (fun σ7 => l_X7_layPairs_80 N K33 N x1 0 σ7)) else gd (isb 0) (m_let (mu σ5 0 37 0) (fun σ6 => l_X7_layPairs_80 N K33 N x1 0 σ6)))) else gd (isb 1) (m_let (mu σ2 0 37 1) (fun σ3 => l_X7_layPairs_80 N K33 N x1 0 σ3))))))
def l_X7_layPairs_33 (N : Nat) : Nat → Int32 → Mem → Option (Int32 × Mem)
  | 0, _, _ => none
   | n + 1, x1, σ => b_X7_layPairs_33 N (l_X7_layPairs_33 N n) x1 σ
def b_X7_layPairs_7 (N : Nat) (K7 : Int32 → Mem → Option (Int32 × Mem)) (x1 : Int32) (σ : Mem) : Option (Int32 × Mem) :=
  (if (σ 0 15) ≤ x1 then l_X7_layPairs_33 N N 0 σ else m_bnd (f_X7_every N σ) (fun r1 σ2 => gd (inb x1 12) (m_let (mu σ2 16 x1.toNatClampNeg r1) (fun σ3 => K7 (x1 + 1) σ3))))
def l_X7_layPairs_7 (N : Nat) : Nat → Int32 → Mem → Option (Int32 × Mem)
  | 0, _, _ => none
   | n + 1, x1, σ => b_X7_layPairs_7 N (l_X7_layPairs_7 N n) x1 σ
def f_X7_layPairs (N : Nat) (σ : Mem) : Option (Int32 × Mem) :=
  gd (isb 0) (m_let (mu σ 0 37 0) (fun σ1 => l_X7_layPairs_7 N N 0 σ1))
-- X7_isRowApart depth 1
def b_X7_isRowApart_14 (N : Nat) (K14 : Int32 → Int32 → Mem → Option (Int32 × Mem)) (x1 x2 : Int32) (σ : Mem) : Option (Int32 × Mem) :=
  (if (σ 0 22) ≤ x2 then gd (isb 1) (some (1, σ)) else gd (inb (x2 - 1) 12) (m_bnd (f_X7_wordOf N x1 4 σ) (fun r1 σ2 => gd (inb x2 12) ((if ((σ 14 (x2 - 1).toNatClampNeg) + r1) < (σ2 13 x2.toNatClampNeg) then K14 x1 (x2 + 1) σ2 else gd (isb 0) (some (0, σ2)))))))
def l_X7_isRowApart_14 (N : Nat) : Nat → Int32 → Int32 → Mem → Option (Int32 × Mem)
  | 0, _, _, _ => none
   | n + 1, x1, x2, σ => b_X7_isRowApart_14 N (l_X7_isRowApart_14 N n) x1 x2 σ
def f_X7_isRowApart (N : Nat) (v1 : Int32) (σ : Mem) : Option (Int32 × Mem) :=
  m_bnd (f_X7_wordOf N v1 3 σ) (fun r1 σ2 => (if r1 = 1 then gd (isb 1) (some (1, σ2)) else l_X7_isRowApart_14 N N v1 1 σ2))
-- X7_counts depth 4
def j_X7_counts_233 (N : Nat) (x1 y0 : Int32) (σ : Mem) : Option (Int32 × Mem) :=
  m_let (mu σ 0 27 y0) (fun σ1 => (if (σ1 0 33) = 0 then m_let (mu σ1 0 28 x1) (fun σ2 => gd (isb 1) (m_let (mu σ2 0 33 1) (fun σ3 => some (0, σ3)))) else m_let (mu σ1 0 28 (imin (σ1 0 28) x1)) (fun σ4 => gd (isb 1) (m_let (mu σ4 0 33 1) (fun σ5 => some (0, σ5))))))
def j_X7_counts_210 (N : Nat) (x1 y0 : Int32) (σ : Mem) : Option (Int32 × Mem) :=
  m_let (mu σ 0 31 y0) (fun σ1 => (if (σ1 0 33) = 0 then j_X7_counts_233 N x1 x1 σ1 else j_X7_counts_233 N x1 (imax (σ1 0 27) x1) σ1))
def j_X7_counts_190 (N : Nat) (x1 x2 : Int32) (σ : Mem) : Option (Int32 × Mem) :=
  (if (σ 0 33) = 0 then j_X7_counts_210 N x1 x2 σ else j_X7_counts_210 N x1 (imax (σ 0 31) x2) σ)
def j_X7_counts_185 (N : Nat) (x1 x2 : Int32) (σ : Mem) : Option (Int32 × Mem) :=
  m_let (mu σ 0 32 x1) (fun σ1 => j_X7_counts_190 N x1 x2 σ1)
def j_X7_counts_146 (N : Nat) (x1 x2 : Int32) (σ : Mem) : Option (Int32 × Mem) :=
  m_let (mu σ 0 30 (σ 0 22)) (fun σ1 => (if (σ1 0 33) = 0 then j_X7_counts_185 N x1 x2 σ1 else (if (σ1 0 31) < x2 then j_X7_counts_185 N x1 x2 σ1 else (if x2 = (σ1 0 31) then (if x1 ≤ (σ1 0 32) then j_X7_counts_190 N x1 x2 σ1 else j_X7_counts_185 N x1 x2 σ1) else j_X7_counts_190 N x1 x2 σ1))))
def j_X7_counts_104 (N : Nat) (x1 x2 : Int32) (σ : Mem) : Option (Int32 × Mem) :=
  m_let (mu σ 0 29 (σ 0 22)) (fun σ1 => (if (σ1 0 33) = 0 then j_X7_counts_146 N x1 x2 σ1 else (if x1 < (σ1 0 28) then j_X7_counts_146 N x1 x2 σ1 else (if x1 = (σ1 0 28) then (if (σ1 0 30) ≤ (σ1 0 22) then (if (σ1 0 33) = 0 then j_X7_counts_185 N x1 x2 σ1 else (if (σ1 0 31) < x2 then j_X7_counts_185 N x1 x2 σ1 else (if x2 = (σ1 0 31) then (if x1 ≤ (σ1 0 32) then j_X7_counts_190 N x1 x2 σ1 else j_X7_counts_185 N x1 x2 σ1) else j_X7_counts_190 N x1 x2 σ1))) else j_X7_counts_146 N x1 x2 σ1) else (if (σ1 0 33) = 0 then j_X7_counts_185 N x1 x2 σ1 else (if (σ1 0 31) < x2 then j_X7_counts_185 N x1 x2 σ1 else (if x2 = (σ1 0 31) then (if x1 ≤ (σ1 0 32) then j_X7_counts_190 N x1 x2 σ1 else j_X7_counts_185 N x1 x2 σ1) else j_X7_counts_190 N x1 x2 σ1)))))))
def j_X7_counts_69 (N : Nat) (x1 y0 : Int32) (σ : Mem) : Option (Int32 × Mem) :=
  (if (σ 0 33) = 0 then j_X7_counts_104 N x1 y0 σ else (if (σ 0 27) < x1 then j_X7_counts_104 N x1 y0 σ else (if x1 = (σ 0 27) then (if (σ 0 29) ≤ (σ 0 22) then (if (σ 0 33) = 0 then j_X7_counts_146 N x1 y0 σ else (if x1 < (σ 0 28) then j_X7_counts_146 N x1 y0 σ else (if x1 = (σ 0 28) then (if (σ 0 30) ≤ (σ 0 22) then (if (σ 0 33) = 0 then j_X7_counts_185 N x1 y0 σ else (if (σ 0 31) < y0 then j_X7_counts_185 N x1 y0 σ else (if y0 = (σ 0 31) then (if x1 ≤ (σ 0 32) then j_X7_counts_190 N x1 y0 σ else j_X7_counts_185 N x1 y0 σ) else j_X7_counts_190 N x1 y0 σ))) else j_X7_counts_146 N x1 y0 σ) else (if (σ 0 33) = 0 then j_X7_counts_185 N x1 y0 σ else (if (σ 0 31) < y0 then j_X7_counts_185 N x1 y0 σ else (if y0 = (σ 0 31) then (if x1 ≤ (σ 0 32) then j_X7_counts_190 N x1 y0 σ else j_X7_counts_185 N x1 y0 σ) else j_X7_counts_190 N x1 y0 σ)))))) else j_X7_counts_104 N x1 y0 σ) else (if (σ 0 33) = 0 then j_X7_counts_146 N x1 y0 σ else (if x1 < (σ 0 28) then j_X7_counts_146 N x1 y0 σ else (if x1 = (σ 0 28) then (if (σ 0 30) ≤ (σ 0 22) then (if (σ 0 33) = 0 then j_X7_counts_185 N x1 y0 σ else (if (σ 0 31) < y0 then j_X7_counts_185 N x1 y0 σ else (if y0 = (σ 0 31) then (if x1 ≤ (σ 0 32) then j_X7_counts_190 N x1 y0 σ else j_X7_counts_185 N x1 y0 σ) else j_X7_counts_190 N x1 y0 σ))) else j_X7_counts_146 N x1 y0 σ) else (if (σ 0 33) = 0 then j_X7_counts_185 N x1 y0 σ else (if (σ 0 31) < y0 then j_X7_counts_185 N x1 y0 σ else (if y0 = (σ 0 31) then (if x1 ≤ (σ 0 32) then j_X7_counts_190 N x1 y0 σ else j_X7_counts_185 N x1 y0 σ) else j_X7_counts_190 N x1 y0 σ)))))))))
def b_X7_counts_8 (N : Nat) (K8 : Int32 → Int32 → Mem → Option (Int32 × Mem)) (x1 x2 : Int32) (σ : Mem) : Option (Int32 × Mem) :=
  (if (σ 0 7) ≤ x2 then (if (σ 0 34) = 0 then m_bnd (f_X7_netBy N (σ 0 25) σ) (fun r1 σ2 => j_X7_counts_69 N x1 r1 σ2) else j_X7_counts_69 N x1 0 σ) else m_bnd (f_X7_isAsked N x2 σ) (fun r3 σ4 => (if r3 = 0 then K8 x1 (x2 + 1) σ4 else m_bnd (f_X7_isRowApart N x2 σ4) (fun r5 σ6 => (if r5 = 0 then some (0, σ6) else m_bnd (f_X7_bringsBy N x2 σ6) (fun r7 σ8 => m_leti (x1 + r7) (fun u9 => K8 u9 (x2 + 1) σ8)))))))
def l_X7_counts_8 (N : Nat) : Nat → Int32 → Int32 → Mem → Option (Int32 × Mem)
  | 0, _, _, _ => none
   | n + 1, x1, x2, σ => b_X7_counts_8 N (l_X7_counts_8 N n) x1 x2 σ
def f_X7_counts (N : Nat) (σ : Mem) : Option (Int32 × Mem) :=
  m_bnd (f_X7_layRow N σ) (fun r1 σ2 => l_X7_counts_8 N N 0 0 σ2)
-- X7_part depth 5
def j_X7_part_86 (N : Nat) (rec : Int32 → Mem → Option (Int32 × Mem)) (K34 : Int32 → Int32 → Mem → Option (Int32 × Mem)) (x1 x2 : Int32) (σ : Mem) : Option (Int32 × Mem) :=
  gd (inb x2 12) (m_leti (σ 17 x2.toNatClampNeg) (fun u1 => gd (inb x2 12) (gd (inb x1 12) (gd (inb x2 12) (m_let (mu σ 17 x2.toNatClampNeg ((σ 17 x2.toNatClampNeg) &&& (σ 8 x1.toNatClampNeg))) (fun σ2 => gd (inb x2 12) (gd (inb x2 12) (m_let (mu σ2 10 x2.toNatClampNeg ((σ2 10 x2.toNatClampNeg) ||| (1 <<< (x1 &&& 31)))) (fun σ3 => m_bnd (rec (x1 + 1) σ3) (fun r4 σ5 => gd (inb x2 12) (gd (inb x2 12) (m_let (mu σ5 10 x2.toNatClampNeg ((σ5 10 x2.toNatClampNeg) &&& ((1 <<< (x1 &&& 31)) ^^^ (-1)))) (fun σ6 => gd (inb x2 12) (m_let (mu σ6 17 x2.toNatClampNeg u1) (fun σ7 => K34 x1 (x2 + 1) σ7)))))))))))))))
def b_X7_part_34 (N : Nat) (rec : Int32 → Mem → Option (Int32 × Mem)) (K34 : Int32 → Int32 → Mem → Option (Int32 × Mem)) (x1 x2 : Int32) (σ : Mem) : Option (Int32 × Mem) :=
  (if (σ 0 22) ≤ x2 then gd (inb (σ 0 22) 12) (m_let (mu σ 10 (σ 0 22).toNatClampNeg (1 <<< (x1 &&& 31))) (fun σ1 => gd (inb x1 12) (gd (inb (σ1 0 22) 12) (m_let (mu σ1 17 (σ1 0 22).toNatClampNeg (σ1 8 x1.toNatClampNeg)) (fun σ2 => m_let (mu σ2 0 22 ((σ2 0 22) + 1)) (fun σ3 => m_bnd (rec (x1 + 1) σ3) (fun r4 σ5 => m_let (mu σ5 0 22 ((σ5 0 22) - 1)) (fun σ6 => some (0, σ6))))))))) else gd (inb x2 12) (gd (inb x1 12) ((if ((σ 10 x2.toNatClampNeg) &&& ((σ 16 x1.toNatClampNeg) ^^^ (-1))) = 0 then (if (σ 0 37) = 0 then j_X7_part_86 N rec K34 x1 x2 σ else gd (inb x2 12) (gd (inb x1 12) ((if ((σ 17 x2.toNatClampNeg) &&& (σ 8 x1.toNatClampNeg)) = 0 then K34 x1 (x2 + 1) σ else j_X7_part_86 N rec K34 x1 x2 σ)))) else K34 x1 (x2 + 1) σ))))
def l_X7_part_34 (N : Nat) (rec : Int32 → Mem → Option (Int32 × Mem)) : Nat → Int32 → Int32 → Mem → Option (Int32 × Mem)
  | 0, _, _, _ => none
   | n + 1, x1, x2, σ => b_X7_part_34 N rec (l_X7_part_34 N rec n) x1 x2 σ
def fb_X7_part (N : Nat) (rec : Int32 → Mem → Option (Int32 × Mem)) (v1 : Int32) (σ : Mem) : Option (Int32 × Mem) :=
  (if v1 = (σ 0 15) then m_bnd (f_X7_counts N σ) (fun r5 σ6 => some (0, σ6)) else m_bnd (f_X7_has N (σ 0 26) v1 σ) (fun r1 σ2 => (if r1 = 0 then m_bnd (rec (v1 + 1) σ2) (fun r3 σ4 => some (0, σ4)) else l_X7_part_34 N rec N v1 0 σ2)))
def f_X7_part (N : Nat) : Nat → Int32 → Mem → Option (Int32 × Mem)
  | 0, _, _ => none
  | n + 1, v1, σ => fb_X7_part N (f_X7_part N n) v1 σ
-- X7_mayNow depth 3
def b_X7_mayNow_2 (N : Nat) (K2 : Int32 → Int32 → Mem → Option (Int32 × Mem)) (x1 x2 : Int32) (σ : Mem) : Option (Int32 × Mem) :=
  (if (σ 0 7) ≤ x2 then gd (isb 1) (some (1, σ)) else m_bnd (f_X7_isAsked N x2 σ) (fun r1 σ2 => (if r1 = 0 then K2 x1 (x2 + 1) σ2 else m_bnd (f_X7_mayBeOne N x2 x1 σ2) (fun r3 σ4 => (if r3 = 0 then gd (isb 0) (some (0, σ4)) else K2 x1 (x2 + 1) σ4)))))
def l_X7_mayNow_2 (N : Nat) : Nat → Int32 → Int32 → Mem → Option (Int32 × Mem)
  | 0, _, _, _ => none
   | n + 1, x1, x2, σ => b_X7_mayNow_2 N (l_X7_mayNow_2 N n) x1 x2 σ
def f_X7_mayNow (N : Nat) (v1 : Int32) (σ : Mem) : Option (Int32 × Mem) :=
  l_X7_mayNow_2 N N v1 0 σ
-- X7_partByHours depth 5
def b_X7_partByHours_29 (N : Nat) (rec : Int32 → Mem → Option (Int32 × Mem)) (K11 : Int32 → Int32 → Mem → Option (Int32 × Mem)) (K29 : Int32 → Int32 → Int32 → Int32 → Mem → Option (Int32 × Mem)) (x1 x2 x3 x4 : Int32) (σ : Mem) : Option (Int32 × Mem) :=
  (if (σ 0 15) ≤ x4 then m_bnd (f_X7_mayNow N x2 σ) (fun r1 σ2 => (if r1 = 0 then K11 x1 x2 σ2 else gd (inb (σ2 0 22) 12) (m_let (mu σ2 10 (σ2 0 22).toNatClampNeg x2) (fun σ3 => m_let (mu σ3 0 22 ((σ3 0 22) + 1)) (fun σ4 => m_bnd (rec (x1 &&& (x2 ^^^ (-1))) σ4) (fun r5 σ6 => m_let (mu σ6 0 22 ((σ6 0 22) - 1)) (fun σ7 => K11 x1 x2 σ7))))))) else m_bnd (f_X7_has N x1 x4 σ) (fun r8 σ9 => (if r8 = 0 then m_leti (x2 ||| 0) (fun u10 => K29 x1 u10 x3 (x4 + 1) σ9) else gd (inb x4 12) ((if (σ9 4 x4.toNatClampNeg) = x3 then m_leti (x2 ||| (1 <<< (x4 &&& 31))) (fun u12 => K29 x1 u12 x3 (x4 + 1) σ9) else m_leti (x2 ||| 0) (fun u11 => K29 x1 u11 x3 (x4 + 1) σ9))))))
def l_X7_partByHours_29 (N : Nat) (rec : Int32 → Mem → Option (Int32 × Mem)) (K11 : Int32 → Int32 → Mem → Option (Int32 × Mem)) : Nat → Int32 → Int32 → Int32 → Int32 → Mem → Option (Int32 × Mem)
  | 0, _, _, _, _, _ => none
   | n + 1, x1, x2, x3, x4, σ => b_X7_partByHours_29 N rec K11 (l_X7_partByHours_29 N rec K11 n) x1 x2 x3 x4 σ
def b_X7_partByHours_11 (N : Nat) (rec : Int32 → Mem → Option (Int32 × Mem)) (K11 : Int32 → Int32 → Mem → Option (Int32 × Mem)) (x1 x2 : Int32) (σ : Mem) : Option (Int32 × Mem) :=
  (if x2 = x1 then some (0, σ) else m_bnd (f_X7_leastHour N (x1 &&& (x2 ^^^ (-1))) σ) (fun r1 σ2 => l_X7_partByHours_29 N rec K11 N x1 x2 r1 0 σ2))
def l_X7_partByHours_11 (N : Nat) (rec : Int32 → Mem → Option (Int32 × Mem)) : Nat → Int32 → Int32 → Mem → Option (Int32 × Mem)
  | 0, _, _, _ => none
   | n + 1, x1, x2, σ => b_X7_partByHours_11 N rec (l_X7_partByHours_11 N rec n) x1 x2 σ
def fb_X7_partByHours (N : Nat) (rec : Int32 → Mem → Option (Int32 × Mem)) (v1 : Int32) (σ : Mem) : Option (Int32 × Mem) :=
  (if v1 = 0 then m_bnd (f_X7_counts N σ) (fun r1 σ2 => some (0, σ2)) else l_X7_partByHours_11 N rec N v1 0 σ)
def f_X7_partByHours (N : Nat) : Nat → Int32 → Mem → Option (Int32 × Mem)
  | 0, _, _ => none
  | n + 1, v1, σ => fb_X7_partByHours N (f_X7_partByHours N n) v1 σ
-- X7_layAll depth 36
def f_X7_layAll (N : Nat) (v1 v2 : Int32) (σ : Mem) : Option (Int32 × Mem) :=
  m_bnd (f_X7_isTold N v1 v2 σ) (fun r1 σ2 => (if r1 = 0 then gd (isb 0) (some (0, σ2)) else m_let (mu σ2 0 25 v1) (fun σ3 => gd (isb 0) (m_let (mu σ3 0 34 0) (fun σ4 => m_let (mu σ4 0 26 v2) (fun σ5 => gd (isb 0) (m_let (mu σ5 0 33 0) (fun σ6 => m_let (mu σ6 0 22 0) (fun σ7 => m_bnd (f_X7_layPairs N σ7) (fun r8 σ9 => m_bnd (f_X7_wordOf N v1 3 σ9) (fun r10 σ11 => (if r10 = 0 then m_bnd (f_X7_partByHours N 30 v2 σ11) (fun r14 σ15 => gd (isb (σ15 0 33)) (some (σ15 0 33, σ15))) else m_bnd (f_X7_part N 30 0 σ11) (fun r12 σ13 => gd (isb (σ13 0 33)) (some (σ13 0 33, σ13)))))))))))))))
-- X7_most depth 37
def f_X7_most (N : Nat) (v1 v2 v3 : Int32) (σ : Mem) : Option (Int32 × Mem) :=
  m_let (mu σ 0 0 0) (fun σ1 => m_bnd (f_X7_isCover N v1 σ1) (fun r2 σ3 => (if r2 = 0 then some ((-100000000), σ3) else m_bnd (f_X7_isSet N v2 σ3) (fun r4 σ5 => (if r4 = 0 then some ((-100000000), σ5) else m_bnd (f_X7_isIn N v3 0 3 σ5) (fun r6 σ7 => (if r6 = 0 then some ((-100000000), σ7) else m_bnd (f_X7_layAll N v1 v2 σ7) (fun r8 σ9 => (if r8 = 0 then some ((-100000000), σ9) else (if v3 = 0 then some (σ9 0 27, σ9) else (if v3 = 1 then some (σ9 0 28, σ9) else (if v3 = 2 then some (σ9 0 29, σ9) else some (σ9 0 30, σ9)))))))))))))
-- X7_net depth 37
def f_X7_net (N : Nat) (v1 v2 v3 : Int32) (σ : Mem) : Option (Int32 × Mem) :=
  m_let (mu σ 0 0 0) (fun σ1 => m_bnd (f_X7_isCover N v1 σ1) (fun r2 σ3 => (if r2 = 0 then some ((-100000000), σ3) else m_bnd (f_X7_isSet N v2 σ3) (fun r4 σ5 => (if r4 = 0 then some ((-100000000), σ5) else m_bnd (f_X7_isIn N v3 0 1 σ5) (fun r6 σ7 => (if r6 = 0 then some ((-100000000), σ7) else m_bnd (f_X7_layAll N v1 v2 σ7) (fun r8 σ9 => (if r8 = 0 then some ((-100000000), σ9) else (if v3 = 0 then some (σ9 0 31, σ9) else some (σ9 0 32, σ9)))))))))))
-- X7_ends depth 37
def j_X7_ends_110 (N : Nat) (K53 : Int32 → Int32 → Int32 → Int32 → Int32 → Int32 → Int32 → Mem → Option (Int32 × Mem)) (x1 x2 x3 x4 x6 x7 y0 : Int32) (σ : Mem) : Option (Int32 × Mem) :=
  m_leti (imax x6 (σ 0 27)) (fun u1 => K53 x1 x2 x3 x4 y0 u1 (x7 + 1) σ)
def b_X7_ends_53 (N : Nat) (K53 : Int32 → Int32 → Int32 → Int32 → Int32 → Int32 → Int32 → Mem → Option (Int32 × Mem)) (x1 x2 x3 x4 x5 x6 x7 : Int32) (σ : Mem) : Option (Int32 × Mem) :=
  gd (inb x2 12) ((if (σ 5 x2.toNatClampNeg) < x7 then gd (inb x2 12) (m_let (mu σ 4 x2.toNatClampNeg x4) (fun σ1 => (if x3 = 0 then some (x5, σ1) else some (x6, σ1)))) else gd (inb x2 12) (m_let (mu σ 4 x2.toNatClampNeg x7) (fun σ2 => m_bnd (f_X7_every N σ2) (fun r3 σ4 => m_bnd (f_X7_layAll N x1 r3 σ4) (fun r5 σ6 => (if r5 = 0 then K53 x1 x2 x3 x4 x5 x6 (x7 + 1) σ6 else (if x5 = (-100000000) then j_X7_ends_110 N K53 x1 x2 x3 x4 x6 x7 (σ6 0 27) σ6 else j_X7_ends_110 N K53 x1 x2 x3 x4 x6 x7 (imin x5 (σ6 0 27)) σ6))))))))
def l_X7_ends_53 (N : Nat) : Nat → Int32 → Int32 → Int32 → Int32 → Int32 → Int32 → Int32 → Mem → Option (Int32 × Mem)
  | 0, _, _, _, _, _, _, _, _ => none
   | n + 1, x1, x2, x3, x4, x5, x6, x7, σ => b_X7_ends_53 N (l_X7_ends_53 N n) x1 x2 x3 x4 x5 x6 x7 σ
def f_X7_ends (N : Nat) (v1 v2 v3 : Int32) (σ : Mem) : Option (Int32 × Mem) :=
  m_let (mu σ 0 0 0) (fun σ1 => m_bnd (f_X7_isCover N v1 σ1) (fun r2 σ3 => (if r2 = 0 then some ((-100000000), σ3) else m_bnd (f_X7_isLoss N v2 σ3) (fun r4 σ5 => (if r4 = 0 then some ((-100000000), σ5) else m_bnd (f_X7_isIn N v3 0 1 σ5) (fun r6 σ7 => (if r6 = 0 then some ((-100000000), σ7) else gd (inb v2 12) (m_leti (σ7 4 v2.toNatClampNeg) (fun u8 => m_leti (-100000000) (fun u9 => m_leti (-100000000) (fun u10 => l_X7_ends_53 N N v1 v2 v3 u8 u9 u10 u8 σ7)))))))))))
-- X7_hangs depth 37
def j_X7_hangs_66 (N : Nat) (K22 : Int32 → Int32 → Int32 → Int32 → Mem → Option (Int32 × Mem)) (x1 x4 : Int32) (σ : Mem) : Option (Int32 × Mem) :=
  m_leti (σ 0 27) (fun u1 => K22 x1 x4 u1 (x4 + 1) σ)
def b_X7_hangs_22 (N : Nat) (K22 : Int32 → Int32 → Int32 → Int32 → Mem → Option (Int32 × Mem)) (x1 x2 x3 x4 : Int32) (σ : Mem) : Option (Int32 × Mem) :=
  (if (σ 0 15) ≤ x4 then some (x2, σ) else m_bnd (f_X7_every N σ) (fun r1 σ2 => m_bnd (f_X7_layAll N x1 (r1 &&& ((1 <<< (x4 &&& 31)) ^^^ (-1))) σ2) (fun r3 σ4 => (if r3 = 0 then K22 x1 x2 x3 (x4 + 1) σ4 else (if x2 = (-1) then j_X7_hangs_66 N K22 x1 x4 σ4 else (if (σ4 0 27) < x3 then j_X7_hangs_66 N K22 x1 x4 σ4 else K22 x1 x2 x3 (x4 + 1) σ4))))))
def l_X7_hangs_22 (N : Nat) : Nat → Int32 → Int32 → Int32 → Int32 → Mem → Option (Int32 × Mem)
  | 0, _, _, _, _, _ => none
   | n + 1, x1, x2, x3, x4, σ => b_X7_hangs_22 N (l_X7_hangs_22 N n) x1 x2 x3 x4 σ
def f_X7_hangs (N : Nat) (v1 : Int32) (σ : Mem) : Option (Int32 × Mem) :=
  m_let (mu σ 0 0 0) (fun σ1 => m_bnd (f_X7_isCover N v1 σ1) (fun r2 σ3 => (if r2 = 0 then some ((-1), σ3) else m_leti (-1) (fun u4 => l_X7_hangs_22 N N v1 u4 0 0 σ3))))
-- X7_told depth 37
def f_X7_told (N : Nat) (v1 v2 v3 : Int32) (σ : Mem) : Option (Int32 × Mem) :=
  m_let (mu σ 0 0 0) (fun σ1 => m_bnd (f_X7_isCover N v1 σ1) (fun r2 σ3 => (if r2 = 0 then some ((-100000000), σ3) else m_bnd (f_X7_isLoss N v2 σ3) (fun r4 σ5 => (if r4 = 0 then some ((-100000000), σ5) else m_bnd (f_X7_isIn N v3 0 5 σ5) (fun r6 σ7 => (if r6 = 0 then some ((-100000000), σ7) else gd (inb v2 12) (m_bnd (f_X7_has N (σ7 8 v2.toNatClampNeg) v3 σ7) (fun r8 σ9 => (if r8 = 0 then some ((-100000000), σ9) else gd (inb v2 12) (m_leti (σ9 8 v2.toNatClampNeg) (fun u10 => gd (inb v2 12) (m_let (mu σ9 8 v2.toNatClampNeg (1 <<< (v3 &&& 31))) (fun σ11 => m_bnd (f_X7_every N σ11) (fun r12 σ13 => m_bnd (f_X7_layAll N v1 r12 σ13) (fun r14 σ15 => gd (inb v2 12) (m_let (mu σ15 8 v2.toNatClampNeg u10) (fun σ16 => (if r14 = 0 then some ((-100000000), σ16) else some (σ16 0 27, σ16))))))))))))))))))))
-- X7_layers depth 37
def j_X7_layers_92 (N : Nat) (x1 x3 : Int32) (σ : Mem) : Option (Int32 × Mem) :=
  m_let (mu σ 0 25 x1) (fun σ1 => gd (isb 1) (m_let (mu σ1 0 34 1) (fun σ2 => m_bnd (f_X7_every N σ2) (fun r3 σ4 => m_let (mu σ4 0 26 r3) (fun σ5 => gd (isb 0) (m_let (mu σ5 0 33 0) (fun σ6 => m_let (mu σ6 0 22 0) (fun σ7 => m_bnd (f_X7_layPairs N σ7) (fun r8 σ9 => (if x3 = 0 then m_bnd (f_X7_part N 30 0 σ9) (fun r10 σ11 => (if (σ11 0 33) = 0 then some ((-100000000), σ11) else some (σ11 0 27, σ11))) else m_bnd (f_X7_every N σ9) (fun r12 σ13 => m_bnd (f_X7_partByHours N 30 r12 σ13) (fun r14 σ15 => (if (σ15 0 33) = 0 then some ((-100000000), σ15) else some (σ15 0 27, σ15))))))))))))))
def b_X7_layers_32 (N : Nat) (K32 : Int32 → Int32 → Int32 → Mem → Option (Int32 × Mem)) (x1 x3 x4 : Int32) (σ : Mem) : Option (Int32 × Mem) :=
  (if (σ 0 7) ≤ x4 then (if (σ 0 15) ≤ 8 then j_X7_layers_92 N x1 x3 σ else (if x3 = 0 then some ((-100000000), σ) else j_X7_layers_92 N x1 x3 σ)) else (if x3 = 0 then m_bnd (f_X7_has N x1 x4 σ) (fun r1 σ2 => (if r1 = 0 then K32 x1 0 (x4 + 1) σ2 else m_bnd (f_X7_wordOf N x4 3 σ2) (fun r3 σ4 => (if r3 = 0 then K32 x1 1 (x4 + 1) σ4 else K32 x1 0 (x4 + 1) σ4)))) else K32 x1 1 (x4 + 1) σ))
def l_X7_layers_32 (N : Nat) : Nat → Int32 → Int32 → Int32 → Mem → Option (Int32 × Mem)
  | 0, _, _, _, _ => none
   | n + 1, x1, x3, x4, σ => b_X7_layers_32 N (l_X7_layers_32 N n) x1 x3 x4 σ
def b_X7_layers_166 (N : Nat) (K166 : Int32 → Int32 → Int32 → Mem → Option (Int32 × Mem)) (x1 x3 x4 : Int32) (σ : Mem) : Option (Int32 × Mem) :=
  (if (σ 0 7) ≤ x4 then some (x3, σ) else m_bnd (f_X7_has N x1 x4 σ) (fun r1 σ2 => (if r1 = 0 then K166 x1 x3 (x4 + 1) σ2 else m_bnd (f_X7_every N σ2) (fun r3 σ4 => m_bnd (f_X7_layAll N x4 r3 σ4) (fun r5 σ6 => (if r5 = 0 then some ((-100000000), σ6) else m_leti (x3 + (σ6 0 27)) (fun u7 => K166 x1 u7 (x4 + 1) σ6)))))))
def l_X7_layers_166 (N : Nat) : Nat → Int32 → Int32 → Int32 → Mem → Option (Int32 × Mem)
  | 0, _, _, _, _ => none
   | n + 1, x1, x3, x4, σ => b_X7_layers_166 N (l_X7_layers_166 N n) x1 x3 x4 σ
def f_X7_layers (N : Nat) (v1 v2 : Int32) (σ : Mem) : Option (Int32 × Mem) :=
  m_let (mu σ 0 0 0) (fun σ1 => (if v1 < 1 then some ((-100000000), σ1) else (if v1 < (1 <<< ((σ1 0 7) &&& 31)) then (if v2 = 0 then l_X7_layers_166 N N v1 0 0 σ1 else l_X7_layers_32 N N v1 0 0 σ1) else some ((-100000000), σ1))))
-- X7_isTurn depth 0
def b_X7_isTurn_19 (N : Nat) (K9 : Int32 → Int32 → Mem → Option (Int32 × Mem)) (K19 : Int32 → Int32 → Int32 → Mem → Option (Int32 × Mem)) (x1 x2 x3 : Int32) (σ : Mem) : Option (Int32 × Mem) :=
  (if (σ 0 15) ≤ x3 then K9 x1 (x2 + 1) σ else gd (inb x2 12) (gd (inb x3 12) ((if ((σ 4 x2.toNatClampNeg) - (σ 4 x3.toNatClampNeg)) = (x1 - 1) then gd (isb 1) (some (1, σ)) else K19 x1 x2 (x3 + 1) σ))))
def l_X7_isTurn_19 (N : Nat) (K9 : Int32 → Int32 → Mem → Option (Int32 × Mem)) : Nat → Int32 → Int32 → Int32 → Mem → Option (Int32 × Mem)
  | 0, _, _, _, _ => none
   | n + 1, x1, x2, x3, σ => b_X7_isTurn_19 N K9 (l_X7_isTurn_19 N K9 n) x1 x2 x3 σ
def b_X7_isTurn_9 (N : Nat) (K9 : Int32 → Int32 → Mem → Option (Int32 × Mem)) (x1 x2 : Int32) (σ : Mem) : Option (Int32 × Mem) :=
  (if (σ 0 15) ≤ x2 then gd (isb 0) (some (0, σ)) else l_X7_isTurn_19 N K9 N x1 x2 0 σ)
def l_X7_isTurn_9 (N : Nat) : Nat → Int32 → Int32 → Mem → Option (Int32 × Mem)
  | 0, _, _, _ => none
   | n + 1, x1, x2, σ => b_X7_isTurn_9 N (l_X7_isTurn_9 N n) x1 x2 σ
def f_X7_isTurn (N : Nat) (v1 : Int32) (σ : Mem) : Option (Int32 × Mem) :=
  (if v1 = 1 then gd (isb 1) (some (1, σ)) else l_X7_isTurn_9 N N v1 0 σ)
-- X7_nearest depth 37
def j_X7_nearest_108 (N : Nat) (K42 : Int32 → Int32 → Int32 → Int32 → Int32 → Int32 → Mem → Option (Int32 × Mem)) (x1 x2 x3 x6 : Int32) (σ : Mem) : Option (Int32 × Mem) :=
  m_leti ((σ 0 27) - (σ 0 28)) (fun u1 => K42 x1 x2 x3 x6 u1 (x6 + 1) σ)
def b_X7_nearest_42 (N : Nat) (K42 : Int32 → Int32 → Int32 → Int32 → Int32 → Int32 → Mem → Option (Int32 × Mem)) (x1 x2 x3 x4 x5 x6 : Int32) (σ : Mem) : Option (Int32 × Mem) :=
  (if 99 < x6 then gd (inb (10 * x1) 70) (m_let (mu σ 2 (10 * x1).toNatClampNeg x3) (fun σ1 => (if x4 = (-100000000) then some (x4, σ1) else (if x2 = 0 then some (x4, σ1) else some (x5, σ1))))) else m_bnd (f_X7_isTurn N x6 σ) (fun r2 σ3 => (if r2 = 0 then K42 x1 x2 x3 x4 x5 (x6 + 1) σ3 else gd (inb (10 * x1) 70) (m_let (mu σ3 2 (10 * x1).toNatClampNeg x6) (fun σ4 => m_bnd (f_X7_every N σ4) (fun r5 σ6 => m_bnd (f_X7_layAll N x1 r5 σ6) (fun r7 σ8 => (if r7 = 0 then K42 x1 x2 x3 x4 x5 (x6 + 1) σ8 else (if x4 = (-100000000) then j_X7_nearest_108 N K42 x1 x2 x3 x6 σ8 else (if ((σ8 0 27) - (σ8 0 28)) < x5 then j_X7_nearest_108 N K42 x1 x2 x3 x6 σ8 else K42 x1 x2 x3 x4 x5 (x6 + 1) σ8))))))))))
def l_X7_nearest_42 (N : Nat) : Nat → Int32 → Int32 → Int32 → Int32 → Int32 → Int32 → Mem → Option (Int32 × Mem)
  | 0, _, _, _, _, _, _, _ => none
   | n + 1, x1, x2, x3, x4, x5, x6, σ => b_X7_nearest_42 N (l_X7_nearest_42 N n) x1 x2 x3 x4 x5 x6 σ
def f_X7_nearest (N : Nat) (v1 v2 : Int32) (σ : Mem) : Option (Int32 × Mem) :=
  m_let (mu σ 0 0 0) (fun σ1 => m_bnd (f_X7_isCover N v1 σ1) (fun r2 σ3 => (if r2 = 0 then some ((-100000000), σ3) else m_bnd (f_X7_isIn N v2 0 1 σ3) (fun r4 σ5 => (if r4 = 0 then some ((-100000000), σ5) else m_bnd (f_X7_wordOf N v1 0 σ5) (fun r6 σ7 => m_leti (-100000000) (fun u8 => l_X7_nearest_42 N N v1 v2 r6 u8 0 1 σ7)))))))
-- X7_storm depth 1
def f_X7_storm (N : Nat) (v1 v2 : Int32) (σ : Mem) : Option (Int32 × Mem) :=
  m_let (mu σ 0 0 0) (fun σ1 => (if (σ1 0 40) = 12 then some ((-1), σ1) else m_bnd (f_X7_isSet N v1 σ1) (fun r2 σ3 => (if r2 = 0 then some ((-1), σ3) else m_bnd (f_X7_isIn N v2 1 99 σ3) (fun r4 σ5 => (if r4 = 0 then some ((-1), σ5) else gd (inb (σ5 0 40) 12) (m_let (mu σ5 18 (σ5 0 40).toNatClampNeg v1) (fun σ6 => gd (inb (σ6 0 40) 12) (m_let (mu σ6 19 (σ6 0 40).toNatClampNeg v2) (fun σ7 => m_let (mu σ7 0 40 ((σ7 0 40) + 1)) (fun σ8 => some (σ8 0 40, σ8))))))))))))
-- X7_mean depth 37
def b_X7_mean_30 (N : Nat) (K30 : Int32 → Int32 → Int32 → Int32 → Mem → Option (Int32 × Mem)) (x1 x2 x3 x4 : Int32) (σ : Mem) : Option (Int32 × Mem) :=
  (if (σ 0 40) ≤ x4 then some (x3, σ) else gd (inb x4 12) (m_bnd (f_X7_isTold N x1 (σ 18 x4.toNatClampNeg) σ) (fun r1 σ2 => (if r1 = 0 then some ((-100000000), σ2) else gd (inb x4 12) (m_bnd (f_X7_layAll N x1 (σ2 18 x4.toNatClampNeg) σ2) (fun r3 σ4 => gd (inb x4 12) ((if x2 = 2 then m_leti (x3 + ((σ4 19 x4.toNatClampNeg) * 1)) (fun u8 => K30 x1 x2 u8 (x4 + 1) σ4) else (if r3 = 0 then m_leti (x3 + ((σ4 19 x4.toNatClampNeg) * 0)) (fun u7 => K30 x1 x2 u7 (x4 + 1) σ4) else (if x2 = 0 then m_leti (x3 + ((σ4 19 x4.toNatClampNeg) * (σ4 0 27))) (fun u6 => K30 x1 x2 u6 (x4 + 1) σ4) else m_leti (x3 + ((σ4 19 x4.toNatClampNeg) * (σ4 0 28))) (fun u5 => K30 x1 x2 u5 (x4 + 1) σ4)))))))))))
def l_X7_mean_30 (N : Nat) : Nat → Int32 → Int32 → Int32 → Int32 → Mem → Option (Int32 × Mem)
  | 0, _, _, _, _, _ => none
   | n + 1, x1, x2, x3, x4, σ => b_X7_mean_30 N (l_X7_mean_30 N n) x1 x2 x3 x4 σ
def f_X7_mean (N : Nat) (v1 v2 : Int32) (σ : Mem) : Option (Int32 × Mem) :=
  m_let (mu σ 0 0 0) (fun σ1 => m_bnd (f_X7_isCover N v1 σ1) (fun r2 σ3 => (if r2 = 0 then some ((-100000000), σ3) else m_bnd (f_X7_isIn N v2 0 2 σ3) (fun r4 σ5 => (if r4 = 0 then some ((-100000000), σ5) else l_X7_mean_30 N N v1 v2 0 0 σ5)))))
-- X7_worthOf depth 37
def j_X7_worthOf_57 (N : Nat) (K9 : Int32 → Int32 → Int32 → Mem → Option (Int32 × Mem)) (x1 x3 : Int32) (σ : Mem) : Option (Int32 × Mem) :=
  m_let (mu σ 0 41 x3) (fun σ1 => m_leti (σ1 0 27) (fun u2 => K9 x1 u2 (x3 + 1) σ1))
def b_X7_worthOf_9 (N : Nat) (K9 : Int32 → Int32 → Int32 → Mem → Option (Int32 × Mem)) (x1 x2 x3 : Int32) (σ : Mem) : Option (Int32 × Mem) :=
  (if (σ 0 15) ≤ x3 then some (x2, σ) else m_bnd (f_X7_every N σ) (fun r1 σ2 => m_bnd (f_X7_layAll N x1 (r1 &&& ((1 <<< (x3 &&& 31)) ^^^ (-1))) σ2) (fun r3 σ4 => (if r3 = 0 then some ((-100000000), σ4) else (if (σ4 0 41) = (-1) then j_X7_worthOf_57 N K9 x1 x3 σ4 else (if (σ4 0 27) < x2 then j_X7_worthOf_57 N K9 x1 x3 σ4 else K9 x1 x2 (x3 + 1) σ4))))))
def l_X7_worthOf_9 (N : Nat) : Nat → Int32 → Int32 → Int32 → Mem → Option (Int32 × Mem)
  | 0, _, _, _, _ => none
   | n + 1, x1, x2, x3, σ => b_X7_worthOf_9 N (l_X7_worthOf_9 N n) x1 x2 x3 σ
def f_X7_worthOf (N : Nat) (v1 : Int32) (σ : Mem) : Option (Int32 × Mem) :=
  m_let (mu σ 0 41 (-1)) (fun σ1 => l_X7_worthOf_9 N N v1 0 0 σ1)
-- X7_game depth 38
def f_X7_game (N : Nat) (v1 v2 v3 : Int32) (σ : Mem) : Option (Int32 × Mem) :=
  m_let (mu σ 0 0 0) (fun σ1 => m_bnd (f_X7_isCover N v1 σ1) (fun r2 σ3 => (if r2 = 0 then some ((-100000000), σ3) else m_bnd (f_X7_isCover N v2 σ3) (fun r4 σ5 => (if r4 = 0 then some ((-100000000), σ5) else m_bnd (f_X7_isIn N v3 0 2 σ5) (fun r6 σ7 => (if r6 = 0 then some ((-100000000), σ7) else (if (σ7 0 15) = 0 then some ((-100000000), σ7) else m_bnd (f_X7_worthOf N v2 σ7) (fun r8 σ9 => m_leti (σ9 0 41) (fun u10 => m_bnd (f_X7_worthOf N v1 σ9) (fun r11 σ12 => (if r11 = (-100000000) then some ((-100000000), σ12) else (if r8 = (-100000000) then some ((-100000000), σ12) else (if r8 ≤ r11 then (if v3 = 0 then m_leti 0 (fun u14 => (if u14 = 0 then some (0, σ12) else some (1, σ12))) else (if v3 = 1 then some (imax r11 r8, σ12) else m_leti 0 (fun u13 => (if u13 = 0 then some (σ12 0 41, σ12) else some (u10, σ12))))) else (if v3 = 0 then m_leti 1 (fun u16 => (if u16 = 0 then some (0, σ12) else some (1, σ12))) else (if v3 = 1 then some (imax r11 r8, σ12) else m_leti 1 (fun u15 => (if u15 = 0 then some (σ12 0 41, σ12) else some (u10, σ12)))))))))))))))))))
-- X7_mend depth 1
def f_X7_mend (N : Nat) (v1 v2 v3 : Int32) (σ : Mem) : Option (Int32 × Mem) :=
  m_let (mu σ 0 0 0) (fun σ1 => m_bnd (f_X7_isLoss N v1 σ1) (fun r2 σ3 => (if r2 = 0 then gd (isb 0) (some (0, σ3)) else m_bnd (f_X7_isIn N v2 0 999 σ3) (fun r4 σ5 => (if r4 = 0 then gd (isb 0) (some (0, σ5)) else m_bnd (f_X7_isIn N v3 1 99 σ5) (fun r6 σ7 => (if r6 = 0 then gd (isb 0) (some (0, σ7)) else gd (inb v1 12) (m_let (mu σ7 4 v1.toNatClampNeg v2) (fun σ8 => gd (inb v1 12) (gd (inb v1 12) (m_let (mu σ8 5 v1.toNatClampNeg (imax (σ8 5 v1.toNatClampNeg) v2)) (fun σ9 => gd (inb v1 12) (m_let (mu σ9 3 v1.toNatClampNeg v3) (fun σ10 => gd (isb 1) (some (1, σ10))))))))))))))))
-- X7_count depth 0
def f_X7_count (N : Nat) (v1 : Int32) (σ : Mem) : Option (Int32 × Mem) :=
  m_let (mu σ 0 0 0) (fun σ1 => (if v1 = 0 then some (σ1 0 7, σ1) else if v1 = 1 then some (σ1 0 15, σ1) else if v1 = 2 then some (σ1 0 40, σ1) else if v1 = 3 then some (σ1 0 2, σ1) else some ((-1), σ1)))
-- X7_thrown depth 0
def f_X7_thrown (N : Nat) (σ : Mem) : Option (Int32 × Mem) :=
  some (σ 0 0, σ)
