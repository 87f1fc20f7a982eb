/-! the law's cases (written by program) -/
section LCASES
variable {p : Program} {l : Launch} {e : Env} {s : State} {m : MethodId} {below : List Frame} {meth : Method} {c : Code} {b L : Nat} {xs : Nat → Int32}
variable {w : lW} {σ τ : Mem} {f : Nat → Int64} {n : Nat}
set_option maxHeartbeats 4000000 in
set_option maxRecDepth 100000 in
theorem lc_0 (hg : l_ok (p, l, e, s, m, below, meth, c, b, L, xs) w) (hn6 : n ≤ 599) {i : Nat} (hi : i + 7 ≤ L) (hrel : Rel σ τ) (k : ∀ (σ' τ' : Mem) (f' : Nat → Int64), Rel σ' τ' → Lj (p, l, e, s, m, below, meth, c, b, L, xs) w σ' τ' f' (n + 1) 1177 [(0, .ref b), (1, .ref (w.2.1 16)), (2, .ref (w.2.2.1 0)), (3, .ref (l_q w)), (4, .int (nI i))] []) : Lj (p, l, e, s, m, below, meth, c, b, L, xs) w σ τ f n 152 [(0, .ref b), (1, .ref (w.2.1 16)), (2, .ref (w.2.2.1 0)), (3, .ref (l_q w)), (4, .int (nI i))] [] := by
  obtain ⟨v, σ', τ', hx, hy, hr⟩ := p_feed (N := 1300) (by decide) hrel (xs (nI i + 1).toNatClampNeg) (xs (nI i + 2).toNatClampNeg) (xs (nI i + 3).toNatClampNeg) (xs (nI i + 4).toNatClampNeg) (xs (nI i + 5).toNatClampNeg)
  refine l_aload 1 hg dL_law_152 rfl ?_
  refine l_aload 0 hg dL_law_153 rfl ?_
  refine l_iload 4 hg dL_law_154 rfl ?_
  refine l_iconst 1 hg dL_law_156 (by decide) ?_
  refine l_iadd hg dL_law_157 ?_
  refine l_sld hg (l_in (j := 1) (by omega) hg.2.2.1) dL_law_158 ?_
  refine l_aload 0 hg dL_law_159 rfl ?_
  refine l_iload 4 hg dL_law_160 rfl ?_
  refine l_iconst 2 hg dL_law_162 (by decide) ?_
  refine l_iadd hg dL_law_163 ?_
  refine l_sld hg (l_in (j := 2) (by omega) hg.2.2.1) dL_law_164 ?_
  refine l_aload 0 hg dL_law_165 rfl ?_
  refine l_iload 4 hg dL_law_166 rfl ?_
  refine l_iconst 3 hg dL_law_168 (by decide) ?_
  refine l_iadd hg dL_law_169 ?_
  refine l_sld hg (l_in (j := 3) (by omega) hg.2.2.1) dL_law_170 ?_
  refine l_aload 0 hg dL_law_171 rfl ?_
  refine l_iload 4 hg dL_law_172 rfl ?_
  refine l_iconst 4 hg dL_law_174 (by decide) ?_
  refine l_iadd hg dL_law_175 ?_
  refine l_sld hg (l_in (j := 4) (by omega) hg.2.2.1) dL_law_176 ?_
  refine l_aload 0 hg dL_law_177 rfl ?_
  refine l_iload 4 hg dL_law_178 rfl ?_
  refine l_iconst 5 hg dL_law_180 (by decide) ?_
  refine l_iadd hg dL_law_181 ?_
  refine l_sld hg (l_in (j := 5) (by omega) hg.2.2.1) dL_law_182 ?_
  refine l_callC (As := [.int (xs (nI i + 1).toNatClampNeg), .int (xs (nI i + 2).toNatClampNeg), .int (xs (nI i + 3).toNatClampNeg), .int (xs (nI i + 4).toNatClampNeg), .int (xs (nI i + 5).toNatClampNeg)]) (st := []) hg (e_X6_feed 1300 l (l_C w) (xs (nI i + 1).toNatClampNeg) (xs (nI i + 2).toNatClampNeg) (xs (nI i + 3).toNatClampNeg) (xs (nI i + 4).toNatClampNeg) (xs (nI i + 5).toNatClampNeg) σ) hx lk_19 li_X6_feed ls_X6_feed ln_X6_feed (by decide) (by omega) rfl (Nat.le_of_ble_eq_true rfl) dL_law_183 ?_
  refine l_aload 2 hg dL_law_186 rfl ?_
  refine l_aload 0 hg dL_law_187 rfl ?_
  refine l_iload 4 hg dL_law_188 rfl ?_
  refine l_iconst 1 hg dL_law_190 (by decide) ?_
  refine l_iadd hg dL_law_191 ?_
  refine l_sld hg (l_in (j := 1) (by omega) hg.2.2.1) dL_law_192 ?_
  refine l_aload 0 hg dL_law_193 rfl ?_
  refine l_iload 4 hg dL_law_194 rfl ?_
  refine l_iconst 2 hg dL_law_196 (by decide) ?_
  refine l_iadd hg dL_law_197 ?_
  refine l_sld hg (l_in (j := 2) (by omega) hg.2.2.1) dL_law_198 ?_
  refine l_aload 0 hg dL_law_199 rfl ?_
  refine l_iload 4 hg dL_law_200 rfl ?_
  refine l_iconst 3 hg dL_law_202 (by decide) ?_
  refine l_iadd hg dL_law_203 ?_
  refine l_sld hg (l_in (j := 3) (by omega) hg.2.2.1) dL_law_204 ?_
  refine l_aload 0 hg dL_law_205 rfl ?_
  refine l_iload 4 hg dL_law_206 rfl ?_
  refine l_iconst 4 hg dL_law_208 (by decide) ?_
  refine l_iadd hg dL_law_209 ?_
  refine l_sld hg (l_in (j := 4) (by omega) hg.2.2.1) dL_law_210 ?_
  refine l_aload 0 hg dL_law_211 rfl ?_
  refine l_iload 4 hg dL_law_212 rfl ?_
  refine l_iconst 5 hg dL_law_214 (by decide) ?_
  refine l_iadd hg dL_law_215 ?_
  refine l_sld hg (l_in (j := 5) (by omega) hg.2.2.1) dL_law_216 ?_
  refine l_callR (As := [.int (xs (nI i + 1).toNatClampNeg), .int (xs (nI i + 2).toNatClampNeg), .int (xs (nI i + 3).toNatClampNeg), .int (xs (nI i + 4).toNatClampNeg), .int (xs (nI i + 5).toNatClampNeg)]) (st := [.int v]) hg (e_X7_feed 1300 l (l_R w) (xs (nI i + 1).toNatClampNeg) (xs (nI i + 2).toNatClampNeg) (xs (nI i + 3).toNatClampNeg) (xs (nI i + 4).toNatClampNeg) (xs (nI i + 5).toNatClampNeg) τ) hy lk_23 li_X7_feed ls_X7_feed ln_X7_feed (by decide) (by omega) rfl (Nat.le_of_ble_eq_true rfl) dL_law_217 ?_
  refine l_same 1177 hg dL_law_220 (by decide) ?_
  exact l_wide (k σ' τ' f hr)
set_option maxHeartbeats 4000000 in
set_option maxRecDepth 100000 in
theorem lc_1 (hg : l_ok (p, l, e, s, m, below, meth, c, b, L, xs) w) (hn6 : n ≤ 599) {i : Nat} (hi : i + 7 ≤ L) (hrel : Rel σ τ) (k : ∀ (σ' τ' : Mem) (f' : Nat → Int64), Rel σ' τ' → Lj (p, l, e, s, m, below, meth, c, b, L, xs) w σ' τ' f' (n + 1) 1177 [(0, .ref b), (1, .ref (w.2.1 16)), (2, .ref (w.2.2.1 0)), (3, .ref (l_q w)), (4, .int (nI i))] []) : Lj (p, l, e, s, m, below, meth, c, b, L, xs) w σ τ f n 225 [(0, .ref b), (1, .ref (w.2.1 16)), (2, .ref (w.2.2.1 0)), (3, .ref (l_q w)), (4, .int (nI i))] [] := by
  obtain ⟨v, σ', τ', hx, hy, hr⟩ := p_end 1300 hrel (xs (nI i + 1).toNatClampNeg)
  refine l_aload 1 hg dL_law_225 rfl ?_
  refine l_aload 0 hg dL_law_226 rfl ?_
  refine l_iload 4 hg dL_law_227 rfl ?_
  refine l_iconst 1 hg dL_law_229 (by decide) ?_
  refine l_iadd hg dL_law_230 ?_
  refine l_sld hg (l_in (j := 1) (by omega) hg.2.2.1) dL_law_231 ?_
  refine l_callC (As := [.int (xs (nI i + 1).toNatClampNeg)]) (st := []) hg (e_X6_end 1300 l (l_C w) (xs (nI i + 1).toNatClampNeg) σ) hx lk_24 li_X6_end ls_X6_end ln_X6_end (by decide) (by omega) rfl (Nat.le_of_ble_eq_true rfl) dL_law_232 ?_
  refine l_aload 2 hg dL_law_235 rfl ?_
  refine l_aload 0 hg dL_law_236 rfl ?_
  refine l_iload 4 hg dL_law_237 rfl ?_
  refine l_iconst 1 hg dL_law_239 (by decide) ?_
  refine l_iadd hg dL_law_240 ?_
  refine l_sld hg (l_in (j := 1) (by omega) hg.2.2.1) dL_law_241 ?_
  refine l_callR (As := [.int (xs (nI i + 1).toNatClampNeg)]) (st := [.int v]) hg (e_X7_end 1300 l (l_R w) (xs (nI i + 1).toNatClampNeg) τ) hy lk_28 li_X7_end ls_X7_end ln_X7_end (by decide) (by omega) rfl (Nat.le_of_ble_eq_true rfl) dL_law_242 ?_
  refine l_same 1177 hg dL_law_245 (by decide) ?_
  exact l_wide (k σ' τ' f hr)
set_option maxHeartbeats 4000000 in
set_option maxRecDepth 100000 in
theorem lc_2 (hg : l_ok (p, l, e, s, m, below, meth, c, b, L, xs) w) (hn6 : n ≤ 599) {i : Nat} (hi : i + 7 ≤ L) (hrel : Rel σ τ) (k : ∀ (σ' τ' : Mem) (f' : Nat → Int64), Rel σ' τ' → Lj (p, l, e, s, m, below, meth, c, b, L, xs) w σ' τ' f' (n + 1) 1177 [(0, .ref b), (1, .ref (w.2.1 16)), (2, .ref (w.2.2.1 0)), (3, .ref (l_q w)), (4, .int (nI i))] []) : Lj (p, l, e, s, m, below, meth, c, b, L, xs) w σ τ f n 250 [(0, .ref b), (1, .ref (w.2.1 16)), (2, .ref (w.2.2.1 0)), (3, .ref (l_q w)), (4, .int (nI i))] [] := by
  obtain ⟨v, σ', τ', hx, hy, hr⟩ := p_fault (N := 1300) (by decide) hrel
  refine l_aload 1 hg dL_law_250 rfl ?_
  refine l_callC (As := []) (st := []) hg (e_X6_fault 1300 l (l_C w) σ) hx lk_29 li_X6_fault ls_X6_fault ln_X6_fault (by decide) (by omega) rfl (Nat.le_of_ble_eq_true rfl) dL_law_251 ?_
  refine l_aload 2 hg dL_law_254 rfl ?_
  refine l_callR (As := []) (st := [.int v]) hg (e_X7_fault 1300 l (l_R w) τ) hy lk_33 li_X7_fault ls_X7_fault ln_X7_fault (by decide) (by omega) rfl (Nat.le_of_ble_eq_true rfl) dL_law_255 ?_
  refine l_same 1177 hg dL_law_258 (by decide) ?_
  exact l_wide (k σ' τ' f hr)
set_option maxHeartbeats 4000000 in
set_option maxRecDepth 100000 in
theorem lc_3 (hg : l_ok (p, l, e, s, m, below, meth, c, b, L, xs) w) (hn6 : n ≤ 599) {i : Nat} (hi : i + 7 ≤ L) (hrel : Rel σ τ) (k : ∀ (σ' τ' : Mem) (f' : Nat → Int64), Rel σ' τ' → Lj (p, l, e, s, m, below, meth, c, b, L, xs) w σ' τ' f' (n + 1) 1177 [(0, .ref b), (1, .ref (w.2.1 16)), (2, .ref (w.2.2.1 0)), (3, .ref (l_q w)), (4, .int (nI i))] []) : Lj (p, l, e, s, m, below, meth, c, b, L, xs) w σ τ f n 263 [(0, .ref b), (1, .ref (w.2.1 16)), (2, .ref (w.2.2.1 0)), (3, .ref (l_q w)), (4, .int (nI i))] [] := by
  obtain ⟨v, σ', τ', hx, hy, hr⟩ := p_cover (N := 1300) (by decide) hrel
  refine l_aload 1 hg dL_law_263 rfl ?_
  refine l_callC (As := []) (st := []) hg (e_X6_cover 1300 l (l_C w) σ) hx lk_34 li_X6_cover ls_X6_cover ln_X6_cover (by decide) (by omega) rfl (Nat.le_of_ble_eq_true rfl) dL_law_264 ?_
  refine l_aload 2 hg dL_law_267 rfl ?_
  refine l_callR (As := []) (st := [.int v]) hg (e_X7_cover 1300 l (l_R w) τ) hy lk_37 li_X7_cover ls_X7_cover ln_X7_cover (by decide) (by omega) rfl (Nat.le_of_ble_eq_true rfl) dL_law_268 ?_
  refine l_same 1177 hg dL_law_271 (by decide) ?_
  exact l_wide (k σ' τ' f hr)
set_option maxHeartbeats 4000000 in
set_option maxRecDepth 100000 in
theorem lc_5 (hg : l_ok (p, l, e, s, m, below, meth, c, b, L, xs) w) (hn6 : n ≤ 599) {i : Nat} (hi : i + 7 ≤ L) (hrel : Rel σ τ) (k : ∀ (σ' τ' : Mem) (f' : Nat → Int64), Rel σ' τ' → Lj (p, l, e, s, m, below, meth, c, b, L, xs) w σ' τ' f' (n + 1) 1177 [(0, .ref b), (1, .ref (w.2.1 16)), (2, .ref (w.2.2.1 0)), (3, .ref (l_q w)), (4, .int (nI i))] []) : Lj (p, l, e, s, m, below, meth, c, b, L, xs) w σ τ f n 344 [(0, .ref b), (1, .ref (w.2.1 16)), (2, .ref (w.2.2.1 0)), (3, .ref (l_q w)), (4, .int (nI i))] [] := by
  obtain ⟨v, σ', τ', hx, hy, hr⟩ := p_loss 1300 hrel (xs (nI i + 1).toNatClampNeg) (xs (nI i + 2).toNatClampNeg) (xs (nI i + 3).toNatClampNeg) (xs (nI i + 4).toNatClampNeg) (xs (nI i + 5).toNatClampNeg) (xs (nI i + 6).toNatClampNeg)
  refine l_aload 1 hg dL_law_344 rfl ?_
  refine l_aload 0 hg dL_law_345 rfl ?_
  refine l_iload 4 hg dL_law_346 rfl ?_
  refine l_iconst 1 hg dL_law_348 (by decide) ?_
  refine l_iadd hg dL_law_349 ?_
  refine l_sld hg (l_in (j := 1) (by omega) hg.2.2.1) dL_law_350 ?_
  refine l_aload 0 hg dL_law_351 rfl ?_
  refine l_iload 4 hg dL_law_352 rfl ?_
  refine l_iconst 2 hg dL_law_354 (by decide) ?_
  refine l_iadd hg dL_law_355 ?_
  refine l_sld hg (l_in (j := 2) (by omega) hg.2.2.1) dL_law_356 ?_
  refine l_aload 0 hg dL_law_357 rfl ?_
  refine l_iload 4 hg dL_law_358 rfl ?_
  refine l_iconst 3 hg dL_law_360 (by decide) ?_
  refine l_iadd hg dL_law_361 ?_
  refine l_sld hg (l_in (j := 3) (by omega) hg.2.2.1) dL_law_362 ?_
  refine l_aload 0 hg dL_law_363 rfl ?_
  refine l_iload 4 hg dL_law_364 rfl ?_
  refine l_iconst 4 hg dL_law_366 (by decide) ?_
  refine l_iadd hg dL_law_367 ?_
  refine l_sld hg (l_in (j := 4) (by omega) hg.2.2.1) dL_law_368 ?_
  refine l_aload 0 hg dL_law_369 rfl ?_
  refine l_iload 4 hg dL_law_370 rfl ?_
  refine l_iconst 5 hg dL_law_372 (by decide) ?_
  refine l_iadd hg dL_law_373 ?_
  refine l_sld hg (l_in (j := 5) (by omega) hg.2.2.1) dL_law_374 ?_
  refine l_aload 0 hg dL_law_375 rfl ?_
  refine l_iload 4 hg dL_law_376 rfl ?_
  refine l_bipush 6 hg dL_law_378 (by decide) ?_
  refine l_iadd hg dL_law_380 ?_
  refine l_sld hg (l_in (j := 6) (by omega) hg.2.2.1) dL_law_381 ?_
  refine l_callC (As := [.int (xs (nI i + 1).toNatClampNeg), .int (xs (nI i + 2).toNatClampNeg), .int (xs (nI i + 3).toNatClampNeg), .int (xs (nI i + 4).toNatClampNeg), .int (xs (nI i + 5).toNatClampNeg), .int (xs (nI i + 6).toNatClampNeg)]) (st := []) hg (e_X6_loss 1300 l (l_C w) (xs (nI i + 1).toNatClampNeg) (xs (nI i + 2).toNatClampNeg) (xs (nI i + 3).toNatClampNeg) (xs (nI i + 4).toNatClampNeg) (xs (nI i + 5).toNatClampNeg) (xs (nI i + 6).toNatClampNeg) σ) hx lk_47 li_X6_loss ls_X6_loss ln_X6_loss (by decide) (by omega) rfl (Nat.le_of_ble_eq_true rfl) dL_law_382 ?_
  refine l_aload 2 hg dL_law_385 rfl ?_
  refine l_aload 0 hg dL_law_386 rfl ?_
  refine l_iload 4 hg dL_law_387 rfl ?_
  refine l_iconst 1 hg dL_law_389 (by decide) ?_
  refine l_iadd hg dL_law_390 ?_
  refine l_sld hg (l_in (j := 1) (by omega) hg.2.2.1) dL_law_391 ?_
  refine l_aload 0 hg dL_law_392 rfl ?_
  refine l_iload 4 hg dL_law_393 rfl ?_
  refine l_iconst 2 hg dL_law_395 (by decide) ?_
  refine l_iadd hg dL_law_396 ?_
  refine l_sld hg (l_in (j := 2) (by omega) hg.2.2.1) dL_law_397 ?_
  refine l_aload 0 hg dL_law_398 rfl ?_
  refine l_iload 4 hg dL_law_399 rfl ?_
  refine l_iconst 3 hg dL_law_401 (by decide) ?_
  refine l_iadd hg dL_law_402 ?_
  refine l_sld hg (l_in (j := 3) (by omega) hg.2.2.1) dL_law_403 ?_
  refine l_aload 0 hg dL_law_404 rfl ?_
  refine l_iload 4 hg dL_law_405 rfl ?_
  refine l_iconst 4 hg dL_law_407 (by decide) ?_
  refine l_iadd hg dL_law_408 ?_
  refine l_sld hg (l_in (j := 4) (by omega) hg.2.2.1) dL_law_409 ?_
  refine l_aload 0 hg dL_law_410 rfl ?_
  refine l_iload 4 hg dL_law_411 rfl ?_
  refine l_iconst 5 hg dL_law_413 (by decide) ?_
  refine l_iadd hg dL_law_414 ?_
  refine l_sld hg (l_in (j := 5) (by omega) hg.2.2.1) dL_law_415 ?_
  refine l_aload 0 hg dL_law_416 rfl ?_
  refine l_iload 4 hg dL_law_417 rfl ?_
  refine l_bipush 6 hg dL_law_419 (by decide) ?_
  refine l_iadd hg dL_law_421 ?_
  refine l_sld hg (l_in (j := 6) (by omega) hg.2.2.1) dL_law_422 ?_
  refine l_callR (As := [.int (xs (nI i + 1).toNatClampNeg), .int (xs (nI i + 2).toNatClampNeg), .int (xs (nI i + 3).toNatClampNeg), .int (xs (nI i + 4).toNatClampNeg), .int (xs (nI i + 5).toNatClampNeg), .int (xs (nI i + 6).toNatClampNeg)]) (st := [.int v]) hg (e_X7_loss 1300 l (l_R w) (xs (nI i + 1).toNatClampNeg) (xs (nI i + 2).toNatClampNeg) (xs (nI i + 3).toNatClampNeg) (xs (nI i + 4).toNatClampNeg) (xs (nI i + 5).toNatClampNeg) (xs (nI i + 6).toNatClampNeg) τ) hy lk_51 li_X7_loss ls_X7_loss ln_X7_loss (by decide) (by omega) rfl (Nat.le_of_ble_eq_true rfl) dL_law_423 ?_
  refine l_same 1177 hg dL_law_426 (by decide) ?_
  exact l_wide (k σ' τ' f hr)
set_option maxHeartbeats 4000000 in
set_option maxRecDepth 100000 in
theorem lc_6 (hg : l_ok (p, l, e, s, m, below, meth, c, b, L, xs) w) (hn6 : n ≤ 599) {i : Nat} (hi : i + 7 ≤ L) (hrel : Rel σ τ) (k : ∀ (σ' τ' : Mem) (f' : Nat → Int64), Rel σ' τ' → Lj (p, l, e, s, m, below, meth, c, b, L, xs) w σ' τ' f' (n + 1) 1177 [(0, .ref b), (1, .ref (w.2.1 16)), (2, .ref (w.2.2.1 0)), (3, .ref (l_q w)), (4, .int (nI i))] []) : Lj (p, l, e, s, m, below, meth, c, b, L, xs) w σ τ f n 431 [(0, .ref b), (1, .ref (w.2.1 16)), (2, .ref (w.2.2.1 0)), (3, .ref (l_q w)), (4, .int (nI i))] [] := by
  obtain ⟨v, σ', τ', hx, hy, hr⟩ := p_may (N := 1300) (by decide) hrel (xs (nI i + 1).toNatClampNeg) (xs (nI i + 2).toNatClampNeg)
  refine l_aload 1 hg dL_law_431 rfl ?_
  refine l_aload 0 hg dL_law_432 rfl ?_
  refine l_iload 4 hg dL_law_433 rfl ?_
  refine l_iconst 1 hg dL_law_435 (by decide) ?_
  refine l_iadd hg dL_law_436 ?_
  refine l_sld hg (l_in (j := 1) (by omega) hg.2.2.1) dL_law_437 ?_
  refine l_aload 0 hg dL_law_438 rfl ?_
  refine l_iload 4 hg dL_law_439 rfl ?_
  refine l_iconst 2 hg dL_law_441 (by decide) ?_
  refine l_iadd hg dL_law_442 ?_
  refine l_sld hg (l_in (j := 2) (by omega) hg.2.2.1) dL_law_443 ?_
  refine l_callC (As := [.int (xs (nI i + 1).toNatClampNeg), .int (xs (nI i + 2).toNatClampNeg)]) (st := []) hg (e_X6_may 1300 l (l_C w) (xs (nI i + 1).toNatClampNeg) (xs (nI i + 2).toNatClampNeg) σ) hx lk_52 li_X6_may ls_X6_may ln_X6_may (by decide) (by omega) rfl (Nat.le_of_ble_eq_true rfl) dL_law_444 ?_
  refine l_aload 2 hg dL_law_447 rfl ?_
  refine l_aload 0 hg dL_law_448 rfl ?_
  refine l_iload 4 hg dL_law_449 rfl ?_
  refine l_iconst 1 hg dL_law_451 (by decide) ?_
  refine l_iadd hg dL_law_452 ?_
  refine l_sld hg (l_in (j := 1) (by omega) hg.2.2.1) dL_law_453 ?_
  refine l_aload 0 hg dL_law_454 rfl ?_
  refine l_iload 4 hg dL_law_455 rfl ?_
  refine l_iconst 2 hg dL_law_457 (by decide) ?_
  refine l_iadd hg dL_law_458 ?_
  refine l_sld hg (l_in (j := 2) (by omega) hg.2.2.1) dL_law_459 ?_
  refine l_callR (As := [.int (xs (nI i + 1).toNatClampNeg), .int (xs (nI i + 2).toNatClampNeg)]) (st := [.int v]) hg (e_X7_may 1300 l (l_R w) (xs (nI i + 1).toNatClampNeg) (xs (nI i + 2).toNatClampNeg) τ) hy lk_55 li_X7_may ls_X7_may ln_X7_may (by decide) (by omega) rfl (Nat.le_of_ble_eq_true rfl) dL_law_460 ?_
  refine l_same 1177 hg dL_law_463 (by decide) ?_
  exact l_wide (k σ' τ' f hr)
set_option maxHeartbeats 4000000 in
set_option maxRecDepth 100000 in
theorem lc_7 (hg : l_ok (p, l, e, s, m, below, meth, c, b, L, xs) w) (hn6 : n ≤ 599) {i : Nat} (hi : i + 7 ≤ L) (hrel : Rel σ τ) (k : ∀ (σ' τ' : Mem) (f' : Nat → Int64), Rel σ' τ' → Lj (p, l, e, s, m, below, meth, c, b, L, xs) w σ' τ' f' (n + 1) 1177 [(0, .ref b), (1, .ref (w.2.1 16)), (2, .ref (w.2.2.1 0)), (3, .ref (l_q w)), (4, .int (nI i))] []) : Lj (p, l, e, s, m, below, meth, c, b, L, xs) w σ τ f n 468 [(0, .ref b), (1, .ref (w.2.1 16)), (2, .ref (w.2.2.1 0)), (3, .ref (l_q w)), (4, .int (nI i))] [] := by
  obtain ⟨v, σ', τ', hx, hy, hr⟩ := p_paid (N := 1300) (by decide) hrel (xs (nI i + 1).toNatClampNeg) (xs (nI i + 2).toNatClampNeg)
  refine l_aload 1 hg dL_law_468 rfl ?_
  refine l_aload 0 hg dL_law_469 rfl ?_
  refine l_iload 4 hg dL_law_470 rfl ?_
  refine l_iconst 1 hg dL_law_472 (by decide) ?_
  refine l_iadd hg dL_law_473 ?_
  refine l_sld hg (l_in (j := 1) (by omega) hg.2.2.1) dL_law_474 ?_
  refine l_aload 0 hg dL_law_475 rfl ?_
  refine l_iload 4 hg dL_law_476 rfl ?_
  refine l_iconst 2 hg dL_law_478 (by decide) ?_
  refine l_iadd hg dL_law_479 ?_
  refine l_sld hg (l_in (j := 2) (by omega) hg.2.2.1) dL_law_480 ?_
  refine l_callC (As := [.int (xs (nI i + 1).toNatClampNeg), .int (xs (nI i + 2).toNatClampNeg)]) (st := []) hg (e_X6_paid 1300 l (l_C w) (xs (nI i + 1).toNatClampNeg) (xs (nI i + 2).toNatClampNeg) σ) hx lk_56 li_X6_paid ls_X6_paid ln_X6_paid (by decide) (by omega) rfl (Nat.le_of_ble_eq_true rfl) dL_law_481 ?_
  refine l_aload 2 hg dL_law_484 rfl ?_
  refine l_aload 0 hg dL_law_485 rfl ?_
  refine l_iload 4 hg dL_law_486 rfl ?_
  refine l_iconst 1 hg dL_law_488 (by decide) ?_
  refine l_iadd hg dL_law_489 ?_
  refine l_sld hg (l_in (j := 1) (by omega) hg.2.2.1) dL_law_490 ?_
  refine l_aload 0 hg dL_law_491 rfl ?_
  refine l_iload 4 hg dL_law_492 rfl ?_
  refine l_iconst 2 hg dL_law_494 (by decide) ?_
  refine l_iadd hg dL_law_495 ?_
  refine l_sld hg (l_in (j := 2) (by omega) hg.2.2.1) dL_law_496 ?_
  refine l_callR (As := [.int (xs (nI i + 1).toNatClampNeg), .int (xs (nI i + 2).toNatClampNeg)]) (st := [.int v]) hg (e_X7_paid 1300 l (l_R w) (xs (nI i + 1).toNatClampNeg) (xs (nI i + 2).toNatClampNeg) τ) hy lk_59 li_X7_paid ls_X7_paid ln_X7_paid (by decide) (by omega) rfl (Nat.le_of_ble_eq_true rfl) dL_law_497 ?_
  refine l_same 1177 hg dL_law_500 (by decide) ?_
  exact l_wide (k σ' τ' f hr)
set_option maxHeartbeats 4000000 in
set_option maxRecDepth 100000 in
theorem lc_8 (hg : l_ok (p, l, e, s, m, below, meth, c, b, L, xs) w) (hn6 : n ≤ 599) {i : Nat} (hi : i + 7 ≤ L) (hrel : Rel σ τ) (k : ∀ (σ' τ' : Mem) (f' : Nat → Int64), Rel σ' τ' → Lj (p, l, e, s, m, below, meth, c, b, L, xs) w σ' τ' f' (n + 1) 1177 [(0, .ref b), (1, .ref (w.2.1 16)), (2, .ref (w.2.2.1 0)), (3, .ref (l_q w)), (4, .int (nI i))] []) : Lj (p, l, e, s, m, below, meth, c, b, L, xs) w σ τ f n 505 [(0, .ref b), (1, .ref (w.2.1 16)), (2, .ref (w.2.2.1 0)), (3, .ref (l_q w)), (4, .int (nI i))] [] := by
  obtain ⟨v, σ', τ', hx, hy, hr⟩ := p_put 1300 hrel (xs (nI i + 1).toNatClampNeg) (xs (nI i + 2).toNatClampNeg)
  refine l_aload 1 hg dL_law_505 rfl ?_
  refine l_aload 0 hg dL_law_506 rfl ?_
  refine l_iload 4 hg dL_law_507 rfl ?_
  refine l_iconst 1 hg dL_law_509 (by decide) ?_
  refine l_iadd hg dL_law_510 ?_
  refine l_sld hg (l_in (j := 1) (by omega) hg.2.2.1) dL_law_511 ?_
  refine l_aload 0 hg dL_law_512 rfl ?_
  refine l_iload 4 hg dL_law_513 rfl ?_
  refine l_iconst 2 hg dL_law_515 (by decide) ?_
  refine l_iadd hg dL_law_516 ?_
  refine l_sld hg (l_in (j := 2) (by omega) hg.2.2.1) dL_law_517 ?_
  refine l_callC (As := [.int (xs (nI i + 1).toNatClampNeg), .int (xs (nI i + 2).toNatClampNeg)]) (st := []) hg (e_X6_put 1300 l (l_C w) (xs (nI i + 1).toNatClampNeg) (xs (nI i + 2).toNatClampNeg) σ) hx lk_60 li_X6_put ls_X6_put ln_X6_put (by decide) (by omega) rfl (Nat.le_of_ble_eq_true rfl) dL_law_518 ?_
  refine l_aload 2 hg dL_law_521 rfl ?_
  refine l_aload 0 hg dL_law_522 rfl ?_
  refine l_iload 4 hg dL_law_523 rfl ?_
  refine l_iconst 1 hg dL_law_525 (by decide) ?_
  refine l_iadd hg dL_law_526 ?_
  refine l_sld hg (l_in (j := 1) (by omega) hg.2.2.1) dL_law_527 ?_
  refine l_aload 0 hg dL_law_528 rfl ?_
  refine l_iload 4 hg dL_law_529 rfl ?_
  refine l_iconst 2 hg dL_law_531 (by decide) ?_
  refine l_iadd hg dL_law_532 ?_
  refine l_sld hg (l_in (j := 2) (by omega) hg.2.2.1) dL_law_533 ?_
  refine l_callR (As := [.int (xs (nI i + 1).toNatClampNeg), .int (xs (nI i + 2).toNatClampNeg)]) (st := [.int v]) hg (e_X7_put_ 1300 l (l_R w) (xs (nI i + 1).toNatClampNeg) (xs (nI i + 2).toNatClampNeg) τ) hy lk_64 li_X7_put_ ls_X7_put_ ln_X7_put_ (by decide) (by omega) rfl (Nat.le_of_ble_eq_true rfl) dL_law_534 ?_
  refine l_same 1177 hg dL_law_537 (by decide) ?_
  exact l_wide (k σ' τ' f hr)
set_option maxHeartbeats 4000000 in
set_option maxRecDepth 100000 in
theorem lc_9 (hg : l_ok (p, l, e, s, m, below, meth, c, b, L, xs) w) (hn6 : n ≤ 599) {i : Nat} (hi : i + 7 ≤ L) (hrel : Rel σ τ) (k : ∀ (σ' τ' : Mem) (f' : Nat → Int64), Rel σ' τ' → Lj (p, l, e, s, m, below, meth, c, b, L, xs) w σ' τ' f' (n + 1) 1177 [(0, .ref b), (1, .ref (w.2.1 16)), (2, .ref (w.2.2.1 0)), (3, .ref (l_q w)), (4, .int (nI i))] []) : Lj (p, l, e, s, m, below, meth, c, b, L, xs) w σ τ f n 542 [(0, .ref b), (1, .ref (w.2.1 16)), (2, .ref (w.2.2.1 0)), (3, .ref (l_q w)), (4, .int (nI i))] [] := by
  obtain ⟨v, σ', τ', hx, hy, hr⟩ := p_judge (N := 1300) (by decide) hrel (xs (nI i + 1).toNatClampNeg)
  refine l_aload 1 hg dL_law_542 rfl ?_
  refine l_aload 0 hg dL_law_543 rfl ?_
  refine l_iload 4 hg dL_law_544 rfl ?_
  refine l_iconst 1 hg dL_law_546 (by decide) ?_
  refine l_iadd hg dL_law_547 ?_
  refine l_sld hg (l_in (j := 1) (by omega) hg.2.2.1) dL_law_548 ?_
  refine l_callC (As := [.int (xs (nI i + 1).toNatClampNeg)]) (st := []) hg (e_X6_judge 1300 l (l_C w) (xs (nI i + 1).toNatClampNeg) σ) hx lk_65 li_X6_judge ls_X6_judge ln_X6_judge (by decide) (by omega) rfl (Nat.le_of_ble_eq_true rfl) dL_law_549 ?_
  refine l_aload 2 hg dL_law_552 rfl ?_
  refine l_aload 0 hg dL_law_553 rfl ?_
  refine l_iload 4 hg dL_law_554 rfl ?_
  refine l_iconst 1 hg dL_law_556 (by decide) ?_
  refine l_iadd hg dL_law_557 ?_
  refine l_sld hg (l_in (j := 1) (by omega) hg.2.2.1) dL_law_558 ?_
  refine l_callR (As := [.int (xs (nI i + 1).toNatClampNeg)]) (st := [.int v]) hg (e_X7_judge 1300 l (l_R w) (xs (nI i + 1).toNatClampNeg) τ) hy lk_69 li_X7_judge ls_X7_judge ln_X7_judge (by decide) (by omega) rfl (Nat.le_of_ble_eq_true rfl) dL_law_559 ?_
  refine l_same 1177 hg dL_law_562 (by decide) ?_
  exact l_wide (k σ' τ' f hr)
set_option maxHeartbeats 4000000 in
set_option maxRecDepth 100000 in
theorem lc_10 (hg : l_ok (p, l, e, s, m, below, meth, c, b, L, xs) w) (hn6 : n ≤ 599) {i : Nat} (hi : i + 7 ≤ L) (hrel : Rel σ τ) (k : ∀ (σ' τ' : Mem) (f' : Nat → Int64), Rel σ' τ' → Lj (p, l, e, s, m, below, meth, c, b, L, xs) w σ' τ' f' (n + 1) 1177 [(0, .ref b), (1, .ref (w.2.1 16)), (2, .ref (w.2.2.1 0)), (3, .ref (l_q w)), (4, .int (nI i))] []) : Lj (p, l, e, s, m, below, meth, c, b, L, xs) w σ τ f n 567 [(0, .ref b), (1, .ref (w.2.1 16)), (2, .ref (w.2.2.1 0)), (3, .ref (l_q w)), (4, .int (nI i))] [] := by
  obtain ⟨v, σ', τ', hx, hy, hr⟩ := p_brings (N := 1300) (by decide) hrel (xs (nI i + 1).toNatClampNeg) (xs (nI i + 2).toNatClampNeg)
  refine l_aload 1 hg dL_law_567 rfl ?_
  refine l_aload 0 hg dL_law_568 rfl ?_
  refine l_iload 4 hg dL_law_569 rfl ?_
  refine l_iconst 1 hg dL_law_571 (by decide) ?_
  refine l_iadd hg dL_law_572 ?_
  refine l_sld hg (l_in (j := 1) (by omega) hg.2.2.1) dL_law_573 ?_
  refine l_aload 0 hg dL_law_574 rfl ?_
  refine l_iload 4 hg dL_law_575 rfl ?_
  refine l_iconst 2 hg dL_law_577 (by decide) ?_
  refine l_iadd hg dL_law_578 ?_
  refine l_sld hg (l_in (j := 2) (by omega) hg.2.2.1) dL_law_579 ?_
  refine l_callC (As := [.int (xs (nI i + 1).toNatClampNeg), .int (xs (nI i + 2).toNatClampNeg)]) (st := []) hg (e_X6_brings 1300 l (l_C w) (xs (nI i + 1).toNatClampNeg) (xs (nI i + 2).toNatClampNeg) σ) hx lk_70 li_X6_brings ls_X6_brings ln_X6_brings (by decide) (by omega) rfl (Nat.le_of_ble_eq_true rfl) dL_law_580 ?_
  refine l_aload 2 hg dL_law_583 rfl ?_
  refine l_aload 0 hg dL_law_584 rfl ?_
  refine l_iload 4 hg dL_law_585 rfl ?_
  refine l_iconst 1 hg dL_law_587 (by decide) ?_
  refine l_iadd hg dL_law_588 ?_
  refine l_sld hg (l_in (j := 1) (by omega) hg.2.2.1) dL_law_589 ?_
  refine l_aload 0 hg dL_law_590 rfl ?_
  refine l_iload 4 hg dL_law_591 rfl ?_
  refine l_iconst 2 hg dL_law_593 (by decide) ?_
  refine l_iadd hg dL_law_594 ?_
  refine l_sld hg (l_in (j := 2) (by omega) hg.2.2.1) dL_law_595 ?_
  refine l_callR (As := [.int (xs (nI i + 1).toNatClampNeg), .int (xs (nI i + 2).toNatClampNeg)]) (st := [.int v]) hg (e_X7_brings 1300 l (l_R w) (xs (nI i + 1).toNatClampNeg) (xs (nI i + 2).toNatClampNeg) τ) hy lk_73 li_X7_brings ls_X7_brings ln_X7_brings (by decide) (by omega) rfl (Nat.le_of_ble_eq_true rfl) dL_law_596 ?_
  refine l_same 1177 hg dL_law_599 (by decide) ?_
  exact l_wide (k σ' τ' f hr)
set_option maxHeartbeats 4000000 in
set_option maxRecDepth 100000 in
theorem lc_11 (hg : l_ok (p, l, e, s, m, below, meth, c, b, L, xs) w) (hn6 : n ≤ 599) {i : Nat} (hi : i + 7 ≤ L) (hrel : Rel σ τ) (k : ∀ (σ' τ' : Mem) (f' : Nat → Int64), Rel σ' τ' → Lj (p, l, e, s, m, below, meth, c, b, L, xs) w σ' τ' f' (n + 1) 1177 [(0, .ref b), (1, .ref (w.2.1 16)), (2, .ref (w.2.2.1 0)), (3, .ref (l_q w)), (4, .int (nI i))] []) : Lj (p, l, e, s, m, below, meth, c, b, L, xs) w σ τ f n 604 [(0, .ref b), (1, .ref (w.2.1 16)), (2, .ref (w.2.2.1 0)), (3, .ref (l_q w)), (4, .int (nI i))] [] := by
  by_cases hz : xs (nI i + 3).toNatClampNeg = 0
  · obtain ⟨v, σ', τ', hx, hy, hr⟩ := p_year (N := 1300) (by decide) hrel (xs (nI i + 1).toNatClampNeg) (xs (nI i + 2).toNatClampNeg) (0)
    refine l_aload 1 hg dL_law_604 rfl ?_
    refine l_aload 0 hg dL_law_605 rfl ?_
    refine l_iload 4 hg dL_law_606 rfl ?_
    refine l_iconst 1 hg dL_law_608 (by decide) ?_
    refine l_iadd hg dL_law_609 ?_
    refine l_sld hg (l_in (j := 1) (by omega) hg.2.2.1) dL_law_610 ?_
    refine l_aload 0 hg dL_law_611 rfl ?_
    refine l_iload 4 hg dL_law_612 rfl ?_
    refine l_iconst 2 hg dL_law_614 (by decide) ?_
    refine l_iadd hg dL_law_615 ?_
    refine l_sld hg (l_in (j := 2) (by omega) hg.2.2.1) dL_law_616 ?_
    refine l_aload 0 hg dL_law_617 rfl ?_
    refine l_iload 4 hg dL_law_618 rfl ?_
    refine l_iconst 3 hg dL_law_620 (by decide) ?_
    refine l_iadd hg dL_law_621 ?_
    refine l_sld hg (l_in (j := 3) (by omega) hg.2.2.1) dL_law_622 ?_
    refine l_if0 630 hg dL_law_623 (by decide) (fun _ => ?_) (fun z => absurd hz z)
    refine l_iconst 0 hg dL_law_630 (by decide) ?_
    refine l_callC (As := [.int (xs (nI i + 1).toNatClampNeg), .int (xs (nI i + 2).toNatClampNeg), .int (0)]) (st := []) hg (e_X6_year 1300 l (l_C w) (xs (nI i + 1).toNatClampNeg) (xs (nI i + 2).toNatClampNeg) (0) σ) hx lk_74 li_X6_year ls_X6_year ln_X6_year (by decide) (by omega) rfl (Nat.le_of_ble_eq_true rfl) dL_law_631 ?_
    refine l_aload 2 hg dL_law_634 rfl ?_
    refine l_aload 0 hg dL_law_635 rfl ?_
    refine l_iload 4 hg dL_law_636 rfl ?_
    refine l_iconst 1 hg dL_law_638 (by decide) ?_
    refine l_iadd hg dL_law_639 ?_
    refine l_sld hg (l_in (j := 1) (by omega) hg.2.2.1) dL_law_640 ?_
    refine l_aload 0 hg dL_law_641 rfl ?_
    refine l_iload 4 hg dL_law_642 rfl ?_
    refine l_iconst 2 hg dL_law_644 (by decide) ?_
    refine l_iadd hg dL_law_645 ?_
    refine l_sld hg (l_in (j := 2) (by omega) hg.2.2.1) dL_law_646 ?_
    refine l_aload 0 hg dL_law_647 rfl ?_
    refine l_iload 4 hg dL_law_648 rfl ?_
    refine l_iconst 3 hg dL_law_650 (by decide) ?_
    refine l_iadd hg dL_law_651 ?_
    refine l_sld hg (l_in (j := 3) (by omega) hg.2.2.1) dL_law_652 ?_
    refine l_if0 660 hg dL_law_653 (by decide) (fun _ => ?_) (fun z => absurd hz z)
    refine l_iconst 0 hg dL_law_660 (by decide) ?_
    refine l_callR (As := [.int (xs (nI i + 1).toNatClampNeg), .int (xs (nI i + 2).toNatClampNeg), .int (0)]) (st := [.int v]) hg (e_X7_year 1300 l (l_R w) (xs (nI i + 1).toNatClampNeg) (xs (nI i + 2).toNatClampNeg) (0) τ) hy lk_78 li_X7_year ls_X7_year ln_X7_year (by decide) (by omega) rfl (Nat.le_of_ble_eq_true rfl) dL_law_661 ?_
    refine l_same 1177 hg dL_law_664 (by decide) ?_
    exact l_wide (k σ' τ' f hr)
  · obtain ⟨v, σ', τ', hx, hy, hr⟩ := p_year (N := 1300) (by decide) hrel (xs (nI i + 1).toNatClampNeg) (xs (nI i + 2).toNatClampNeg) (1)
    refine l_aload 1 hg dL_law_604 rfl ?_
    refine l_aload 0 hg dL_law_605 rfl ?_
    refine l_iload 4 hg dL_law_606 rfl ?_
    refine l_iconst 1 hg dL_law_608 (by decide) ?_
    refine l_iadd hg dL_law_609 ?_
    refine l_sld hg (l_in (j := 1) (by omega) hg.2.2.1) dL_law_610 ?_
    refine l_aload 0 hg dL_law_611 rfl ?_
    refine l_iload 4 hg dL_law_612 rfl ?_
    refine l_iconst 2 hg dL_law_614 (by decide) ?_
    refine l_iadd hg dL_law_615 ?_
    refine l_sld hg (l_in (j := 2) (by omega) hg.2.2.1) dL_law_616 ?_
    refine l_aload 0 hg dL_law_617 rfl ?_
    refine l_iload 4 hg dL_law_618 rfl ?_
    refine l_iconst 3 hg dL_law_620 (by decide) ?_
    refine l_iadd hg dL_law_621 ?_
    refine l_sld hg (l_in (j := 3) (by omega) hg.2.2.1) dL_law_622 ?_
    refine l_if0 630 hg dL_law_623 (by decide) (fun z => absurd z hz) (fun _ => ?_)
    refine l_iconst 1 hg dL_law_626 (by decide) ?_
    refine l_goto 631 hg dL_law_627 (by decide) ?_
    refine l_callC (As := [.int (xs (nI i + 1).toNatClampNeg), .int (xs (nI i + 2).toNatClampNeg), .int (1)]) (st := []) hg (e_X6_year 1300 l (l_C w) (xs (nI i + 1).toNatClampNeg) (xs (nI i + 2).toNatClampNeg) (1) σ) hx lk_74 li_X6_year ls_X6_year ln_X6_year (by decide) (by omega) rfl (Nat.le_of_ble_eq_true rfl) dL_law_631 ?_
    refine l_aload 2 hg dL_law_634 rfl ?_
    refine l_aload 0 hg dL_law_635 rfl ?_
    refine l_iload 4 hg dL_law_636 rfl ?_
    refine l_iconst 1 hg dL_law_638 (by decide) ?_
    refine l_iadd hg dL_law_639 ?_
    refine l_sld hg (l_in (j := 1) (by omega) hg.2.2.1) dL_law_640 ?_
    refine l_aload 0 hg dL_law_641 rfl ?_
    refine l_iload 4 hg dL_law_642 rfl ?_
    refine l_iconst 2 hg dL_law_644 (by decide) ?_
    refine l_iadd hg dL_law_645 ?_
    refine l_sld hg (l_in (j := 2) (by omega) hg.2.2.1) dL_law_646 ?_
    refine l_aload 0 hg dL_law_647 rfl ?_
    refine l_iload 4 hg dL_law_648 rfl ?_
    refine l_iconst 3 hg dL_law_650 (by decide) ?_
    refine l_iadd hg dL_law_651 ?_
    refine l_sld hg (l_in (j := 3) (by omega) hg.2.2.1) dL_law_652 ?_
    refine l_if0 660 hg dL_law_653 (by decide) (fun z => absurd z hz) (fun _ => ?_)
    refine l_iconst 1 hg dL_law_656 (by decide) ?_
    refine l_goto 661 hg dL_law_657 (by decide) ?_
    refine l_callR (As := [.int (xs (nI i + 1).toNatClampNeg), .int (xs (nI i + 2).toNatClampNeg), .int (1)]) (st := [.int v]) hg (e_X7_year 1300 l (l_R w) (xs (nI i + 1).toNatClampNeg) (xs (nI i + 2).toNatClampNeg) (1) τ) hy lk_78 li_X7_year ls_X7_year ln_X7_year (by decide) (by omega) rfl (Nat.le_of_ble_eq_true rfl) dL_law_661 ?_
    refine l_same 1177 hg dL_law_664 (by decide) ?_
    exact l_wide (k σ' τ' f hr)
set_option maxHeartbeats 4000000 in
set_option maxRecDepth 100000 in
theorem lc_12 (hg : l_ok (p, l, e, s, m, below, meth, c, b, L, xs) w) (hn6 : n ≤ 599) {i : Nat} (hi : i + 7 ≤ L) (hrel : Rel σ τ) (k : ∀ (σ' τ' : Mem) (f' : Nat → Int64), Rel σ' τ' → Lj (p, l, e, s, m, below, meth, c, b, L, xs) w σ' τ' f' (n + 1) 1177 [(0, .ref b), (1, .ref (w.2.1 16)), (2, .ref (w.2.2.1 0)), (3, .ref (l_q w)), (4, .int (nI i))] []) : Lj (p, l, e, s, m, below, meth, c, b, L, xs) w σ τ f n 669 [(0, .ref b), (1, .ref (w.2.1 16)), (2, .ref (w.2.2.1 0)), (3, .ref (l_q w)), (4, .int (nI i))] [] := by
  obtain ⟨v, σ', τ', hx, hy, hr⟩ := p_most (N := 1300) (by decide) hrel (xs (nI i + 1).toNatClampNeg) (xs (nI i + 2).toNatClampNeg) (xs (nI i + 3).toNatClampNeg)
  refine l_aload 1 hg dL_law_669 rfl ?_
  refine l_aload 0 hg dL_law_670 rfl ?_
  refine l_iload 4 hg dL_law_671 rfl ?_
  refine l_iconst 1 hg dL_law_673 (by decide) ?_
  refine l_iadd hg dL_law_674 ?_
  refine l_sld hg (l_in (j := 1) (by omega) hg.2.2.1) dL_law_675 ?_
  refine l_aload 0 hg dL_law_676 rfl ?_
  refine l_iload 4 hg dL_law_677 rfl ?_
  refine l_iconst 2 hg dL_law_679 (by decide) ?_
  refine l_iadd hg dL_law_680 ?_
  refine l_sld hg (l_in (j := 2) (by omega) hg.2.2.1) dL_law_681 ?_
  refine l_aload 0 hg dL_law_682 rfl ?_
  refine l_iload 4 hg dL_law_683 rfl ?_
  refine l_iconst 3 hg dL_law_685 (by decide) ?_
  refine l_iadd hg dL_law_686 ?_
  refine l_sld hg (l_in (j := 3) (by omega) hg.2.2.1) dL_law_687 ?_
  refine l_callC (As := [.int (xs (nI i + 1).toNatClampNeg), .int (xs (nI i + 2).toNatClampNeg), .int (xs (nI i + 3).toNatClampNeg)]) (st := []) hg (e_X6_most 1300 l (l_C w) (xs (nI i + 1).toNatClampNeg) (xs (nI i + 2).toNatClampNeg) (xs (nI i + 3).toNatClampNeg) σ) hx lk_79 li_X6_most ls_X6_most ln_X6_most (by decide) (by omega) rfl (Nat.le_of_ble_eq_true rfl) dL_law_688 ?_
  refine l_aload 2 hg dL_law_691 rfl ?_
  refine l_aload 0 hg dL_law_692 rfl ?_
  refine l_iload 4 hg dL_law_693 rfl ?_
  refine l_iconst 1 hg dL_law_695 (by decide) ?_
  refine l_iadd hg dL_law_696 ?_
  refine l_sld hg (l_in (j := 1) (by omega) hg.2.2.1) dL_law_697 ?_
  refine l_aload 0 hg dL_law_698 rfl ?_
  refine l_iload 4 hg dL_law_699 rfl ?_
  refine l_iconst 2 hg dL_law_701 (by decide) ?_
  refine l_iadd hg dL_law_702 ?_
  refine l_sld hg (l_in (j := 2) (by omega) hg.2.2.1) dL_law_703 ?_
  refine l_aload 0 hg dL_law_704 rfl ?_
  refine l_iload 4 hg dL_law_705 rfl ?_
  refine l_iconst 3 hg dL_law_707 (by decide) ?_
  refine l_iadd hg dL_law_708 ?_
  refine l_sld hg (l_in (j := 3) (by omega) hg.2.2.1) dL_law_709 ?_
  refine l_callR (As := [.int (xs (nI i + 1).toNatClampNeg), .int (xs (nI i + 2).toNatClampNeg), .int (xs (nI i + 3).toNatClampNeg)]) (st := [.int v]) hg (e_X7_most 1300 l (l_R w) (xs (nI i + 1).toNatClampNeg) (xs (nI i + 2).toNatClampNeg) (xs (nI i + 3).toNatClampNeg) τ) hy lk_83 li_X7_most ls_X7_most ln_X7_most (by decide) (by omega) rfl (Nat.le_of_ble_eq_true rfl) dL_law_710 ?_
  refine l_same 1177 hg dL_law_713 (by decide) ?_
  exact l_wide (k σ' τ' f hr)
set_option maxHeartbeats 4000000 in
set_option maxRecDepth 100000 in
theorem lc_13 (hg : l_ok (p, l, e, s, m, below, meth, c, b, L, xs) w) (hn6 : n ≤ 599) {i : Nat} (hi : i + 7 ≤ L) (hrel : Rel σ τ) (k : ∀ (σ' τ' : Mem) (f' : Nat → Int64), Rel σ' τ' → Lj (p, l, e, s, m, below, meth, c, b, L, xs) w σ' τ' f' (n + 1) 1177 [(0, .ref b), (1, .ref (w.2.1 16)), (2, .ref (w.2.2.1 0)), (3, .ref (l_q w)), (4, .int (nI i))] []) : Lj (p, l, e, s, m, below, meth, c, b, L, xs) w σ τ f n 718 [(0, .ref b), (1, .ref (w.2.1 16)), (2, .ref (w.2.2.1 0)), (3, .ref (l_q w)), (4, .int (nI i))] [] := by
  obtain ⟨v, σ', τ', hx, hy, hr⟩ := p_net (N := 1300) (by decide) hrel (xs (nI i + 1).toNatClampNeg) (xs (nI i + 2).toNatClampNeg) (xs (nI i + 3).toNatClampNeg)
  refine l_aload 1 hg dL_law_718 rfl ?_
  refine l_aload 0 hg dL_law_719 rfl ?_
  refine l_iload 4 hg dL_law_720 rfl ?_
  refine l_iconst 1 hg dL_law_722 (by decide) ?_
  refine l_iadd hg dL_law_723 ?_
  refine l_sld hg (l_in (j := 1) (by omega) hg.2.2.1) dL_law_724 ?_
  refine l_aload 0 hg dL_law_725 rfl ?_
  refine l_iload 4 hg dL_law_726 rfl ?_
  refine l_iconst 2 hg dL_law_728 (by decide) ?_
  refine l_iadd hg dL_law_729 ?_
  refine l_sld hg (l_in (j := 2) (by omega) hg.2.2.1) dL_law_730 ?_
  refine l_aload 0 hg dL_law_731 rfl ?_
  refine l_iload 4 hg dL_law_732 rfl ?_
  refine l_iconst 3 hg dL_law_734 (by decide) ?_
  refine l_iadd hg dL_law_735 ?_
  refine l_sld hg (l_in (j := 3) (by omega) hg.2.2.1) dL_law_736 ?_
  refine l_callC (As := [.int (xs (nI i + 1).toNatClampNeg), .int (xs (nI i + 2).toNatClampNeg), .int (xs (nI i + 3).toNatClampNeg)]) (st := []) hg (e_X6_net 1300 l (l_C w) (xs (nI i + 1).toNatClampNeg) (xs (nI i + 2).toNatClampNeg) (xs (nI i + 3).toNatClampNeg) σ) hx lk_84 li_X6_net ls_X6_net ln_X6_net (by decide) (by omega) rfl (Nat.le_of_ble_eq_true rfl) dL_law_737 ?_
  refine l_aload 2 hg dL_law_740 rfl ?_
  refine l_aload 0 hg dL_law_741 rfl ?_
  refine l_iload 4 hg dL_law_742 rfl ?_
  refine l_iconst 1 hg dL_law_744 (by decide) ?_
  refine l_iadd hg dL_law_745 ?_
  refine l_sld hg (l_in (j := 1) (by omega) hg.2.2.1) dL_law_746 ?_
  refine l_aload 0 hg dL_law_747 rfl ?_
  refine l_iload 4 hg dL_law_748 rfl ?_
  refine l_iconst 2 hg dL_law_750 (by decide) ?_
  refine l_iadd hg dL_law_751 ?_
  refine l_sld hg (l_in (j := 2) (by omega) hg.2.2.1) dL_law_752 ?_
  refine l_aload 0 hg dL_law_753 rfl ?_
  refine l_iload 4 hg dL_law_754 rfl ?_
  refine l_iconst 3 hg dL_law_756 (by decide) ?_
  refine l_iadd hg dL_law_757 ?_
  refine l_sld hg (l_in (j := 3) (by omega) hg.2.2.1) dL_law_758 ?_
  refine l_callR (As := [.int (xs (nI i + 1).toNatClampNeg), .int (xs (nI i + 2).toNatClampNeg), .int (xs (nI i + 3).toNatClampNeg)]) (st := [.int v]) hg (e_X7_net 1300 l (l_R w) (xs (nI i + 1).toNatClampNeg) (xs (nI i + 2).toNatClampNeg) (xs (nI i + 3).toNatClampNeg) τ) hy lk_87 li_X7_net ls_X7_net ln_X7_net (by decide) (by omega) rfl (Nat.le_of_ble_eq_true rfl) dL_law_759 ?_
  refine l_same 1177 hg dL_law_762 (by decide) ?_
  exact l_wide (k σ' τ' f hr)
set_option maxHeartbeats 4000000 in
set_option maxRecDepth 100000 in
theorem lc_14 (hg : l_ok (p, l, e, s, m, below, meth, c, b, L, xs) w) (hn6 : n ≤ 599) {i : Nat} (hi : i + 7 ≤ L) (hrel : Rel σ τ) (k : ∀ (σ' τ' : Mem) (f' : Nat → Int64), Rel σ' τ' → Lj (p, l, e, s, m, below, meth, c, b, L, xs) w σ' τ' f' (n + 1) 1177 [(0, .ref b), (1, .ref (w.2.1 16)), (2, .ref (w.2.2.1 0)), (3, .ref (l_q w)), (4, .int (nI i))] []) : Lj (p, l, e, s, m, below, meth, c, b, L, xs) w σ τ f n 767 [(0, .ref b), (1, .ref (w.2.1 16)), (2, .ref (w.2.2.1 0)), (3, .ref (l_q w)), (4, .int (nI i))] [] := by
  obtain ⟨v, σ', τ', hx, hy, hr⟩ := p_ends (N := 1300) (by decide) hrel (xs (nI i + 1).toNatClampNeg) (xs (nI i + 2).toNatClampNeg) (xs (nI i + 3).toNatClampNeg)
  refine l_aload 1 hg dL_law_767 rfl ?_
  refine l_aload 0 hg dL_law_768 rfl ?_
  refine l_iload 4 hg dL_law_769 rfl ?_
  refine l_iconst 1 hg dL_law_771 (by decide) ?_
  refine l_iadd hg dL_law_772 ?_
  refine l_sld hg (l_in (j := 1) (by omega) hg.2.2.1) dL_law_773 ?_
  refine l_aload 0 hg dL_law_774 rfl ?_
  refine l_iload 4 hg dL_law_775 rfl ?_
  refine l_iconst 2 hg dL_law_777 (by decide) ?_
  refine l_iadd hg dL_law_778 ?_
  refine l_sld hg (l_in (j := 2) (by omega) hg.2.2.1) dL_law_779 ?_
  refine l_aload 0 hg dL_law_780 rfl ?_
  refine l_iload 4 hg dL_law_781 rfl ?_
  refine l_iconst 3 hg dL_law_783 (by decide) ?_
  refine l_iadd hg dL_law_784 ?_
  refine l_sld hg (l_in (j := 3) (by omega) hg.2.2.1) dL_law_785 ?_
  refine l_callC (As := [.int (xs (nI i + 1).toNatClampNeg), .int (xs (nI i + 2).toNatClampNeg), .int (xs (nI i + 3).toNatClampNeg)]) (st := []) hg (e_X6_ends 1300 l (l_C w) (xs (nI i + 1).toNatClampNeg) (xs (nI i + 2).toNatClampNeg) (xs (nI i + 3).toNatClampNeg) σ) hx lk_88 li_X6_ends ls_X6_ends ln_X6_ends (by decide) (by omega) rfl (Nat.le_of_ble_eq_true rfl) dL_law_786 ?_
  refine l_aload 2 hg dL_law_789 rfl ?_
  refine l_aload 0 hg dL_law_790 rfl ?_
  refine l_iload 4 hg dL_law_791 rfl ?_
  refine l_iconst 1 hg dL_law_793 (by decide) ?_
  refine l_iadd hg dL_law_794 ?_
  refine l_sld hg (l_in (j := 1) (by omega) hg.2.2.1) dL_law_795 ?_
  refine l_aload 0 hg dL_law_796 rfl ?_
  refine l_iload 4 hg dL_law_797 rfl ?_
  refine l_iconst 2 hg dL_law_799 (by decide) ?_
  refine l_iadd hg dL_law_800 ?_
  refine l_sld hg (l_in (j := 2) (by omega) hg.2.2.1) dL_law_801 ?_
  refine l_aload 0 hg dL_law_802 rfl ?_
  refine l_iload 4 hg dL_law_803 rfl ?_
  refine l_iconst 3 hg dL_law_805 (by decide) ?_
  refine l_iadd hg dL_law_806 ?_
  refine l_sld hg (l_in (j := 3) (by omega) hg.2.2.1) dL_law_807 ?_
  refine l_callR (As := [.int (xs (nI i + 1).toNatClampNeg), .int (xs (nI i + 2).toNatClampNeg), .int (xs (nI i + 3).toNatClampNeg)]) (st := [.int v]) hg (e_X7_ends 1300 l (l_R w) (xs (nI i + 1).toNatClampNeg) (xs (nI i + 2).toNatClampNeg) (xs (nI i + 3).toNatClampNeg) τ) hy lk_91 li_X7_ends ls_X7_ends ln_X7_ends (by decide) (by omega) rfl (Nat.le_of_ble_eq_true rfl) dL_law_808 ?_
  refine l_same 1177 hg dL_law_811 (by decide) ?_
  exact l_wide (k σ' τ' f hr)
set_option maxHeartbeats 4000000 in
set_option maxRecDepth 100000 in
theorem lc_15 (hg : l_ok (p, l, e, s, m, below, meth, c, b, L, xs) w) (hn6 : n ≤ 599) {i : Nat} (hi : i + 7 ≤ L) (hrel : Rel σ τ) (k : ∀ (σ' τ' : Mem) (f' : Nat → Int64), Rel σ' τ' → Lj (p, l, e, s, m, below, meth, c, b, L, xs) w σ' τ' f' (n + 1) 1177 [(0, .ref b), (1, .ref (w.2.1 16)), (2, .ref (w.2.2.1 0)), (3, .ref (l_q w)), (4, .int (nI i))] []) : Lj (p, l, e, s, m, below, meth, c, b, L, xs) w σ τ f n 816 [(0, .ref b), (1, .ref (w.2.1 16)), (2, .ref (w.2.2.1 0)), (3, .ref (l_q w)), (4, .int (nI i))] [] := by
  obtain ⟨v, σ', τ', hx, hy, hr⟩ := p_hangs (N := 1300) (by decide) hrel (xs (nI i + 1).toNatClampNeg)
  refine l_aload 1 hg dL_law_816 rfl ?_
  refine l_aload 0 hg dL_law_817 rfl ?_
  refine l_iload 4 hg dL_law_818 rfl ?_
  refine l_iconst 1 hg dL_law_820 (by decide) ?_
  refine l_iadd hg dL_law_821 ?_
  refine l_sld hg (l_in (j := 1) (by omega) hg.2.2.1) dL_law_822 ?_
  refine l_callC (As := [.int (xs (nI i + 1).toNatClampNeg)]) (st := []) hg (e_X6_hangs 1300 l (l_C w) (xs (nI i + 1).toNatClampNeg) σ) hx lk_92 li_X6_hangs ls_X6_hangs ln_X6_hangs (by decide) (by omega) rfl (Nat.le_of_ble_eq_true rfl) dL_law_823 ?_
  refine l_aload 2 hg dL_law_826 rfl ?_
  refine l_aload 0 hg dL_law_827 rfl ?_
  refine l_iload 4 hg dL_law_828 rfl ?_
  refine l_iconst 1 hg dL_law_830 (by decide) ?_
  refine l_iadd hg dL_law_831 ?_
  refine l_sld hg (l_in (j := 1) (by omega) hg.2.2.1) dL_law_832 ?_
  refine l_callR (As := [.int (xs (nI i + 1).toNatClampNeg)]) (st := [.int v]) hg (e_X7_hangs 1300 l (l_R w) (xs (nI i + 1).toNatClampNeg) τ) hy lk_95 li_X7_hangs ls_X7_hangs ln_X7_hangs (by decide) (by omega) rfl (Nat.le_of_ble_eq_true rfl) dL_law_833 ?_
  refine l_same 1177 hg dL_law_836 (by decide) ?_
  exact l_wide (k σ' τ' f hr)
set_option maxHeartbeats 4000000 in
set_option maxRecDepth 100000 in
theorem lc_16 (hg : l_ok (p, l, e, s, m, below, meth, c, b, L, xs) w) (hn6 : n ≤ 599) {i : Nat} (hi : i + 7 ≤ L) (hrel : Rel σ τ) (k : ∀ (σ' τ' : Mem) (f' : Nat → Int64), Rel σ' τ' → Lj (p, l, e, s, m, below, meth, c, b, L, xs) w σ' τ' f' (n + 1) 1177 [(0, .ref b), (1, .ref (w.2.1 16)), (2, .ref (w.2.2.1 0)), (3, .ref (l_q w)), (4, .int (nI i))] []) : Lj (p, l, e, s, m, below, meth, c, b, L, xs) w σ τ f n 841 [(0, .ref b), (1, .ref (w.2.1 16)), (2, .ref (w.2.2.1 0)), (3, .ref (l_q w)), (4, .int (nI i))] [] := by
  obtain ⟨v, σ', τ', hx, hy, hr⟩ := p_told (N := 1300) (by decide) hrel (xs (nI i + 1).toNatClampNeg) (xs (nI i + 2).toNatClampNeg) (xs (nI i + 3).toNatClampNeg)
  refine l_aload 1 hg dL_law_841 rfl ?_
  refine l_aload 0 hg dL_law_842 rfl ?_
  refine l_iload 4 hg dL_law_843 rfl ?_
  refine l_iconst 1 hg dL_law_845 (by decide) ?_
  refine l_iadd hg dL_law_846 ?_
  refine l_sld hg (l_in (j := 1) (by omega) hg.2.2.1) dL_law_847 ?_
  refine l_aload 0 hg dL_law_848 rfl ?_
  refine l_iload 4 hg dL_law_849 rfl ?_
  refine l_iconst 2 hg dL_law_851 (by decide) ?_
  refine l_iadd hg dL_law_852 ?_
  refine l_sld hg (l_in (j := 2) (by omega) hg.2.2.1) dL_law_853 ?_
  refine l_aload 0 hg dL_law_854 rfl ?_
  refine l_iload 4 hg dL_law_855 rfl ?_
  refine l_iconst 3 hg dL_law_857 (by decide) ?_
  refine l_iadd hg dL_law_858 ?_
  refine l_sld hg (l_in (j := 3) (by omega) hg.2.2.1) dL_law_859 ?_
  refine l_callC (As := [.int (xs (nI i + 1).toNatClampNeg), .int (xs (nI i + 2).toNatClampNeg), .int (xs (nI i + 3).toNatClampNeg)]) (st := []) hg (e_X6_told 1300 l (l_C w) (xs (nI i + 1).toNatClampNeg) (xs (nI i + 2).toNatClampNeg) (xs (nI i + 3).toNatClampNeg) σ) hx lk_96 li_X6_told ls_X6_told ln_X6_told (by decide) (by omega) rfl (Nat.le_of_ble_eq_true rfl) dL_law_860 ?_
  refine l_aload 2 hg dL_law_863 rfl ?_
  refine l_aload 0 hg dL_law_864 rfl ?_
  refine l_iload 4 hg dL_law_865 rfl ?_
  refine l_iconst 1 hg dL_law_867 (by decide) ?_
  refine l_iadd hg dL_law_868 ?_
  refine l_sld hg (l_in (j := 1) (by omega) hg.2.2.1) dL_law_869 ?_
  refine l_aload 0 hg dL_law_870 rfl ?_
  refine l_iload 4 hg dL_law_871 rfl ?_
  refine l_iconst 2 hg dL_law_873 (by decide) ?_
  refine l_iadd hg dL_law_874 ?_
  refine l_sld hg (l_in (j := 2) (by omega) hg.2.2.1) dL_law_875 ?_
  refine l_aload 0 hg dL_law_876 rfl ?_
  refine l_iload 4 hg dL_law_877 rfl ?_
  refine l_iconst 3 hg dL_law_879 (by decide) ?_
  refine l_iadd hg dL_law_880 ?_
  refine l_sld hg (l_in (j := 3) (by omega) hg.2.2.1) dL_law_881 ?_
  refine l_callR (As := [.int (xs (nI i + 1).toNatClampNeg), .int (xs (nI i + 2).toNatClampNeg), .int (xs (nI i + 3).toNatClampNeg)]) (st := [.int v]) hg (e_X7_told 1300 l (l_R w) (xs (nI i + 1).toNatClampNeg) (xs (nI i + 2).toNatClampNeg) (xs (nI i + 3).toNatClampNeg) τ) hy lk_99 li_X7_told ls_X7_told ln_X7_told (by decide) (by omega) rfl (Nat.le_of_ble_eq_true rfl) dL_law_882 ?_
  refine l_same 1177 hg dL_law_885 (by decide) ?_
  exact l_wide (k σ' τ' f hr)
set_option maxHeartbeats 4000000 in
set_option maxRecDepth 100000 in
theorem lc_17 (hg : l_ok (p, l, e, s, m, below, meth, c, b, L, xs) w) (hn6 : n ≤ 599) {i : Nat} (hi : i + 7 ≤ L) (hrel : Rel σ τ) (k : ∀ (σ' τ' : Mem) (f' : Nat → Int64), Rel σ' τ' → Lj (p, l, e, s, m, below, meth, c, b, L, xs) w σ' τ' f' (n + 1) 1177 [(0, .ref b), (1, .ref (w.2.1 16)), (2, .ref (w.2.2.1 0)), (3, .ref (l_q w)), (4, .int (nI i))] []) : Lj (p, l, e, s, m, below, meth, c, b, L, xs) w σ τ f n 890 [(0, .ref b), (1, .ref (w.2.1 16)), (2, .ref (w.2.2.1 0)), (3, .ref (l_q w)), (4, .int (nI i))] [] := by
  by_cases hz : xs (nI i + 2).toNatClampNeg = 0
  · obtain ⟨v, σ', τ', hx, hy, hr⟩ := p_layers (N := 1300) (by decide) hrel (xs (nI i + 1).toNatClampNeg) (0)
    refine l_aload 1 hg dL_law_890 rfl ?_
    refine l_aload 0 hg dL_law_891 rfl ?_
    refine l_iload 4 hg dL_law_892 rfl ?_
    refine l_iconst 1 hg dL_law_894 (by decide) ?_
    refine l_iadd hg dL_law_895 ?_
    refine l_sld hg (l_in (j := 1) (by omega) hg.2.2.1) dL_law_896 ?_
    refine l_aload 0 hg dL_law_897 rfl ?_
    refine l_iload 4 hg dL_law_898 rfl ?_
    refine l_iconst 2 hg dL_law_900 (by decide) ?_
    refine l_iadd hg dL_law_901 ?_
    refine l_sld hg (l_in (j := 2) (by omega) hg.2.2.1) dL_law_902 ?_
    refine l_if0 910 hg dL_law_903 (by decide) (fun _ => ?_) (fun z => absurd hz z)
    refine l_iconst 0 hg dL_law_910 (by decide) ?_
    refine l_callC (As := [.int (xs (nI i + 1).toNatClampNeg), .int (0)]) (st := []) hg (e_X6_layers 1300 l (l_C w) (xs (nI i + 1).toNatClampNeg) (0) σ) hx lk_100 li_X6_layers ls_X6_layers ln_X6_layers (by decide) (by omega) rfl (Nat.le_of_ble_eq_true rfl) dL_law_911 ?_
    refine l_aload 2 hg dL_law_914 rfl ?_
    refine l_aload 0 hg dL_law_915 rfl ?_
    refine l_iload 4 hg dL_law_916 rfl ?_
    refine l_iconst 1 hg dL_law_918 (by decide) ?_
    refine l_iadd hg dL_law_919 ?_
    refine l_sld hg (l_in (j := 1) (by omega) hg.2.2.1) dL_law_920 ?_
    refine l_aload 0 hg dL_law_921 rfl ?_
    refine l_iload 4 hg dL_law_922 rfl ?_
    refine l_iconst 2 hg dL_law_924 (by decide) ?_
    refine l_iadd hg dL_law_925 ?_
    refine l_sld hg (l_in (j := 2) (by omega) hg.2.2.1) dL_law_926 ?_
    refine l_if0 934 hg dL_law_927 (by decide) (fun _ => ?_) (fun z => absurd hz z)
    refine l_iconst 0 hg dL_law_934 (by decide) ?_
    refine l_callR (As := [.int (xs (nI i + 1).toNatClampNeg), .int (0)]) (st := [.int v]) hg (e_X7_layers 1300 l (l_R w) (xs (nI i + 1).toNatClampNeg) (0) τ) hy lk_104 li_X7_layers ls_X7_layers ln_X7_layers (by decide) (by omega) rfl (Nat.le_of_ble_eq_true rfl) dL_law_935 ?_
    refine l_same 1177 hg dL_law_938 (by decide) ?_
    exact l_wide (k σ' τ' f hr)
  · obtain ⟨v, σ', τ', hx, hy, hr⟩ := p_layers (N := 1300) (by decide) hrel (xs (nI i + 1).toNatClampNeg) (1)
    refine l_aload 1 hg dL_law_890 rfl ?_
    refine l_aload 0 hg dL_law_891 rfl ?_
    refine l_iload 4 hg dL_law_892 rfl ?_
    refine l_iconst 1 hg dL_law_894 (by decide) ?_
    refine l_iadd hg dL_law_895 ?_
    refine l_sld hg (l_in (j := 1) (by omega) hg.2.2.1) dL_law_896 ?_
    refine l_aload 0 hg dL_law_897 rfl ?_
    refine l_iload 4 hg dL_law_898 rfl ?_
    refine l_iconst 2 hg dL_law_900 (by decide) ?_
    refine l_iadd hg dL_law_901 ?_
    refine l_sld hg (l_in (j := 2) (by omega) hg.2.2.1) dL_law_902 ?_
    refine l_if0 910 hg dL_law_903 (by decide) (fun z => absurd z hz) (fun _ => ?_)
    refine l_iconst 1 hg dL_law_906 (by decide) ?_
    refine l_goto 911 hg dL_law_907 (by decide) ?_
    refine l_callC (As := [.int (xs (nI i + 1).toNatClampNeg), .int (1)]) (st := []) hg (e_X6_layers 1300 l (l_C w) (xs (nI i + 1).toNatClampNeg) (1) σ) hx lk_100 li_X6_layers ls_X6_layers ln_X6_layers (by decide) (by omega) rfl (Nat.le_of_ble_eq_true rfl) dL_law_911 ?_
    refine l_aload 2 hg dL_law_914 rfl ?_
    refine l_aload 0 hg dL_law_915 rfl ?_
    refine l_iload 4 hg dL_law_916 rfl ?_
    refine l_iconst 1 hg dL_law_918 (by decide) ?_
    refine l_iadd hg dL_law_919 ?_
    refine l_sld hg (l_in (j := 1) (by omega) hg.2.2.1) dL_law_920 ?_
    refine l_aload 0 hg dL_law_921 rfl ?_
    refine l_iload 4 hg dL_law_922 rfl ?_
    refine l_iconst 2 hg dL_law_924 (by decide) ?_
    refine l_iadd hg dL_law_925 ?_
    refine l_sld hg (l_in (j := 2) (by omega) hg.2.2.1) dL_law_926 ?_
    refine l_if0 934 hg dL_law_927 (by decide) (fun z => absurd z hz) (fun _ => ?_)
    refine l_iconst 1 hg dL_law_930 (by decide) ?_
    refine l_goto 935 hg dL_law_931 (by decide) ?_
    refine l_callR (As := [.int (xs (nI i + 1).toNatClampNeg), .int (1)]) (st := [.int v]) hg (e_X7_layers 1300 l (l_R w) (xs (nI i + 1).toNatClampNeg) (1) τ) hy lk_104 li_X7_layers ls_X7_layers ln_X7_layers (by decide) (by omega) rfl (Nat.le_of_ble_eq_true rfl) dL_law_935 ?_
    refine l_same 1177 hg dL_law_938 (by decide) ?_
    exact l_wide (k σ' τ' f hr)
set_option maxHeartbeats 4000000 in
set_option maxRecDepth 100000 in
theorem lc_18 (hg : l_ok (p, l, e, s, m, below, meth, c, b, L, xs) w) (hn6 : n ≤ 599) {i : Nat} (hi : i + 7 ≤ L) (hrel : Rel σ τ) (k : ∀ (σ' τ' : Mem) (f' : Nat → Int64), Rel σ' τ' → Lj (p, l, e, s, m, below, meth, c, b, L, xs) w σ' τ' f' (n + 1) 1177 [(0, .ref b), (1, .ref (w.2.1 16)), (2, .ref (w.2.2.1 0)), (3, .ref (l_q w)), (4, .int (nI i))] []) : Lj (p, l, e, s, m, below, meth, c, b, L, xs) w σ τ f n 943 [(0, .ref b), (1, .ref (w.2.1 16)), (2, .ref (w.2.2.1 0)), (3, .ref (l_q w)), (4, .int (nI i))] [] := by
  obtain ⟨v, σ', τ', hx, hy, hr⟩ := p_nearest (N := 1300) (by decide) hrel (xs (nI i + 1).toNatClampNeg) (xs (nI i + 2).toNatClampNeg)
  refine l_aload 1 hg dL_law_943 rfl ?_
  refine l_aload 0 hg dL_law_944 rfl ?_
  refine l_iload 4 hg dL_law_945 rfl ?_
  refine l_iconst 1 hg dL_law_947 (by decide) ?_
  refine l_iadd hg dL_law_948 ?_
  refine l_sld hg (l_in (j := 1) (by omega) hg.2.2.1) dL_law_949 ?_
  refine l_aload 0 hg dL_law_950 rfl ?_
  refine l_iload 4 hg dL_law_951 rfl ?_
  refine l_iconst 2 hg dL_law_953 (by decide) ?_
  refine l_iadd hg dL_law_954 ?_
  refine l_sld hg (l_in (j := 2) (by omega) hg.2.2.1) dL_law_955 ?_
  refine l_callC (As := [.int (xs (nI i + 1).toNatClampNeg), .int (xs (nI i + 2).toNatClampNeg)]) (st := []) hg (e_X6_nearest 1300 l (l_C w) (xs (nI i + 1).toNatClampNeg) (xs (nI i + 2).toNatClampNeg) σ) hx lk_105 li_X6_nearest ls_X6_nearest ln_X6_nearest (by decide) (by omega) rfl (Nat.le_of_ble_eq_true rfl) dL_law_956 ?_
  refine l_aload 2 hg dL_law_959 rfl ?_
  refine l_aload 0 hg dL_law_960 rfl ?_
  refine l_iload 4 hg dL_law_961 rfl ?_
  refine l_iconst 1 hg dL_law_963 (by decide) ?_
  refine l_iadd hg dL_law_964 ?_
  refine l_sld hg (l_in (j := 1) (by omega) hg.2.2.1) dL_law_965 ?_
  refine l_aload 0 hg dL_law_966 rfl ?_
  refine l_iload 4 hg dL_law_967 rfl ?_
  refine l_iconst 2 hg dL_law_969 (by decide) ?_
  refine l_iadd hg dL_law_970 ?_
  refine l_sld hg (l_in (j := 2) (by omega) hg.2.2.1) dL_law_971 ?_
  refine l_callR (As := [.int (xs (nI i + 1).toNatClampNeg), .int (xs (nI i + 2).toNatClampNeg)]) (st := [.int v]) hg (e_X7_nearest 1300 l (l_R w) (xs (nI i + 1).toNatClampNeg) (xs (nI i + 2).toNatClampNeg) τ) hy lk_108 li_X7_nearest ls_X7_nearest ln_X7_nearest (by decide) (by omega) rfl (Nat.le_of_ble_eq_true rfl) dL_law_972 ?_
  refine l_same 1177 hg dL_law_975 (by decide) ?_
  exact l_wide (k σ' τ' f hr)
set_option maxHeartbeats 4000000 in
set_option maxRecDepth 100000 in
theorem lc_19 (hg : l_ok (p, l, e, s, m, below, meth, c, b, L, xs) w) (hn6 : n ≤ 599) {i : Nat} (hi : i + 7 ≤ L) (hrel : Rel σ τ) (k : ∀ (σ' τ' : Mem) (f' : Nat → Int64), Rel σ' τ' → Lj (p, l, e, s, m, below, meth, c, b, L, xs) w σ' τ' f' (n + 1) 1177 [(0, .ref b), (1, .ref (w.2.1 16)), (2, .ref (w.2.2.1 0)), (3, .ref (l_q w)), (4, .int (nI i))] []) : Lj (p, l, e, s, m, below, meth, c, b, L, xs) w σ τ f n 980 [(0, .ref b), (1, .ref (w.2.1 16)), (2, .ref (w.2.2.1 0)), (3, .ref (l_q w)), (4, .int (nI i))] [] := by
  obtain ⟨v, σ', τ', hx, hy, hr⟩ := p_storm 1300 hrel (xs (nI i + 1).toNatClampNeg) (xs (nI i + 2).toNatClampNeg)
  refine l_aload 1 hg dL_law_980 rfl ?_
  refine l_aload 0 hg dL_law_981 rfl ?_
  refine l_iload 4 hg dL_law_982 rfl ?_
  refine l_iconst 1 hg dL_law_984 (by decide) ?_
  refine l_iadd hg dL_law_985 ?_
  refine l_sld hg (l_in (j := 1) (by omega) hg.2.2.1) dL_law_986 ?_
  refine l_aload 0 hg dL_law_987 rfl ?_
  refine l_iload 4 hg dL_law_988 rfl ?_
  refine l_iconst 2 hg dL_law_990 (by decide) ?_
  refine l_iadd hg dL_law_991 ?_
  refine l_sld hg (l_in (j := 2) (by omega) hg.2.2.1) dL_law_992 ?_
  refine l_callC (As := [.int (xs (nI i + 1).toNatClampNeg), .int (xs (nI i + 2).toNatClampNeg)]) (st := []) hg (e_X6_storm 1300 l (l_C w) (xs (nI i + 1).toNatClampNeg) (xs (nI i + 2).toNatClampNeg) σ) hx lk_109 li_X6_storm ls_X6_storm ln_X6_storm (by decide) (by omega) rfl (Nat.le_of_ble_eq_true rfl) dL_law_993 ?_
  refine l_aload 2 hg dL_law_996 rfl ?_
  refine l_aload 0 hg dL_law_997 rfl ?_
  refine l_iload 4 hg dL_law_998 rfl ?_
  refine l_iconst 1 hg dL_law_1000 (by decide) ?_
  refine l_iadd hg dL_law_1001 ?_
  refine l_sld hg (l_in (j := 1) (by omega) hg.2.2.1) dL_law_1002 ?_
  refine l_aload 0 hg dL_law_1003 rfl ?_
  refine l_iload 4 hg dL_law_1004 rfl ?_
  refine l_iconst 2 hg dL_law_1006 (by decide) ?_
  refine l_iadd hg dL_law_1007 ?_
  refine l_sld hg (l_in (j := 2) (by omega) hg.2.2.1) dL_law_1008 ?_
  refine l_callR (As := [.int (xs (nI i + 1).toNatClampNeg), .int (xs (nI i + 2).toNatClampNeg)]) (st := [.int v]) hg (e_X7_storm 1300 l (l_R w) (xs (nI i + 1).toNatClampNeg) (xs (nI i + 2).toNatClampNeg) τ) hy lk_112 li_X7_storm ls_X7_storm ln_X7_storm (by decide) (by omega) rfl (Nat.le_of_ble_eq_true rfl) dL_law_1009 ?_
  refine l_same 1177 hg dL_law_1012 (by decide) ?_
  exact l_wide (k σ' τ' f hr)
set_option maxHeartbeats 4000000 in
set_option maxRecDepth 100000 in
theorem lc_20 (hg : l_ok (p, l, e, s, m, below, meth, c, b, L, xs) w) (hn6 : n ≤ 599) {i : Nat} (hi : i + 7 ≤ L) (hrel : Rel σ τ) (k : ∀ (σ' τ' : Mem) (f' : Nat → Int64), Rel σ' τ' → Lj (p, l, e, s, m, below, meth, c, b, L, xs) w σ' τ' f' (n + 1) 1177 [(0, .ref b), (1, .ref (w.2.1 16)), (2, .ref (w.2.2.1 0)), (3, .ref (l_q w)), (4, .int (nI i))] []) : Lj (p, l, e, s, m, below, meth, c, b, L, xs) w σ τ f n 1017 [(0, .ref b), (1, .ref (w.2.1 16)), (2, .ref (w.2.2.1 0)), (3, .ref (l_q w)), (4, .int (nI i))] [] := by
  obtain ⟨v, σ', τ', hx, hy, hr⟩ := p_mean (N := 1300) (by decide) hrel (xs (nI i + 1).toNatClampNeg) (xs (nI i + 2).toNatClampNeg)
  refine l_aload 1 hg dL_law_1017 rfl ?_
  refine l_aload 0 hg dL_law_1018 rfl ?_
  refine l_iload 4 hg dL_law_1019 rfl ?_
  refine l_iconst 1 hg dL_law_1021 (by decide) ?_
  refine l_iadd hg dL_law_1022 ?_
  refine l_sld hg (l_in (j := 1) (by omega) hg.2.2.1) dL_law_1023 ?_
  refine l_aload 0 hg dL_law_1024 rfl ?_
  refine l_iload 4 hg dL_law_1025 rfl ?_
  refine l_iconst 2 hg dL_law_1027 (by decide) ?_
  refine l_iadd hg dL_law_1028 ?_
  refine l_sld hg (l_in (j := 2) (by omega) hg.2.2.1) dL_law_1029 ?_
  refine l_callC (As := [.int (xs (nI i + 1).toNatClampNeg), .int (xs (nI i + 2).toNatClampNeg)]) (st := []) hg (e_X6_mean 1300 l (l_C w) (xs (nI i + 1).toNatClampNeg) (xs (nI i + 2).toNatClampNeg) σ) hx lk_113 li_X6_mean ls_X6_mean ln_X6_mean (by decide) (by omega) rfl (Nat.le_of_ble_eq_true rfl) dL_law_1030 ?_
  refine l_aload 2 hg dL_law_1033 rfl ?_
  refine l_aload 0 hg dL_law_1034 rfl ?_
  refine l_iload 4 hg dL_law_1035 rfl ?_
  refine l_iconst 1 hg dL_law_1037 (by decide) ?_
  refine l_iadd hg dL_law_1038 ?_
  refine l_sld hg (l_in (j := 1) (by omega) hg.2.2.1) dL_law_1039 ?_
  refine l_aload 0 hg dL_law_1040 rfl ?_
  refine l_iload 4 hg dL_law_1041 rfl ?_
  refine l_iconst 2 hg dL_law_1043 (by decide) ?_
  refine l_iadd hg dL_law_1044 ?_
  refine l_sld hg (l_in (j := 2) (by omega) hg.2.2.1) dL_law_1045 ?_
  refine l_callR (As := [.int (xs (nI i + 1).toNatClampNeg), .int (xs (nI i + 2).toNatClampNeg)]) (st := [.int v]) hg (e_X7_mean 1300 l (l_R w) (xs (nI i + 1).toNatClampNeg) (xs (nI i + 2).toNatClampNeg) τ) hy lk_116 li_X7_mean ls_X7_mean ln_X7_mean (by decide) (by omega) rfl (Nat.le_of_ble_eq_true rfl) dL_law_1046 ?_
  refine l_same 1177 hg dL_law_1049 (by decide) ?_
  exact l_wide (k σ' τ' f hr)
set_option maxHeartbeats 4000000 in
set_option maxRecDepth 100000 in
theorem lc_21 (hg : l_ok (p, l, e, s, m, below, meth, c, b, L, xs) w) (hn6 : n ≤ 599) {i : Nat} (hi : i + 7 ≤ L) (hrel : Rel σ τ) (k : ∀ (σ' τ' : Mem) (f' : Nat → Int64), Rel σ' τ' → Lj (p, l, e, s, m, below, meth, c, b, L, xs) w σ' τ' f' (n + 1) 1177 [(0, .ref b), (1, .ref (w.2.1 16)), (2, .ref (w.2.2.1 0)), (3, .ref (l_q w)), (4, .int (nI i))] []) : Lj (p, l, e, s, m, below, meth, c, b, L, xs) w σ τ f n 1054 [(0, .ref b), (1, .ref (w.2.1 16)), (2, .ref (w.2.2.1 0)), (3, .ref (l_q w)), (4, .int (nI i))] [] := by
  obtain ⟨v, σ', τ', hx, hy, hr⟩ := p_game (N := 1300) (by decide) hrel (xs (nI i + 1).toNatClampNeg) (xs (nI i + 2).toNatClampNeg) (xs (nI i + 3).toNatClampNeg)
  refine l_aload 1 hg dL_law_1054 rfl ?_
  refine l_aload 0 hg dL_law_1055 rfl ?_
  refine l_iload 4 hg dL_law_1056 rfl ?_
  refine l_iconst 1 hg dL_law_1058 (by decide) ?_
  refine l_iadd hg dL_law_1059 ?_
  refine l_sld hg (l_in (j := 1) (by omega) hg.2.2.1) dL_law_1060 ?_
  refine l_aload 0 hg dL_law_1061 rfl ?_
  refine l_iload 4 hg dL_law_1062 rfl ?_
  refine l_iconst 2 hg dL_law_1064 (by decide) ?_
  refine l_iadd hg dL_law_1065 ?_
  refine l_sld hg (l_in (j := 2) (by omega) hg.2.2.1) dL_law_1066 ?_
  refine l_aload 0 hg dL_law_1067 rfl ?_
  refine l_iload 4 hg dL_law_1068 rfl ?_
  refine l_iconst 3 hg dL_law_1070 (by decide) ?_
  refine l_iadd hg dL_law_1071 ?_
  refine l_sld hg (l_in (j := 3) (by omega) hg.2.2.1) dL_law_1072 ?_
  refine l_callC (As := [.int (xs (nI i + 1).toNatClampNeg), .int (xs (nI i + 2).toNatClampNeg), .int (xs (nI i + 3).toNatClampNeg)]) (st := []) hg (e_X6_game 1300 l (l_C w) (xs (nI i + 1).toNatClampNeg) (xs (nI i + 2).toNatClampNeg) (xs (nI i + 3).toNatClampNeg) σ) hx lk_117 li_X6_game ls_X6_game ln_X6_game (by decide) (by omega) rfl (Nat.le_of_ble_eq_true rfl) dL_law_1073 ?_
  refine l_aload 2 hg dL_law_1076 rfl ?_
  refine l_aload 0 hg dL_law_1077 rfl ?_
  refine l_iload 4 hg dL_law_1078 rfl ?_
  refine l_iconst 1 hg dL_law_1080 (by decide) ?_
  refine l_iadd hg dL_law_1081 ?_
  refine l_sld hg (l_in (j := 1) (by omega) hg.2.2.1) dL_law_1082 ?_
  refine l_aload 0 hg dL_law_1083 rfl ?_
  refine l_iload 4 hg dL_law_1084 rfl ?_
  refine l_iconst 2 hg dL_law_1086 (by decide) ?_
  refine l_iadd hg dL_law_1087 ?_
  refine l_sld hg (l_in (j := 2) (by omega) hg.2.2.1) dL_law_1088 ?_
  refine l_aload 0 hg dL_law_1089 rfl ?_
  refine l_iload 4 hg dL_law_1090 rfl ?_
  refine l_iconst 3 hg dL_law_1092 (by decide) ?_
  refine l_iadd hg dL_law_1093 ?_
  refine l_sld hg (l_in (j := 3) (by omega) hg.2.2.1) dL_law_1094 ?_
  refine l_callR (As := [.int (xs (nI i + 1).toNatClampNeg), .int (xs (nI i + 2).toNatClampNeg), .int (xs (nI i + 3).toNatClampNeg)]) (st := [.int v]) hg (e_X7_game 1300 l (l_R w) (xs (nI i + 1).toNatClampNeg) (xs (nI i + 2).toNatClampNeg) (xs (nI i + 3).toNatClampNeg) τ) hy lk_120 li_X7_game ls_X7_game ln_X7_game (by decide) (by omega) rfl (Nat.le_of_ble_eq_true rfl) dL_law_1095 ?_
  refine l_same 1177 hg dL_law_1098 (by decide) ?_
  exact l_wide (k σ' τ' f hr)
set_option maxHeartbeats 4000000 in
set_option maxRecDepth 100000 in
theorem lc_22 (hg : l_ok (p, l, e, s, m, below, meth, c, b, L, xs) w) (hn6 : n ≤ 599) {i : Nat} (hi : i + 7 ≤ L) (hrel : Rel σ τ) (k : ∀ (σ' τ' : Mem) (f' : Nat → Int64), Rel σ' τ' → Lj (p, l, e, s, m, below, meth, c, b, L, xs) w σ' τ' f' (n + 1) 1177 [(0, .ref b), (1, .ref (w.2.1 16)), (2, .ref (w.2.2.1 0)), (3, .ref (l_q w)), (4, .int (nI i))] []) : Lj (p, l, e, s, m, below, meth, c, b, L, xs) w σ τ f n 1103 [(0, .ref b), (1, .ref (w.2.1 16)), (2, .ref (w.2.2.1 0)), (3, .ref (l_q w)), (4, .int (nI i))] [] := by
  obtain ⟨v, σ', τ', hx, hy, hr⟩ := p_mend 1300 hrel (xs (nI i + 1).toNatClampNeg) (xs (nI i + 2).toNatClampNeg) (xs (nI i + 3).toNatClampNeg)
  refine l_aload 1 hg dL_law_1103 rfl ?_
  refine l_aload 0 hg dL_law_1104 rfl ?_
  refine l_iload 4 hg dL_law_1105 rfl ?_
  refine l_iconst 1 hg dL_law_1107 (by decide) ?_
  refine l_iadd hg dL_law_1108 ?_
  refine l_sld hg (l_in (j := 1) (by omega) hg.2.2.1) dL_law_1109 ?_
  refine l_aload 0 hg dL_law_1110 rfl ?_
  refine l_iload 4 hg dL_law_1111 rfl ?_
  refine l_iconst 2 hg dL_law_1113 (by decide) ?_
  refine l_iadd hg dL_law_1114 ?_
  refine l_sld hg (l_in (j := 2) (by omega) hg.2.2.1) dL_law_1115 ?_
  refine l_aload 0 hg dL_law_1116 rfl ?_
  refine l_iload 4 hg dL_law_1117 rfl ?_
  refine l_iconst 3 hg dL_law_1119 (by decide) ?_
  refine l_iadd hg dL_law_1120 ?_
  refine l_sld hg (l_in (j := 3) (by omega) hg.2.2.1) dL_law_1121 ?_
  refine l_callC (As := [.int (xs (nI i + 1).toNatClampNeg), .int (xs (nI i + 2).toNatClampNeg), .int (xs (nI i + 3).toNatClampNeg)]) (st := []) hg (e_X6_mend 1300 l (l_C w) (xs (nI i + 1).toNatClampNeg) (xs (nI i + 2).toNatClampNeg) (xs (nI i + 3).toNatClampNeg) σ) hx lk_121 li_X6_mend ls_X6_mend ln_X6_mend (by decide) (by omega) rfl (Nat.le_of_ble_eq_true rfl) dL_law_1122 ?_
  refine l_aload 2 hg dL_law_1125 rfl ?_
  refine l_aload 0 hg dL_law_1126 rfl ?_
  refine l_iload 4 hg dL_law_1127 rfl ?_
  refine l_iconst 1 hg dL_law_1129 (by decide) ?_
  refine l_iadd hg dL_law_1130 ?_
  refine l_sld hg (l_in (j := 1) (by omega) hg.2.2.1) dL_law_1131 ?_
  refine l_aload 0 hg dL_law_1132 rfl ?_
  refine l_iload 4 hg dL_law_1133 rfl ?_
  refine l_iconst 2 hg dL_law_1135 (by decide) ?_
  refine l_iadd hg dL_law_1136 ?_
  refine l_sld hg (l_in (j := 2) (by omega) hg.2.2.1) dL_law_1137 ?_
  refine l_aload 0 hg dL_law_1138 rfl ?_
  refine l_iload 4 hg dL_law_1139 rfl ?_
  refine l_iconst 3 hg dL_law_1141 (by decide) ?_
  refine l_iadd hg dL_law_1142 ?_
  refine l_sld hg (l_in (j := 3) (by omega) hg.2.2.1) dL_law_1143 ?_
  refine l_callR (As := [.int (xs (nI i + 1).toNatClampNeg), .int (xs (nI i + 2).toNatClampNeg), .int (xs (nI i + 3).toNatClampNeg)]) (st := [.int v]) hg (e_X7_mend 1300 l (l_R w) (xs (nI i + 1).toNatClampNeg) (xs (nI i + 2).toNatClampNeg) (xs (nI i + 3).toNatClampNeg) τ) hy lk_125 li_X7_mend ls_X7_mend ln_X7_mend (by decide) (by omega) rfl (Nat.le_of_ble_eq_true rfl) dL_law_1144 ?_
  refine l_same 1177 hg dL_law_1147 (by decide) ?_
  exact l_wide (k σ' τ' f hr)
set_option maxHeartbeats 4000000 in
set_option maxRecDepth 100000 in
theorem lc_23 (hg : l_ok (p, l, e, s, m, below, meth, c, b, L, xs) w) (hn6 : n ≤ 599) {i : Nat} (hi : i + 7 ≤ L) (hrel : Rel σ τ) (k : ∀ (σ' τ' : Mem) (f' : Nat → Int64), Rel σ' τ' → Lj (p, l, e, s, m, below, meth, c, b, L, xs) w σ' τ' f' (n + 1) 1177 [(0, .ref b), (1, .ref (w.2.1 16)), (2, .ref (w.2.2.1 0)), (3, .ref (l_q w)), (4, .int (nI i))] []) : Lj (p, l, e, s, m, below, meth, c, b, L, xs) w σ τ f n 1152 [(0, .ref b), (1, .ref (w.2.1 16)), (2, .ref (w.2.2.1 0)), (3, .ref (l_q w)), (4, .int (nI i))] [] := by
  obtain ⟨v, σ', τ', hx, hy, hr⟩ := p_count 1300 hrel (xs (nI i + 1).toNatClampNeg)
  refine l_aload 1 hg dL_law_1152 rfl ?_
  refine l_aload 0 hg dL_law_1153 rfl ?_
  refine l_iload 4 hg dL_law_1154 rfl ?_
  refine l_iconst 1 hg dL_law_1156 (by decide) ?_
  refine l_iadd hg dL_law_1157 ?_
  refine l_sld hg (l_in (j := 1) (by omega) hg.2.2.1) dL_law_1158 ?_
  refine l_callC (As := [.int (xs (nI i + 1).toNatClampNeg)]) (st := []) hg (e_X6_count 1300 l (l_C w) (xs (nI i + 1).toNatClampNeg) σ) hx lk_126 li_X6_count ls_X6_count ln_X6_count (by decide) (by omega) rfl (Nat.le_of_ble_eq_true rfl) dL_law_1159 ?_
  refine l_aload 2 hg dL_law_1162 rfl ?_
  refine l_aload 0 hg dL_law_1163 rfl ?_
  refine l_iload 4 hg dL_law_1164 rfl ?_
  refine l_iconst 1 hg dL_law_1166 (by decide) ?_
  refine l_iadd hg dL_law_1167 ?_
  refine l_sld hg (l_in (j := 1) (by omega) hg.2.2.1) dL_law_1168 ?_
  refine l_callR (As := [.int (xs (nI i + 1).toNatClampNeg)]) (st := [.int v]) hg (e_X7_count 1300 l (l_R w) (xs (nI i + 1).toNatClampNeg) τ) hy lk_129 li_X7_count ls_X7_count ln_X7_count (by decide) (by omega) rfl (Nat.le_of_ble_eq_true rfl) dL_law_1169 ?_
  refine l_same 1177 hg dL_law_1172 (by decide) ?_
  exact l_wide (k σ' τ' f hr)
set_option maxHeartbeats 4000000 in
set_option maxRecDepth 100000 in
theorem lc_4 (hg : l_ok (p, l, e, s, m, below, meth, c, b, L, xs) w) (hn6 : n ≤ 599) {i : Nat} (hi : i + 7 ≤ L) (hrel : Rel σ τ) (k : ∀ (σ' τ' : Mem) (f' : Nat → Int64), Rel σ' τ' → Lj (p, l, e, s, m, below, meth, c, b, L, xs) w σ' τ' f' (n + 1) 1177 [(0, .ref b), (1, .ref (w.2.1 16)), (2, .ref (w.2.2.1 0)), (3, .ref (l_q w)), (4, .int (nI i))] []) : Lj (p, l, e, s, m, below, meth, c, b, L, xs) w σ τ f n 276 [(0, .ref b), (1, .ref (w.2.1 16)), (2, .ref (w.2.2.1 0)), (3, .ref (l_q w)), (4, .int (nI i))] [] := by
  have go : ∀ (r v : Int32) (τ' : Mem) (P : (Nat → Int64) → Prop), Met l yL_word (Cond.codeWith yL_word cL_word 5 (some .int) [(0, 10, 13, 13)] :: mbig) h_room (va_Pc [.ref (w.2.1 16), .int (xs (nI i + 1).toNatClampNeg), .int (xs (nI i + 2).toNatClampNeg), .ref (l_q w)] (h_pre (l_C w) σ (l_q w) (l_c w) f)) (h_Q (l_C w) σ (l_q w) (l_c w) r P) 1 6 (h_A (l_C w) (l_q w)) → f_X7_word 1300 (xs (nI i + 1).toNatClampNeg) (xs (nI i + 2).toNatClampNeg) τ = some (v, τ') → τ' 0 0 = r → (∀ f' : Nat → Int64, P f' → r = 0 → f' 0 = v.toInt64) → Rel σ τ' → Lj (p, l, e, s, m, below, meth, c, b, L, xs) w σ τ f n 276 [(0, .ref b), (1, .ref (w.2.1 16)), (2, .ref (w.2.2.1 0)), (3, .ref (l_q w)), (4, .int (nI i))] [] := by
    intro r v τ' P hM hy h0 hP hr
    refine l_aload 1 hg dL_law_276 rfl ?_
    refine l_aload 0 hg dL_law_277 rfl ?_
    refine l_iload 4 hg dL_law_278 rfl ?_
    refine l_iconst 1 hg dL_law_280 (by decide) ?_
    refine l_iadd hg dL_law_281 ?_
    refine l_sld hg (l_in (j := 1) (by omega) hg.2.2.1) dL_law_282 ?_
    refine l_aload 0 hg dL_law_283 rfl ?_
    refine l_iload 4 hg dL_law_284 rfl ?_
    refine l_iconst 2 hg dL_law_286 (by decide) ?_
    refine l_iadd hg dL_law_287 ?_
    refine l_sld hg (l_in (j := 2) (by omega) hg.2.2.1) dL_law_288 ?_
    refine l_aload 3 hg dL_law_289 rfl ?_
    refine l_callW (st := []) hg hM (by omega) (Nat.le_of_ble_eq_true rfl) dL_law_290 (fun f' hf' => ?_)
    refine l_istore (lv' := [(5, .int r), (0, .ref b), (1, .ref (w.2.1 16)), (2, .ref (w.2.2.1 0)), (3, .ref (l_q w)), (4, .int (nI i))]) hg dL_law_293 (by decide) rfl ?_
    refine l_aload 3 hg dL_law_295 rfl ?_
    refine l_aload 1 hg dL_law_296 rfl ?_
    refine l_iload 5 hg dL_law_297 rfl ?_
    refine l_iconst 1 hg dL_law_299 (by decide) ?_
    refine l_iadd hg dL_law_300 ?_
    refine l_sld hg (l_in (j := 1) (by omega) hg.2.2.1) dL_law_301 ?_
    refine l_aload 1 hg dL_law_302 rfl ?_
    refine l_iload 5 hg dL_law_303 rfl ?_
    refine l_iconst 2 hg dL_law_305 (by decide) ?_
    refine l_iadd hg dL_law_306 ?_
    refine l_sld hg (l_in (j := 2) (by omega) hg.2.2.1) dL_law_307 ?_
    refine l_callR (As := [.int (xs (nI i + 1).toNatClampNeg), .int (xs (nI i + 2).toNatClampNeg)]) (st := []) hg (e_X7_word 1300 l (l_R w) (xs (nI i + 1).toNatClampNeg) (xs (nI i + 2).toNatClampNeg) τ) hy lk_43 li_X7_word ls_X7_word ln_X7_word (by decide) (by omega) rfl (Nat.le_of_ble_eq_true rfl) dL_law_308 ?_
    refine l_istore (lv' := [(6, .int v), (5, .int r), (0, .ref b), (1, .ref (w.2.1 16)), (2, .ref (w.2.2.1 0)), (3, .ref (l_q w)), (4, .int (nI i))]) hg dL_law_311 (by decide) rfl ?_
    refine l_aload 4 hg dL_law_313 rfl ?_
    refine l_callR (As := []) (st := []) (v := r) (τ' := τ') hg (e_X7_thrown 1300 l (l_R w) τ') (by rw [e_thrown, h0]) lk_44 li_X7_thrown ls_X7_thrown ln_X7_thrown (by decide) (by omega) rfl (Nat.le_of_ble_eq_true rfl) dL_law_314 ?_
    refine l_iload 1 hg dL_law_317 rfl ?_
    refine l_same 324 hg dL_law_319 (by decide) ?_
    refine l_iload 1 hg dL_law_324 rfl ?_
    have hend : Lj (p, l, e, s, m, below, meth, c, b, L, xs) w σ τ' f' (n + 1) 341 [(6, .int v), (5, .int r), (0, .ref b), (1, .ref (w.2.1 16)), (2, .ref (w.2.2.1 0)), (3, .ref (l_q w)), (4, .int (nI i))] [] := by
      refine l_goto 1177 hg dL_law_341 (by decide) ?_
      refine l_lv [2, 3, 4, 5, 6] rfl ?_
      exact k σ τ' f' hr
    refine l_if1 341 hg dL_law_326 (by decide) (fun _ => hend) (fun hz => ?_)
    refine l_aload 5 hg dL_law_329 rfl ?_
    refine l_iconst 0 hg dL_law_330 (by decide) ?_
    refine l_out (y := v) hg (hP f' hf' hz) dL_law_331 0 dL_law_332 rfl dL_law_334 dL_law_335 ?_
    exact l_if0 341 hg dL_law_336 (by decide) (fun _ => hend) (fun z => absurd rfl z)
  rcases p_word 1300 hrel (xs (nI i + 1).toNatClampNeg) (xs (nI i + 2).toNatClampNeg) with ⟨v, τ', e1, e2, e3, hr⟩ | ⟨hB, v, τ', e2, e3, hr⟩
  · exact go 0 v τ' (fun f' => f' 0 = v.toInt64) (h_word (N := 1300) l hg.2.1 (l_C w) (xs (nI i + 1).toNatClampNeg) (xs (nI i + 2).toNatClampNeg) σ (l_q w) (l_c w) f 0 (fun f' => f' 0 = v.toInt64) (Or.inl ⟨v, e1, rfl, fun _ h => h⟩)) e2 e3 (fun _ h _ => h) hr
  · exact go 1 v τ' (fun _ => True) (h_word (N := 1300) l hg.2.1 (l_C w) (xs (nI i + 1).toNatClampNeg) (xs (nI i + 2).toNatClampNeg) σ (l_q w) (l_c w) f 1 (fun _ => True) (Or.inr ⟨hB, rfl, trivial⟩)) e2 e3 (fun _ _ z => absurd z (by decide)) hr
end LCASES
