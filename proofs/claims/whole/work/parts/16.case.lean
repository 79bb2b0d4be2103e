section CASES
variable {p : Program} {l : Launch} {e : Env} {s : State} {m : MethodId} {args : Array Value} {below : List Frame} {meth : Method} {c : Code} {H : Heap} {locs : List Loc} {ls : Array Slot} {Q : State → Prop} {g : WG} {hm : Nat → Nat} {X : Xt} {σ τ : Sg} {o : Int64} {N b L i kc ks : Nat} {xs : Nat → Int32} {Rl : Sg → Sg → Prop}
set_option maxHeartbeats 8000000 in
set_option maxRecDepth 100000 in
theorem lk_feed (ok : Ok_feed N Rl) (C : Cx p s m args meth c code 7 ret RL g (fun q => s.heap.size ≤ q) X) (hXm : xOK (gmk g hm) X) (hst : l.stackTraces = false) (hXs : va_X b L xs s s.heap) (hbl : b < s.heap.size) (hR : Rl σ τ) (hi : i + 6 ≤ L) (hL : L ≤ 3072) (hkc : kc + 4 ≤ 601024) (hks : ks + 24 ≤ 7293034) (K : Lk Rl p l e s m args below meth c g hm b i kc ks Q) (hP : va_P g.1 vwCl (lwW g (gmk g hm) σ τ o) H) (hD : va_D (fun q => s.heap.size ≤ q) (lwW g (gmk g hm) σ τ o)) (hS : va_S (fun q => s.heap.size ≤ q) s.heap H locs) (hl : lv_has ls 7 [(4, .int (nI i)), (3, .ref (g.2.2 70)), (2, .ref (hm 0)), (1, .ref (g.2.2 0)), (0, .ref b)]) : W p l e room_1 s m args below meth c H locs kc ks Q (F0 m 204 ls []) := by
  obtain ⟨hx, hb, hr, hml, hown, hts, hK, hlocks, hXX, hA, hXo⟩ := id C
  have hbA : ¬ (fun q : Nat => s.heap.size ≤ q) b := Nat.not_le.mpr hbl
  obtain ⟨r, σ1, τ1, hf1, hf2, hR1⟩ := ok (xs (i + 1)) (xs (i + 2)) (xs (i + 3)) (xs (i + 4)) (xs (i + 5)) σ τ hR
  refine lv_aload_n hx hb dL_law_204 rfl (lv_at hl 3 rfl) ?_
  refine lv_aload_n hx hb dL_law_205 rfl (lv_at hl 4 rfl) ?_
  refine lv_iload hx hb dL_law_206 (lv_at hl 0 rfl) ?_
  refine lv_iconst (v := (1 : Int32)) hx hb dL_law_208 (by decide) ?_
  refine lv_iadd hx hb dL_law_209 ?_
  refine lc_sld 1 hx hb hXs hbl hbA hS (by decide) (by omega) hL dL_law_210 ?_
  refine lv_aload_n hx hb dL_law_211 rfl (lv_at hl 4 rfl) ?_
  refine lv_iload hx hb dL_law_212 (lv_at hl 0 rfl) ?_
  refine lv_iconst (v := (2 : Int32)) hx hb dL_law_214 (by decide) ?_
  refine lv_iadd hx hb dL_law_215 ?_
  refine lc_sld 2 hx hb hXs hbl hbA hS (by decide) (by omega) hL dL_law_216 ?_
  refine lv_aload_n hx hb dL_law_217 rfl (lv_at hl 4 rfl) ?_
  refine lv_iload hx hb dL_law_218 (lv_at hl 0 rfl) ?_
  refine lv_iconst (v := (3 : Int32)) hx hb dL_law_220 (by decide) ?_
  refine lv_iadd hx hb dL_law_221 ?_
  refine lc_sld 3 hx hb hXs hbl hbA hS (by decide) (by omega) hL dL_law_222 ?_
  refine lv_aload_n hx hb dL_law_223 rfl (lv_at hl 4 rfl) ?_
  refine lv_iload hx hb dL_law_224 (lv_at hl 0 rfl) ?_
  refine lv_iconst (v := (4 : Int32)) hx hb dL_law_226 (by decide) ?_
  refine lv_iadd hx hb dL_law_227 ?_
  refine lc_sld 4 hx hb hXs hbl hbA hS (by decide) (by omega) hL dL_law_228 ?_
  refine lv_aload_n hx hb dL_law_229 rfl (lv_at hl 4 rfl) ?_
  refine lv_iload hx hb dL_law_230 (lv_at hl 0 rfl) ?_
  refine lv_iconst (v := (5 : Int32)) hx hb dL_law_232 (by decide) ?_
  refine lv_iadd hx hb dL_law_233 ?_
  refine lc_sld 5 hx hb hXs hbl hbA hS (by decide) (by omega) hL dL_law_234 ?_
  refine lc_X (rest := []) [.int (xs (i + 1)), .int (xs (i + 2)), .int (xs (i + 3)), .int (xs (i + 4)), .int (xs (i + 5))] C hP hD hS hl.1 (c_X11_feed_0 hXo hf1) (cwA_V 5 hts wa_196 wa_193 wa_194 wa_195 wa_2 rfl rfl nd_X11_feed ⟨Nat.le_of_ble_eq_true rfl, Nat.le_of_ble_eq_true rfl⟩) rfl rfl (Nat.le_of_ble_eq_true rfl) dL_law_235 ⟨by show kc + 0 ≤ 601024; omega, by show ks + 0 ≤ 7293034; omega⟩ (fun H locs hP hD hS => ?_)
  refine lv_aload_n hx hb dL_law_238 rfl (lv_at hl 2 rfl) ?_
  refine lv_aload_n hx hb dL_law_239 rfl (lv_at hl 4 rfl) ?_
  refine lv_iload hx hb dL_law_240 (lv_at hl 0 rfl) ?_
  refine lv_iconst (v := (1 : Int32)) hx hb dL_law_242 (by decide) ?_
  refine lv_iadd hx hb dL_law_243 ?_
  refine lc_sld 1 hx hb hXs hbl hbA hS (by decide) (by omega) hL dL_law_244 ?_
  refine lv_aload_n hx hb dL_law_245 rfl (lv_at hl 4 rfl) ?_
  refine lv_iload hx hb dL_law_246 (lv_at hl 0 rfl) ?_
  refine lv_iconst (v := (2 : Int32)) hx hb dL_law_248 (by decide) ?_
  refine lv_iadd hx hb dL_law_249 ?_
  refine lc_sld 2 hx hb hXs hbl hbA hS (by decide) (by omega) hL dL_law_250 ?_
  refine lv_aload_n hx hb dL_law_251 rfl (lv_at hl 4 rfl) ?_
  refine lv_iload hx hb dL_law_252 (lv_at hl 0 rfl) ?_
  refine lv_iconst (v := (3 : Int32)) hx hb dL_law_254 (by decide) ?_
  refine lv_iadd hx hb dL_law_255 ?_
  refine lc_sld 3 hx hb hXs hbl hbA hS (by decide) (by omega) hL dL_law_256 ?_
  refine lv_aload_n hx hb dL_law_257 rfl (lv_at hl 4 rfl) ?_
  refine lv_iload hx hb dL_law_258 (lv_at hl 0 rfl) ?_
  refine lv_iconst (v := (4 : Int32)) hx hb dL_law_260 (by decide) ?_
  refine lv_iadd hx hb dL_law_261 ?_
  refine lc_sld 4 hx hb hXs hbl hbA hS (by decide) (by omega) hL dL_law_262 ?_
  refine lv_aload_n hx hb dL_law_263 rfl (lv_at hl 4 rfl) ?_
  refine lv_iload hx hb dL_law_264 (lv_at hl 0 rfl) ?_
  refine lv_iconst (v := (5 : Int32)) hx hb dL_law_266 (by decide) ?_
  refine lv_iadd hx hb dL_law_267 ?_
  refine lc_sld 5 hx hb hXs hbl hbA hS (by decide) (by omega) hL dL_law_268 ?_
  refine lc_M (rest := [.int r]) [.int (xs (i + 1)), .int (xs (i + 2)), .int (xs (i + 3)), .int (xs (i + 4)), .int (xs (i + 5))] C hXm hP hD hS hl.1 (c_X12_feed hXm hf2) (cwA_V 5 hts wa_204 wa_201 wa_202 wa_203 wa_5 rfl rfl nd_X12_feed ⟨Nat.le_of_ble_eq_true rfl, Nat.le_of_ble_eq_true rfl⟩) rfl rfl (Nat.le_of_ble_eq_true rfl) dL_law_269 ⟨by show kc + 0 ≤ 601024; omega, by show ks + 0 ≤ 7293034; omega⟩ (fun H locs hP hD hS => ?_)
  refine lv_icmp_eq (tgt := 2200) hx hb dL_law_272 (by decide) (fun _ => ?_) (fun t => absurd rfl t)
  refine W.widen (k := kc + 4) (n := ks + 24) (by omega) (by omega) ?_
  exact K _ _ _ _ _ _ hR1 hP hD hS (lv_sub hl [0, 1, 2, 3, 4] rfl)
set_option maxHeartbeats 8000000 in
set_option maxRecDepth 100000 in
theorem lk_upland (ok : Ok_upland N Rl) (C : Cx p s m args meth c code 7 ret RL g (fun q => s.heap.size ≤ q) X) (hXm : xOK (gmk g hm) X) (hst : l.stackTraces = false) (hXs : va_X b L xs s s.heap) (hbl : b < s.heap.size) (hR : Rl σ τ) (hi : i + 6 ≤ L) (hL : L ≤ 3072) (hkc : kc + 4 ≤ 601024) (hks : ks + 24 ≤ 7293034) (K : Lk Rl p l e s m args below meth c g hm b i kc ks Q) (hP : va_P g.1 vwCl (lwW g (gmk g hm) σ τ o) H) (hD : va_D (fun q => s.heap.size ≤ q) (lwW g (gmk g hm) σ τ o)) (hS : va_S (fun q => s.heap.size ≤ q) s.heap H locs) (hl : lv_has ls 7 [(4, .int (nI i)), (3, .ref (g.2.2 70)), (2, .ref (hm 0)), (1, .ref (g.2.2 0)), (0, .ref b)]) : W p l e room_1 s m args below meth c H locs kc ks Q (F0 m 277 ls []) := by
  obtain ⟨hx, hb, hr, hml, hown, hts, hK, hlocks, hXX, hA, hXo⟩ := id C
  have hbA : ¬ (fun q : Nat => s.heap.size ≤ q) b := Nat.not_le.mpr hbl
  obtain ⟨z, r, τ1, hf1, hf2, hkd, hzr, hR1⟩ := ok (xs (i + 1)) σ τ hR
  refine lv_aload_n hx hb dL_law_277 rfl (lv_at hl 3 rfl) ?_
  refine lv_aload_n hx hb dL_law_278 rfl (lv_at hl 4 rfl) ?_
  refine lv_iload hx hb dL_law_279 (lv_at hl 0 rfl) ?_
  refine lv_iconst (v := (1 : Int32)) hx hb dL_law_281 (by decide) ?_
  refine lv_iadd hx hb dL_law_282 ?_
  refine lc_sld 1 hx hb hXs hbl hbA hS (by decide) (by omega) hL dL_law_283 ?_
  refine lv_aload_n hx hb dL_law_284 rfl (lv_at hl 1 rfl) ?_
  refine lc_W (hh := [(0, 9, 12, 13)]) (o' := (if z.1 = 0 then z.2.1.toInt64 else o)) (k := τ1 0 2) (rest := []) [.ref (g.2.2 0), .int (xs (i + 1)), .ref (g.2.2 70)] C hP hD hS hl.1 (cwr_upland hXo hst hf1 (fun h => ⟨by rcases hkd with ⟨h1, h2⟩ | ⟨h1, h2⟩ <;> first | exact h2 | omega, by rw [if_pos h]⟩) (by rcases hkd with ⟨h1, h2⟩ | ⟨h1, h2⟩ <;> omega) (fun h => ⟨by rcases hkd with ⟨h1, h2⟩ | ⟨h1, h2⟩ <;> first | exact h2 | omega, by rw [if_neg (by omega)]⟩)) wa_210 wa_207 wa_208 wa_209 rfl rfl nd_L_upland ⟨Nat.le_of_ble_eq_true rfl, Nat.le_of_ble_eq_true rfl⟩ rfl rfl (Nat.le_of_ble_eq_true rfl) dL_law_285 ⟨by show kc + 1 ≤ 601024; omega, by show ks + 6 ≤ 7293034; omega⟩ (fun H locs hP hD hS => ?_)
  refine lv_istore (lv' := [(5, .int (τ1 0 2)), (4, .int (nI i)), (3, .ref (g.2.2 70)), (2, .ref (hm 0)), (1, .ref (g.2.2 0)), (0, .ref b)]) hx hb dL_law_288 hl (by decide) rfl (fun ls hl => ?_)
  refine lv_aload_n hx hb dL_law_290 rfl (lv_at hl 3 rfl) ?_
  refine lv_aload_n hx hb dL_law_291 rfl (lv_at hl 5 rfl) ?_
  refine lv_iload hx hb dL_law_292 (lv_at hl 1 rfl) ?_
  refine lv_iconst (v := (1 : Int32)) hx hb dL_law_294 (by decide) ?_
  refine lv_iadd hx hb dL_law_295 ?_
  refine lc_sld 1 hx hb hXs hbl hbA hS (by decide) (by omega) hL dL_law_296 ?_
  refine lc_M (rest := []) [.int (xs (i + 1))] C hXm hP hD hS hl.1 (c_X12_upland hXm hf2) (cwA_V 1 hts wa_503 wa_500 wa_501 wa_502 wa_5 rfl rfl nd_X12_upland ⟨Nat.le_of_ble_eq_true rfl, Nat.le_of_ble_eq_true rfl⟩) rfl rfl (Nat.le_of_ble_eq_true rfl) dL_law_297 ⟨by show kc + 1 ≤ 601024; omega, by show ks + 6 ≤ 7293034; omega⟩ (fun H locs hP hD hS => ?_)
  refine lv_istore (lv' := [(6, .int r), (5, .int (τ1 0 2)), (4, .int (nI i)), (3, .ref (g.2.2 70)), (2, .ref (hm 0)), (1, .ref (g.2.2 0)), (0, .ref b)]) hx hb dL_law_300 hl (by decide) rfl (fun ls hl => ?_)
  refine lv_aload_n hx hb dL_law_302 rfl (lv_at hl 4 rfl) ?_
  refine lc_M (rest := []) [] C hXm hP hD hS hl.1 ((c_X12_thrown (N := 0) (z := (τ1 0 2, τ1)) hXm rfl)) (cwA_V 0 hts wa_624 wa_621 wa_622 wa_623 wa_5 rfl rfl nd_X12_thrown ⟨Nat.le_of_ble_eq_true rfl, Nat.le_of_ble_eq_true rfl⟩) rfl rfl (Nat.le_of_ble_eq_true rfl) dL_law_303 ⟨by show kc + 1 ≤ 601024; omega, by show ks + 6 ≤ 7293034; omega⟩ (fun H locs hP hD hS => ?_)
  refine lv_iload hx hb dL_law_306 (lv_at hl 1 rfl) ?_
  refine lv_icmp_eq (tgt := 313) hx hb dL_law_308 (by decide) (fun _ => ?_) (fun t => absurd rfl t)
  refine lv_iload hx hb dL_law_313 (lv_at hl 1 rfl) ?_
  refine lv_if_ne (tgt := 330) hx hb dL_law_315 (by decide) (fun t0 => ?_) (fun t0 => ?_)
  · refine lv_goto (tgt := 2200) hx hb dL_law_330 (by decide) ?_
    refine W.widen (k := kc + 4) (n := ks + 24) (by omega) (by omega) ?_
    exact K _ _ _ _ _ _ hR1 hP hD hS (lv_sub hl [2, 3, 4, 5, 6] rfl)
  · have hz0 : z.1 = 0 := by rcases hkd with ⟨h1, h2⟩ | ⟨h1, h2⟩ <;> first | exact h1 | (rw [h2] at t0; exact absurd t0 (by decide))
    refine lv_aload_n hx hb dL_law_318 rfl (lv_at hl 3 rfl) ?_
    refine lv_iconst (v := (0 : Int32)) hx hb dL_law_319 (by decide) ?_
    refine lc_out C hP dL_law_320 ?_
    refine lv_iload hx hb dL_law_321 (lv_at hl 0 rfl) ?_
    refine lv_i2l hx hb dL_law_323 rfl ?_
    refine W.lcmp hx hb dL_law_324 ?_
    refine lv_if_eq (tgt := 330) hx hb dL_law_325 (by decide) (fun _ => ?_) (fun t => absurd (by rw [if_pos hz0, hzr hz0]; exact lg_self _) t)
    refine lv_goto (tgt := 2200) hx hb dL_law_330 (by decide) ?_
    refine W.widen (k := kc + 4) (n := ks + 24) (by omega) (by omega) ?_
    exact K _ _ _ _ _ _ hR1 hP hD hS (lv_sub hl [2, 3, 4, 5, 6] rfl)
set_option maxHeartbeats 8000000 in
set_option maxRecDepth 100000 in
theorem lk_fault (ok : Ok_fault N Rl) (C : Cx p s m args meth c code 7 ret RL g (fun q => s.heap.size ≤ q) X) (hXm : xOK (gmk g hm) X) (hst : l.stackTraces = false) (hXs : va_X b L xs s s.heap) (hbl : b < s.heap.size) (hR : Rl σ τ) (hi : i + 6 ≤ L) (hL : L ≤ 3072) (hkc : kc + 4 ≤ 601024) (hks : ks + 24 ≤ 7293034) (K : Lk Rl p l e s m args below meth c g hm b i kc ks Q) (hP : va_P g.1 vwCl (lwW g (gmk g hm) σ τ o) H) (hD : va_D (fun q => s.heap.size ≤ q) (lwW g (gmk g hm) σ τ o)) (hS : va_S (fun q => s.heap.size ≤ q) s.heap H locs) (hl : lv_has ls 7 [(4, .int (nI i)), (3, .ref (g.2.2 70)), (2, .ref (hm 0)), (1, .ref (g.2.2 0)), (0, .ref b)]) : W p l e room_1 s m args below meth c H locs kc ks Q (F0 m 333 ls []) := by
  obtain ⟨hx, hb, hr, hml, hown, hts, hK, hlocks, hXX, hA, hXo⟩ := id C
  have hbA : ¬ (fun q : Nat => s.heap.size ≤ q) b := Nat.not_le.mpr hbl
  obtain ⟨r, σ1, τ1, hf1, hf2, hR1⟩ := ok σ τ hR
  refine lv_aload_n hx hb dL_law_333 rfl (lv_at hl 3 rfl) ?_
  refine lc_X (rest := []) [] C hP hD hS hl.1 (c_X11_fault_0 hXo hf1) (cwA_V 0 hts wa_628 wa_625 wa_626 wa_627 wa_2 rfl rfl nd_X11_fault ⟨Nat.le_of_ble_eq_true rfl, Nat.le_of_ble_eq_true rfl⟩) rfl rfl (Nat.le_of_ble_eq_true rfl) dL_law_334 ⟨by show kc + 0 ≤ 601024; omega, by show ks + 0 ≤ 7293034; omega⟩ (fun H locs hP hD hS => ?_)
  refine lv_aload_n hx hb dL_law_337 rfl (lv_at hl 2 rfl) ?_
  refine lc_M (rest := [.int r]) [] C hXm hP hD hS hl.1 (c_X12_fault hXm hf2) (cwA_V 0 hts wa_633 wa_630 wa_631 wa_632 wa_5 rfl rfl nd_X12_fault ⟨Nat.le_of_ble_eq_true rfl, Nat.le_of_ble_eq_true rfl⟩) rfl rfl (Nat.le_of_ble_eq_true rfl) dL_law_338 ⟨by show kc + 0 ≤ 601024; omega, by show ks + 0 ≤ 7293034; omega⟩ (fun H locs hP hD hS => ?_)
  refine lv_icmp_eq (tgt := 2200) hx hb dL_law_341 (by decide) (fun _ => ?_) (fun t => absurd rfl t)
  refine W.widen (k := kc + 4) (n := ks + 24) (by omega) (by omega) ?_
  exact K _ _ _ _ _ _ hR1 hP hD hS (lv_sub hl [0, 1, 2, 3, 4] rfl)
set_option maxHeartbeats 8000000 in
set_option maxRecDepth 100000 in
theorem lk_count (ok : Ok_count N Rl) (C : Cx p s m args meth c code 7 ret RL g (fun q => s.heap.size ≤ q) X) (hXm : xOK (gmk g hm) X) (hst : l.stackTraces = false) (hXs : va_X b L xs s s.heap) (hbl : b < s.heap.size) (hR : Rl σ τ) (hi : i + 6 ≤ L) (hL : L ≤ 3072) (hkc : kc + 4 ≤ 601024) (hks : ks + 24 ≤ 7293034) (K : Lk Rl p l e s m args below meth c g hm b i kc ks Q) (hP : va_P g.1 vwCl (lwW g (gmk g hm) σ τ o) H) (hD : va_D (fun q => s.heap.size ≤ q) (lwW g (gmk g hm) σ τ o)) (hS : va_S (fun q => s.heap.size ≤ q) s.heap H locs) (hl : lv_has ls 7 [(4, .int (nI i)), (3, .ref (g.2.2 70)), (2, .ref (hm 0)), (1, .ref (g.2.2 0)), (0, .ref b)]) : W p l e room_1 s m args below meth c H locs kc ks Q (F0 m 346 ls []) := by
  obtain ⟨hx, hb, hr, hml, hown, hts, hK, hlocks, hXX, hA, hXo⟩ := id C
  have hbA : ¬ (fun q : Nat => s.heap.size ≤ q) b := Nat.not_le.mpr hbl
  obtain ⟨z, r, τ1, hf1, hf2, hkd, hzr, hR1⟩ := ok (xs (i + 1)) σ τ hR
  refine lv_aload_n hx hb dL_law_346 rfl (lv_at hl 3 rfl) ?_
  refine lv_aload_n hx hb dL_law_347 rfl (lv_at hl 4 rfl) ?_
  refine lv_iload hx hb dL_law_348 (lv_at hl 0 rfl) ?_
  refine lv_iconst (v := (1 : Int32)) hx hb dL_law_350 (by decide) ?_
  refine lv_iadd hx hb dL_law_351 ?_
  refine lc_sld 1 hx hb hXs hbl hbA hS (by decide) (by omega) hL dL_law_352 ?_
  refine lv_aload_n hx hb dL_law_353 rfl (lv_at hl 1 rfl) ?_
  refine lc_W (hh := [(0, 9, 12, 18)]) (o' := (if z.1 = 0 then z.2.1.toInt64 else o)) (k := τ1 0 2) (rest := []) [.ref (g.2.2 0), .int (xs (i + 1)), .ref (g.2.2 70)] C hP hD hS hl.1 (cwr_count hXo hst hf1 (fun h => ⟨by rcases hkd with ⟨h1, h2⟩ | ⟨h1, h2⟩ <;> first | exact h2 | omega, by rw [if_pos h]⟩) (by rcases hkd with ⟨h1, h2⟩ | ⟨h1, h2⟩ <;> omega) (fun h => ⟨by rcases hkd with ⟨h1, h2⟩ | ⟨h1, h2⟩ <;> first | exact h2 | omega, by rw [if_neg (by omega)]⟩)) wa_636 wa_634 wa_635 wa_209 rfl rfl nd_L_count ⟨Nat.le_of_ble_eq_true rfl, Nat.le_of_ble_eq_true rfl⟩ rfl rfl (Nat.le_of_ble_eq_true rfl) dL_law_354 ⟨by show kc + 1 ≤ 601024; omega, by show ks + 6 ≤ 7293034; omega⟩ (fun H locs hP hD hS => ?_)
  refine lv_istore (lv' := [(5, .int (τ1 0 2)), (4, .int (nI i)), (3, .ref (g.2.2 70)), (2, .ref (hm 0)), (1, .ref (g.2.2 0)), (0, .ref b)]) hx hb dL_law_357 hl (by decide) rfl (fun ls hl => ?_)
  refine lv_aload_n hx hb dL_law_359 rfl (lv_at hl 3 rfl) ?_
  refine lv_aload_n hx hb dL_law_360 rfl (lv_at hl 5 rfl) ?_
  refine lv_iload hx hb dL_law_361 (lv_at hl 1 rfl) ?_
  refine lv_iconst (v := (1 : Int32)) hx hb dL_law_363 (by decide) ?_
  refine lv_iadd hx hb dL_law_364 ?_
  refine lc_sld 1 hx hb hXs hbl hbA hS (by decide) (by omega) hL dL_law_365 ?_
  refine lc_M (rest := []) [.int (xs (i + 1))] C hXm hP hD hS hl.1 (c_X12_count hXm hf2) (cwA_V 1 hts wa_711 wa_708 wa_709 wa_710 wa_5 rfl rfl nd_X12_count ⟨Nat.le_of_ble_eq_true rfl, Nat.le_of_ble_eq_true rfl⟩) rfl rfl (Nat.le_of_ble_eq_true rfl) dL_law_366 ⟨by show kc + 1 ≤ 601024; omega, by show ks + 6 ≤ 7293034; omega⟩ (fun H locs hP hD hS => ?_)
  refine lv_istore (lv' := [(6, .int r), (5, .int (τ1 0 2)), (4, .int (nI i)), (3, .ref (g.2.2 70)), (2, .ref (hm 0)), (1, .ref (g.2.2 0)), (0, .ref b)]) hx hb dL_law_369 hl (by decide) rfl (fun ls hl => ?_)
  refine lv_aload_n hx hb dL_law_371 rfl (lv_at hl 4 rfl) ?_
  refine lc_M (rest := []) [] C hXm hP hD hS hl.1 ((c_X12_thrown (N := 0) (z := (τ1 0 2, τ1)) hXm rfl)) (cwA_V 0 hts wa_624 wa_621 wa_622 wa_623 wa_5 rfl rfl nd_X12_thrown ⟨Nat.le_of_ble_eq_true rfl, Nat.le_of_ble_eq_true rfl⟩) rfl rfl (Nat.le_of_ble_eq_true rfl) dL_law_372 ⟨by show kc + 1 ≤ 601024; omega, by show ks + 6 ≤ 7293034; omega⟩ (fun H locs hP hD hS => ?_)
  refine lv_iload hx hb dL_law_375 (lv_at hl 1 rfl) ?_
  refine lv_icmp_eq (tgt := 382) hx hb dL_law_377 (by decide) (fun _ => ?_) (fun t => absurd rfl t)
  refine lv_iload hx hb dL_law_382 (lv_at hl 1 rfl) ?_
  refine lv_if_ne (tgt := 399) hx hb dL_law_384 (by decide) (fun t0 => ?_) (fun t0 => ?_)
  · refine lv_goto (tgt := 2200) hx hb dL_law_399 (by decide) ?_
    refine W.widen (k := kc + 4) (n := ks + 24) (by omega) (by omega) ?_
    exact K _ _ _ _ _ _ hR1 hP hD hS (lv_sub hl [2, 3, 4, 5, 6] rfl)
  · have hz0 : z.1 = 0 := by rcases hkd with ⟨h1, h2⟩ | ⟨h1, h2⟩ <;> first | exact h1 | (rw [h2] at t0; exact absurd t0 (by decide))
    refine lv_aload_n hx hb dL_law_387 rfl (lv_at hl 3 rfl) ?_
    refine lv_iconst (v := (0 : Int32)) hx hb dL_law_388 (by decide) ?_
    refine lc_out C hP dL_law_389 ?_
    refine lv_iload hx hb dL_law_390 (lv_at hl 0 rfl) ?_
    refine lv_i2l hx hb dL_law_392 rfl ?_
    refine W.lcmp hx hb dL_law_393 ?_
    refine lv_if_eq (tgt := 399) hx hb dL_law_394 (by decide) (fun _ => ?_) (fun t => absurd (by rw [if_pos hz0, hzr hz0]; exact lg_self _) t)
    refine lv_goto (tgt := 2200) hx hb dL_law_399 (by decide) ?_
    refine W.widen (k := kc + 4) (n := ks + 24) (by omega) (by omega) ?_
    exact K _ _ _ _ _ _ hR1 hP hD hS (lv_sub hl [2, 3, 4, 5, 6] rfl)
set_option maxHeartbeats 8000000 in
set_option maxRecDepth 100000 in
theorem lk_farm (ok : Ok_farm N Rl) (C : Cx p s m args meth c code 7 ret RL g (fun q => s.heap.size ≤ q) X) (hXm : xOK (gmk g hm) X) (hst : l.stackTraces = false) (hXs : va_X b L xs s s.heap) (hbl : b < s.heap.size) (hR : Rl σ τ) (hi : i + 6 ≤ L) (hL : L ≤ 3072) (hkc : kc + 4 ≤ 601024) (hks : ks + 24 ≤ 7293034) (K : Lk Rl p l e s m args below meth c g hm b i kc ks Q) (hP : va_P g.1 vwCl (lwW g (gmk g hm) σ τ o) H) (hD : va_D (fun q => s.heap.size ≤ q) (lwW g (gmk g hm) σ τ o)) (hS : va_S (fun q => s.heap.size ≤ q) s.heap H locs) (hl : lv_has ls 7 [(4, .int (nI i)), (3, .ref (g.2.2 70)), (2, .ref (hm 0)), (1, .ref (g.2.2 0)), (0, .ref b)]) : W p l e room_1 s m args below meth c H locs kc ks Q (F0 m 402 ls []) := by
  obtain ⟨hx, hb, hr, hml, hown, hts, hK, hlocks, hXX, hA, hXo⟩ := id C
  have hbA : ¬ (fun q : Nat => s.heap.size ≤ q) b := Nat.not_le.mpr hbl
  obtain ⟨z, r, τ1, hf1, hf2, hkd, hzr, hR1⟩ := ok (xs (i + 1)) (xs (i + 2)) σ τ hR
  refine lv_aload_n hx hb dL_law_402 rfl (lv_at hl 3 rfl) ?_
  refine lv_aload_n hx hb dL_law_403 rfl (lv_at hl 4 rfl) ?_
  refine lv_iload hx hb dL_law_404 (lv_at hl 0 rfl) ?_
  refine lv_iconst (v := (1 : Int32)) hx hb dL_law_406 (by decide) ?_
  refine lv_iadd hx hb dL_law_407 ?_
  refine lc_sld 1 hx hb hXs hbl hbA hS (by decide) (by omega) hL dL_law_408 ?_
  refine lv_aload_n hx hb dL_law_409 rfl (lv_at hl 4 rfl) ?_
  refine lv_iload hx hb dL_law_410 (lv_at hl 0 rfl) ?_
  refine lv_iconst (v := (2 : Int32)) hx hb dL_law_412 (by decide) ?_
  refine lv_iadd hx hb dL_law_413 ?_
  refine lc_sld 2 hx hb hXs hbl hbA hS (by decide) (by omega) hL dL_law_414 ?_
  refine lv_aload_n hx hb dL_law_415 rfl (lv_at hl 1 rfl) ?_
  refine lc_W (hh := [(0, 10, 13, 18)]) (o' := (if z.1 = 0 then z.2.1.toInt64 else o)) (k := τ1 0 2) (rest := []) [.ref (g.2.2 0), .int (xs (i + 1)), .int (xs (i + 2)), .ref (g.2.2 70)] C hP hD hS hl.1 (cwr_farm hXo hst hf1 (fun h => ⟨by rcases hkd with ⟨h1, h2⟩ | ⟨h1, h2⟩ <;> first | exact h2 | omega, by rw [if_pos h]⟩) (by rcases hkd with ⟨h1, h2⟩ | ⟨h1, h2⟩ <;> omega) (fun h => ⟨by rcases hkd with ⟨h1, h2⟩ | ⟨h1, h2⟩ <;> first | exact h2 | omega, by rw [if_neg (by omega)]⟩)) wa_776 wa_774 wa_775 wa_209 rfl rfl nd_L_farm ⟨Nat.le_of_ble_eq_true rfl, Nat.le_of_ble_eq_true rfl⟩ rfl rfl (Nat.le_of_ble_eq_true rfl) dL_law_416 ⟨by show kc + 2 ≤ 601024; omega, by show ks + 12 ≤ 7293034; omega⟩ (fun H locs hP hD hS => ?_)
  refine lv_istore (lv' := [(5, .int (τ1 0 2)), (4, .int (nI i)), (3, .ref (g.2.2 70)), (2, .ref (hm 0)), (1, .ref (g.2.2 0)), (0, .ref b)]) hx hb dL_law_419 hl (by decide) rfl (fun ls hl => ?_)
  refine lv_aload_n hx hb dL_law_421 rfl (lv_at hl 3 rfl) ?_
  refine lv_aload_n hx hb dL_law_422 rfl (lv_at hl 5 rfl) ?_
  refine lv_iload hx hb dL_law_423 (lv_at hl 1 rfl) ?_
  refine lv_iconst (v := (1 : Int32)) hx hb dL_law_425 (by decide) ?_
  refine lv_iadd hx hb dL_law_426 ?_
  refine lc_sld 1 hx hb hXs hbl hbA hS (by decide) (by omega) hL dL_law_427 ?_
  refine lv_aload_n hx hb dL_law_428 rfl (lv_at hl 5 rfl) ?_
  refine lv_iload hx hb dL_law_429 (lv_at hl 1 rfl) ?_
  refine lv_iconst (v := (2 : Int32)) hx hb dL_law_431 (by decide) ?_
  refine lv_iadd hx hb dL_law_432 ?_
  refine lc_sld 2 hx hb hXs hbl hbA hS (by decide) (by omega) hL dL_law_433 ?_
  refine lc_M (rest := []) [.int (xs (i + 1)), .int (xs (i + 2))] C hXm hP hD hS hl.1 (c_X12_farm hXm hf2) (cwA_V 2 hts wa_796 wa_793 wa_794 wa_795 wa_5 rfl rfl nd_X12_farm ⟨Nat.le_of_ble_eq_true rfl, Nat.le_of_ble_eq_true rfl⟩) rfl rfl (Nat.le_of_ble_eq_true rfl) dL_law_434 ⟨by show kc + 2 ≤ 601024; omega, by show ks + 12 ≤ 7293034; omega⟩ (fun H locs hP hD hS => ?_)
  refine lv_istore (lv' := [(6, .int r), (5, .int (τ1 0 2)), (4, .int (nI i)), (3, .ref (g.2.2 70)), (2, .ref (hm 0)), (1, .ref (g.2.2 0)), (0, .ref b)]) hx hb dL_law_437 hl (by decide) rfl (fun ls hl => ?_)
  refine lv_aload_n hx hb dL_law_439 rfl (lv_at hl 4 rfl) ?_
  refine lc_M (rest := []) [] C hXm hP hD hS hl.1 ((c_X12_thrown (N := 0) (z := (τ1 0 2, τ1)) hXm rfl)) (cwA_V 0 hts wa_624 wa_621 wa_622 wa_623 wa_5 rfl rfl nd_X12_thrown ⟨Nat.le_of_ble_eq_true rfl, Nat.le_of_ble_eq_true rfl⟩) rfl rfl (Nat.le_of_ble_eq_true rfl) dL_law_440 ⟨by show kc + 2 ≤ 601024; omega, by show ks + 12 ≤ 7293034; omega⟩ (fun H locs hP hD hS => ?_)
  refine lv_iload hx hb dL_law_443 (lv_at hl 1 rfl) ?_
  refine lv_icmp_eq (tgt := 450) hx hb dL_law_445 (by decide) (fun _ => ?_) (fun t => absurd rfl t)
  refine lv_iload hx hb dL_law_450 (lv_at hl 1 rfl) ?_
  refine lv_if_ne (tgt := 467) hx hb dL_law_452 (by decide) (fun t0 => ?_) (fun t0 => ?_)
  · refine lv_goto (tgt := 2200) hx hb dL_law_467 (by decide) ?_
    refine W.widen (k := kc + 4) (n := ks + 24) (by omega) (by omega) ?_
    exact K _ _ _ _ _ _ hR1 hP hD hS (lv_sub hl [2, 3, 4, 5, 6] rfl)
  · have hz0 : z.1 = 0 := by rcases hkd with ⟨h1, h2⟩ | ⟨h1, h2⟩ <;> first | exact h1 | (rw [h2] at t0; exact absurd t0 (by decide))
    refine lv_aload_n hx hb dL_law_455 rfl (lv_at hl 3 rfl) ?_
    refine lv_iconst (v := (0 : Int32)) hx hb dL_law_456 (by decide) ?_
    refine lc_out C hP dL_law_457 ?_
    refine lv_iload hx hb dL_law_458 (lv_at hl 0 rfl) ?_
    refine lv_i2l hx hb dL_law_460 rfl ?_
    refine W.lcmp hx hb dL_law_461 ?_
    refine lv_if_eq (tgt := 467) hx hb dL_law_462 (by decide) (fun _ => ?_) (fun t => absurd (by rw [if_pos hz0, hzr hz0]; exact lg_self _) t)
    refine lv_goto (tgt := 2200) hx hb dL_law_467 (by decide) ?_
    refine W.widen (k := kc + 4) (n := ks + 24) (by omega) (by omega) ?_
    exact K _ _ _ _ _ _ hR1 hP hD hS (lv_sub hl [2, 3, 4, 5, 6] rfl)
set_option maxHeartbeats 8000000 in
set_option maxRecDepth 100000 in
theorem lk_ticks (ok : Ok_ticks N Rl) (C : Cx p s m args meth c code 7 ret RL g (fun q => s.heap.size ≤ q) X) (hXm : xOK (gmk g hm) X) (hst : l.stackTraces = false) (hXs : va_X b L xs s s.heap) (hbl : b < s.heap.size) (hR : Rl σ τ) (hi : i + 6 ≤ L) (hL : L ≤ 3072) (hkc : kc + 4 ≤ 601024) (hks : ks + 24 ≤ 7293034) (K : Lk Rl p l e s m args below meth c g hm b i kc ks Q) (hP : va_P g.1 vwCl (lwW g (gmk g hm) σ τ o) H) (hD : va_D (fun q => s.heap.size ≤ q) (lwW g (gmk g hm) σ τ o)) (hS : va_S (fun q => s.heap.size ≤ q) s.heap H locs) (hl : lv_has ls 7 [(4, .int (nI i)), (3, .ref (g.2.2 70)), (2, .ref (hm 0)), (1, .ref (g.2.2 0)), (0, .ref b)]) : W p l e room_1 s m args below meth c H locs kc ks Q (F0 m 470 ls []) := by
  obtain ⟨hx, hb, hr, hml, hown, hts, hK, hlocks, hXX, hA, hXo⟩ := id C
  have hbA : ¬ (fun q : Nat => s.heap.size ≤ q) b := Nat.not_le.mpr hbl
  obtain ⟨r, σ1, τ1, hf1, hf2, hR1⟩ := ok (xs (i + 1)) σ τ hR
  refine lv_aload_n hx hb dL_law_470 rfl (lv_at hl 3 rfl) ?_
  refine lv_aload_n hx hb dL_law_471 rfl (lv_at hl 4 rfl) ?_
  refine lv_iload hx hb dL_law_472 (lv_at hl 0 rfl) ?_
  refine lv_iconst (v := (1 : Int32)) hx hb dL_law_474 (by decide) ?_
  refine lv_iadd hx hb dL_law_475 ?_
  refine lc_sld 1 hx hb hXs hbl hbA hS (by decide) (by omega) hL dL_law_476 ?_
  refine lc_X (rest := []) [.int (xs (i + 1))] C hP hD hS hl.1 (c_X11_ticks_0 hXo hf1) (cwA_V 1 hts wa_807 wa_804 wa_805 wa_806 wa_2 rfl rfl nd_X11_ticks ⟨Nat.le_of_ble_eq_true rfl, Nat.le_of_ble_eq_true rfl⟩) rfl rfl (Nat.le_of_ble_eq_true rfl) dL_law_477 ⟨by show kc + 0 ≤ 601024; omega, by show ks + 0 ≤ 7293034; omega⟩ (fun H locs hP hD hS => ?_)
  refine lv_aload_n hx hb dL_law_480 rfl (lv_at hl 2 rfl) ?_
  refine lv_aload_n hx hb dL_law_481 rfl (lv_at hl 4 rfl) ?_
  refine lv_iload hx hb dL_law_482 (lv_at hl 0 rfl) ?_
  refine lv_iconst (v := (1 : Int32)) hx hb dL_law_484 (by decide) ?_
  refine lv_iadd hx hb dL_law_485 ?_
  refine lc_sld 1 hx hb hXs hbl hbA hS (by decide) (by omega) hL dL_law_486 ?_
  refine lc_M (rest := [.int r]) [.int (xs (i + 1))] C hXm hP hD hS hl.1 (c_X12_ticks hXm hf2) (cwA_V 1 hts wa_882 wa_879 wa_880 wa_881 wa_5 rfl rfl nd_X12_ticks ⟨Nat.le_of_ble_eq_true rfl, Nat.le_of_ble_eq_true rfl⟩) rfl rfl (Nat.le_of_ble_eq_true rfl) dL_law_487 ⟨by show kc + 0 ≤ 601024; omega, by show ks + 0 ≤ 7293034; omega⟩ (fun H locs hP hD hS => ?_)
  refine lv_icmp_eq (tgt := 2200) hx hb dL_law_490 (by decide) (fun _ => ?_) (fun t => absurd rfl t)
  refine W.widen (k := kc + 4) (n := ks + 24) (by omega) (by omega) ?_
  exact K _ _ _ _ _ _ hR1 hP hD hS (lv_sub hl [0, 1, 2, 3, 4] rfl)
set_option maxHeartbeats 8000000 in
set_option maxRecDepth 100000 in
theorem lk_begin (ok : Ok_begin N Rl) (C : Cx p s m args meth c code 7 ret RL g (fun q => s.heap.size ≤ q) X) (hXm : xOK (gmk g hm) X) (hst : l.stackTraces = false) (hXs : va_X b L xs s s.heap) (hbl : b < s.heap.size) (hR : Rl σ τ) (hi : i + 6 ≤ L) (hL : L ≤ 3072) (hkc : kc + 4 ≤ 601024) (hks : ks + 24 ≤ 7293034) (K : Lk Rl p l e s m args below meth c g hm b i kc ks Q) (hP : va_P g.1 vwCl (lwW g (gmk g hm) σ τ o) H) (hD : va_D (fun q => s.heap.size ≤ q) (lwW g (gmk g hm) σ τ o)) (hS : va_S (fun q => s.heap.size ≤ q) s.heap H locs) (hl : lv_has ls 7 [(4, .int (nI i)), (3, .ref (g.2.2 70)), (2, .ref (hm 0)), (1, .ref (g.2.2 0)), (0, .ref b)]) : W p l e room_1 s m args below meth c H locs kc ks Q (F0 m 495 ls []) := by
  obtain ⟨hx, hb, hr, hml, hown, hts, hK, hlocks, hXX, hA, hXo⟩ := id C
  have hbA : ¬ (fun q : Nat => s.heap.size ≤ q) b := Nat.not_le.mpr hbl
  obtain ⟨z, r, τ1, hf1, hf2, hkd, hzr, hR1⟩ := ok (xs (i + 1)) σ τ hR
  refine lv_aload_n hx hb dL_law_495 rfl (lv_at hl 3 rfl) ?_
  refine lv_aload_n hx hb dL_law_496 rfl (lv_at hl 4 rfl) ?_
  refine lv_iload hx hb dL_law_497 (lv_at hl 0 rfl) ?_
  refine lv_iconst (v := (1 : Int32)) hx hb dL_law_499 (by decide) ?_
  refine lv_iadd hx hb dL_law_500 ?_
  refine lc_sld 1 hx hb hXs hbl hbA hS (by decide) (by omega) hL dL_law_501 ?_
  refine lv_aload_n hx hb dL_law_502 rfl (lv_at hl 1 rfl) ?_
  refine lc_W (hh := [(0, 16, 19, 18)]) (o' := (if z.1 = 0 then (if z.2.1 = 0 then (0 : Int64) else 1) else o)) (k := τ1 0 2) (rest := []) [.ref (g.2.2 0), .int (xs (i + 1)), .ref (g.2.2 70)] C hP hD hS hl.1 (cwr_begin hXo hst hf1 (fun h => ⟨by rcases hkd with ⟨h1, h2⟩ | ⟨h1, h2⟩ <;> first | exact h2 | omega, by rw [if_pos h]⟩) (by rcases hkd with ⟨h1, h2⟩ | ⟨h1, h2⟩ <;> omega) (fun h => ⟨by rcases hkd with ⟨h1, h2⟩ | ⟨h1, h2⟩ <;> first | exact h2 | omega, by rw [if_neg (by omega)]⟩)) wa_918 wa_916 wa_917 wa_209 rfl rfl nd_L_begin ⟨Nat.le_of_ble_eq_true rfl, Nat.le_of_ble_eq_true rfl⟩ rfl rfl (Nat.le_of_ble_eq_true rfl) dL_law_503 ⟨by show kc + 1 ≤ 601024; omega, by show ks + 6 ≤ 7293034; omega⟩ (fun H locs hP hD hS => ?_)
  refine lv_istore (lv' := [(5, .int (τ1 0 2)), (4, .int (nI i)), (3, .ref (g.2.2 70)), (2, .ref (hm 0)), (1, .ref (g.2.2 0)), (0, .ref b)]) hx hb dL_law_506 hl (by decide) rfl (fun ls hl => ?_)
  refine lv_aload_n hx hb dL_law_508 rfl (lv_at hl 3 rfl) ?_
  refine lv_aload_n hx hb dL_law_509 rfl (lv_at hl 5 rfl) ?_
  refine lv_iload hx hb dL_law_510 (lv_at hl 1 rfl) ?_
  refine lv_iconst (v := (1 : Int32)) hx hb dL_law_512 (by decide) ?_
  refine lv_iadd hx hb dL_law_513 ?_
  refine lc_sld 1 hx hb hXs hbl hbA hS (by decide) (by omega) hL dL_law_514 ?_
  refine lc_M (rest := []) [.int (xs (i + 1))] C hXm hP hD hS hl.1 (c_X12_begin hXm hf2) (cwA_V 1 hts wa_935 wa_932 wa_933 wa_934 wa_5 rfl rfl nd_X12_begin ⟨Nat.le_of_ble_eq_true rfl, Nat.le_of_ble_eq_true rfl⟩) rfl rfl (Nat.le_of_ble_eq_true rfl) dL_law_515 ⟨by show kc + 1 ≤ 601024; omega, by show ks + 6 ≤ 7293034; omega⟩ (fun H locs hP hD hS => ?_)
  refine lv_istore (lv' := [(6, .int r), (5, .int (τ1 0 2)), (4, .int (nI i)), (3, .ref (g.2.2 70)), (2, .ref (hm 0)), (1, .ref (g.2.2 0)), (0, .ref b)]) hx hb dL_law_518 hl (by decide) rfl (fun ls hl => ?_)
  refine lv_aload_n hx hb dL_law_520 rfl (lv_at hl 4 rfl) ?_
  refine lc_M (rest := []) [] C hXm hP hD hS hl.1 ((c_X12_thrown (N := 0) (z := (τ1 0 2, τ1)) hXm rfl)) (cwA_V 0 hts wa_624 wa_621 wa_622 wa_623 wa_5 rfl rfl nd_X12_thrown ⟨Nat.le_of_ble_eq_true rfl, Nat.le_of_ble_eq_true rfl⟩) rfl rfl (Nat.le_of_ble_eq_true rfl) dL_law_521 ⟨by show kc + 1 ≤ 601024; omega, by show ks + 6 ≤ 7293034; omega⟩ (fun H locs hP hD hS => ?_)
  refine lv_iload hx hb dL_law_524 (lv_at hl 1 rfl) ?_
  refine lv_icmp_eq (tgt := 531) hx hb dL_law_526 (by decide) (fun _ => ?_) (fun t => absurd rfl t)
  refine lv_iload hx hb dL_law_531 (lv_at hl 1 rfl) ?_
  refine lv_if_ne (tgt := 555) hx hb dL_law_533 (by decide) (fun t0 => ?_) (fun t0 => ?_)
  · refine lv_goto (tgt := 2200) hx hb dL_law_555 (by decide) ?_
    refine W.widen (k := kc + 4) (n := ks + 24) (by omega) (by omega) ?_
    exact K _ _ _ _ _ _ hR1 hP hD hS (lv_sub hl [2, 3, 4, 5, 6] rfl)
  · have hz0 : z.1 = 0 := by rcases hkd with ⟨h1, h2⟩ | ⟨h1, h2⟩ <;> first | exact h1 | (rw [h2] at t0; exact absurd t0 (by decide))
    refine lv_aload_n hx hb dL_law_536 rfl (lv_at hl 3 rfl) ?_
    refine lv_iconst (v := (0 : Int32)) hx hb dL_law_537 (by decide) ?_
    refine lc_out C hP dL_law_538 ?_
    refine lv_iload hx hb dL_law_539 (lv_at hl 0 rfl) ?_
    refine lv_if_eq (tgt := 548) hx hb dL_law_541 (by decide) (fun tr => ?_) (fun tr => ?_)
    · refine lv_lconst (v := (0 : Int64)) hx hb dL_law_548 (by decide) ?_
      refine W.lcmp hx hb dL_law_549 ?_
      refine lv_if_eq (tgt := 555) hx hb dL_law_550 (by decide) (fun _ => ?_) (fun t => absurd (by rw [if_pos hz0, hzr hz0, if_pos tr]; exact lg_self _) t)
      refine lv_goto (tgt := 2200) hx hb dL_law_555 (by decide) ?_
      refine W.widen (k := kc + 4) (n := ks + 24) (by omega) (by omega) ?_
      exact K _ _ _ _ _ _ hR1 hP hD hS (lv_sub hl [2, 3, 4, 5, 6] rfl)
    · refine lv_lconst (v := (1 : Int64)) hx hb dL_law_544 (by decide) ?_
      refine lv_goto (tgt := 549) hx hb dL_law_545 (by decide) ?_
      refine W.lcmp hx hb dL_law_549 ?_
      refine lv_if_eq (tgt := 555) hx hb dL_law_550 (by decide) (fun _ => ?_) (fun t => absurd (by rw [if_pos hz0, hzr hz0, if_neg tr]; exact lg_self _) t)
      refine lv_goto (tgt := 2200) hx hb dL_law_555 (by decide) ?_
      refine W.widen (k := kc + 4) (n := ks + 24) (by omega) (by omega) ?_
      exact K _ _ _ _ _ _ hR1 hP hD hS (lv_sub hl [2, 3, 4, 5, 6] rfl)
set_option maxHeartbeats 8000000 in
set_option maxRecDepth 100000 in
theorem lk_sleep (ok : Ok_sleep N Rl) (C : Cx p s m args meth c code 7 ret RL g (fun q => s.heap.size ≤ q) X) (hXm : xOK (gmk g hm) X) (hst : l.stackTraces = false) (hXs : va_X b L xs s s.heap) (hbl : b < s.heap.size) (hR : Rl σ τ) (hi : i + 6 ≤ L) (hL : L ≤ 3072) (hkc : kc + 4 ≤ 601024) (hks : ks + 24 ≤ 7293034) (K : Lk Rl p l e s m args below meth c g hm b i kc ks Q) (hP : va_P g.1 vwCl (lwW g (gmk g hm) σ τ o) H) (hD : va_D (fun q => s.heap.size ≤ q) (lwW g (gmk g hm) σ τ o)) (hS : va_S (fun q => s.heap.size ≤ q) s.heap H locs) (hl : lv_has ls 7 [(4, .int (nI i)), (3, .ref (g.2.2 70)), (2, .ref (hm 0)), (1, .ref (g.2.2 0)), (0, .ref b)]) : W p l e room_1 s m args below meth c H locs kc ks Q (F0 m 558 ls []) := by
  obtain ⟨hx, hb, hr, hml, hown, hts, hK, hlocks, hXX, hA, hXo⟩ := id C
  have hbA : ¬ (fun q : Nat => s.heap.size ≤ q) b := Nat.not_le.mpr hbl
  refine lv_aload_n hx hb dL_law_558 rfl (lv_at hl 3 rfl) ?_
  refine lv_aload_n hx hb dL_law_559 rfl (lv_at hl 4 rfl) ?_
  refine lv_iload hx hb dL_law_560 (lv_at hl 0 rfl) ?_
  refine lv_iconst (v := (1 : Int32)) hx hb dL_law_562 (by decide) ?_
  refine lv_iadd hx hb dL_law_563 ?_
  refine lc_sld 1 hx hb hXs hbl hbA hS (by decide) (by omega) hL dL_law_564 ?_
  refine lv_aload_n hx hb dL_law_565 rfl (lv_at hl 4 rfl) ?_
  refine lv_iload hx hb dL_law_566 (lv_at hl 0 rfl) ?_
  refine lv_iconst (v := (2 : Int32)) hx hb dL_law_568 (by decide) ?_
  refine lv_iadd hx hb dL_law_569 ?_
  refine lc_sld 2 hx hb hXs hbl hbA hS (by decide) (by omega) hL dL_law_570 ?_
  refine lv_if_eq (tgt := 578) hx hb dL_law_571 (by decide) (fun tb => ?_) (fun tb => ?_)
  · obtain ⟨z, r, τ1, hf1, hf2, hkd, hzr, hR1⟩ := ok (xs (i + 1)) (0 : Int32) σ τ (Or.inl rfl) hR
    refine lv_iconst (v := (0 : Int32)) hx hb dL_law_578 (by decide) ?_
    refine lv_aload_n hx hb dL_law_579 rfl (lv_at hl 1 rfl) ?_
    refine lc_W (hh := [(0, 17, 20, 18)]) (o' := (if z.1 = 0 then (if z.2.1 = 0 then (0 : Int64) else 1) else o)) (k := τ1 0 2) (rest := []) [.ref (g.2.2 0), .int (xs (i + 1)), .int (0 : Int32), .ref (g.2.2 70)] C hP hD hS hl.1 (cwr_sleep hXo hst hf1 (fun h => ⟨by rcases hkd with ⟨h1, h2⟩ | ⟨h1, h2⟩ <;> first | exact h2 | omega, by rw [if_pos h]⟩) (by rcases hkd with ⟨h1, h2⟩ | ⟨h1, h2⟩ <;> omega) (fun h => ⟨by rcases hkd with ⟨h1, h2⟩ | ⟨h1, h2⟩ <;> first | exact h2 | omega, by rw [if_neg (by omega)]⟩)) wa_950 wa_948 wa_949 wa_209 rfl rfl nd_L_sleep ⟨Nat.le_of_ble_eq_true rfl, Nat.le_of_ble_eq_true rfl⟩ rfl rfl (Nat.le_of_ble_eq_true rfl) dL_law_580 ⟨by show kc + 1 ≤ 601024; omega, by show ks + 6 ≤ 7293034; omega⟩ (fun H locs hP hD hS => ?_)
    refine lv_istore (lv' := [(5, .int (τ1 0 2)), (4, .int (nI i)), (3, .ref (g.2.2 70)), (2, .ref (hm 0)), (1, .ref (g.2.2 0)), (0, .ref b)]) hx hb dL_law_583 hl (by decide) rfl (fun ls hl => ?_)
    refine lv_aload_n hx hb dL_law_585 rfl (lv_at hl 3 rfl) ?_
    refine lv_aload_n hx hb dL_law_586 rfl (lv_at hl 5 rfl) ?_
    refine lv_iload hx hb dL_law_587 (lv_at hl 1 rfl) ?_
    refine lv_iconst (v := (1 : Int32)) hx hb dL_law_589 (by decide) ?_
    refine lv_iadd hx hb dL_law_590 ?_
    refine lc_sld 1 hx hb hXs hbl hbA hS (by decide) (by omega) hL dL_law_591 ?_
    refine lv_aload_n hx hb dL_law_592 rfl (lv_at hl 5 rfl) ?_
    refine lv_iload hx hb dL_law_593 (lv_at hl 1 rfl) ?_
    refine lv_iconst (v := (2 : Int32)) hx hb dL_law_595 (by decide) ?_
    refine lv_iadd hx hb dL_law_596 ?_
    refine lc_sld 2 hx hb hXs hbl hbA hS (by decide) (by omega) hL dL_law_597 ?_
    refine lv_if_eq (tgt := 605) hx hb dL_law_598 (by decide) (fun _ => ?_) (fun t => absurd tb t)
    refine lv_iconst (v := (0 : Int32)) hx hb dL_law_605 (by decide) ?_
    refine lc_M (rest := []) [.int (xs (i + 1)), .int (0 : Int32)] C hXm hP hD hS hl.1 (c_X12_sleep hXm hf2) (cwA_V 2 hts wa_962 wa_959 wa_960 wa_961 wa_5 rfl rfl nd_X12_sleep ⟨Nat.le_of_ble_eq_true rfl, Nat.le_of_ble_eq_true rfl⟩) rfl rfl (Nat.le_of_ble_eq_true rfl) dL_law_606 ⟨by show kc + 1 ≤ 601024; omega, by show ks + 6 ≤ 7293034; omega⟩ (fun H locs hP hD hS => ?_)
    refine lv_istore (lv' := [(6, .int r), (5, .int (τ1 0 2)), (4, .int (nI i)), (3, .ref (g.2.2 70)), (2, .ref (hm 0)), (1, .ref (g.2.2 0)), (0, .ref b)]) hx hb dL_law_609 hl (by decide) rfl (fun ls hl => ?_)
    refine lv_aload_n hx hb dL_law_611 rfl (lv_at hl 4 rfl) ?_
    refine lc_M (rest := []) [] C hXm hP hD hS hl.1 ((c_X12_thrown (N := 0) (z := (τ1 0 2, τ1)) hXm rfl)) (cwA_V 0 hts wa_624 wa_621 wa_622 wa_623 wa_5 rfl rfl nd_X12_thrown ⟨Nat.le_of_ble_eq_true rfl, Nat.le_of_ble_eq_true rfl⟩) rfl rfl (Nat.le_of_ble_eq_true rfl) dL_law_612 ⟨by show kc + 1 ≤ 601024; omega, by show ks + 6 ≤ 7293034; omega⟩ (fun H locs hP hD hS => ?_)
    refine lv_iload hx hb dL_law_615 (lv_at hl 1 rfl) ?_
    refine lv_icmp_eq (tgt := 622) hx hb dL_law_617 (by decide) (fun _ => ?_) (fun t => absurd rfl t)
    refine lv_iload hx hb dL_law_622 (lv_at hl 1 rfl) ?_
    refine lv_if_ne (tgt := 646) hx hb dL_law_624 (by decide) (fun t0 => ?_) (fun t0 => ?_)
    · refine lv_goto (tgt := 2200) hx hb dL_law_646 (by decide) ?_
      refine W.widen (k := kc + 4) (n := ks + 24) (by omega) (by omega) ?_
      exact K _ _ _ _ _ _ hR1 hP hD hS (lv_sub hl [2, 3, 4, 5, 6] rfl)
    · have hz0 : z.1 = 0 := by rcases hkd with ⟨h1, h2⟩ | ⟨h1, h2⟩ <;> first | exact h1 | (rw [h2] at t0; exact absurd t0 (by decide))
      refine lv_aload_n hx hb dL_law_627 rfl (lv_at hl 3 rfl) ?_
      refine lv_iconst (v := (0 : Int32)) hx hb dL_law_628 (by decide) ?_
      refine lc_out C hP dL_law_629 ?_
      refine lv_iload hx hb dL_law_630 (lv_at hl 0 rfl) ?_
      refine lv_if_eq (tgt := 639) hx hb dL_law_632 (by decide) (fun tr => ?_) (fun tr => ?_)
      · refine lv_lconst (v := (0 : Int64)) hx hb dL_law_639 (by decide) ?_
        refine W.lcmp hx hb dL_law_640 ?_
        refine lv_if_eq (tgt := 646) hx hb dL_law_641 (by decide) (fun _ => ?_) (fun t => absurd (by rw [if_pos hz0, hzr hz0, if_pos tr]; exact lg_self _) t)
        refine lv_goto (tgt := 2200) hx hb dL_law_646 (by decide) ?_
        refine W.widen (k := kc + 4) (n := ks + 24) (by omega) (by omega) ?_
        exact K _ _ _ _ _ _ hR1 hP hD hS (lv_sub hl [2, 3, 4, 5, 6] rfl)
      · refine lv_lconst (v := (1 : Int64)) hx hb dL_law_635 (by decide) ?_
        refine lv_goto (tgt := 640) hx hb dL_law_636 (by decide) ?_
        refine W.lcmp hx hb dL_law_640 ?_
        refine lv_if_eq (tgt := 646) hx hb dL_law_641 (by decide) (fun _ => ?_) (fun t => absurd (by rw [if_pos hz0, hzr hz0, if_neg tr]; exact lg_self _) t)
        refine lv_goto (tgt := 2200) hx hb dL_law_646 (by decide) ?_
        refine W.widen (k := kc + 4) (n := ks + 24) (by omega) (by omega) ?_
        exact K _ _ _ _ _ _ hR1 hP hD hS (lv_sub hl [2, 3, 4, 5, 6] rfl)
  · obtain ⟨z, r, τ1, hf1, hf2, hkd, hzr, hR1⟩ := ok (xs (i + 1)) (1 : Int32) σ τ (Or.inr rfl) hR
    refine lv_iconst (v := (1 : Int32)) hx hb dL_law_574 (by decide) ?_
    refine lv_goto (tgt := 579) hx hb dL_law_575 (by decide) ?_
    refine lv_aload_n hx hb dL_law_579 rfl (lv_at hl 1 rfl) ?_
    refine lc_W (hh := [(0, 17, 20, 18)]) (o' := (if z.1 = 0 then (if z.2.1 = 0 then (0 : Int64) else 1) else o)) (k := τ1 0 2) (rest := []) [.ref (g.2.2 0), .int (xs (i + 1)), .int (1 : Int32), .ref (g.2.2 70)] C hP hD hS hl.1 (cwr_sleep hXo hst hf1 (fun h => ⟨by rcases hkd with ⟨h1, h2⟩ | ⟨h1, h2⟩ <;> first | exact h2 | omega, by rw [if_pos h]⟩) (by rcases hkd with ⟨h1, h2⟩ | ⟨h1, h2⟩ <;> omega) (fun h => ⟨by rcases hkd with ⟨h1, h2⟩ | ⟨h1, h2⟩ <;> first | exact h2 | omega, by rw [if_neg (by omega)]⟩)) wa_950 wa_948 wa_949 wa_209 rfl rfl nd_L_sleep ⟨Nat.le_of_ble_eq_true rfl, Nat.le_of_ble_eq_true rfl⟩ rfl rfl (Nat.le_of_ble_eq_true rfl) dL_law_580 ⟨by show kc + 1 ≤ 601024; omega, by show ks + 6 ≤ 7293034; omega⟩ (fun H locs hP hD hS => ?_)
    refine lv_istore (lv' := [(5, .int (τ1 0 2)), (4, .int (nI i)), (3, .ref (g.2.2 70)), (2, .ref (hm 0)), (1, .ref (g.2.2 0)), (0, .ref b)]) hx hb dL_law_583 hl (by decide) rfl (fun ls hl => ?_)
    refine lv_aload_n hx hb dL_law_585 rfl (lv_at hl 3 rfl) ?_
    refine lv_aload_n hx hb dL_law_586 rfl (lv_at hl 5 rfl) ?_
    refine lv_iload hx hb dL_law_587 (lv_at hl 1 rfl) ?_
    refine lv_iconst (v := (1 : Int32)) hx hb dL_law_589 (by decide) ?_
    refine lv_iadd hx hb dL_law_590 ?_
    refine lc_sld 1 hx hb hXs hbl hbA hS (by decide) (by omega) hL dL_law_591 ?_
    refine lv_aload_n hx hb dL_law_592 rfl (lv_at hl 5 rfl) ?_
    refine lv_iload hx hb dL_law_593 (lv_at hl 1 rfl) ?_
    refine lv_iconst (v := (2 : Int32)) hx hb dL_law_595 (by decide) ?_
    refine lv_iadd hx hb dL_law_596 ?_
    refine lc_sld 2 hx hb hXs hbl hbA hS (by decide) (by omega) hL dL_law_597 ?_
    refine lv_if_eq (tgt := 605) hx hb dL_law_598 (by decide) (fun t => absurd t tb) (fun _ => ?_)
    refine lv_iconst (v := (1 : Int32)) hx hb dL_law_601 (by decide) ?_
    refine lv_goto (tgt := 606) hx hb dL_law_602 (by decide) ?_
    refine lc_M (rest := []) [.int (xs (i + 1)), .int (1 : Int32)] C hXm hP hD hS hl.1 (c_X12_sleep hXm hf2) (cwA_V 2 hts wa_962 wa_959 wa_960 wa_961 wa_5 rfl rfl nd_X12_sleep ⟨Nat.le_of_ble_eq_true rfl, Nat.le_of_ble_eq_true rfl⟩) rfl rfl (Nat.le_of_ble_eq_true rfl) dL_law_606 ⟨by show kc + 1 ≤ 601024; omega, by show ks + 6 ≤ 7293034; omega⟩ (fun H locs hP hD hS => ?_)
    refine lv_istore (lv' := [(6, .int r), (5, .int (τ1 0 2)), (4, .int (nI i)), (3, .ref (g.2.2 70)), (2, .ref (hm 0)), (1, .ref (g.2.2 0)), (0, .ref b)]) hx hb dL_law_609 hl (by decide) rfl (fun ls hl => ?_)
    refine lv_aload_n hx hb dL_law_611 rfl (lv_at hl 4 rfl) ?_
    refine lc_M (rest := []) [] C hXm hP hD hS hl.1 ((c_X12_thrown (N := 0) (z := (τ1 0 2, τ1)) hXm rfl)) (cwA_V 0 hts wa_624 wa_621 wa_622 wa_623 wa_5 rfl rfl nd_X12_thrown ⟨Nat.le_of_ble_eq_true rfl, Nat.le_of_ble_eq_true rfl⟩) rfl rfl (Nat.le_of_ble_eq_true rfl) dL_law_612 ⟨by show kc + 1 ≤ 601024; omega, by show ks + 6 ≤ 7293034; omega⟩ (fun H locs hP hD hS => ?_)
    refine lv_iload hx hb dL_law_615 (lv_at hl 1 rfl) ?_
    refine lv_icmp_eq (tgt := 622) hx hb dL_law_617 (by decide) (fun _ => ?_) (fun t => absurd rfl t)
    refine lv_iload hx hb dL_law_622 (lv_at hl 1 rfl) ?_
    refine lv_if_ne (tgt := 646) hx hb dL_law_624 (by decide) (fun t0 => ?_) (fun t0 => ?_)
    · refine lv_goto (tgt := 2200) hx hb dL_law_646 (by decide) ?_
      refine W.widen (k := kc + 4) (n := ks + 24) (by omega) (by omega) ?_
      exact K _ _ _ _ _ _ hR1 hP hD hS (lv_sub hl [2, 3, 4, 5, 6] rfl)
    · have hz0 : z.1 = 0 := by rcases hkd with ⟨h1, h2⟩ | ⟨h1, h2⟩ <;> first | exact h1 | (rw [h2] at t0; exact absurd t0 (by decide))
      refine lv_aload_n hx hb dL_law_627 rfl (lv_at hl 3 rfl) ?_
      refine lv_iconst (v := (0 : Int32)) hx hb dL_law_628 (by decide) ?_
      refine lc_out C hP dL_law_629 ?_
      refine lv_iload hx hb dL_law_630 (lv_at hl 0 rfl) ?_
      refine lv_if_eq (tgt := 639) hx hb dL_law_632 (by decide) (fun tr => ?_) (fun tr => ?_)
      · refine lv_lconst (v := (0 : Int64)) hx hb dL_law_639 (by decide) ?_
        refine W.lcmp hx hb dL_law_640 ?_
        refine lv_if_eq (tgt := 646) hx hb dL_law_641 (by decide) (fun _ => ?_) (fun t => absurd (by rw [if_pos hz0, hzr hz0, if_pos tr]; exact lg_self _) t)
        refine lv_goto (tgt := 2200) hx hb dL_law_646 (by decide) ?_
        refine W.widen (k := kc + 4) (n := ks + 24) (by omega) (by omega) ?_
        exact K _ _ _ _ _ _ hR1 hP hD hS (lv_sub hl [2, 3, 4, 5, 6] rfl)
      · refine lv_lconst (v := (1 : Int64)) hx hb dL_law_635 (by decide) ?_
        refine lv_goto (tgt := 640) hx hb dL_law_636 (by decide) ?_
        refine W.lcmp hx hb dL_law_640 ?_
        refine lv_if_eq (tgt := 646) hx hb dL_law_641 (by decide) (fun _ => ?_) (fun t => absurd (by rw [if_pos hz0, hzr hz0, if_neg tr]; exact lg_self _) t)
        refine lv_goto (tgt := 2200) hx hb dL_law_646 (by decide) ?_
        refine W.widen (k := kc + 4) (n := ks + 24) (by omega) (by omega) ?_
        exact K _ _ _ _ _ _ hR1 hP hD hS (lv_sub hl [2, 3, 4, 5, 6] rfl)
set_option maxHeartbeats 8000000 in
set_option maxRecDepth 100000 in
theorem lk_hat (ok : Ok_hat N Rl) (C : Cx p s m args meth c code 7 ret RL g (fun q => s.heap.size ≤ q) X) (hXm : xOK (gmk g hm) X) (hst : l.stackTraces = false) (hXs : va_X b L xs s s.heap) (hbl : b < s.heap.size) (hR : Rl σ τ) (hi : i + 6 ≤ L) (hL : L ≤ 3072) (hkc : kc + 4 ≤ 601024) (hks : ks + 24 ≤ 7293034) (K : Lk Rl p l e s m args below meth c g hm b i kc ks Q) (hP : va_P g.1 vwCl (lwW g (gmk g hm) σ τ o) H) (hD : va_D (fun q => s.heap.size ≤ q) (lwW g (gmk g hm) σ τ o)) (hS : va_S (fun q => s.heap.size ≤ q) s.heap H locs) (hl : lv_has ls 7 [(4, .int (nI i)), (3, .ref (g.2.2 70)), (2, .ref (hm 0)), (1, .ref (g.2.2 0)), (0, .ref b)]) : W p l e room_1 s m args below meth c H locs kc ks Q (F0 m 649 ls []) := by
  obtain ⟨hx, hb, hr, hml, hown, hts, hK, hlocks, hXX, hA, hXo⟩ := id C
  have hbA : ¬ (fun q : Nat => s.heap.size ≤ q) b := Nat.not_le.mpr hbl
  obtain ⟨z, r, τ1, hf1, hf2, hkd, hzr, hR1⟩ := ok (xs (i + 1)) (xs (i + 2)) σ τ hR
  refine lv_aload_n hx hb dL_law_649 rfl (lv_at hl 3 rfl) ?_
  refine lv_aload_n hx hb dL_law_650 rfl (lv_at hl 4 rfl) ?_
  refine lv_iload hx hb dL_law_651 (lv_at hl 0 rfl) ?_
  refine lv_iconst (v := (1 : Int32)) hx hb dL_law_653 (by decide) ?_
  refine lv_iadd hx hb dL_law_654 ?_
  refine lc_sld 1 hx hb hXs hbl hbA hS (by decide) (by omega) hL dL_law_655 ?_
  refine lv_aload_n hx hb dL_law_656 rfl (lv_at hl 4 rfl) ?_
  refine lv_iload hx hb dL_law_657 (lv_at hl 0 rfl) ?_
  refine lv_iconst (v := (2 : Int32)) hx hb dL_law_659 (by decide) ?_
  refine lv_iadd hx hb dL_law_660 ?_
  refine lc_sld 2 hx hb hXs hbl hbA hS (by decide) (by omega) hL dL_law_661 ?_
  refine lv_aload_n hx hb dL_law_662 rfl (lv_at hl 1 rfl) ?_
  refine lc_W (hh := [(0, 10, 13, 18)]) (o' := (if z.1 = 0 then z.2.1.toInt64 else o)) (k := τ1 0 2) (rest := []) [.ref (g.2.2 0), .int (xs (i + 1)), .int (xs (i + 2)), .ref (g.2.2 70)] C hP hD hS hl.1 (cwr_hat hXo hst hf1 (fun h => ⟨by rcases hkd with ⟨h1, h2⟩ | ⟨h1, h2⟩ <;> first | exact h2 | omega, by rw [if_pos h]⟩) (by rcases hkd with ⟨h1, h2⟩ | ⟨h1, h2⟩ <;> omega) (fun h => ⟨by rcases hkd with ⟨h1, h2⟩ | ⟨h1, h2⟩ <;> first | exact h2 | omega, by rw [if_neg (by omega)]⟩)) wa_969 wa_967 wa_968 wa_209 rfl rfl nd_L_hat ⟨Nat.le_of_ble_eq_true rfl, Nat.le_of_ble_eq_true rfl⟩ rfl rfl (Nat.le_of_ble_eq_true rfl) dL_law_663 ⟨by show kc + 1 ≤ 601024; omega, by show ks + 6 ≤ 7293034; omega⟩ (fun H locs hP hD hS => ?_)
  refine lv_istore (lv' := [(5, .int (τ1 0 2)), (4, .int (nI i)), (3, .ref (g.2.2 70)), (2, .ref (hm 0)), (1, .ref (g.2.2 0)), (0, .ref b)]) hx hb dL_law_666 hl (by decide) rfl (fun ls hl => ?_)
  refine lv_aload_n hx hb dL_law_668 rfl (lv_at hl 3 rfl) ?_
  refine lv_aload_n hx hb dL_law_669 rfl (lv_at hl 5 rfl) ?_
  refine lv_iload hx hb dL_law_670 (lv_at hl 1 rfl) ?_
  refine lv_iconst (v := (1 : Int32)) hx hb dL_law_672 (by decide) ?_
  refine lv_iadd hx hb dL_law_673 ?_
  refine lc_sld 1 hx hb hXs hbl hbA hS (by decide) (by omega) hL dL_law_674 ?_
  refine lv_aload_n hx hb dL_law_675 rfl (lv_at hl 5 rfl) ?_
  refine lv_iload hx hb dL_law_676 (lv_at hl 1 rfl) ?_
  refine lv_iconst (v := (2 : Int32)) hx hb dL_law_678 (by decide) ?_
  refine lv_iadd hx hb dL_law_679 ?_
  refine lc_sld 2 hx hb hXs hbl hbA hS (by decide) (by omega) hL dL_law_680 ?_
  refine lc_M (rest := []) [.int (xs (i + 1)), .int (xs (i + 2))] C hXm hP hD hS hl.1 (c_X12_hat hXm hf2) (cwA_V 2 hts wa_977 wa_974 wa_975 wa_976 wa_5 rfl rfl nd_X12_hat ⟨Nat.le_of_ble_eq_true rfl, Nat.le_of_ble_eq_true rfl⟩) rfl rfl (Nat.le_of_ble_eq_true rfl) dL_law_681 ⟨by show kc + 1 ≤ 601024; omega, by show ks + 6 ≤ 7293034; omega⟩ (fun H locs hP hD hS => ?_)
  refine lv_istore (lv' := [(6, .int r), (5, .int (τ1 0 2)), (4, .int (nI i)), (3, .ref (g.2.2 70)), (2, .ref (hm 0)), (1, .ref (g.2.2 0)), (0, .ref b)]) hx hb dL_law_684 hl (by decide) rfl (fun ls hl => ?_)
  refine lv_aload_n hx hb dL_law_686 rfl (lv_at hl 4 rfl) ?_
  refine lc_M (rest := []) [] C hXm hP hD hS hl.1 ((c_X12_thrown (N := 0) (z := (τ1 0 2, τ1)) hXm rfl)) (cwA_V 0 hts wa_624 wa_621 wa_622 wa_623 wa_5 rfl rfl nd_X12_thrown ⟨Nat.le_of_ble_eq_true rfl, Nat.le_of_ble_eq_true rfl⟩) rfl rfl (Nat.le_of_ble_eq_true rfl) dL_law_687 ⟨by show kc + 1 ≤ 601024; omega, by show ks + 6 ≤ 7293034; omega⟩ (fun H locs hP hD hS => ?_)
  refine lv_iload hx hb dL_law_690 (lv_at hl 1 rfl) ?_
  refine lv_icmp_eq (tgt := 697) hx hb dL_law_692 (by decide) (fun _ => ?_) (fun t => absurd rfl t)
  refine lv_iload hx hb dL_law_697 (lv_at hl 1 rfl) ?_
  refine lv_if_ne (tgt := 714) hx hb dL_law_699 (by decide) (fun t0 => ?_) (fun t0 => ?_)
  · refine lv_goto (tgt := 2200) hx hb dL_law_714 (by decide) ?_
    refine W.widen (k := kc + 4) (n := ks + 24) (by omega) (by omega) ?_
    exact K _ _ _ _ _ _ hR1 hP hD hS (lv_sub hl [2, 3, 4, 5, 6] rfl)
  · have hz0 : z.1 = 0 := by rcases hkd with ⟨h1, h2⟩ | ⟨h1, h2⟩ <;> first | exact h1 | (rw [h2] at t0; exact absurd t0 (by decide))
    refine lv_aload_n hx hb dL_law_702 rfl (lv_at hl 3 rfl) ?_
    refine lv_iconst (v := (0 : Int32)) hx hb dL_law_703 (by decide) ?_
    refine lc_out C hP dL_law_704 ?_
    refine lv_iload hx hb dL_law_705 (lv_at hl 0 rfl) ?_
    refine lv_i2l hx hb dL_law_707 rfl ?_
    refine W.lcmp hx hb dL_law_708 ?_
    refine lv_if_eq (tgt := 714) hx hb dL_law_709 (by decide) (fun _ => ?_) (fun t => absurd (by rw [if_pos hz0, hzr hz0]; exact lg_self _) t)
    refine lv_goto (tgt := 2200) hx hb dL_law_714 (by decide) ?_
    refine W.widen (k := kc + 4) (n := ks + 24) (by omega) (by omega) ?_
    exact K _ _ _ _ _ _ hR1 hP hD hS (lv_sub hl [2, 3, 4, 5, 6] rfl)
set_option maxHeartbeats 8000000 in
set_option maxRecDepth 100000 in
theorem lk_hush (ok : Ok_hush N Rl) (C : Cx p s m args meth c code 7 ret RL g (fun q => s.heap.size ≤ q) X) (hXm : xOK (gmk g hm) X) (hst : l.stackTraces = false) (hXs : va_X b L xs s s.heap) (hbl : b < s.heap.size) (hR : Rl σ τ) (hi : i + 6 ≤ L) (hL : L ≤ 3072) (hkc : kc + 4 ≤ 601024) (hks : ks + 24 ≤ 7293034) (K : Lk Rl p l e s m args below meth c g hm b i kc ks Q) (hP : va_P g.1 vwCl (lwW g (gmk g hm) σ τ o) H) (hD : va_D (fun q => s.heap.size ≤ q) (lwW g (gmk g hm) σ τ o)) (hS : va_S (fun q => s.heap.size ≤ q) s.heap H locs) (hl : lv_has ls 7 [(4, .int (nI i)), (3, .ref (g.2.2 70)), (2, .ref (hm 0)), (1, .ref (g.2.2 0)), (0, .ref b)]) : W p l e room_1 s m args below meth c H locs kc ks Q (F0 m 717 ls []) := by
  obtain ⟨hx, hb, hr, hml, hown, hts, hK, hlocks, hXX, hA, hXo⟩ := id C
  have hbA : ¬ (fun q : Nat => s.heap.size ≤ q) b := Nat.not_le.mpr hbl
  obtain ⟨r, σ1, τ1, hf1, hf2, hR1⟩ := ok σ τ hR
  refine lv_aload_n hx hb dL_law_717 rfl (lv_at hl 3 rfl) ?_
  refine lc_X (rest := []) [] C hP hD hS hl.1 (c_X11_hush_0 hXo hf1) (cwA_V 0 hts wa_981 wa_978 wa_979 wa_980 wa_2 rfl rfl nd_X11_hush ⟨Nat.le_of_ble_eq_true rfl, Nat.le_of_ble_eq_true rfl⟩) rfl rfl (Nat.le_of_ble_eq_true rfl) dL_law_718 ⟨by show kc + 0 ≤ 601024; omega, by show ks + 0 ≤ 7293034; omega⟩ (fun H locs hP hD hS => ?_)
  refine lv_aload_n hx hb dL_law_721 rfl (lv_at hl 2 rfl) ?_
  refine lc_M (rest := [.int r]) [] C hXm hP hD hS hl.1 (c_X12_hush hXm hf2) (cwA_V 0 hts wa_986 wa_983 wa_984 wa_985 wa_5 rfl rfl nd_X12_hush ⟨Nat.le_of_ble_eq_true rfl, Nat.le_of_ble_eq_true rfl⟩) rfl rfl (Nat.le_of_ble_eq_true rfl) dL_law_722 ⟨by show kc + 0 ≤ 601024; omega, by show ks + 0 ≤ 7293034; omega⟩ (fun H locs hP hD hS => ?_)
  refine lv_icmp_eq (tgt := 2200) hx hb dL_law_725 (by decide) (fun _ => ?_) (fun t => absurd rfl t)
  refine W.widen (k := kc + 4) (n := ks + 24) (by omega) (by omega) ?_
  exact K _ _ _ _ _ _ hR1 hP hD hS (lv_sub hl [0, 1, 2, 3, 4] rfl)
set_option maxHeartbeats 8000000 in
set_option maxRecDepth 100000 in
theorem lk_undo (ok : Ok_undo N Rl) (C : Cx p s m args meth c code 7 ret RL g (fun q => s.heap.size ≤ q) X) (hXm : xOK (gmk g hm) X) (hst : l.stackTraces = false) (hXs : va_X b L xs s s.heap) (hbl : b < s.heap.size) (hR : Rl σ τ) (hi : i + 6 ≤ L) (hL : L ≤ 3072) (hkc : kc + 4 ≤ 601024) (hks : ks + 24 ≤ 7293034) (K : Lk Rl p l e s m args below meth c g hm b i kc ks Q) (hP : va_P g.1 vwCl (lwW g (gmk g hm) σ τ o) H) (hD : va_D (fun q => s.heap.size ≤ q) (lwW g (gmk g hm) σ τ o)) (hS : va_S (fun q => s.heap.size ≤ q) s.heap H locs) (hl : lv_has ls 7 [(4, .int (nI i)), (3, .ref (g.2.2 70)), (2, .ref (hm 0)), (1, .ref (g.2.2 0)), (0, .ref b)]) : W p l e room_1 s m args below meth c H locs kc ks Q (F0 m 730 ls []) := by
  obtain ⟨hx, hb, hr, hml, hown, hts, hK, hlocks, hXX, hA, hXo⟩ := id C
  have hbA : ¬ (fun q : Nat => s.heap.size ≤ q) b := Nat.not_le.mpr hbl
  obtain ⟨r, σ1, τ1, hf1, hf2, hR1⟩ := ok σ τ hR
  refine lv_aload_n hx hb dL_law_730 rfl (lv_at hl 3 rfl) ?_
  refine lc_X (rest := []) [] C hP hD hS hl.1 (c_X11_undo_0 hXo hf1) (cwA_V 0 hts wa_994 wa_991 wa_992 wa_993 wa_2 rfl rfl nd_X11_undo ⟨Nat.le_of_ble_eq_true rfl, Nat.le_of_ble_eq_true rfl⟩) rfl rfl (Nat.le_of_ble_eq_true rfl) dL_law_731 ⟨by show kc + 0 ≤ 601024; omega, by show ks + 0 ≤ 7293034; omega⟩ (fun H locs hP hD hS => ?_)
  refine lv_aload_n hx hb dL_law_734 rfl (lv_at hl 2 rfl) ?_
  refine lc_M (rest := [.int r]) [] C hXm hP hD hS hl.1 (c_X12_undo hXm hf2) (cwA_V 0 hts wa_1006 wa_1003 wa_1004 wa_1005 wa_5 rfl rfl nd_X12_undo ⟨Nat.le_of_ble_eq_true rfl, Nat.le_of_ble_eq_true rfl⟩) rfl rfl (Nat.le_of_ble_eq_true rfl) dL_law_735 ⟨by show kc + 0 ≤ 601024; omega, by show ks + 0 ≤ 7293034; omega⟩ (fun H locs hP hD hS => ?_)
  refine lv_icmp_eq (tgt := 2200) hx hb dL_law_738 (by decide) (fun _ => ?_) (fun t => absurd rfl t)
  refine W.widen (k := kc + 4) (n := ks + 24) (by omega) (by omega) ?_
  exact K _ _ _ _ _ _ hR1 hP hD hS (lv_sub hl [0, 1, 2, 3, 4] rfl)
set_option maxHeartbeats 8000000 in
set_option maxRecDepth 100000 in
theorem lk_nodding (ok : Ok_nodding N Rl) (C : Cx p s m args meth c code 7 ret RL g (fun q => s.heap.size ≤ q) X) (hXm : xOK (gmk g hm) X) (hst : l.stackTraces = false) (hXs : va_X b L xs s s.heap) (hbl : b < s.heap.size) (hR : Rl σ τ) (hi : i + 6 ≤ L) (hL : L ≤ 3072) (hkc : kc + 4 ≤ 601024) (hks : ks + 24 ≤ 7293034) (K : Lk Rl p l e s m args below meth c g hm b i kc ks Q) (hP : va_P g.1 vwCl (lwW g (gmk g hm) σ τ o) H) (hD : va_D (fun q => s.heap.size ≤ q) (lwW g (gmk g hm) σ τ o)) (hS : va_S (fun q => s.heap.size ≤ q) s.heap H locs) (hl : lv_has ls 7 [(4, .int (nI i)), (3, .ref (g.2.2 70)), (2, .ref (hm 0)), (1, .ref (g.2.2 0)), (0, .ref b)]) : W p l e room_1 s m args below meth c H locs kc ks Q (F0 m 743 ls []) := by
  obtain ⟨hx, hb, hr, hml, hown, hts, hK, hlocks, hXX, hA, hXo⟩ := id C
  have hbA : ¬ (fun q : Nat => s.heap.size ≤ q) b := Nat.not_le.mpr hbl
  obtain ⟨z, r, τ1, hf1, hf2, hkd, hzr, hR1⟩ := ok (xs (i + 1)) σ τ hR
  refine lv_aload_n hx hb dL_law_743 rfl (lv_at hl 3 rfl) ?_
  refine lv_aload_n hx hb dL_law_744 rfl (lv_at hl 4 rfl) ?_
  refine lv_iload hx hb dL_law_745 (lv_at hl 0 rfl) ?_
  refine lv_iconst (v := (1 : Int32)) hx hb dL_law_747 (by decide) ?_
  refine lv_iadd hx hb dL_law_748 ?_
  refine lc_sld 1 hx hb hXs hbl hbA hS (by decide) (by omega) hL dL_law_749 ?_
  refine lv_aload_n hx hb dL_law_750 rfl (lv_at hl 1 rfl) ?_
  refine lc_W (hh := [(0, 9, 12, 13)]) (o' := (if z.1 = 0 then z.2.1.toInt64 else o)) (k := τ1 0 2) (rest := []) [.ref (g.2.2 0), .int (xs (i + 1)), .ref (g.2.2 70)] C hP hD hS hl.1 (cwr_nodding hXo hst hf1 (fun h => ⟨by rcases hkd with ⟨h1, h2⟩ | ⟨h1, h2⟩ <;> first | exact h2 | omega, by rw [if_pos h]⟩) (by rcases hkd with ⟨h1, h2⟩ | ⟨h1, h2⟩ <;> omega) (fun h => ⟨by rcases hkd with ⟨h1, h2⟩ | ⟨h1, h2⟩ <;> first | exact h2 | omega, by rw [if_neg (by omega)]⟩)) wa_1013 wa_1011 wa_1012 wa_209 rfl rfl nd_L_nodding ⟨Nat.le_of_ble_eq_true rfl, Nat.le_of_ble_eq_true rfl⟩ rfl rfl (Nat.le_of_ble_eq_true rfl) dL_law_751 ⟨by show kc + 1 ≤ 601024; omega, by show ks + 6 ≤ 7293034; omega⟩ (fun H locs hP hD hS => ?_)
  refine lv_istore (lv' := [(5, .int (τ1 0 2)), (4, .int (nI i)), (3, .ref (g.2.2 70)), (2, .ref (hm 0)), (1, .ref (g.2.2 0)), (0, .ref b)]) hx hb dL_law_754 hl (by decide) rfl (fun ls hl => ?_)
  refine lv_aload_n hx hb dL_law_756 rfl (lv_at hl 3 rfl) ?_
  refine lv_aload_n hx hb dL_law_757 rfl (lv_at hl 5 rfl) ?_
  refine lv_iload hx hb dL_law_758 (lv_at hl 1 rfl) ?_
  refine lv_iconst (v := (1 : Int32)) hx hb dL_law_760 (by decide) ?_
  refine lv_iadd hx hb dL_law_761 ?_
  refine lc_sld 1 hx hb hXs hbl hbA hS (by decide) (by omega) hL dL_law_762 ?_
  refine lc_M (rest := []) [.int (xs (i + 1))] C hXm hP hD hS hl.1 (c_X12_nodding hXm hf2) (cwA_V 1 hts wa_1024 wa_1021 wa_1022 wa_1023 wa_5 rfl rfl nd_X12_nodding ⟨Nat.le_of_ble_eq_true rfl, Nat.le_of_ble_eq_true rfl⟩) rfl rfl (Nat.le_of_ble_eq_true rfl) dL_law_763 ⟨by show kc + 1 ≤ 601024; omega, by show ks + 6 ≤ 7293034; omega⟩ (fun H locs hP hD hS => ?_)
  refine lv_istore (lv' := [(6, .int r), (5, .int (τ1 0 2)), (4, .int (nI i)), (3, .ref (g.2.2 70)), (2, .ref (hm 0)), (1, .ref (g.2.2 0)), (0, .ref b)]) hx hb dL_law_766 hl (by decide) rfl (fun ls hl => ?_)
  refine lv_aload_n hx hb dL_law_768 rfl (lv_at hl 4 rfl) ?_
  refine lc_M (rest := []) [] C hXm hP hD hS hl.1 ((c_X12_thrown (N := 0) (z := (τ1 0 2, τ1)) hXm rfl)) (cwA_V 0 hts wa_624 wa_621 wa_622 wa_623 wa_5 rfl rfl nd_X12_thrown ⟨Nat.le_of_ble_eq_true rfl, Nat.le_of_ble_eq_true rfl⟩) rfl rfl (Nat.le_of_ble_eq_true rfl) dL_law_769 ⟨by show kc + 1 ≤ 601024; omega, by show ks + 6 ≤ 7293034; omega⟩ (fun H locs hP hD hS => ?_)
  refine lv_iload hx hb dL_law_772 (lv_at hl 1 rfl) ?_
  refine lv_icmp_eq (tgt := 779) hx hb dL_law_774 (by decide) (fun _ => ?_) (fun t => absurd rfl t)
  refine lv_iload hx hb dL_law_779 (lv_at hl 1 rfl) ?_
  refine lv_if_ne (tgt := 796) hx hb dL_law_781 (by decide) (fun t0 => ?_) (fun t0 => ?_)
  · refine lv_goto (tgt := 2200) hx hb dL_law_796 (by decide) ?_
    refine W.widen (k := kc + 4) (n := ks + 24) (by omega) (by omega) ?_
    exact K _ _ _ _ _ _ hR1 hP hD hS (lv_sub hl [2, 3, 4, 5, 6] rfl)
  · have hz0 : z.1 = 0 := by rcases hkd with ⟨h1, h2⟩ | ⟨h1, h2⟩ <;> first | exact h1 | (rw [h2] at t0; exact absurd t0 (by decide))
    refine lv_aload_n hx hb dL_law_784 rfl (lv_at hl 3 rfl) ?_
    refine lv_iconst (v := (0 : Int32)) hx hb dL_law_785 (by decide) ?_
    refine lc_out C hP dL_law_786 ?_
    refine lv_iload hx hb dL_law_787 (lv_at hl 0 rfl) ?_
    refine lv_i2l hx hb dL_law_789 rfl ?_
    refine W.lcmp hx hb dL_law_790 ?_
    refine lv_if_eq (tgt := 796) hx hb dL_law_791 (by decide) (fun _ => ?_) (fun t => absurd (by rw [if_pos hz0, hzr hz0]; exact lg_self _) t)
    refine lv_goto (tgt := 2200) hx hb dL_law_796 (by decide) ?_
    refine W.widen (k := kc + 4) (n := ks + 24) (by omega) (by omega) ?_
    exact K _ _ _ _ _ _ hR1 hP hD hS (lv_sub hl [2, 3, 4, 5, 6] rfl)
set_option maxHeartbeats 8000000 in
set_option maxRecDepth 100000 in
theorem lk_then (ok : Ok_then N Rl) (C : Cx p s m args meth c code 7 ret RL g (fun q => s.heap.size ≤ q) X) (hXm : xOK (gmk g hm) X) (hst : l.stackTraces = false) (hXs : va_X b L xs s s.heap) (hbl : b < s.heap.size) (hR : Rl σ τ) (hi : i + 6 ≤ L) (hL : L ≤ 3072) (hkc : kc + 4 ≤ 601024) (hks : ks + 24 ≤ 7293034) (K : Lk Rl p l e s m args below meth c g hm b i kc ks Q) (hP : va_P g.1 vwCl (lwW g (gmk g hm) σ τ o) H) (hD : va_D (fun q => s.heap.size ≤ q) (lwW g (gmk g hm) σ τ o)) (hS : va_S (fun q => s.heap.size ≤ q) s.heap H locs) (hl : lv_has ls 7 [(4, .int (nI i)), (3, .ref (g.2.2 70)), (2, .ref (hm 0)), (1, .ref (g.2.2 0)), (0, .ref b)]) : W p l e room_1 s m args below meth c H locs kc ks Q (F0 m 799 ls []) := by
  obtain ⟨hx, hb, hr, hml, hown, hts, hK, hlocks, hXX, hA, hXo⟩ := id C
  have hbA : ¬ (fun q : Nat => s.heap.size ≤ q) b := Nat.not_le.mpr hbl
  obtain ⟨z, r, τ1, hf1, hf2, hkd, hzr, hR1⟩ := ok (xs (i + 1)) (xs (i + 2)) (xs (i + 3)) σ τ hR
  refine lv_aload_n hx hb dL_law_799 rfl (lv_at hl 3 rfl) ?_
  refine lv_aload_n hx hb dL_law_800 rfl (lv_at hl 4 rfl) ?_
  refine lv_iload hx hb dL_law_801 (lv_at hl 0 rfl) ?_
  refine lv_iconst (v := (1 : Int32)) hx hb dL_law_803 (by decide) ?_
  refine lv_iadd hx hb dL_law_804 ?_
  refine lc_sld 1 hx hb hXs hbl hbA hS (by decide) (by omega) hL dL_law_805 ?_
  refine lv_aload_n hx hb dL_law_806 rfl (lv_at hl 4 rfl) ?_
  refine lv_iload hx hb dL_law_807 (lv_at hl 0 rfl) ?_
  refine lv_iconst (v := (2 : Int32)) hx hb dL_law_809 (by decide) ?_
  refine lv_iadd hx hb dL_law_810 ?_
  refine lc_sld 2 hx hb hXs hbl hbA hS (by decide) (by omega) hL dL_law_811 ?_
  refine lv_aload_n hx hb dL_law_812 rfl (lv_at hl 4 rfl) ?_
  refine lv_iload hx hb dL_law_813 (lv_at hl 0 rfl) ?_
  refine lv_iconst (v := (3 : Int32)) hx hb dL_law_815 (by decide) ?_
  refine lv_iadd hx hb dL_law_816 ?_
  refine lc_sld 3 hx hb hXs hbl hbA hS (by decide) (by omega) hL dL_law_817 ?_
  refine lv_aload_n hx hb dL_law_818 rfl (lv_at hl 1 rfl) ?_
  refine lc_W (hh := [(0, 12, 15, 18), (0, 12, 19, 13)]) (o' := (if z.1 = 0 then z.2.1.toInt64 else o)) (k := τ1 0 2) (rest := []) [.ref (g.2.2 0), .int (xs (i + 1)), .int (xs (i + 2)), .int (xs (i + 3)), .ref (g.2.2 70)] C hP hD hS hl.1 (cwr_then hXo hst hf1 (fun h => ⟨by rcases hkd with ⟨h1, h2⟩ | ⟨h1, h2⟩ | ⟨h1, h2⟩ <;> first | exact h2 | omega, by rw [if_pos h]⟩) (fun h => ⟨by rcases hkd with ⟨h1, h2⟩ | ⟨h1, h2⟩ | ⟨h1, h2⟩ <;> first | exact h2 | omega, by rw [if_neg (by omega)]⟩) (fun h => ⟨by rcases hkd with ⟨h1, h2⟩ | ⟨h1, h2⟩ | ⟨h1, h2⟩ <;> first | exact h2 | omega, by rw [if_neg (by omega)]⟩)) wa_1028 wa_1026 wa_1027 wa_209 rfl rfl nd_L_then ⟨Nat.le_of_ble_eq_true rfl, Nat.le_of_ble_eq_true rfl⟩ rfl rfl (Nat.le_of_ble_eq_true rfl) dL_law_819 ⟨by show kc + 3 ≤ 601024; omega, by show ks + 18 ≤ 7293034; omega⟩ (fun H locs hP hD hS => ?_)
  refine lv_istore (lv' := [(5, .int (τ1 0 2)), (4, .int (nI i)), (3, .ref (g.2.2 70)), (2, .ref (hm 0)), (1, .ref (g.2.2 0)), (0, .ref b)]) hx hb dL_law_822 hl (by decide) rfl (fun ls hl => ?_)
  refine lv_aload_n hx hb dL_law_824 rfl (lv_at hl 3 rfl) ?_
  refine lv_aload_n hx hb dL_law_825 rfl (lv_at hl 5 rfl) ?_
  refine lv_iload hx hb dL_law_826 (lv_at hl 1 rfl) ?_
  refine lv_iconst (v := (1 : Int32)) hx hb dL_law_828 (by decide) ?_
  refine lv_iadd hx hb dL_law_829 ?_
  refine lc_sld 1 hx hb hXs hbl hbA hS (by decide) (by omega) hL dL_law_830 ?_
  refine lv_aload_n hx hb dL_law_831 rfl (lv_at hl 5 rfl) ?_
  refine lv_iload hx hb dL_law_832 (lv_at hl 1 rfl) ?_
  refine lv_iconst (v := (2 : Int32)) hx hb dL_law_834 (by decide) ?_
  refine lv_iadd hx hb dL_law_835 ?_
  refine lc_sld 2 hx hb hXs hbl hbA hS (by decide) (by omega) hL dL_law_836 ?_
  refine lv_aload_n hx hb dL_law_837 rfl (lv_at hl 5 rfl) ?_
  refine lv_iload hx hb dL_law_838 (lv_at hl 1 rfl) ?_
  refine lv_iconst (v := (3 : Int32)) hx hb dL_law_840 (by decide) ?_
  refine lv_iadd hx hb dL_law_841 ?_
  refine lc_sld 3 hx hb hXs hbl hbA hS (by decide) (by omega) hL dL_law_842 ?_
  refine lc_M (rest := []) [.int (xs (i + 1)), .int (xs (i + 2)), .int (xs (i + 3))] C hXm hP hD hS hl.1 (c_X12_then hXm hf2) (cwA_V 3 hts wa_1039 wa_1036 wa_1037 wa_1038 wa_5 rfl rfl nd_X12_then ⟨Nat.le_of_ble_eq_true rfl, Nat.le_of_ble_eq_true rfl⟩) rfl rfl (Nat.le_of_ble_eq_true rfl) dL_law_843 ⟨by show kc + 3 ≤ 601024; omega, by show ks + 18 ≤ 7293034; omega⟩ (fun H locs hP hD hS => ?_)
  refine lv_istore (lv' := [(6, .int r), (5, .int (τ1 0 2)), (4, .int (nI i)), (3, .ref (g.2.2 70)), (2, .ref (hm 0)), (1, .ref (g.2.2 0)), (0, .ref b)]) hx hb dL_law_846 hl (by decide) rfl (fun ls hl => ?_)
  refine lv_aload_n hx hb dL_law_848 rfl (lv_at hl 4 rfl) ?_
  refine lc_M (rest := []) [] C hXm hP hD hS hl.1 ((c_X12_thrown (N := 0) (z := (τ1 0 2, τ1)) hXm rfl)) (cwA_V 0 hts wa_624 wa_621 wa_622 wa_623 wa_5 rfl rfl nd_X12_thrown ⟨Nat.le_of_ble_eq_true rfl, Nat.le_of_ble_eq_true rfl⟩) rfl rfl (Nat.le_of_ble_eq_true rfl) dL_law_849 ⟨by show kc + 3 ≤ 601024; omega, by show ks + 18 ≤ 7293034; omega⟩ (fun H locs hP hD hS => ?_)
  refine lv_iload hx hb dL_law_852 (lv_at hl 1 rfl) ?_
  refine lv_icmp_eq (tgt := 859) hx hb dL_law_854 (by decide) (fun _ => ?_) (fun t => absurd rfl t)
  refine lv_iload hx hb dL_law_859 (lv_at hl 1 rfl) ?_
  refine lv_if_ne (tgt := 876) hx hb dL_law_861 (by decide) (fun t0 => ?_) (fun t0 => ?_)
  · refine lv_goto (tgt := 2200) hx hb dL_law_876 (by decide) ?_
    refine W.widen (k := kc + 4) (n := ks + 24) (by omega) (by omega) ?_
    exact K _ _ _ _ _ _ hR1 hP hD hS (lv_sub hl [2, 3, 4, 5, 6] rfl)
  · have hz0 : z.1 = 0 := by rcases hkd with ⟨h1, h2⟩ | ⟨h1, h2⟩ | ⟨h1, h2⟩ <;> first | exact h1 | (rw [h2] at t0; exact absurd t0 (by decide))
    refine lv_aload_n hx hb dL_law_864 rfl (lv_at hl 3 rfl) ?_
    refine lv_iconst (v := (0 : Int32)) hx hb dL_law_865 (by decide) ?_
    refine lc_out C hP dL_law_866 ?_
    refine lv_iload hx hb dL_law_867 (lv_at hl 0 rfl) ?_
    refine lv_i2l hx hb dL_law_869 rfl ?_
    refine W.lcmp hx hb dL_law_870 ?_
    refine lv_if_eq (tgt := 876) hx hb dL_law_871 (by decide) (fun _ => ?_) (fun t => absurd (by rw [if_pos hz0, hzr hz0]; exact lg_self _) t)
    refine lv_goto (tgt := 2200) hx hb dL_law_876 (by decide) ?_
    refine W.widen (k := kc + 4) (n := ks + 24) (by omega) (by omega) ?_
    exact K _ _ _ _ _ _ hR1 hP hD hS (lv_sub hl [2, 3, 4, 5, 6] rfl)
set_option maxHeartbeats 8000000 in
set_option maxRecDepth 100000 in
theorem lk_first (ok : Ok_first N Rl) (C : Cx p s m args meth c code 7 ret RL g (fun q => s.heap.size ≤ q) X) (hXm : xOK (gmk g hm) X) (hst : l.stackTraces = false) (hXs : va_X b L xs s s.heap) (hbl : b < s.heap.size) (hR : Rl σ τ) (hi : i + 6 ≤ L) (hL : L ≤ 3072) (hkc : kc + 4 ≤ 601024) (hks : ks + 24 ≤ 7293034) (K : Lk Rl p l e s m args below meth c g hm b i kc ks Q) (hP : va_P g.1 vwCl (lwW g (gmk g hm) σ τ o) H) (hD : va_D (fun q => s.heap.size ≤ q) (lwW g (gmk g hm) σ τ o)) (hS : va_S (fun q => s.heap.size ≤ q) s.heap H locs) (hl : lv_has ls 7 [(4, .int (nI i)), (3, .ref (g.2.2 70)), (2, .ref (hm 0)), (1, .ref (g.2.2 0)), (0, .ref b)]) : W p l e room_1 s m args below meth c H locs kc ks Q (F0 m 879 ls []) := by
  obtain ⟨hx, hb, hr, hml, hown, hts, hK, hlocks, hXX, hA, hXo⟩ := id C
  have hbA : ¬ (fun q : Nat => s.heap.size ≤ q) b := Nat.not_le.mpr hbl
  obtain ⟨z, r, τ1, hf1, hf2, hkd, hzr, hR1⟩ := ok (xs (i + 1)) σ τ hR
  refine lv_aload_n hx hb dL_law_879 rfl (lv_at hl 3 rfl) ?_
  refine lv_aload_n hx hb dL_law_880 rfl (lv_at hl 4 rfl) ?_
  refine lv_iload hx hb dL_law_881 (lv_at hl 0 rfl) ?_
  refine lv_iconst (v := (1 : Int32)) hx hb dL_law_883 (by decide) ?_
  refine lv_iadd hx hb dL_law_884 ?_
  refine lc_sld 1 hx hb hXs hbl hbA hS (by decide) (by omega) hL dL_law_885 ?_
  refine lv_aload_n hx hb dL_law_886 rfl (lv_at hl 1 rfl) ?_
  refine lc_W (hh := [(0, 9, 12, 18)]) (o' := (if z.1 = 0 then z.2.1.toInt64 else o)) (k := τ1 0 2) (rest := []) [.ref (g.2.2 0), .int (xs (i + 1)), .ref (g.2.2 70)] C hP hD hS hl.1 (cwr_first hXo hst hf1 (fun h => ⟨by rcases hkd with ⟨h1, h2⟩ | ⟨h1, h2⟩ <;> first | exact h2 | omega, by rw [if_pos h]⟩) (by rcases hkd with ⟨h1, h2⟩ | ⟨h1, h2⟩ <;> omega) (fun h => ⟨by rcases hkd with ⟨h1, h2⟩ | ⟨h1, h2⟩ <;> first | exact h2 | omega, by rw [if_neg (by omega)]⟩)) wa_1042 wa_1040 wa_1041 wa_209 rfl rfl nd_L_first ⟨Nat.le_of_ble_eq_true rfl, Nat.le_of_ble_eq_true rfl⟩ rfl rfl (Nat.le_of_ble_eq_true rfl) dL_law_887 ⟨by show kc + 1 ≤ 601024; omega, by show ks + 6 ≤ 7293034; omega⟩ (fun H locs hP hD hS => ?_)
  refine lv_istore (lv' := [(5, .int (τ1 0 2)), (4, .int (nI i)), (3, .ref (g.2.2 70)), (2, .ref (hm 0)), (1, .ref (g.2.2 0)), (0, .ref b)]) hx hb dL_law_890 hl (by decide) rfl (fun ls hl => ?_)
  refine lv_aload_n hx hb dL_law_892 rfl (lv_at hl 3 rfl) ?_
  refine lv_aload_n hx hb dL_law_893 rfl (lv_at hl 5 rfl) ?_
  refine lv_iload hx hb dL_law_894 (lv_at hl 1 rfl) ?_
  refine lv_iconst (v := (1 : Int32)) hx hb dL_law_896 (by decide) ?_
  refine lv_iadd hx hb dL_law_897 ?_
  refine lc_sld 1 hx hb hXs hbl hbA hS (by decide) (by omega) hL dL_law_898 ?_
  refine lc_M (rest := []) [.int (xs (i + 1))] C hXm hP hD hS hl.1 (c_X12_first hXm hf2) (cwA_V 1 hts wa_1055 wa_1052 wa_1053 wa_1054 wa_5 rfl rfl nd_X12_first ⟨Nat.le_of_ble_eq_true rfl, Nat.le_of_ble_eq_true rfl⟩) rfl rfl (Nat.le_of_ble_eq_true rfl) dL_law_899 ⟨by show kc + 1 ≤ 601024; omega, by show ks + 6 ≤ 7293034; omega⟩ (fun H locs hP hD hS => ?_)
  refine lv_istore (lv' := [(6, .int r), (5, .int (τ1 0 2)), (4, .int (nI i)), (3, .ref (g.2.2 70)), (2, .ref (hm 0)), (1, .ref (g.2.2 0)), (0, .ref b)]) hx hb dL_law_902 hl (by decide) rfl (fun ls hl => ?_)
  refine lv_aload_n hx hb dL_law_904 rfl (lv_at hl 4 rfl) ?_
  refine lc_M (rest := []) [] C hXm hP hD hS hl.1 ((c_X12_thrown (N := 0) (z := (τ1 0 2, τ1)) hXm rfl)) (cwA_V 0 hts wa_624 wa_621 wa_622 wa_623 wa_5 rfl rfl nd_X12_thrown ⟨Nat.le_of_ble_eq_true rfl, Nat.le_of_ble_eq_true rfl⟩) rfl rfl (Nat.le_of_ble_eq_true rfl) dL_law_905 ⟨by show kc + 1 ≤ 601024; omega, by show ks + 6 ≤ 7293034; omega⟩ (fun H locs hP hD hS => ?_)
  refine lv_iload hx hb dL_law_908 (lv_at hl 1 rfl) ?_
  refine lv_icmp_eq (tgt := 915) hx hb dL_law_910 (by decide) (fun _ => ?_) (fun t => absurd rfl t)
  refine lv_iload hx hb dL_law_915 (lv_at hl 1 rfl) ?_
  refine lv_if_ne (tgt := 932) hx hb dL_law_917 (by decide) (fun t0 => ?_) (fun t0 => ?_)
  · refine lv_goto (tgt := 2200) hx hb dL_law_932 (by decide) ?_
    refine W.widen (k := kc + 4) (n := ks + 24) (by omega) (by omega) ?_
    exact K _ _ _ _ _ _ hR1 hP hD hS (lv_sub hl [2, 3, 4, 5, 6] rfl)
  · have hz0 : z.1 = 0 := by rcases hkd with ⟨h1, h2⟩ | ⟨h1, h2⟩ <;> first | exact h1 | (rw [h2] at t0; exact absurd t0 (by decide))
    refine lv_aload_n hx hb dL_law_920 rfl (lv_at hl 3 rfl) ?_
    refine lv_iconst (v := (0 : Int32)) hx hb dL_law_921 (by decide) ?_
    refine lc_out C hP dL_law_922 ?_
    refine lv_iload hx hb dL_law_923 (lv_at hl 0 rfl) ?_
    refine lv_i2l hx hb dL_law_925 rfl ?_
    refine W.lcmp hx hb dL_law_926 ?_
    refine lv_if_eq (tgt := 932) hx hb dL_law_927 (by decide) (fun _ => ?_) (fun t => absurd (by rw [if_pos hz0, hzr hz0]; exact lg_self _) t)
    refine lv_goto (tgt := 2200) hx hb dL_law_932 (by decide) ?_
    refine W.widen (k := kc + 4) (n := ks + 24) (by omega) (by omega) ?_
    exact K _ _ _ _ _ _ hR1 hP hD hS (lv_sub hl [2, 3, 4, 5, 6] rfl)
set_option maxHeartbeats 8000000 in
set_option maxRecDepth 100000 in
theorem lk_still (ok : Ok_still N Rl) (C : Cx p s m args meth c code 7 ret RL g (fun q => s.heap.size ≤ q) X) (hXm : xOK (gmk g hm) X) (hst : l.stackTraces = false) (hXs : va_X b L xs s s.heap) (hbl : b < s.heap.size) (hR : Rl σ τ) (hi : i + 6 ≤ L) (hL : L ≤ 3072) (hkc : kc + 4 ≤ 601024) (hks : ks + 24 ≤ 7293034) (K : Lk Rl p l e s m args below meth c g hm b i kc ks Q) (hP : va_P g.1 vwCl (lwW g (gmk g hm) σ τ o) H) (hD : va_D (fun q => s.heap.size ≤ q) (lwW g (gmk g hm) σ τ o)) (hS : va_S (fun q => s.heap.size ≤ q) s.heap H locs) (hl : lv_has ls 7 [(4, .int (nI i)), (3, .ref (g.2.2 70)), (2, .ref (hm 0)), (1, .ref (g.2.2 0)), (0, .ref b)]) : W p l e room_1 s m args below meth c H locs kc ks Q (F0 m 935 ls []) := by
  obtain ⟨hx, hb, hr, hml, hown, hts, hK, hlocks, hXX, hA, hXo⟩ := id C
  have hbA : ¬ (fun q : Nat => s.heap.size ≤ q) b := Nat.not_le.mpr hbl
  obtain ⟨r, σ1, τ1, hf1, hf2, hR1⟩ := ok σ τ hR
  refine lv_aload_n hx hb dL_law_935 rfl (lv_at hl 3 rfl) ?_
  refine lc_X (rest := []) [] C hP hD hS hl.1 (c_X11_still_0 hXo hf1) (cwA_V 0 hts wa_1059 wa_1056 wa_1057 wa_1058 wa_2 rfl rfl nd_X11_still ⟨Nat.le_of_ble_eq_true rfl, Nat.le_of_ble_eq_true rfl⟩) rfl rfl (Nat.le_of_ble_eq_true rfl) dL_law_936 ⟨by show kc + 0 ≤ 601024; omega, by show ks + 0 ≤ 7293034; omega⟩ (fun H locs hP hD hS => ?_)
  refine lv_aload_n hx hb dL_law_939 rfl (lv_at hl 2 rfl) ?_
  refine lc_M (rest := [.int r]) [] C hXm hP hD hS hl.1 (c_X12_still hXm hf2) (cwA_V 0 hts wa_1063 wa_1060 wa_1061 wa_1062 wa_5 rfl rfl nd_X12_still ⟨Nat.le_of_ble_eq_true rfl, Nat.le_of_ble_eq_true rfl⟩) rfl rfl (Nat.le_of_ble_eq_true rfl) dL_law_940 ⟨by show kc + 0 ≤ 601024; omega, by show ks + 0 ≤ 7293034; omega⟩ (fun H locs hP hD hS => ?_)
  refine lv_icmp_eq (tgt := 2200) hx hb dL_law_943 (by decide) (fun _ => ?_) (fun t => absurd rfl t)
  refine W.widen (k := kc + 4) (n := ks + 24) (by omega) (by omega) ?_
  exact K _ _ _ _ _ _ hR1 hP hD hS (lv_sub hl [0, 1, 2, 3, 4] rfl)
set_option maxHeartbeats 8000000 in
set_option maxRecDepth 100000 in
theorem lk_loudest (ok : Ok_loudest N Rl) (C : Cx p s m args meth c code 7 ret RL g (fun q => s.heap.size ≤ q) X) (hXm : xOK (gmk g hm) X) (hst : l.stackTraces = false) (hXs : va_X b L xs s s.heap) (hbl : b < s.heap.size) (hR : Rl σ τ) (hi : i + 6 ≤ L) (hL : L ≤ 3072) (hkc : kc + 4 ≤ 601024) (hks : ks + 24 ≤ 7293034) (K : Lk Rl p l e s m args below meth c g hm b i kc ks Q) (hP : va_P g.1 vwCl (lwW g (gmk g hm) σ τ o) H) (hD : va_D (fun q => s.heap.size ≤ q) (lwW g (gmk g hm) σ τ o)) (hS : va_S (fun q => s.heap.size ≤ q) s.heap H locs) (hl : lv_has ls 7 [(4, .int (nI i)), (3, .ref (g.2.2 70)), (2, .ref (hm 0)), (1, .ref (g.2.2 0)), (0, .ref b)]) : W p l e room_1 s m args below meth c H locs kc ks Q (F0 m 948 ls []) := by
  obtain ⟨hx, hb, hr, hml, hown, hts, hK, hlocks, hXX, hA, hXo⟩ := id C
  have hbA : ¬ (fun q : Nat => s.heap.size ≤ q) b := Nat.not_le.mpr hbl
  obtain ⟨z, r, τ1, hf1, hf2, hkd, hzr, hR1⟩ := ok (xs (i + 1)) σ τ hR
  refine lv_aload_n hx hb dL_law_948 rfl (lv_at hl 3 rfl) ?_
  refine lv_aload_n hx hb dL_law_949 rfl (lv_at hl 4 rfl) ?_
  refine lv_iload hx hb dL_law_950 (lv_at hl 0 rfl) ?_
  refine lv_iconst (v := (1 : Int32)) hx hb dL_law_952 (by decide) ?_
  refine lv_iadd hx hb dL_law_953 ?_
  refine lc_sld 1 hx hb hXs hbl hbA hS (by decide) (by omega) hL dL_law_954 ?_
  refine lv_aload_n hx hb dL_law_955 rfl (lv_at hl 1 rfl) ?_
  refine lc_W (hh := [(0, 9, 12, 13)]) (o' := (if z.1 = 0 then z.2.1.toInt64 else o)) (k := τ1 0 2) (rest := []) [.ref (g.2.2 0), .int (xs (i + 1)), .ref (g.2.2 70)] C hP hD hS hl.1 (cwr_loudest hXo hst hf1 (fun h => ⟨by rcases hkd with ⟨h1, h2⟩ | ⟨h1, h2⟩ <;> first | exact h2 | omega, by rw [if_pos h]⟩) (by rcases hkd with ⟨h1, h2⟩ | ⟨h1, h2⟩ <;> omega) (fun h => ⟨by rcases hkd with ⟨h1, h2⟩ | ⟨h1, h2⟩ <;> first | exact h2 | omega, by rw [if_neg (by omega)]⟩)) wa_1066 wa_1064 wa_1065 wa_209 rfl rfl nd_L_loudest ⟨Nat.le_of_ble_eq_true rfl, Nat.le_of_ble_eq_true rfl⟩ rfl rfl (Nat.le_of_ble_eq_true rfl) dL_law_956 ⟨by show kc + 1 ≤ 601024; omega, by show ks + 6 ≤ 7293034; omega⟩ (fun H locs hP hD hS => ?_)
  refine lv_istore (lv' := [(5, .int (τ1 0 2)), (4, .int (nI i)), (3, .ref (g.2.2 70)), (2, .ref (hm 0)), (1, .ref (g.2.2 0)), (0, .ref b)]) hx hb dL_law_959 hl (by decide) rfl (fun ls hl => ?_)
  refine lv_aload_n hx hb dL_law_961 rfl (lv_at hl 3 rfl) ?_
  refine lv_aload_n hx hb dL_law_962 rfl (lv_at hl 5 rfl) ?_
  refine lv_iload hx hb dL_law_963 (lv_at hl 1 rfl) ?_
  refine lv_iconst (v := (1 : Int32)) hx hb dL_law_965 (by decide) ?_
  refine lv_iadd hx hb dL_law_966 ?_
  refine lc_sld 1 hx hb hXs hbl hbA hS (by decide) (by omega) hL dL_law_967 ?_
  refine lc_M (rest := []) [.int (xs (i + 1))] C hXm hP hD hS hl.1 (c_X12_loudest hXm hf2) (cwA_V 1 hts wa_1075 wa_1072 wa_1073 wa_1074 wa_5 rfl rfl nd_X12_loudest ⟨Nat.le_of_ble_eq_true rfl, Nat.le_of_ble_eq_true rfl⟩) rfl rfl (Nat.le_of_ble_eq_true rfl) dL_law_968 ⟨by show kc + 1 ≤ 601024; omega, by show ks + 6 ≤ 7293034; omega⟩ (fun H locs hP hD hS => ?_)
  refine lv_istore (lv' := [(6, .int r), (5, .int (τ1 0 2)), (4, .int (nI i)), (3, .ref (g.2.2 70)), (2, .ref (hm 0)), (1, .ref (g.2.2 0)), (0, .ref b)]) hx hb dL_law_971 hl (by decide) rfl (fun ls hl => ?_)
  refine lv_aload_n hx hb dL_law_973 rfl (lv_at hl 4 rfl) ?_
  refine lc_M (rest := []) [] C hXm hP hD hS hl.1 ((c_X12_thrown (N := 0) (z := (τ1 0 2, τ1)) hXm rfl)) (cwA_V 0 hts wa_624 wa_621 wa_622 wa_623 wa_5 rfl rfl nd_X12_thrown ⟨Nat.le_of_ble_eq_true rfl, Nat.le_of_ble_eq_true rfl⟩) rfl rfl (Nat.le_of_ble_eq_true rfl) dL_law_974 ⟨by show kc + 1 ≤ 601024; omega, by show ks + 6 ≤ 7293034; omega⟩ (fun H locs hP hD hS => ?_)
  refine lv_iload hx hb dL_law_977 (lv_at hl 1 rfl) ?_
  refine lv_icmp_eq (tgt := 984) hx hb dL_law_979 (by decide) (fun _ => ?_) (fun t => absurd rfl t)
  refine lv_iload hx hb dL_law_984 (lv_at hl 1 rfl) ?_
  refine lv_if_ne (tgt := 1001) hx hb dL_law_986 (by decide) (fun t0 => ?_) (fun t0 => ?_)
  · refine lv_goto (tgt := 2200) hx hb dL_law_1001 (by decide) ?_
    refine W.widen (k := kc + 4) (n := ks + 24) (by omega) (by omega) ?_
    exact K _ _ _ _ _ _ hR1 hP hD hS (lv_sub hl [2, 3, 4, 5, 6] rfl)
  · have hz0 : z.1 = 0 := by rcases hkd with ⟨h1, h2⟩ | ⟨h1, h2⟩ <;> first | exact h1 | (rw [h2] at t0; exact absurd t0 (by decide))
    refine lv_aload_n hx hb dL_law_989 rfl (lv_at hl 3 rfl) ?_
    refine lv_iconst (v := (0 : Int32)) hx hb dL_law_990 (by decide) ?_
    refine lc_out C hP dL_law_991 ?_
    refine lv_iload hx hb dL_law_992 (lv_at hl 0 rfl) ?_
    refine lv_i2l hx hb dL_law_994 rfl ?_
    refine W.lcmp hx hb dL_law_995 ?_
    refine lv_if_eq (tgt := 1001) hx hb dL_law_996 (by decide) (fun _ => ?_) (fun t => absurd (by rw [if_pos hz0, hzr hz0]; exact lg_self _) t)
    refine lv_goto (tgt := 2200) hx hb dL_law_1001 (by decide) ?_
    refine W.widen (k := kc + 4) (n := ks + 24) (by omega) (by omega) ?_
    exact K _ _ _ _ _ _ hR1 hP hD hS (lv_sub hl [2, 3, 4, 5, 6] rfl)
set_option maxHeartbeats 8000000 in
set_option maxRecDepth 100000 in
theorem lk_oftenest (ok : Ok_oftenest N Rl) (C : Cx p s m args meth c code 7 ret RL g (fun q => s.heap.size ≤ q) X) (hXm : xOK (gmk g hm) X) (hst : l.stackTraces = false) (hXs : va_X b L xs s s.heap) (hbl : b < s.heap.size) (hR : Rl σ τ) (hi : i + 6 ≤ L) (hL : L ≤ 3072) (hkc : kc + 4 ≤ 601024) (hks : ks + 24 ≤ 7293034) (K : Lk Rl p l e s m args below meth c g hm b i kc ks Q) (hP : va_P g.1 vwCl (lwW g (gmk g hm) σ τ o) H) (hD : va_D (fun q => s.heap.size ≤ q) (lwW g (gmk g hm) σ τ o)) (hS : va_S (fun q => s.heap.size ≤ q) s.heap H locs) (hl : lv_has ls 7 [(4, .int (nI i)), (3, .ref (g.2.2 70)), (2, .ref (hm 0)), (1, .ref (g.2.2 0)), (0, .ref b)]) : W p l e room_1 s m args below meth c H locs kc ks Q (F0 m 1004 ls []) := by
  obtain ⟨hx, hb, hr, hml, hown, hts, hK, hlocks, hXX, hA, hXo⟩ := id C
  have hbA : ¬ (fun q : Nat => s.heap.size ≤ q) b := Nat.not_le.mpr hbl
  obtain ⟨z, r, τ1, hf1, hf2, hkd, hzr, hR1⟩ := ok (xs (i + 1)) σ τ hR
  refine lv_aload_n hx hb dL_law_1004 rfl (lv_at hl 3 rfl) ?_
  refine lv_aload_n hx hb dL_law_1005 rfl (lv_at hl 4 rfl) ?_
  refine lv_iload hx hb dL_law_1006 (lv_at hl 0 rfl) ?_
  refine lv_iconst (v := (1 : Int32)) hx hb dL_law_1008 (by decide) ?_
  refine lv_iadd hx hb dL_law_1009 ?_
  refine lc_sld 1 hx hb hXs hbl hbA hS (by decide) (by omega) hL dL_law_1010 ?_
  refine lv_aload_n hx hb dL_law_1011 rfl (lv_at hl 1 rfl) ?_
  refine lc_W (hh := [(0, 9, 12, 13)]) (o' := (if z.1 = 0 then z.2.1.toInt64 else o)) (k := τ1 0 2) (rest := []) [.ref (g.2.2 0), .int (xs (i + 1)), .ref (g.2.2 70)] C hP hD hS hl.1 (cwr_oftenest hXo hst hf1 (fun h => ⟨by rcases hkd with ⟨h1, h2⟩ | ⟨h1, h2⟩ <;> first | exact h2 | omega, by rw [if_pos h]⟩) (by rcases hkd with ⟨h1, h2⟩ | ⟨h1, h2⟩ <;> omega) (fun h => ⟨by rcases hkd with ⟨h1, h2⟩ | ⟨h1, h2⟩ <;> first | exact h2 | omega, by rw [if_neg (by omega)]⟩)) wa_1078 wa_1076 wa_1077 wa_209 rfl rfl nd_L_oftenest ⟨Nat.le_of_ble_eq_true rfl, Nat.le_of_ble_eq_true rfl⟩ rfl rfl (Nat.le_of_ble_eq_true rfl) dL_law_1012 ⟨by show kc + 1 ≤ 601024; omega, by show ks + 6 ≤ 7293034; omega⟩ (fun H locs hP hD hS => ?_)
  refine lv_istore (lv' := [(5, .int (τ1 0 2)), (4, .int (nI i)), (3, .ref (g.2.2 70)), (2, .ref (hm 0)), (1, .ref (g.2.2 0)), (0, .ref b)]) hx hb dL_law_1015 hl (by decide) rfl (fun ls hl => ?_)
  refine lv_aload_n hx hb dL_law_1017 rfl (lv_at hl 3 rfl) ?_
  refine lv_aload_n hx hb dL_law_1018 rfl (lv_at hl 5 rfl) ?_
  refine lv_iload hx hb dL_law_1019 (lv_at hl 1 rfl) ?_
  refine lv_iconst (v := (1 : Int32)) hx hb dL_law_1021 (by decide) ?_
  refine lv_iadd hx hb dL_law_1022 ?_
  refine lc_sld 1 hx hb hXs hbl hbA hS (by decide) (by omega) hL dL_law_1023 ?_
  refine lc_M (rest := []) [.int (xs (i + 1))] C hXm hP hD hS hl.1 (c_X12_oftenest hXm hf2) (cwA_V 1 hts wa_1087 wa_1084 wa_1085 wa_1086 wa_5 rfl rfl nd_X12_oftenest ⟨Nat.le_of_ble_eq_true rfl, Nat.le_of_ble_eq_true rfl⟩) rfl rfl (Nat.le_of_ble_eq_true rfl) dL_law_1024 ⟨by show kc + 1 ≤ 601024; omega, by show ks + 6 ≤ 7293034; omega⟩ (fun H locs hP hD hS => ?_)
  refine lv_istore (lv' := [(6, .int r), (5, .int (τ1 0 2)), (4, .int (nI i)), (3, .ref (g.2.2 70)), (2, .ref (hm 0)), (1, .ref (g.2.2 0)), (0, .ref b)]) hx hb dL_law_1027 hl (by decide) rfl (fun ls hl => ?_)
  refine lv_aload_n hx hb dL_law_1029 rfl (lv_at hl 4 rfl) ?_
  refine lc_M (rest := []) [] C hXm hP hD hS hl.1 ((c_X12_thrown (N := 0) (z := (τ1 0 2, τ1)) hXm rfl)) (cwA_V 0 hts wa_624 wa_621 wa_622 wa_623 wa_5 rfl rfl nd_X12_thrown ⟨Nat.le_of_ble_eq_true rfl, Nat.le_of_ble_eq_true rfl⟩) rfl rfl (Nat.le_of_ble_eq_true rfl) dL_law_1030 ⟨by show kc + 1 ≤ 601024; omega, by show ks + 6 ≤ 7293034; omega⟩ (fun H locs hP hD hS => ?_)
  refine lv_iload hx hb dL_law_1033 (lv_at hl 1 rfl) ?_
  refine lv_icmp_eq (tgt := 1040) hx hb dL_law_1035 (by decide) (fun _ => ?_) (fun t => absurd rfl t)
  refine lv_iload hx hb dL_law_1040 (lv_at hl 1 rfl) ?_
  refine lv_if_ne (tgt := 1057) hx hb dL_law_1042 (by decide) (fun t0 => ?_) (fun t0 => ?_)
  · refine lv_goto (tgt := 2200) hx hb dL_law_1057 (by decide) ?_
    refine W.widen (k := kc + 4) (n := ks + 24) (by omega) (by omega) ?_
    exact K _ _ _ _ _ _ hR1 hP hD hS (lv_sub hl [2, 3, 4, 5, 6] rfl)
  · have hz0 : z.1 = 0 := by rcases hkd with ⟨h1, h2⟩ | ⟨h1, h2⟩ <;> first | exact h1 | (rw [h2] at t0; exact absurd t0 (by decide))
    refine lv_aload_n hx hb dL_law_1045 rfl (lv_at hl 3 rfl) ?_
    refine lv_iconst (v := (0 : Int32)) hx hb dL_law_1046 (by decide) ?_
    refine lc_out C hP dL_law_1047 ?_
    refine lv_iload hx hb dL_law_1048 (lv_at hl 0 rfl) ?_
    refine lv_i2l hx hb dL_law_1050 rfl ?_
    refine W.lcmp hx hb dL_law_1051 ?_
    refine lv_if_eq (tgt := 1057) hx hb dL_law_1052 (by decide) (fun _ => ?_) (fun t => absurd (by rw [if_pos hz0, hzr hz0]; exact lg_self _) t)
    refine lv_goto (tgt := 2200) hx hb dL_law_1057 (by decide) ?_
    refine W.widen (k := kc + 4) (n := ks + 24) (by omega) (by omega) ?_
    exact K _ _ _ _ _ _ hR1 hP hD hS (lv_sub hl [2, 3, 4, 5, 6] rfl)
set_option maxHeartbeats 8000000 in
set_option maxRecDepth 100000 in
theorem lk_reaches (ok : Ok_reaches N Rl) (C : Cx p s m args meth c code 7 ret RL g (fun q => s.heap.size ≤ q) X) (hXm : xOK (gmk g hm) X) (hst : l.stackTraces = false) (hXs : va_X b L xs s s.heap) (hbl : b < s.heap.size) (hR : Rl σ τ) (hi : i + 6 ≤ L) (hL : L ≤ 3072) (hkc : kc + 4 ≤ 601024) (hks : ks + 24 ≤ 7293034) (K : Lk Rl p l e s m args below meth c g hm b i kc ks Q) (hP : va_P g.1 vwCl (lwW g (gmk g hm) σ τ o) H) (hD : va_D (fun q => s.heap.size ≤ q) (lwW g (gmk g hm) σ τ o)) (hS : va_S (fun q => s.heap.size ≤ q) s.heap H locs) (hl : lv_has ls 7 [(4, .int (nI i)), (3, .ref (g.2.2 70)), (2, .ref (hm 0)), (1, .ref (g.2.2 0)), (0, .ref b)]) : W p l e room_1 s m args below meth c H locs kc ks Q (F0 m 1060 ls []) := by
  obtain ⟨hx, hb, hr, hml, hown, hts, hK, hlocks, hXX, hA, hXo⟩ := id C
  have hbA : ¬ (fun q : Nat => s.heap.size ≤ q) b := Nat.not_le.mpr hbl
  obtain ⟨z, r, τ1, hf1, hf2, hkd, hzr, hR1⟩ := ok (xs (i + 1)) (xs (i + 2)) σ τ hR
  refine lv_aload_n hx hb dL_law_1060 rfl (lv_at hl 3 rfl) ?_
  refine lv_aload_n hx hb dL_law_1061 rfl (lv_at hl 4 rfl) ?_
  refine lv_iload hx hb dL_law_1062 (lv_at hl 0 rfl) ?_
  refine lv_iconst (v := (1 : Int32)) hx hb dL_law_1064 (by decide) ?_
  refine lv_iadd hx hb dL_law_1065 ?_
  refine lc_sld 1 hx hb hXs hbl hbA hS (by decide) (by omega) hL dL_law_1066 ?_
  refine lv_aload_n hx hb dL_law_1067 rfl (lv_at hl 4 rfl) ?_
  refine lv_iload hx hb dL_law_1068 (lv_at hl 0 rfl) ?_
  refine lv_iconst (v := (2 : Int32)) hx hb dL_law_1070 (by decide) ?_
  refine lv_iadd hx hb dL_law_1071 ?_
  refine lc_sld 2 hx hb hXs hbl hbA hS (by decide) (by omega) hL dL_law_1072 ?_
  refine lv_aload_n hx hb dL_law_1073 rfl (lv_at hl 1 rfl) ?_
  refine lc_W (hh := [(0, 10, 13, 18)]) (o' := (if z.1 = 0 then z.2.1.toInt64 else o)) (k := τ1 0 2) (rest := []) [.ref (g.2.2 0), .int (xs (i + 1)), .int (xs (i + 2)), .ref (g.2.2 70)] C hP hD hS hl.1 (cwr_reaches hXo hst hf1 (fun h => ⟨by rcases hkd with ⟨h1, h2⟩ | ⟨h1, h2⟩ <;> first | exact h2 | omega, by rw [if_pos h]⟩) (by rcases hkd with ⟨h1, h2⟩ | ⟨h1, h2⟩ <;> omega) (fun h => ⟨by rcases hkd with ⟨h1, h2⟩ | ⟨h1, h2⟩ <;> first | exact h2 | omega, by rw [if_neg (by omega)]⟩)) wa_1090 wa_1088 wa_1089 wa_209 rfl rfl nd_L_reaches ⟨Nat.le_of_ble_eq_true rfl, Nat.le_of_ble_eq_true rfl⟩ rfl rfl (Nat.le_of_ble_eq_true rfl) dL_law_1074 ⟨by show kc + 2 ≤ 601024; omega, by show ks + 12 ≤ 7293034; omega⟩ (fun H locs hP hD hS => ?_)
  refine lv_istore (lv' := [(5, .int (τ1 0 2)), (4, .int (nI i)), (3, .ref (g.2.2 70)), (2, .ref (hm 0)), (1, .ref (g.2.2 0)), (0, .ref b)]) hx hb dL_law_1077 hl (by decide) rfl (fun ls hl => ?_)
  refine lv_aload_n hx hb dL_law_1079 rfl (lv_at hl 3 rfl) ?_
  refine lv_aload_n hx hb dL_law_1080 rfl (lv_at hl 5 rfl) ?_
  refine lv_iload hx hb dL_law_1081 (lv_at hl 1 rfl) ?_
  refine lv_iconst (v := (1 : Int32)) hx hb dL_law_1083 (by decide) ?_
  refine lv_iadd hx hb dL_law_1084 ?_
  refine lc_sld 1 hx hb hXs hbl hbA hS (by decide) (by omega) hL dL_law_1085 ?_
  refine lv_aload_n hx hb dL_law_1086 rfl (lv_at hl 5 rfl) ?_
  refine lv_iload hx hb dL_law_1087 (lv_at hl 1 rfl) ?_
  refine lv_iconst (v := (2 : Int32)) hx hb dL_law_1089 (by decide) ?_
  refine lv_iadd hx hb dL_law_1090 ?_
  refine lc_sld 2 hx hb hXs hbl hbA hS (by decide) (by omega) hL dL_law_1091 ?_
  refine lc_M (rest := []) [.int (xs (i + 1)), .int (xs (i + 2))] C hXm hP hD hS hl.1 (c_X12_reaches hXm hf2) (cwA_V 2 hts wa_1109 wa_1106 wa_1107 wa_1108 wa_5 rfl rfl nd_X12_reaches ⟨Nat.le_of_ble_eq_true rfl, Nat.le_of_ble_eq_true rfl⟩) rfl rfl (Nat.le_of_ble_eq_true rfl) dL_law_1092 ⟨by show kc + 2 ≤ 601024; omega, by show ks + 12 ≤ 7293034; omega⟩ (fun H locs hP hD hS => ?_)
  refine lv_istore (lv' := [(6, .int r), (5, .int (τ1 0 2)), (4, .int (nI i)), (3, .ref (g.2.2 70)), (2, .ref (hm 0)), (1, .ref (g.2.2 0)), (0, .ref b)]) hx hb dL_law_1095 hl (by decide) rfl (fun ls hl => ?_)
  refine lv_aload_n hx hb dL_law_1097 rfl (lv_at hl 4 rfl) ?_
  refine lc_M (rest := []) [] C hXm hP hD hS hl.1 ((c_X12_thrown (N := 0) (z := (τ1 0 2, τ1)) hXm rfl)) (cwA_V 0 hts wa_624 wa_621 wa_622 wa_623 wa_5 rfl rfl nd_X12_thrown ⟨Nat.le_of_ble_eq_true rfl, Nat.le_of_ble_eq_true rfl⟩) rfl rfl (Nat.le_of_ble_eq_true rfl) dL_law_1098 ⟨by show kc + 2 ≤ 601024; omega, by show ks + 12 ≤ 7293034; omega⟩ (fun H locs hP hD hS => ?_)
  refine lv_iload hx hb dL_law_1101 (lv_at hl 1 rfl) ?_
  refine lv_icmp_eq (tgt := 1108) hx hb dL_law_1103 (by decide) (fun _ => ?_) (fun t => absurd rfl t)
  refine lv_iload hx hb dL_law_1108 (lv_at hl 1 rfl) ?_
  refine lv_if_ne (tgt := 1125) hx hb dL_law_1110 (by decide) (fun t0 => ?_) (fun t0 => ?_)
  · refine lv_goto (tgt := 2200) hx hb dL_law_1125 (by decide) ?_
    refine W.widen (k := kc + 4) (n := ks + 24) (by omega) (by omega) ?_
    exact K _ _ _ _ _ _ hR1 hP hD hS (lv_sub hl [2, 3, 4, 5, 6] rfl)
  · have hz0 : z.1 = 0 := by rcases hkd with ⟨h1, h2⟩ | ⟨h1, h2⟩ <;> first | exact h1 | (rw [h2] at t0; exact absurd t0 (by decide))
    refine lv_aload_n hx hb dL_law_1113 rfl (lv_at hl 3 rfl) ?_
    refine lv_iconst (v := (0 : Int32)) hx hb dL_law_1114 (by decide) ?_
    refine lc_out C hP dL_law_1115 ?_
    refine lv_iload hx hb dL_law_1116 (lv_at hl 0 rfl) ?_
    refine lv_i2l hx hb dL_law_1118 rfl ?_
    refine W.lcmp hx hb dL_law_1119 ?_
    refine lv_if_eq (tgt := 1125) hx hb dL_law_1120 (by decide) (fun _ => ?_) (fun t => absurd (by rw [if_pos hz0, hzr hz0]; exact lg_self _) t)
    refine lv_goto (tgt := 2200) hx hb dL_law_1125 (by decide) ?_
    refine W.widen (k := kc + 4) (n := ks + 24) (by omega) (by omega) ?_
    exact K _ _ _ _ _ _ hR1 hP hD hS (lv_sub hl [2, 3, 4, 5, 6] rfl)
set_option maxHeartbeats 8000000 in
set_option maxRecDepth 100000 in
theorem lk_reached (ok : Ok_reached N Rl) (C : Cx p s m args meth c code 7 ret RL g (fun q => s.heap.size ≤ q) X) (hXm : xOK (gmk g hm) X) (hst : l.stackTraces = false) (hXs : va_X b L xs s s.heap) (hbl : b < s.heap.size) (hR : Rl σ τ) (hi : i + 6 ≤ L) (hL : L ≤ 3072) (hkc : kc + 4 ≤ 601024) (hks : ks + 24 ≤ 7293034) (K : Lk Rl p l e s m args below meth c g hm b i kc ks Q) (hP : va_P g.1 vwCl (lwW g (gmk g hm) σ τ o) H) (hD : va_D (fun q => s.heap.size ≤ q) (lwW g (gmk g hm) σ τ o)) (hS : va_S (fun q => s.heap.size ≤ q) s.heap H locs) (hl : lv_has ls 7 [(4, .int (nI i)), (3, .ref (g.2.2 70)), (2, .ref (hm 0)), (1, .ref (g.2.2 0)), (0, .ref b)]) : W p l e room_1 s m args below meth c H locs kc ks Q (F0 m 1128 ls []) := by
  obtain ⟨hx, hb, hr, hml, hown, hts, hK, hlocks, hXX, hA, hXo⟩ := id C
  have hbA : ¬ (fun q : Nat => s.heap.size ≤ q) b := Nat.not_le.mpr hbl
  obtain ⟨z, r, τ1, hf1, hf2, hkd, hzr, hR1⟩ := ok (xs (i + 1)) (xs (i + 2)) σ τ hR
  refine lv_aload_n hx hb dL_law_1128 rfl (lv_at hl 3 rfl) ?_
  refine lv_aload_n hx hb dL_law_1129 rfl (lv_at hl 4 rfl) ?_
  refine lv_iload hx hb dL_law_1130 (lv_at hl 0 rfl) ?_
  refine lv_iconst (v := (1 : Int32)) hx hb dL_law_1132 (by decide) ?_
  refine lv_iadd hx hb dL_law_1133 ?_
  refine lc_sld 1 hx hb hXs hbl hbA hS (by decide) (by omega) hL dL_law_1134 ?_
  refine lv_aload_n hx hb dL_law_1135 rfl (lv_at hl 4 rfl) ?_
  refine lv_iload hx hb dL_law_1136 (lv_at hl 0 rfl) ?_
  refine lv_iconst (v := (2 : Int32)) hx hb dL_law_1138 (by decide) ?_
  refine lv_iadd hx hb dL_law_1139 ?_
  refine lc_sld 2 hx hb hXs hbl hbA hS (by decide) (by omega) hL dL_law_1140 ?_
  refine lv_aload_n hx hb dL_law_1141 rfl (lv_at hl 1 rfl) ?_
  refine lc_W (hh := [(0, 10, 13, 18), (0, 10, 17, 13)]) (o' := (if z.1 = 0 then z.2.1.toInt64 else o)) (k := τ1 0 2) (rest := []) [.ref (g.2.2 0), .int (xs (i + 1)), .int (xs (i + 2)), .ref (g.2.2 70)] C hP hD hS hl.1 (cwr_reached hXo hst hf1 (fun h => ⟨by rcases hkd with ⟨h1, h2⟩ | ⟨h1, h2⟩ | ⟨h1, h2⟩ <;> first | exact h2 | omega, by rw [if_pos h]⟩) (fun h => ⟨by rcases hkd with ⟨h1, h2⟩ | ⟨h1, h2⟩ | ⟨h1, h2⟩ <;> first | exact h2 | omega, by rw [if_neg (by omega)]⟩) (fun h => ⟨by rcases hkd with ⟨h1, h2⟩ | ⟨h1, h2⟩ | ⟨h1, h2⟩ <;> first | exact h2 | omega, by rw [if_neg (by omega)]⟩)) wa_1120 wa_1118 wa_1119 wa_209 rfl rfl nd_L_reached ⟨Nat.le_of_ble_eq_true rfl, Nat.le_of_ble_eq_true rfl⟩ rfl rfl (Nat.le_of_ble_eq_true rfl) dL_law_1142 ⟨by show kc + 2 ≤ 601024; omega, by show ks + 12 ≤ 7293034; omega⟩ (fun H locs hP hD hS => ?_)
  refine lv_istore (lv' := [(5, .int (τ1 0 2)), (4, .int (nI i)), (3, .ref (g.2.2 70)), (2, .ref (hm 0)), (1, .ref (g.2.2 0)), (0, .ref b)]) hx hb dL_law_1145 hl (by decide) rfl (fun ls hl => ?_)
  refine lv_aload_n hx hb dL_law_1147 rfl (lv_at hl 3 rfl) ?_
  refine lv_aload_n hx hb dL_law_1148 rfl (lv_at hl 5 rfl) ?_
  refine lv_iload hx hb dL_law_1149 (lv_at hl 1 rfl) ?_
  refine lv_iconst (v := (1 : Int32)) hx hb dL_law_1151 (by decide) ?_
  refine lv_iadd hx hb dL_law_1152 ?_
  refine lc_sld 1 hx hb hXs hbl hbA hS (by decide) (by omega) hL dL_law_1153 ?_
  refine lv_aload_n hx hb dL_law_1154 rfl (lv_at hl 5 rfl) ?_
  refine lv_iload hx hb dL_law_1155 (lv_at hl 1 rfl) ?_
  refine lv_iconst (v := (2 : Int32)) hx hb dL_law_1157 (by decide) ?_
  refine lv_iadd hx hb dL_law_1158 ?_
  refine lc_sld 2 hx hb hXs hbl hbA hS (by decide) (by omega) hL dL_law_1159 ?_
  refine lc_M (rest := []) [.int (xs (i + 1)), .int (xs (i + 2))] C hXm hP hD hS hl.1 (c_X12_reached hXm hf2) (cwA_V 2 hts wa_1138 wa_1135 wa_1136 wa_1137 wa_5 rfl rfl nd_X12_reached ⟨Nat.le_of_ble_eq_true rfl, Nat.le_of_ble_eq_true rfl⟩) rfl rfl (Nat.le_of_ble_eq_true rfl) dL_law_1160 ⟨by show kc + 2 ≤ 601024; omega, by show ks + 12 ≤ 7293034; omega⟩ (fun H locs hP hD hS => ?_)
  refine lv_istore (lv' := [(6, .int r), (5, .int (τ1 0 2)), (4, .int (nI i)), (3, .ref (g.2.2 70)), (2, .ref (hm 0)), (1, .ref (g.2.2 0)), (0, .ref b)]) hx hb dL_law_1163 hl (by decide) rfl (fun ls hl => ?_)
  refine lv_aload_n hx hb dL_law_1165 rfl (lv_at hl 4 rfl) ?_
  refine lc_M (rest := []) [] C hXm hP hD hS hl.1 ((c_X12_thrown (N := 0) (z := (τ1 0 2, τ1)) hXm rfl)) (cwA_V 0 hts wa_624 wa_621 wa_622 wa_623 wa_5 rfl rfl nd_X12_thrown ⟨Nat.le_of_ble_eq_true rfl, Nat.le_of_ble_eq_true rfl⟩) rfl rfl (Nat.le_of_ble_eq_true rfl) dL_law_1166 ⟨by show kc + 2 ≤ 601024; omega, by show ks + 12 ≤ 7293034; omega⟩ (fun H locs hP hD hS => ?_)
  refine lv_iload hx hb dL_law_1169 (lv_at hl 1 rfl) ?_
  refine lv_icmp_eq (tgt := 1176) hx hb dL_law_1171 (by decide) (fun _ => ?_) (fun t => absurd rfl t)
  refine lv_iload hx hb dL_law_1176 (lv_at hl 1 rfl) ?_
  refine lv_if_ne (tgt := 1193) hx hb dL_law_1178 (by decide) (fun t0 => ?_) (fun t0 => ?_)
  · refine lv_goto (tgt := 2200) hx hb dL_law_1193 (by decide) ?_
    refine W.widen (k := kc + 4) (n := ks + 24) (by omega) (by omega) ?_
    exact K _ _ _ _ _ _ hR1 hP hD hS (lv_sub hl [2, 3, 4, 5, 6] rfl)
  · have hz0 : z.1 = 0 := by rcases hkd with ⟨h1, h2⟩ | ⟨h1, h2⟩ | ⟨h1, h2⟩ <;> first | exact h1 | (rw [h2] at t0; exact absurd t0 (by decide))
    refine lv_aload_n hx hb dL_law_1181 rfl (lv_at hl 3 rfl) ?_
    refine lv_iconst (v := (0 : Int32)) hx hb dL_law_1182 (by decide) ?_
    refine lc_out C hP dL_law_1183 ?_
    refine lv_iload hx hb dL_law_1184 (lv_at hl 0 rfl) ?_
    refine lv_i2l hx hb dL_law_1186 rfl ?_
    refine W.lcmp hx hb dL_law_1187 ?_
    refine lv_if_eq (tgt := 1193) hx hb dL_law_1188 (by decide) (fun _ => ?_) (fun t => absurd (by rw [if_pos hz0, hzr hz0]; exact lg_self _) t)
    refine lv_goto (tgt := 2200) hx hb dL_law_1193 (by decide) ?_
    refine W.widen (k := kc + 4) (n := ks + 24) (by omega) (by omega) ?_
    exact K _ _ _ _ _ _ hR1 hP hD hS (lv_sub hl [2, 3, 4, 5, 6] rfl)
set_option maxHeartbeats 8000000 in
set_option maxRecDepth 100000 in
theorem lk_through (ok : Ok_through N Rl) (C : Cx p s m args meth c code 7 ret RL g (fun q => s.heap.size ≤ q) X) (hXm : xOK (gmk g hm) X) (hst : l.stackTraces = false) (hXs : va_X b L xs s s.heap) (hbl : b < s.heap.size) (hR : Rl σ τ) (hi : i + 6 ≤ L) (hL : L ≤ 3072) (hkc : kc + 4 ≤ 601024) (hks : ks + 24 ≤ 7293034) (K : Lk Rl p l e s m args below meth c g hm b i kc ks Q) (hP : va_P g.1 vwCl (lwW g (gmk g hm) σ τ o) H) (hD : va_D (fun q => s.heap.size ≤ q) (lwW g (gmk g hm) σ τ o)) (hS : va_S (fun q => s.heap.size ≤ q) s.heap H locs) (hl : lv_has ls 7 [(4, .int (nI i)), (3, .ref (g.2.2 70)), (2, .ref (hm 0)), (1, .ref (g.2.2 0)), (0, .ref b)]) : W p l e room_1 s m args below meth c H locs kc ks Q (F0 m 1196 ls []) := by
  obtain ⟨hx, hb, hr, hml, hown, hts, hK, hlocks, hXX, hA, hXo⟩ := id C
  have hbA : ¬ (fun q : Nat => s.heap.size ≤ q) b := Nat.not_le.mpr hbl
  obtain ⟨z, r, τ1, hf1, hf2, hkd, hzr, hR1⟩ := ok (xs (i + 1)) (xs (i + 2)) σ τ hR
  refine lv_aload_n hx hb dL_law_1196 rfl (lv_at hl 3 rfl) ?_
  refine lv_aload_n hx hb dL_law_1197 rfl (lv_at hl 4 rfl) ?_
  refine lv_iload hx hb dL_law_1198 (lv_at hl 0 rfl) ?_
  refine lv_iconst (v := (1 : Int32)) hx hb dL_law_1200 (by decide) ?_
  refine lv_iadd hx hb dL_law_1201 ?_
  refine lc_sld 1 hx hb hXs hbl hbA hS (by decide) (by omega) hL dL_law_1202 ?_
  refine lv_aload_n hx hb dL_law_1203 rfl (lv_at hl 4 rfl) ?_
  refine lv_iload hx hb dL_law_1204 (lv_at hl 0 rfl) ?_
  refine lv_iconst (v := (2 : Int32)) hx hb dL_law_1206 (by decide) ?_
  refine lv_iadd hx hb dL_law_1207 ?_
  refine lc_sld 2 hx hb hXs hbl hbA hS (by decide) (by omega) hL dL_law_1208 ?_
  refine lv_aload_n hx hb dL_law_1209 rfl (lv_at hl 1 rfl) ?_
  refine lc_W (hh := [(0, 10, 13, 18)]) (o' := (if z.1 = 0 then z.2.1.toInt64 else o)) (k := τ1 0 2) (rest := []) [.ref (g.2.2 0), .int (xs (i + 1)), .int (xs (i + 2)), .ref (g.2.2 70)] C hP hD hS hl.1 (cwr_through hXo hst hf1 (fun h => ⟨by rcases hkd with ⟨h1, h2⟩ | ⟨h1, h2⟩ <;> first | exact h2 | omega, by rw [if_pos h]⟩) (by rcases hkd with ⟨h1, h2⟩ | ⟨h1, h2⟩ <;> omega) (fun h => ⟨by rcases hkd with ⟨h1, h2⟩ | ⟨h1, h2⟩ <;> first | exact h2 | omega, by rw [if_neg (by omega)]⟩)) wa_1141 wa_1139 wa_1140 wa_209 rfl rfl nd_L_through ⟨Nat.le_of_ble_eq_true rfl, Nat.le_of_ble_eq_true rfl⟩ rfl rfl (Nat.le_of_ble_eq_true rfl) dL_law_1210 ⟨by show kc + 2 ≤ 601024; omega, by show ks + 12 ≤ 7293034; omega⟩ (fun H locs hP hD hS => ?_)
  refine lv_istore (lv' := [(5, .int (τ1 0 2)), (4, .int (nI i)), (3, .ref (g.2.2 70)), (2, .ref (hm 0)), (1, .ref (g.2.2 0)), (0, .ref b)]) hx hb dL_law_1213 hl (by decide) rfl (fun ls hl => ?_)
  refine lv_aload_n hx hb dL_law_1215 rfl (lv_at hl 3 rfl) ?_
  refine lv_aload_n hx hb dL_law_1216 rfl (lv_at hl 5 rfl) ?_
  refine lv_iload hx hb dL_law_1217 (lv_at hl 1 rfl) ?_
  refine lv_iconst (v := (1 : Int32)) hx hb dL_law_1219 (by decide) ?_
  refine lv_iadd hx hb dL_law_1220 ?_
  refine lc_sld 1 hx hb hXs hbl hbA hS (by decide) (by omega) hL dL_law_1221 ?_
  refine lv_aload_n hx hb dL_law_1222 rfl (lv_at hl 5 rfl) ?_
  refine lv_iload hx hb dL_law_1223 (lv_at hl 1 rfl) ?_
  refine lv_iconst (v := (2 : Int32)) hx hb dL_law_1225 (by decide) ?_
  refine lv_iadd hx hb dL_law_1226 ?_
  refine lc_sld 2 hx hb hXs hbl hbA hS (by decide) (by omega) hL dL_law_1227 ?_
  refine lc_M (rest := []) [.int (xs (i + 1)), .int (xs (i + 2))] C hXm hP hD hS hl.1 (c_X12_through hXm hf2) (cwA_V 2 hts wa_1153 wa_1150 wa_1151 wa_1152 wa_5 rfl rfl nd_X12_through ⟨Nat.le_of_ble_eq_true rfl, Nat.le_of_ble_eq_true rfl⟩) rfl rfl (Nat.le_of_ble_eq_true rfl) dL_law_1228 ⟨by show kc + 2 ≤ 601024; omega, by show ks + 12 ≤ 7293034; omega⟩ (fun H locs hP hD hS => ?_)
  refine lv_istore (lv' := [(6, .int r), (5, .int (τ1 0 2)), (4, .int (nI i)), (3, .ref (g.2.2 70)), (2, .ref (hm 0)), (1, .ref (g.2.2 0)), (0, .ref b)]) hx hb dL_law_1231 hl (by decide) rfl (fun ls hl => ?_)
  refine lv_aload_n hx hb dL_law_1233 rfl (lv_at hl 4 rfl) ?_
  refine lc_M (rest := []) [] C hXm hP hD hS hl.1 ((c_X12_thrown (N := 0) (z := (τ1 0 2, τ1)) hXm rfl)) (cwA_V 0 hts wa_624 wa_621 wa_622 wa_623 wa_5 rfl rfl nd_X12_thrown ⟨Nat.le_of_ble_eq_true rfl, Nat.le_of_ble_eq_true rfl⟩) rfl rfl (Nat.le_of_ble_eq_true rfl) dL_law_1234 ⟨by show kc + 2 ≤ 601024; omega, by show ks + 12 ≤ 7293034; omega⟩ (fun H locs hP hD hS => ?_)
  refine lv_iload hx hb dL_law_1237 (lv_at hl 1 rfl) ?_
  refine lv_icmp_eq (tgt := 1244) hx hb dL_law_1239 (by decide) (fun _ => ?_) (fun t => absurd rfl t)
  refine lv_iload hx hb dL_law_1244 (lv_at hl 1 rfl) ?_
  refine lv_if_ne (tgt := 1261) hx hb dL_law_1246 (by decide) (fun t0 => ?_) (fun t0 => ?_)
  · refine lv_goto (tgt := 2200) hx hb dL_law_1261 (by decide) ?_
    refine W.widen (k := kc + 4) (n := ks + 24) (by omega) (by omega) ?_
    exact K _ _ _ _ _ _ hR1 hP hD hS (lv_sub hl [2, 3, 4, 5, 6] rfl)
  · have hz0 : z.1 = 0 := by rcases hkd with ⟨h1, h2⟩ | ⟨h1, h2⟩ <;> first | exact h1 | (rw [h2] at t0; exact absurd t0 (by decide))
    refine lv_aload_n hx hb dL_law_1249 rfl (lv_at hl 3 rfl) ?_
    refine lv_iconst (v := (0 : Int32)) hx hb dL_law_1250 (by decide) ?_
    refine lc_out C hP dL_law_1251 ?_
    refine lv_iload hx hb dL_law_1252 (lv_at hl 0 rfl) ?_
    refine lv_i2l hx hb dL_law_1254 rfl ?_
    refine W.lcmp hx hb dL_law_1255 ?_
    refine lv_if_eq (tgt := 1261) hx hb dL_law_1256 (by decide) (fun _ => ?_) (fun t => absurd (by rw [if_pos hz0, hzr hz0]; exact lg_self _) t)
    refine lv_goto (tgt := 2200) hx hb dL_law_1261 (by decide) ?_
    refine W.widen (k := kc + 4) (n := ks + 24) (by omega) (by omega) ?_
    exact K _ _ _ _ _ _ hR1 hP hD hS (lv_sub hl [2, 3, 4, 5, 6] rfl)
set_option maxHeartbeats 8000000 in
set_option maxRecDepth 100000 in
theorem lk_best (ok : Ok_best N Rl) (C : Cx p s m args meth c code 7 ret RL g (fun q => s.heap.size ≤ q) X) (hXm : xOK (gmk g hm) X) (hst : l.stackTraces = false) (hXs : va_X b L xs s s.heap) (hbl : b < s.heap.size) (hR : Rl σ τ) (hi : i + 6 ≤ L) (hL : L ≤ 3072) (hkc : kc + 4 ≤ 601024) (hks : ks + 24 ≤ 7293034) (K : Lk Rl p l e s m args below meth c g hm b i kc ks Q) (hP : va_P g.1 vwCl (lwW g (gmk g hm) σ τ o) H) (hD : va_D (fun q => s.heap.size ≤ q) (lwW g (gmk g hm) σ τ o)) (hS : va_S (fun q => s.heap.size ≤ q) s.heap H locs) (hl : lv_has ls 7 [(4, .int (nI i)), (3, .ref (g.2.2 70)), (2, .ref (hm 0)), (1, .ref (g.2.2 0)), (0, .ref b)]) : W p l e room_1 s m args below meth c H locs kc ks Q (F0 m 1264 ls []) := by
  obtain ⟨hx, hb, hr, hml, hown, hts, hK, hlocks, hXX, hA, hXo⟩ := id C
  have hbA : ¬ (fun q : Nat => s.heap.size ≤ q) b := Nat.not_le.mpr hbl
  obtain ⟨z, r, τ1, hf1, hf2, hkd, hzr, hR1⟩ := ok (xs (i + 1)) σ τ hR
  refine lv_aload_n hx hb dL_law_1264 rfl (lv_at hl 3 rfl) ?_
  refine lv_aload_n hx hb dL_law_1265 rfl (lv_at hl 4 rfl) ?_
  refine lv_iload hx hb dL_law_1266 (lv_at hl 0 rfl) ?_
  refine lv_iconst (v := (1 : Int32)) hx hb dL_law_1268 (by decide) ?_
  refine lv_iadd hx hb dL_law_1269 ?_
  refine lc_sld 1 hx hb hXs hbl hbA hS (by decide) (by omega) hL dL_law_1270 ?_
  refine lv_aload_n hx hb dL_law_1271 rfl (lv_at hl 1 rfl) ?_
  refine lc_W (hh := [(0, 9, 12, 13)]) (o' := (if z.1 = 0 then z.2.1.toInt64 else o)) (k := τ1 0 2) (rest := []) [.ref (g.2.2 0), .int (xs (i + 1)), .ref (g.2.2 70)] C hP hD hS hl.1 (cwr_best hXo hst hf1 (fun h => ⟨by rcases hkd with ⟨h1, h2⟩ | ⟨h1, h2⟩ <;> first | exact h2 | omega, by rw [if_pos h]⟩) (by rcases hkd with ⟨h1, h2⟩ | ⟨h1, h2⟩ <;> omega) (fun h => ⟨by rcases hkd with ⟨h1, h2⟩ | ⟨h1, h2⟩ <;> first | exact h2 | omega, by rw [if_neg (by omega)]⟩)) wa_1156 wa_1154 wa_1155 wa_209 rfl rfl nd_L_best ⟨Nat.le_of_ble_eq_true rfl, Nat.le_of_ble_eq_true rfl⟩ rfl rfl (Nat.le_of_ble_eq_true rfl) dL_law_1272 ⟨by show kc + 1 ≤ 601024; omega, by show ks + 6 ≤ 7293034; omega⟩ (fun H locs hP hD hS => ?_)
  refine lv_istore (lv' := [(5, .int (τ1 0 2)), (4, .int (nI i)), (3, .ref (g.2.2 70)), (2, .ref (hm 0)), (1, .ref (g.2.2 0)), (0, .ref b)]) hx hb dL_law_1275 hl (by decide) rfl (fun ls hl => ?_)
  refine lv_aload_n hx hb dL_law_1277 rfl (lv_at hl 3 rfl) ?_
  refine lv_aload_n hx hb dL_law_1278 rfl (lv_at hl 5 rfl) ?_
  refine lv_iload hx hb dL_law_1279 (lv_at hl 1 rfl) ?_
  refine lv_iconst (v := (1 : Int32)) hx hb dL_law_1281 (by decide) ?_
  refine lv_iadd hx hb dL_law_1282 ?_
  refine lc_sld 1 hx hb hXs hbl hbA hS (by decide) (by omega) hL dL_law_1283 ?_
  refine lc_M (rest := []) [.int (xs (i + 1))] C hXm hP hD hS hl.1 (c_X12_best hXm hf2) (cwA_V 1 hts wa_1164 wa_1161 wa_1162 wa_1163 wa_5 rfl rfl nd_X12_best ⟨Nat.le_of_ble_eq_true rfl, Nat.le_of_ble_eq_true rfl⟩) rfl rfl (Nat.le_of_ble_eq_true rfl) dL_law_1284 ⟨by show kc + 1 ≤ 601024; omega, by show ks + 6 ≤ 7293034; omega⟩ (fun H locs hP hD hS => ?_)
  refine lv_istore (lv' := [(6, .int r), (5, .int (τ1 0 2)), (4, .int (nI i)), (3, .ref (g.2.2 70)), (2, .ref (hm 0)), (1, .ref (g.2.2 0)), (0, .ref b)]) hx hb dL_law_1287 hl (by decide) rfl (fun ls hl => ?_)
  refine lv_aload_n hx hb dL_law_1289 rfl (lv_at hl 4 rfl) ?_
  refine lc_M (rest := []) [] C hXm hP hD hS hl.1 ((c_X12_thrown (N := 0) (z := (τ1 0 2, τ1)) hXm rfl)) (cwA_V 0 hts wa_624 wa_621 wa_622 wa_623 wa_5 rfl rfl nd_X12_thrown ⟨Nat.le_of_ble_eq_true rfl, Nat.le_of_ble_eq_true rfl⟩) rfl rfl (Nat.le_of_ble_eq_true rfl) dL_law_1290 ⟨by show kc + 1 ≤ 601024; omega, by show ks + 6 ≤ 7293034; omega⟩ (fun H locs hP hD hS => ?_)
  refine lv_iload hx hb dL_law_1293 (lv_at hl 1 rfl) ?_
  refine lv_icmp_eq (tgt := 1300) hx hb dL_law_1295 (by decide) (fun _ => ?_) (fun t => absurd rfl t)
  refine lv_iload hx hb dL_law_1300 (lv_at hl 1 rfl) ?_
  refine lv_if_ne (tgt := 1317) hx hb dL_law_1302 (by decide) (fun t0 => ?_) (fun t0 => ?_)
  · refine lv_goto (tgt := 2200) hx hb dL_law_1317 (by decide) ?_
    refine W.widen (k := kc + 4) (n := ks + 24) (by omega) (by omega) ?_
    exact K _ _ _ _ _ _ hR1 hP hD hS (lv_sub hl [2, 3, 4, 5, 6] rfl)
  · have hz0 : z.1 = 0 := by rcases hkd with ⟨h1, h2⟩ | ⟨h1, h2⟩ <;> first | exact h1 | (rw [h2] at t0; exact absurd t0 (by decide))
    refine lv_aload_n hx hb dL_law_1305 rfl (lv_at hl 3 rfl) ?_
    refine lv_iconst (v := (0 : Int32)) hx hb dL_law_1306 (by decide) ?_
    refine lc_out C hP dL_law_1307 ?_
    refine lv_iload hx hb dL_law_1308 (lv_at hl 0 rfl) ?_
    refine lv_i2l hx hb dL_law_1310 rfl ?_
    refine W.lcmp hx hb dL_law_1311 ?_
    refine lv_if_eq (tgt := 1317) hx hb dL_law_1312 (by decide) (fun _ => ?_) (fun t => absurd (by rw [if_pos hz0, hzr hz0]; exact lg_self _) t)
    refine lv_goto (tgt := 2200) hx hb dL_law_1317 (by decide) ?_
    refine W.widen (k := kc + 4) (n := ks + 24) (by omega) (by omega) ?_
    exact K _ _ _ _ _ _ hR1 hP hD hS (lv_sub hl [2, 3, 4, 5, 6] rfl)
set_option maxHeartbeats 8000000 in
set_option maxRecDepth 100000 in
theorem lk_toBegin (ok : Ok_toBegin N Rl) (C : Cx p s m args meth c code 7 ret RL g (fun q => s.heap.size ≤ q) X) (hXm : xOK (gmk g hm) X) (hst : l.stackTraces = false) (hXs : va_X b L xs s s.heap) (hbl : b < s.heap.size) (hR : Rl σ τ) (hi : i + 6 ≤ L) (hL : L ≤ 3072) (hkc : kc + 4 ≤ 601024) (hks : ks + 24 ≤ 7293034) (K : Lk Rl p l e s m args below meth c g hm b i kc ks Q) (hP : va_P g.1 vwCl (lwW g (gmk g hm) σ τ o) H) (hD : va_D (fun q => s.heap.size ≤ q) (lwW g (gmk g hm) σ τ o)) (hS : va_S (fun q => s.heap.size ≤ q) s.heap H locs) (hl : lv_has ls 7 [(4, .int (nI i)), (3, .ref (g.2.2 70)), (2, .ref (hm 0)), (1, .ref (g.2.2 0)), (0, .ref b)]) : W p l e room_1 s m args below meth c H locs kc ks Q (F0 m 1320 ls []) := by
  obtain ⟨hx, hb, hr, hml, hown, hts, hK, hlocks, hXX, hA, hXo⟩ := id C
  have hbA : ¬ (fun q : Nat => s.heap.size ≤ q) b := Nat.not_le.mpr hbl
  obtain ⟨z, r, τ1, hf1, hf2, hkd, hzr, hR1⟩ := ok (xs (i + 1)) σ τ hR
  refine lv_aload_n hx hb dL_law_1320 rfl (lv_at hl 3 rfl) ?_
  refine lv_aload_n hx hb dL_law_1321 rfl (lv_at hl 4 rfl) ?_
  refine lv_iload hx hb dL_law_1322 (lv_at hl 0 rfl) ?_
  refine lv_iconst (v := (1 : Int32)) hx hb dL_law_1324 (by decide) ?_
  refine lv_iadd hx hb dL_law_1325 ?_
  refine lc_sld 1 hx hb hXs hbl hbA hS (by decide) (by omega) hL dL_law_1326 ?_
  refine lv_aload_n hx hb dL_law_1327 rfl (lv_at hl 1 rfl) ?_
  refine lc_W (hh := [(0, 9, 12, 13)]) (o' := (if z.1 = 0 then z.2.1.toInt64 else o)) (k := τ1 0 2) (rest := []) [.ref (g.2.2 0), .int (xs (i + 1)), .ref (g.2.2 70)] C hP hD hS hl.1 (cwr_toBegin hXo hst hf1 (fun h => ⟨by rcases hkd with ⟨h1, h2⟩ | ⟨h1, h2⟩ <;> first | exact h2 | omega, by rw [if_pos h]⟩) (by rcases hkd with ⟨h1, h2⟩ | ⟨h1, h2⟩ <;> omega) (fun h => ⟨by rcases hkd with ⟨h1, h2⟩ | ⟨h1, h2⟩ <;> first | exact h2 | omega, by rw [if_neg (by omega)]⟩)) wa_1167 wa_1165 wa_1166 wa_209 rfl rfl nd_L_toBegin ⟨Nat.le_of_ble_eq_true rfl, Nat.le_of_ble_eq_true rfl⟩ rfl rfl (Nat.le_of_ble_eq_true rfl) dL_law_1328 ⟨by show kc + 1 ≤ 601024; omega, by show ks + 6 ≤ 7293034; omega⟩ (fun H locs hP hD hS => ?_)
  refine lv_istore (lv' := [(5, .int (τ1 0 2)), (4, .int (nI i)), (3, .ref (g.2.2 70)), (2, .ref (hm 0)), (1, .ref (g.2.2 0)), (0, .ref b)]) hx hb dL_law_1331 hl (by decide) rfl (fun ls hl => ?_)
  refine lv_aload_n hx hb dL_law_1333 rfl (lv_at hl 3 rfl) ?_
  refine lv_aload_n hx hb dL_law_1334 rfl (lv_at hl 5 rfl) ?_
  refine lv_iload hx hb dL_law_1335 (lv_at hl 1 rfl) ?_
  refine lv_iconst (v := (1 : Int32)) hx hb dL_law_1337 (by decide) ?_
  refine lv_iadd hx hb dL_law_1338 ?_
  refine lc_sld 1 hx hb hXs hbl hbA hS (by decide) (by omega) hL dL_law_1339 ?_
  refine lc_M (rest := []) [.int (xs (i + 1))] C hXm hP hD hS hl.1 (c_X12_toBegin hXm hf2) (cwA_V 1 hts wa_1176 wa_1173 wa_1174 wa_1175 wa_5 rfl rfl nd_X12_toBegin ⟨Nat.le_of_ble_eq_true rfl, Nat.le_of_ble_eq_true rfl⟩) rfl rfl (Nat.le_of_ble_eq_true rfl) dL_law_1340 ⟨by show kc + 1 ≤ 601024; omega, by show ks + 6 ≤ 7293034; omega⟩ (fun H locs hP hD hS => ?_)
  refine lv_istore (lv' := [(6, .int r), (5, .int (τ1 0 2)), (4, .int (nI i)), (3, .ref (g.2.2 70)), (2, .ref (hm 0)), (1, .ref (g.2.2 0)), (0, .ref b)]) hx hb dL_law_1343 hl (by decide) rfl (fun ls hl => ?_)
  refine lv_aload_n hx hb dL_law_1345 rfl (lv_at hl 4 rfl) ?_
  refine lc_M (rest := []) [] C hXm hP hD hS hl.1 ((c_X12_thrown (N := 0) (z := (τ1 0 2, τ1)) hXm rfl)) (cwA_V 0 hts wa_624 wa_621 wa_622 wa_623 wa_5 rfl rfl nd_X12_thrown ⟨Nat.le_of_ble_eq_true rfl, Nat.le_of_ble_eq_true rfl⟩) rfl rfl (Nat.le_of_ble_eq_true rfl) dL_law_1346 ⟨by show kc + 1 ≤ 601024; omega, by show ks + 6 ≤ 7293034; omega⟩ (fun H locs hP hD hS => ?_)
  refine lv_iload hx hb dL_law_1349 (lv_at hl 1 rfl) ?_
  refine lv_icmp_eq (tgt := 1356) hx hb dL_law_1351 (by decide) (fun _ => ?_) (fun t => absurd rfl t)
  refine lv_iload hx hb dL_law_1356 (lv_at hl 1 rfl) ?_
  refine lv_if_ne (tgt := 1373) hx hb dL_law_1358 (by decide) (fun t0 => ?_) (fun t0 => ?_)
  · refine lv_goto (tgt := 2200) hx hb dL_law_1373 (by decide) ?_
    refine W.widen (k := kc + 4) (n := ks + 24) (by omega) (by omega) ?_
    exact K _ _ _ _ _ _ hR1 hP hD hS (lv_sub hl [2, 3, 4, 5, 6] rfl)
  · have hz0 : z.1 = 0 := by rcases hkd with ⟨h1, h2⟩ | ⟨h1, h2⟩ <;> first | exact h1 | (rw [h2] at t0; exact absurd t0 (by decide))
    refine lv_aload_n hx hb dL_law_1361 rfl (lv_at hl 3 rfl) ?_
    refine lv_iconst (v := (0 : Int32)) hx hb dL_law_1362 (by decide) ?_
    refine lc_out C hP dL_law_1363 ?_
    refine lv_iload hx hb dL_law_1364 (lv_at hl 0 rfl) ?_
    refine lv_i2l hx hb dL_law_1366 rfl ?_
    refine W.lcmp hx hb dL_law_1367 ?_
    refine lv_if_eq (tgt := 1373) hx hb dL_law_1368 (by decide) (fun _ => ?_) (fun t => absurd (by rw [if_pos hz0, hzr hz0]; exact lg_self _) t)
    refine lv_goto (tgt := 2200) hx hb dL_law_1373 (by decide) ?_
    refine W.widen (k := kc + 4) (n := ks + 24) (by omega) (by omega) ?_
    exact K _ _ _ _ _ _ hR1 hP hD hS (lv_sub hl [2, 3, 4, 5, 6] rfl)
set_option maxHeartbeats 8000000 in
set_option maxRecDepth 100000 in
theorem lk_way (ok : Ok_way N Rl) (C : Cx p s m args meth c code 7 ret RL g (fun q => s.heap.size ≤ q) X) (hXm : xOK (gmk g hm) X) (hst : l.stackTraces = false) (hXs : va_X b L xs s s.heap) (hbl : b < s.heap.size) (hR : Rl σ τ) (hi : i + 6 ≤ L) (hL : L ≤ 3072) (hkc : kc + 4 ≤ 601024) (hks : ks + 24 ≤ 7293034) (K : Lk Rl p l e s m args below meth c g hm b i kc ks Q) (hP : va_P g.1 vwCl (lwW g (gmk g hm) σ τ o) H) (hD : va_D (fun q => s.heap.size ≤ q) (lwW g (gmk g hm) σ τ o)) (hS : va_S (fun q => s.heap.size ≤ q) s.heap H locs) (hl : lv_has ls 7 [(4, .int (nI i)), (3, .ref (g.2.2 70)), (2, .ref (hm 0)), (1, .ref (g.2.2 0)), (0, .ref b)]) : W p l e room_1 s m args below meth c H locs kc ks Q (F0 m 1376 ls []) := by
  obtain ⟨hx, hb, hr, hml, hown, hts, hK, hlocks, hXX, hA, hXo⟩ := id C
  have hbA : ¬ (fun q : Nat => s.heap.size ≤ q) b := Nat.not_le.mpr hbl
  obtain ⟨z, r, τ1, hf1, hf2, hkd, hzr, hR1⟩ := ok (xs (i + 1)) (xs (i + 2)) σ τ hR
  refine lv_aload_n hx hb dL_law_1376 rfl (lv_at hl 3 rfl) ?_
  refine lv_aload_n hx hb dL_law_1377 rfl (lv_at hl 4 rfl) ?_
  refine lv_iload hx hb dL_law_1378 (lv_at hl 0 rfl) ?_
  refine lv_iconst (v := (1 : Int32)) hx hb dL_law_1380 (by decide) ?_
  refine lv_iadd hx hb dL_law_1381 ?_
  refine lc_sld 1 hx hb hXs hbl hbA hS (by decide) (by omega) hL dL_law_1382 ?_
  refine lv_aload_n hx hb dL_law_1383 rfl (lv_at hl 4 rfl) ?_
  refine lv_iload hx hb dL_law_1384 (lv_at hl 0 rfl) ?_
  refine lv_iconst (v := (2 : Int32)) hx hb dL_law_1386 (by decide) ?_
  refine lv_iadd hx hb dL_law_1387 ?_
  refine lc_sld 2 hx hb hXs hbl hbA hS (by decide) (by omega) hL dL_law_1388 ?_
  refine lv_aload_n hx hb dL_law_1389 rfl (lv_at hl 1 rfl) ?_
  refine lc_W (hh := [(0, 10, 13, 18)]) (o' := (if z.1 = 0 then z.2.1.toInt64 else o)) (k := τ1 0 2) (rest := []) [.ref (g.2.2 0), .int (xs (i + 1)), .int (xs (i + 2)), .ref (g.2.2 70)] C hP hD hS hl.1 (cwr_way hXo hst hf1 (fun h => ⟨by rcases hkd with ⟨h1, h2⟩ | ⟨h1, h2⟩ <;> first | exact h2 | omega, by rw [if_pos h]⟩) (by rcases hkd with ⟨h1, h2⟩ | ⟨h1, h2⟩ <;> omega) (fun h => ⟨by rcases hkd with ⟨h1, h2⟩ | ⟨h1, h2⟩ <;> first | exact h2 | omega, by rw [if_neg (by omega)]⟩)) wa_1179 wa_1177 wa_1178 wa_209 rfl rfl nd_L_way ⟨Nat.le_of_ble_eq_true rfl, Nat.le_of_ble_eq_true rfl⟩ rfl rfl (Nat.le_of_ble_eq_true rfl) dL_law_1390 ⟨by show kc + 2 ≤ 601024; omega, by show ks + 12 ≤ 7293034; omega⟩ (fun H locs hP hD hS => ?_)
  refine lv_istore (lv' := [(5, .int (τ1 0 2)), (4, .int (nI i)), (3, .ref (g.2.2 70)), (2, .ref (hm 0)), (1, .ref (g.2.2 0)), (0, .ref b)]) hx hb dL_law_1393 hl (by decide) rfl (fun ls hl => ?_)
  refine lv_aload_n hx hb dL_law_1395 rfl (lv_at hl 3 rfl) ?_
  refine lv_aload_n hx hb dL_law_1396 rfl (lv_at hl 5 rfl) ?_
  refine lv_iload hx hb dL_law_1397 (lv_at hl 1 rfl) ?_
  refine lv_iconst (v := (1 : Int32)) hx hb dL_law_1399 (by decide) ?_
  refine lv_iadd hx hb dL_law_1400 ?_
  refine lc_sld 1 hx hb hXs hbl hbA hS (by decide) (by omega) hL dL_law_1401 ?_
  refine lv_aload_n hx hb dL_law_1402 rfl (lv_at hl 5 rfl) ?_
  refine lv_iload hx hb dL_law_1403 (lv_at hl 1 rfl) ?_
  refine lv_iconst (v := (2 : Int32)) hx hb dL_law_1405 (by decide) ?_
  refine lv_iadd hx hb dL_law_1406 ?_
  refine lc_sld 2 hx hb hXs hbl hbA hS (by decide) (by omega) hL dL_law_1407 ?_
  refine lc_M (rest := []) [.int (xs (i + 1)), .int (xs (i + 2))] C hXm hP hD hS hl.1 (c_X12_way hXm hf2) (cwA_V 2 hts wa_1191 wa_1188 wa_1189 wa_1190 wa_5 rfl rfl nd_X12_way ⟨Nat.le_of_ble_eq_true rfl, Nat.le_of_ble_eq_true rfl⟩) rfl rfl (Nat.le_of_ble_eq_true rfl) dL_law_1408 ⟨by show kc + 2 ≤ 601024; omega, by show ks + 12 ≤ 7293034; omega⟩ (fun H locs hP hD hS => ?_)
  refine lv_istore (lv' := [(6, .int r), (5, .int (τ1 0 2)), (4, .int (nI i)), (3, .ref (g.2.2 70)), (2, .ref (hm 0)), (1, .ref (g.2.2 0)), (0, .ref b)]) hx hb dL_law_1411 hl (by decide) rfl (fun ls hl => ?_)
  refine lv_aload_n hx hb dL_law_1413 rfl (lv_at hl 4 rfl) ?_
  refine lc_M (rest := []) [] C hXm hP hD hS hl.1 ((c_X12_thrown (N := 0) (z := (τ1 0 2, τ1)) hXm rfl)) (cwA_V 0 hts wa_624 wa_621 wa_622 wa_623 wa_5 rfl rfl nd_X12_thrown ⟨Nat.le_of_ble_eq_true rfl, Nat.le_of_ble_eq_true rfl⟩) rfl rfl (Nat.le_of_ble_eq_true rfl) dL_law_1414 ⟨by show kc + 2 ≤ 601024; omega, by show ks + 12 ≤ 7293034; omega⟩ (fun H locs hP hD hS => ?_)
  refine lv_iload hx hb dL_law_1417 (lv_at hl 1 rfl) ?_
  refine lv_icmp_eq (tgt := 1424) hx hb dL_law_1419 (by decide) (fun _ => ?_) (fun t => absurd rfl t)
  refine lv_iload hx hb dL_law_1424 (lv_at hl 1 rfl) ?_
  refine lv_if_ne (tgt := 1441) hx hb dL_law_1426 (by decide) (fun t0 => ?_) (fun t0 => ?_)
  · refine lv_goto (tgt := 2200) hx hb dL_law_1441 (by decide) ?_
    refine W.widen (k := kc + 4) (n := ks + 24) (by omega) (by omega) ?_
    exact K _ _ _ _ _ _ hR1 hP hD hS (lv_sub hl [2, 3, 4, 5, 6] rfl)
  · have hz0 : z.1 = 0 := by rcases hkd with ⟨h1, h2⟩ | ⟨h1, h2⟩ <;> first | exact h1 | (rw [h2] at t0; exact absurd t0 (by decide))
    refine lv_aload_n hx hb dL_law_1429 rfl (lv_at hl 3 rfl) ?_
    refine lv_iconst (v := (0 : Int32)) hx hb dL_law_1430 (by decide) ?_
    refine lc_out C hP dL_law_1431 ?_
    refine lv_iload hx hb dL_law_1432 (lv_at hl 0 rfl) ?_
    refine lv_i2l hx hb dL_law_1434 rfl ?_
    refine W.lcmp hx hb dL_law_1435 ?_
    refine lv_if_eq (tgt := 1441) hx hb dL_law_1436 (by decide) (fun _ => ?_) (fun t => absurd (by rw [if_pos hz0, hzr hz0]; exact lg_self _) t)
    refine lv_goto (tgt := 2200) hx hb dL_law_1441 (by decide) ?_
    refine W.widen (k := kc + 4) (n := ks + 24) (by omega) (by omega) ?_
    exact K _ _ _ _ _ _ hR1 hP hD hS (lv_sub hl [2, 3, 4, 5, 6] rfl)
set_option maxHeartbeats 8000000 in
set_option maxRecDepth 100000 in
theorem lk_toHat (ok : Ok_toHat N Rl) (C : Cx p s m args meth c code 7 ret RL g (fun q => s.heap.size ≤ q) X) (hXm : xOK (gmk g hm) X) (hst : l.stackTraces = false) (hXs : va_X b L xs s s.heap) (hbl : b < s.heap.size) (hR : Rl σ τ) (hi : i + 6 ≤ L) (hL : L ≤ 3072) (hkc : kc + 4 ≤ 601024) (hks : ks + 24 ≤ 7293034) (K : Lk Rl p l e s m args below meth c g hm b i kc ks Q) (hP : va_P g.1 vwCl (lwW g (gmk g hm) σ τ o) H) (hD : va_D (fun q => s.heap.size ≤ q) (lwW g (gmk g hm) σ τ o)) (hS : va_S (fun q => s.heap.size ≤ q) s.heap H locs) (hl : lv_has ls 7 [(4, .int (nI i)), (3, .ref (g.2.2 70)), (2, .ref (hm 0)), (1, .ref (g.2.2 0)), (0, .ref b)]) : W p l e room_1 s m args below meth c H locs kc ks Q (F0 m 1444 ls []) := by
  obtain ⟨hx, hb, hr, hml, hown, hts, hK, hlocks, hXX, hA, hXo⟩ := id C
  have hbA : ¬ (fun q : Nat => s.heap.size ≤ q) b := Nat.not_le.mpr hbl
  obtain ⟨z, r, τ1, hf1, hf2, hkd, hzr, hR1⟩ := ok (xs (i + 1)) (xs (i + 2)) σ τ hR
  refine lv_aload_n hx hb dL_law_1444 rfl (lv_at hl 3 rfl) ?_
  refine lv_aload_n hx hb dL_law_1445 rfl (lv_at hl 4 rfl) ?_
  refine lv_iload hx hb dL_law_1446 (lv_at hl 0 rfl) ?_
  refine lv_iconst (v := (1 : Int32)) hx hb dL_law_1448 (by decide) ?_
  refine lv_iadd hx hb dL_law_1449 ?_
  refine lc_sld 1 hx hb hXs hbl hbA hS (by decide) (by omega) hL dL_law_1450 ?_
  refine lv_aload_n hx hb dL_law_1451 rfl (lv_at hl 4 rfl) ?_
  refine lv_iload hx hb dL_law_1452 (lv_at hl 0 rfl) ?_
  refine lv_iconst (v := (2 : Int32)) hx hb dL_law_1454 (by decide) ?_
  refine lv_iadd hx hb dL_law_1455 ?_
  refine lc_sld 2 hx hb hXs hbl hbA hS (by decide) (by omega) hL dL_law_1456 ?_
  refine lv_aload_n hx hb dL_law_1457 rfl (lv_at hl 1 rfl) ?_
  refine lc_W (hh := [(0, 10, 13, 18)]) (o' := (if z.1 = 0 then z.2.1.toInt64 else o)) (k := τ1 0 2) (rest := []) [.ref (g.2.2 0), .int (xs (i + 1)), .int (xs (i + 2)), .ref (g.2.2 70)] C hP hD hS hl.1 (cwr_toHat hXo hst hf1 (fun h => ⟨by rcases hkd with ⟨h1, h2⟩ | ⟨h1, h2⟩ <;> first | exact h2 | omega, by rw [if_pos h]⟩) (by rcases hkd with ⟨h1, h2⟩ | ⟨h1, h2⟩ <;> omega) (fun h => ⟨by rcases hkd with ⟨h1, h2⟩ | ⟨h1, h2⟩ <;> first | exact h2 | omega, by rw [if_neg (by omega)]⟩)) wa_1194 wa_1192 wa_1193 wa_209 rfl rfl nd_L_toHat ⟨Nat.le_of_ble_eq_true rfl, Nat.le_of_ble_eq_true rfl⟩ rfl rfl (Nat.le_of_ble_eq_true rfl) dL_law_1458 ⟨by show kc + 2 ≤ 601024; omega, by show ks + 12 ≤ 7293034; omega⟩ (fun H locs hP hD hS => ?_)
  refine lv_istore (lv' := [(5, .int (τ1 0 2)), (4, .int (nI i)), (3, .ref (g.2.2 70)), (2, .ref (hm 0)), (1, .ref (g.2.2 0)), (0, .ref b)]) hx hb dL_law_1461 hl (by decide) rfl (fun ls hl => ?_)
  refine lv_aload_n hx hb dL_law_1463 rfl (lv_at hl 3 rfl) ?_
  refine lv_aload_n hx hb dL_law_1464 rfl (lv_at hl 5 rfl) ?_
  refine lv_iload hx hb dL_law_1465 (lv_at hl 1 rfl) ?_
  refine lv_iconst (v := (1 : Int32)) hx hb dL_law_1467 (by decide) ?_
  refine lv_iadd hx hb dL_law_1468 ?_
  refine lc_sld 1 hx hb hXs hbl hbA hS (by decide) (by omega) hL dL_law_1469 ?_
  refine lv_aload_n hx hb dL_law_1470 rfl (lv_at hl 5 rfl) ?_
  refine lv_iload hx hb dL_law_1471 (lv_at hl 1 rfl) ?_
  refine lv_iconst (v := (2 : Int32)) hx hb dL_law_1473 (by decide) ?_
  refine lv_iadd hx hb dL_law_1474 ?_
  refine lc_sld 2 hx hb hXs hbl hbA hS (by decide) (by omega) hL dL_law_1475 ?_
  refine lc_M (rest := []) [.int (xs (i + 1)), .int (xs (i + 2))] C hXm hP hD hS hl.1 (c_X12_toHat hXm hf2) (cwA_V 2 hts wa_1206 wa_1203 wa_1204 wa_1205 wa_5 rfl rfl nd_X12_toHat ⟨Nat.le_of_ble_eq_true rfl, Nat.le_of_ble_eq_true rfl⟩) rfl rfl (Nat.le_of_ble_eq_true rfl) dL_law_1476 ⟨by show kc + 2 ≤ 601024; omega, by show ks + 12 ≤ 7293034; omega⟩ (fun H locs hP hD hS => ?_)
  refine lv_istore (lv' := [(6, .int r), (5, .int (τ1 0 2)), (4, .int (nI i)), (3, .ref (g.2.2 70)), (2, .ref (hm 0)), (1, .ref (g.2.2 0)), (0, .ref b)]) hx hb dL_law_1479 hl (by decide) rfl (fun ls hl => ?_)
  refine lv_aload_n hx hb dL_law_1481 rfl (lv_at hl 4 rfl) ?_
  refine lc_M (rest := []) [] C hXm hP hD hS hl.1 ((c_X12_thrown (N := 0) (z := (τ1 0 2, τ1)) hXm rfl)) (cwA_V 0 hts wa_624 wa_621 wa_622 wa_623 wa_5 rfl rfl nd_X12_thrown ⟨Nat.le_of_ble_eq_true rfl, Nat.le_of_ble_eq_true rfl⟩) rfl rfl (Nat.le_of_ble_eq_true rfl) dL_law_1482 ⟨by show kc + 2 ≤ 601024; omega, by show ks + 12 ≤ 7293034; omega⟩ (fun H locs hP hD hS => ?_)
  refine lv_iload hx hb dL_law_1485 (lv_at hl 1 rfl) ?_
  refine lv_icmp_eq (tgt := 1492) hx hb dL_law_1487 (by decide) (fun _ => ?_) (fun t => absurd rfl t)
  refine lv_iload hx hb dL_law_1492 (lv_at hl 1 rfl) ?_
  refine lv_if_ne (tgt := 1509) hx hb dL_law_1494 (by decide) (fun t0 => ?_) (fun t0 => ?_)
  · refine lv_goto (tgt := 2200) hx hb dL_law_1509 (by decide) ?_
    refine W.widen (k := kc + 4) (n := ks + 24) (by omega) (by omega) ?_
    exact K _ _ _ _ _ _ hR1 hP hD hS (lv_sub hl [2, 3, 4, 5, 6] rfl)
  · have hz0 : z.1 = 0 := by rcases hkd with ⟨h1, h2⟩ | ⟨h1, h2⟩ <;> first | exact h1 | (rw [h2] at t0; exact absurd t0 (by decide))
    refine lv_aload_n hx hb dL_law_1497 rfl (lv_at hl 3 rfl) ?_
    refine lv_iconst (v := (0 : Int32)) hx hb dL_law_1498 (by decide) ?_
    refine lc_out C hP dL_law_1499 ?_
    refine lv_iload hx hb dL_law_1500 (lv_at hl 0 rfl) ?_
    refine lv_i2l hx hb dL_law_1502 rfl ?_
    refine W.lcmp hx hb dL_law_1503 ?_
    refine lv_if_eq (tgt := 1509) hx hb dL_law_1504 (by decide) (fun _ => ?_) (fun t => absurd (by rw [if_pos hz0, hzr hz0]; exact lg_self _) t)
    refine lv_goto (tgt := 2200) hx hb dL_law_1509 (by decide) ?_
    refine W.widen (k := kc + 4) (n := ks + 24) (by omega) (by omega) ?_
    exact K _ _ _ _ _ _ hR1 hP hD hS (lv_sub hl [2, 3, 4, 5, 6] rfl)
set_option maxHeartbeats 8000000 in
set_option maxRecDepth 100000 in
theorem lk_between (ok : Ok_between N Rl) (C : Cx p s m args meth c code 7 ret RL g (fun q => s.heap.size ≤ q) X) (hXm : xOK (gmk g hm) X) (hst : l.stackTraces = false) (hXs : va_X b L xs s s.heap) (hbl : b < s.heap.size) (hR : Rl σ τ) (hi : i + 6 ≤ L) (hL : L ≤ 3072) (hkc : kc + 4 ≤ 601024) (hks : ks + 24 ≤ 7293034) (K : Lk Rl p l e s m args below meth c g hm b i kc ks Q) (hP : va_P g.1 vwCl (lwW g (gmk g hm) σ τ o) H) (hD : va_D (fun q => s.heap.size ≤ q) (lwW g (gmk g hm) σ τ o)) (hS : va_S (fun q => s.heap.size ≤ q) s.heap H locs) (hl : lv_has ls 7 [(4, .int (nI i)), (3, .ref (g.2.2 70)), (2, .ref (hm 0)), (1, .ref (g.2.2 0)), (0, .ref b)]) : W p l e room_1 s m args below meth c H locs kc ks Q (F0 m 1512 ls []) := by
  obtain ⟨hx, hb, hr, hml, hown, hts, hK, hlocks, hXX, hA, hXo⟩ := id C
  have hbA : ¬ (fun q : Nat => s.heap.size ≤ q) b := Nat.not_le.mpr hbl
  obtain ⟨z, r, τ1, hf1, hf2, hkd, hzr, hR1⟩ := ok (xs (i + 1)) (xs (i + 2)) σ τ hR
  refine lv_aload_n hx hb dL_law_1512 rfl (lv_at hl 3 rfl) ?_
  refine lv_aload_n hx hb dL_law_1513 rfl (lv_at hl 4 rfl) ?_
  refine lv_iload hx hb dL_law_1514 (lv_at hl 0 rfl) ?_
  refine lv_iconst (v := (1 : Int32)) hx hb dL_law_1516 (by decide) ?_
  refine lv_iadd hx hb dL_law_1517 ?_
  refine lc_sld 1 hx hb hXs hbl hbA hS (by decide) (by omega) hL dL_law_1518 ?_
  refine lv_aload_n hx hb dL_law_1519 rfl (lv_at hl 4 rfl) ?_
  refine lv_iload hx hb dL_law_1520 (lv_at hl 0 rfl) ?_
  refine lv_iconst (v := (2 : Int32)) hx hb dL_law_1522 (by decide) ?_
  refine lv_iadd hx hb dL_law_1523 ?_
  refine lc_sld 2 hx hb hXs hbl hbA hS (by decide) (by omega) hL dL_law_1524 ?_
  refine lv_aload_n hx hb dL_law_1525 rfl (lv_at hl 1 rfl) ?_
  refine lc_W (hh := [(0, 10, 13, 18)]) (o' := (if z.1 = 0 then z.2.1.toInt64 else o)) (k := τ1 0 2) (rest := []) [.ref (g.2.2 0), .int (xs (i + 1)), .int (xs (i + 2)), .ref (g.2.2 70)] C hP hD hS hl.1 (cwr_between hXo hst hf1 (fun h => ⟨by rcases hkd with ⟨h1, h2⟩ | ⟨h1, h2⟩ <;> first | exact h2 | omega, by rw [if_pos h]⟩) (by rcases hkd with ⟨h1, h2⟩ | ⟨h1, h2⟩ <;> omega) (fun h => ⟨by rcases hkd with ⟨h1, h2⟩ | ⟨h1, h2⟩ <;> first | exact h2 | omega, by rw [if_neg (by omega)]⟩)) wa_1209 wa_1207 wa_1208 wa_209 rfl rfl nd_L_between ⟨Nat.le_of_ble_eq_true rfl, Nat.le_of_ble_eq_true rfl⟩ rfl rfl (Nat.le_of_ble_eq_true rfl) dL_law_1526 ⟨by show kc + 2 ≤ 601024; omega, by show ks + 12 ≤ 7293034; omega⟩ (fun H locs hP hD hS => ?_)
  refine lv_istore (lv' := [(5, .int (τ1 0 2)), (4, .int (nI i)), (3, .ref (g.2.2 70)), (2, .ref (hm 0)), (1, .ref (g.2.2 0)), (0, .ref b)]) hx hb dL_law_1529 hl (by decide) rfl (fun ls hl => ?_)
  refine lv_aload_n hx hb dL_law_1531 rfl (lv_at hl 3 rfl) ?_
  refine lv_aload_n hx hb dL_law_1532 rfl (lv_at hl 5 rfl) ?_
  refine lv_iload hx hb dL_law_1533 (lv_at hl 1 rfl) ?_
  refine lv_iconst (v := (1 : Int32)) hx hb dL_law_1535 (by decide) ?_
  refine lv_iadd hx hb dL_law_1536 ?_
  refine lc_sld 1 hx hb hXs hbl hbA hS (by decide) (by omega) hL dL_law_1537 ?_
  refine lv_aload_n hx hb dL_law_1538 rfl (lv_at hl 5 rfl) ?_
  refine lv_iload hx hb dL_law_1539 (lv_at hl 1 rfl) ?_
  refine lv_iconst (v := (2 : Int32)) hx hb dL_law_1541 (by decide) ?_
  refine lv_iadd hx hb dL_law_1542 ?_
  refine lc_sld 2 hx hb hXs hbl hbA hS (by decide) (by omega) hL dL_law_1543 ?_
  refine lc_M (rest := []) [.int (xs (i + 1)), .int (xs (i + 2))] C hXm hP hD hS hl.1 (c_X12_between hXm hf2) (cwA_V 2 hts wa_1217 wa_1214 wa_1215 wa_1216 wa_5 rfl rfl nd_X12_between ⟨Nat.le_of_ble_eq_true rfl, Nat.le_of_ble_eq_true rfl⟩) rfl rfl (Nat.le_of_ble_eq_true rfl) dL_law_1544 ⟨by show kc + 2 ≤ 601024; omega, by show ks + 12 ≤ 7293034; omega⟩ (fun H locs hP hD hS => ?_)
  refine lv_istore (lv' := [(6, .int r), (5, .int (τ1 0 2)), (4, .int (nI i)), (3, .ref (g.2.2 70)), (2, .ref (hm 0)), (1, .ref (g.2.2 0)), (0, .ref b)]) hx hb dL_law_1547 hl (by decide) rfl (fun ls hl => ?_)
  refine lv_aload_n hx hb dL_law_1549 rfl (lv_at hl 4 rfl) ?_
  refine lc_M (rest := []) [] C hXm hP hD hS hl.1 ((c_X12_thrown (N := 0) (z := (τ1 0 2, τ1)) hXm rfl)) (cwA_V 0 hts wa_624 wa_621 wa_622 wa_623 wa_5 rfl rfl nd_X12_thrown ⟨Nat.le_of_ble_eq_true rfl, Nat.le_of_ble_eq_true rfl⟩) rfl rfl (Nat.le_of_ble_eq_true rfl) dL_law_1550 ⟨by show kc + 2 ≤ 601024; omega, by show ks + 12 ≤ 7293034; omega⟩ (fun H locs hP hD hS => ?_)
  refine lv_iload hx hb dL_law_1553 (lv_at hl 1 rfl) ?_
  refine lv_icmp_eq (tgt := 1560) hx hb dL_law_1555 (by decide) (fun _ => ?_) (fun t => absurd rfl t)
  refine lv_iload hx hb dL_law_1560 (lv_at hl 1 rfl) ?_
  refine lv_if_ne (tgt := 1577) hx hb dL_law_1562 (by decide) (fun t0 => ?_) (fun t0 => ?_)
  · refine lv_goto (tgt := 2200) hx hb dL_law_1577 (by decide) ?_
    refine W.widen (k := kc + 4) (n := ks + 24) (by omega) (by omega) ?_
    exact K _ _ _ _ _ _ hR1 hP hD hS (lv_sub hl [2, 3, 4, 5, 6] rfl)
  · have hz0 : z.1 = 0 := by rcases hkd with ⟨h1, h2⟩ | ⟨h1, h2⟩ <;> first | exact h1 | (rw [h2] at t0; exact absurd t0 (by decide))
    refine lv_aload_n hx hb dL_law_1565 rfl (lv_at hl 3 rfl) ?_
    refine lv_iconst (v := (0 : Int32)) hx hb dL_law_1566 (by decide) ?_
    refine lc_out C hP dL_law_1567 ?_
    refine lv_iload hx hb dL_law_1568 (lv_at hl 0 rfl) ?_
    refine lv_i2l hx hb dL_law_1570 rfl ?_
    refine W.lcmp hx hb dL_law_1571 ?_
    refine lv_if_eq (tgt := 1577) hx hb dL_law_1572 (by decide) (fun _ => ?_) (fun t => absurd (by rw [if_pos hz0, hzr hz0]; exact lg_self _) t)
    refine lv_goto (tgt := 2200) hx hb dL_law_1577 (by decide) ?_
    refine W.widen (k := kc + 4) (n := ks + 24) (by omega) (by omega) ?_
    exact K _ _ _ _ _ _ hR1 hP hD hS (lv_sub hl [2, 3, 4, 5, 6] rfl)
set_option maxHeartbeats 8000000 in
set_option maxRecDepth 100000 in
theorem lk_line (ok : Ok_line N Rl) (C : Cx p s m args meth c code 7 ret RL g (fun q => s.heap.size ≤ q) X) (hXm : xOK (gmk g hm) X) (hst : l.stackTraces = false) (hXs : va_X b L xs s s.heap) (hbl : b < s.heap.size) (hR : Rl σ τ) (hi : i + 6 ≤ L) (hL : L ≤ 3072) (hkc : kc + 4 ≤ 601024) (hks : ks + 24 ≤ 7293034) (K : Lk Rl p l e s m args below meth c g hm b i kc ks Q) (hP : va_P g.1 vwCl (lwW g (gmk g hm) σ τ o) H) (hD : va_D (fun q => s.heap.size ≤ q) (lwW g (gmk g hm) σ τ o)) (hS : va_S (fun q => s.heap.size ≤ q) s.heap H locs) (hl : lv_has ls 7 [(4, .int (nI i)), (3, .ref (g.2.2 70)), (2, .ref (hm 0)), (1, .ref (g.2.2 0)), (0, .ref b)]) : W p l e room_1 s m args below meth c H locs kc ks Q (F0 m 1580 ls []) := by
  obtain ⟨hx, hb, hr, hml, hown, hts, hK, hlocks, hXX, hA, hXo⟩ := id C
  have hbA : ¬ (fun q : Nat => s.heap.size ≤ q) b := Nat.not_le.mpr hbl
  obtain ⟨r, σ1, τ1, hf1, hf2, hR1⟩ := ok σ τ hR
  refine lv_aload_n hx hb dL_law_1580 rfl (lv_at hl 3 rfl) ?_
  refine lc_X (rest := []) [] C hP hD hS hl.1 (c_X11_line_0 hXo hf1) (cwA_V 0 hts wa_1221 wa_1218 wa_1219 wa_1220 wa_2 rfl rfl nd_X11_line ⟨Nat.le_of_ble_eq_true rfl, Nat.le_of_ble_eq_true rfl⟩) rfl rfl (Nat.le_of_ble_eq_true rfl) dL_law_1581 ⟨by show kc + 0 ≤ 601024; omega, by show ks + 0 ≤ 7293034; omega⟩ (fun H locs hP hD hS => ?_)
  refine lv_aload_n hx hb dL_law_1584 rfl (lv_at hl 2 rfl) ?_
  refine lc_M (rest := [.int r]) [] C hXm hP hD hS hl.1 (c_X12_line hXm hf2) (cwA_V 0 hts wa_1235 wa_1232 wa_1233 wa_1234 wa_5 rfl rfl nd_X12_line ⟨Nat.le_of_ble_eq_true rfl, Nat.le_of_ble_eq_true rfl⟩) rfl rfl (Nat.le_of_ble_eq_true rfl) dL_law_1585 ⟨by show kc + 0 ≤ 601024; omega, by show ks + 0 ≤ 7293034; omega⟩ (fun H locs hP hD hS => ?_)
  refine lv_icmp_eq (tgt := 2200) hx hb dL_law_1588 (by decide) (fun _ => ?_) (fun t => absurd rfl t)
  refine W.widen (k := kc + 4) (n := ks + 24) (by omega) (by omega) ?_
  exact K _ _ _ _ _ _ hR1 hP hD hS (lv_sub hl [0, 1, 2, 3, 4] rfl)
set_option maxHeartbeats 8000000 in
set_option maxRecDepth 100000 in
theorem lk_hidden (ok : Ok_hidden N Rl) (C : Cx p s m args meth c code 7 ret RL g (fun q => s.heap.size ≤ q) X) (hXm : xOK (gmk g hm) X) (hst : l.stackTraces = false) (hXs : va_X b L xs s s.heap) (hbl : b < s.heap.size) (hR : Rl σ τ) (hi : i + 6 ≤ L) (hL : L ≤ 3072) (hkc : kc + 4 ≤ 601024) (hks : ks + 24 ≤ 7293034) (K : Lk Rl p l e s m args below meth c g hm b i kc ks Q) (hP : va_P g.1 vwCl (lwW g (gmk g hm) σ τ o) H) (hD : va_D (fun q => s.heap.size ≤ q) (lwW g (gmk g hm) σ τ o)) (hS : va_S (fun q => s.heap.size ≤ q) s.heap H locs) (hl : lv_has ls 7 [(4, .int (nI i)), (3, .ref (g.2.2 70)), (2, .ref (hm 0)), (1, .ref (g.2.2 0)), (0, .ref b)]) : W p l e room_1 s m args below meth c H locs kc ks Q (F0 m 1593 ls []) := by
  obtain ⟨hx, hb, hr, hml, hown, hts, hK, hlocks, hXX, hA, hXo⟩ := id C
  have hbA : ¬ (fun q : Nat => s.heap.size ≤ q) b := Nat.not_le.mpr hbl
  obtain ⟨z, r, τ1, hf1, hf2, hkd, hzr, hR1⟩ := ok (xs (i + 1)) σ τ hR
  refine lv_aload_n hx hb dL_law_1593 rfl (lv_at hl 3 rfl) ?_
  refine lv_aload_n hx hb dL_law_1594 rfl (lv_at hl 4 rfl) ?_
  refine lv_iload hx hb dL_law_1595 (lv_at hl 0 rfl) ?_
  refine lv_iconst (v := (1 : Int32)) hx hb dL_law_1597 (by decide) ?_
  refine lv_iadd hx hb dL_law_1598 ?_
  refine lc_sld 1 hx hb hXs hbl hbA hS (by decide) (by omega) hL dL_law_1599 ?_
  refine lv_aload_n hx hb dL_law_1600 rfl (lv_at hl 1 rfl) ?_
  refine lc_W (hh := [(0, 9, 12, 18)]) (o' := (if z.1 = 0 then z.2.1.toInt64 else o)) (k := τ1 0 2) (rest := []) [.ref (g.2.2 0), .int (xs (i + 1)), .ref (g.2.2 70)] C hP hD hS hl.1 (cwr_hidden hXo hst hf1 (fun h => ⟨by rcases hkd with ⟨h1, h2⟩ | ⟨h1, h2⟩ <;> first | exact h2 | omega, by rw [if_pos h]⟩) (by rcases hkd with ⟨h1, h2⟩ | ⟨h1, h2⟩ <;> omega) (fun h => ⟨by rcases hkd with ⟨h1, h2⟩ | ⟨h1, h2⟩ <;> first | exact h2 | omega, by rw [if_neg (by omega)]⟩)) wa_1242 wa_1240 wa_1241 wa_209 rfl rfl nd_L_hidden ⟨Nat.le_of_ble_eq_true rfl, Nat.le_of_ble_eq_true rfl⟩ rfl rfl (Nat.le_of_ble_eq_true rfl) dL_law_1601 ⟨by show kc + 1 ≤ 601024; omega, by show ks + 6 ≤ 7293034; omega⟩ (fun H locs hP hD hS => ?_)
  refine lv_istore (lv' := [(5, .int (τ1 0 2)), (4, .int (nI i)), (3, .ref (g.2.2 70)), (2, .ref (hm 0)), (1, .ref (g.2.2 0)), (0, .ref b)]) hx hb dL_law_1604 hl (by decide) rfl (fun ls hl => ?_)
  refine lv_aload_n hx hb dL_law_1606 rfl (lv_at hl 3 rfl) ?_
  refine lv_aload_n hx hb dL_law_1607 rfl (lv_at hl 5 rfl) ?_
  refine lv_iload hx hb dL_law_1608 (lv_at hl 1 rfl) ?_
  refine lv_iconst (v := (1 : Int32)) hx hb dL_law_1610 (by decide) ?_
  refine lv_iadd hx hb dL_law_1611 ?_
  refine lc_sld 1 hx hb hXs hbl hbA hS (by decide) (by omega) hL dL_law_1612 ?_
  refine lc_M (rest := []) [.int (xs (i + 1))] C hXm hP hD hS hl.1 (c_X12_hidden hXm hf2) (cwA_V 1 hts wa_1250 wa_1247 wa_1248 wa_1249 wa_5 rfl rfl nd_X12_hidden ⟨Nat.le_of_ble_eq_true rfl, Nat.le_of_ble_eq_true rfl⟩) rfl rfl (Nat.le_of_ble_eq_true rfl) dL_law_1613 ⟨by show kc + 1 ≤ 601024; omega, by show ks + 6 ≤ 7293034; omega⟩ (fun H locs hP hD hS => ?_)
  refine lv_istore (lv' := [(6, .int r), (5, .int (τ1 0 2)), (4, .int (nI i)), (3, .ref (g.2.2 70)), (2, .ref (hm 0)), (1, .ref (g.2.2 0)), (0, .ref b)]) hx hb dL_law_1616 hl (by decide) rfl (fun ls hl => ?_)
  refine lv_aload_n hx hb dL_law_1618 rfl (lv_at hl 4 rfl) ?_
  refine lc_M (rest := []) [] C hXm hP hD hS hl.1 ((c_X12_thrown (N := 0) (z := (τ1 0 2, τ1)) hXm rfl)) (cwA_V 0 hts wa_624 wa_621 wa_622 wa_623 wa_5 rfl rfl nd_X12_thrown ⟨Nat.le_of_ble_eq_true rfl, Nat.le_of_ble_eq_true rfl⟩) rfl rfl (Nat.le_of_ble_eq_true rfl) dL_law_1619 ⟨by show kc + 1 ≤ 601024; omega, by show ks + 6 ≤ 7293034; omega⟩ (fun H locs hP hD hS => ?_)
  refine lv_iload hx hb dL_law_1622 (lv_at hl 1 rfl) ?_
  refine lv_icmp_eq (tgt := 1629) hx hb dL_law_1624 (by decide) (fun _ => ?_) (fun t => absurd rfl t)
  refine lv_iload hx hb dL_law_1629 (lv_at hl 1 rfl) ?_
  refine lv_if_ne (tgt := 1646) hx hb dL_law_1631 (by decide) (fun t0 => ?_) (fun t0 => ?_)
  · refine lv_goto (tgt := 2200) hx hb dL_law_1646 (by decide) ?_
    refine W.widen (k := kc + 4) (n := ks + 24) (by omega) (by omega) ?_
    exact K _ _ _ _ _ _ hR1 hP hD hS (lv_sub hl [2, 3, 4, 5, 6] rfl)
  · have hz0 : z.1 = 0 := by rcases hkd with ⟨h1, h2⟩ | ⟨h1, h2⟩ <;> first | exact h1 | (rw [h2] at t0; exact absurd t0 (by decide))
    refine lv_aload_n hx hb dL_law_1634 rfl (lv_at hl 3 rfl) ?_
    refine lv_iconst (v := (0 : Int32)) hx hb dL_law_1635 (by decide) ?_
    refine lc_out C hP dL_law_1636 ?_
    refine lv_iload hx hb dL_law_1637 (lv_at hl 0 rfl) ?_
    refine lv_i2l hx hb dL_law_1639 rfl ?_
    refine W.lcmp hx hb dL_law_1640 ?_
    refine lv_if_eq (tgt := 1646) hx hb dL_law_1641 (by decide) (fun _ => ?_) (fun t => absurd (by rw [if_pos hz0, hzr hz0]; exact lg_self _) t)
    refine lv_goto (tgt := 2200) hx hb dL_law_1646 (by decide) ?_
    refine W.widen (k := kc + 4) (n := ks + 24) (by omega) (by omega) ?_
    exact K _ _ _ _ _ _ hR1 hP hD hS (lv_sub hl [2, 3, 4, 5, 6] rfl)
set_option maxHeartbeats 8000000 in
set_option maxRecDepth 100000 in
theorem lk_crowd (ok : Ok_crowd N Rl) (C : Cx p s m args meth c code 7 ret RL g (fun q => s.heap.size ≤ q) X) (hXm : xOK (gmk g hm) X) (hst : l.stackTraces = false) (hXs : va_X b L xs s s.heap) (hbl : b < s.heap.size) (hR : Rl σ τ) (hi : i + 6 ≤ L) (hL : L ≤ 3072) (hkc : kc + 4 ≤ 601024) (hks : ks + 24 ≤ 7293034) (K : Lk Rl p l e s m args below meth c g hm b i kc ks Q) (hP : va_P g.1 vwCl (lwW g (gmk g hm) σ τ o) H) (hD : va_D (fun q => s.heap.size ≤ q) (lwW g (gmk g hm) σ τ o)) (hS : va_S (fun q => s.heap.size ≤ q) s.heap H locs) (hl : lv_has ls 7 [(4, .int (nI i)), (3, .ref (g.2.2 70)), (2, .ref (hm 0)), (1, .ref (g.2.2 0)), (0, .ref b)]) : W p l e room_1 s m args below meth c H locs kc ks Q (F0 m 1649 ls []) := by
  obtain ⟨hx, hb, hr, hml, hown, hts, hK, hlocks, hXX, hA, hXo⟩ := id C
  have hbA : ¬ (fun q : Nat => s.heap.size ≤ q) b := Nat.not_le.mpr hbl
  obtain ⟨z, r, τ1, hf1, hf2, hkd, hzr, hR1⟩ := ok (xs (i + 1)) (xs (i + 2)) σ τ hR
  refine lv_aload_n hx hb dL_law_1649 rfl (lv_at hl 3 rfl) ?_
  refine lv_aload_n hx hb dL_law_1650 rfl (lv_at hl 4 rfl) ?_
  refine lv_iload hx hb dL_law_1651 (lv_at hl 0 rfl) ?_
  refine lv_iconst (v := (1 : Int32)) hx hb dL_law_1653 (by decide) ?_
  refine lv_iadd hx hb dL_law_1654 ?_
  refine lc_sld 1 hx hb hXs hbl hbA hS (by decide) (by omega) hL dL_law_1655 ?_
  refine lv_aload_n hx hb dL_law_1656 rfl (lv_at hl 4 rfl) ?_
  refine lv_iload hx hb dL_law_1657 (lv_at hl 0 rfl) ?_
  refine lv_iconst (v := (2 : Int32)) hx hb dL_law_1659 (by decide) ?_
  refine lv_iadd hx hb dL_law_1660 ?_
  refine lc_sld 2 hx hb hXs hbl hbA hS (by decide) (by omega) hL dL_law_1661 ?_
  refine lv_aload_n hx hb dL_law_1662 rfl (lv_at hl 1 rfl) ?_
  refine lc_W (hh := [(0, 10, 13, 18), (0, 10, 17, 13)]) (o' := (if z.1 = 0 then z.2.1.toInt64 else o)) (k := τ1 0 2) (rest := []) [.ref (g.2.2 0), .int (xs (i + 1)), .int (xs (i + 2)), .ref (g.2.2 70)] C hP hD hS hl.1 (cwr_crowd hXo hst hf1 (fun h => ⟨by rcases hkd with ⟨h1, h2⟩ | ⟨h1, h2⟩ | ⟨h1, h2⟩ <;> first | exact h2 | omega, by rw [if_pos h]⟩) (fun h => ⟨by rcases hkd with ⟨h1, h2⟩ | ⟨h1, h2⟩ | ⟨h1, h2⟩ <;> first | exact h2 | omega, by rw [if_neg (by omega)]⟩) (fun h => ⟨by rcases hkd with ⟨h1, h2⟩ | ⟨h1, h2⟩ | ⟨h1, h2⟩ <;> first | exact h2 | omega, by rw [if_neg (by omega)]⟩)) wa_1253 wa_1251 wa_1252 wa_209 rfl rfl nd_L_crowd ⟨Nat.le_of_ble_eq_true rfl, Nat.le_of_ble_eq_true rfl⟩ rfl rfl (Nat.le_of_ble_eq_true rfl) dL_law_1663 ⟨by show kc + 2 ≤ 601024; omega, by show ks + 12 ≤ 7293034; omega⟩ (fun H locs hP hD hS => ?_)
  refine lv_istore (lv' := [(5, .int (τ1 0 2)), (4, .int (nI i)), (3, .ref (g.2.2 70)), (2, .ref (hm 0)), (1, .ref (g.2.2 0)), (0, .ref b)]) hx hb dL_law_1666 hl (by decide) rfl (fun ls hl => ?_)
  refine lv_aload_n hx hb dL_law_1668 rfl (lv_at hl 3 rfl) ?_
  refine lv_aload_n hx hb dL_law_1669 rfl (lv_at hl 5 rfl) ?_
  refine lv_iload hx hb dL_law_1670 (lv_at hl 1 rfl) ?_
  refine lv_iconst (v := (1 : Int32)) hx hb dL_law_1672 (by decide) ?_
  refine lv_iadd hx hb dL_law_1673 ?_
  refine lc_sld 1 hx hb hXs hbl hbA hS (by decide) (by omega) hL dL_law_1674 ?_
  refine lv_aload_n hx hb dL_law_1675 rfl (lv_at hl 5 rfl) ?_
  refine lv_iload hx hb dL_law_1676 (lv_at hl 1 rfl) ?_
  refine lv_iconst (v := (2 : Int32)) hx hb dL_law_1678 (by decide) ?_
  refine lv_iadd hx hb dL_law_1679 ?_
  refine lc_sld 2 hx hb hXs hbl hbA hS (by decide) (by omega) hL dL_law_1680 ?_
  refine lc_M (rest := []) [.int (xs (i + 1)), .int (xs (i + 2))] C hXm hP hD hS hl.1 (c_X12_crowd hXm hf2) (cwA_V 2 hts wa_1262 wa_1259 wa_1260 wa_1261 wa_5 rfl rfl nd_X12_crowd ⟨Nat.le_of_ble_eq_true rfl, Nat.le_of_ble_eq_true rfl⟩) rfl rfl (Nat.le_of_ble_eq_true rfl) dL_law_1681 ⟨by show kc + 2 ≤ 601024; omega, by show ks + 12 ≤ 7293034; omega⟩ (fun H locs hP hD hS => ?_)
  refine lv_istore (lv' := [(6, .int r), (5, .int (τ1 0 2)), (4, .int (nI i)), (3, .ref (g.2.2 70)), (2, .ref (hm 0)), (1, .ref (g.2.2 0)), (0, .ref b)]) hx hb dL_law_1684 hl (by decide) rfl (fun ls hl => ?_)
  refine lv_aload_n hx hb dL_law_1686 rfl (lv_at hl 4 rfl) ?_
  refine lc_M (rest := []) [] C hXm hP hD hS hl.1 ((c_X12_thrown (N := 0) (z := (τ1 0 2, τ1)) hXm rfl)) (cwA_V 0 hts wa_624 wa_621 wa_622 wa_623 wa_5 rfl rfl nd_X12_thrown ⟨Nat.le_of_ble_eq_true rfl, Nat.le_of_ble_eq_true rfl⟩) rfl rfl (Nat.le_of_ble_eq_true rfl) dL_law_1687 ⟨by show kc + 2 ≤ 601024; omega, by show ks + 12 ≤ 7293034; omega⟩ (fun H locs hP hD hS => ?_)
  refine lv_iload hx hb dL_law_1690 (lv_at hl 1 rfl) ?_
  refine lv_icmp_eq (tgt := 1697) hx hb dL_law_1692 (by decide) (fun _ => ?_) (fun t => absurd rfl t)
  refine lv_iload hx hb dL_law_1697 (lv_at hl 1 rfl) ?_
  refine lv_if_ne (tgt := 1714) hx hb dL_law_1699 (by decide) (fun t0 => ?_) (fun t0 => ?_)
  · refine lv_goto (tgt := 2200) hx hb dL_law_1714 (by decide) ?_
    refine W.widen (k := kc + 4) (n := ks + 24) (by omega) (by omega) ?_
    exact K _ _ _ _ _ _ hR1 hP hD hS (lv_sub hl [2, 3, 4, 5, 6] rfl)
  · have hz0 : z.1 = 0 := by rcases hkd with ⟨h1, h2⟩ | ⟨h1, h2⟩ | ⟨h1, h2⟩ <;> first | exact h1 | (rw [h2] at t0; exact absurd t0 (by decide))
    refine lv_aload_n hx hb dL_law_1702 rfl (lv_at hl 3 rfl) ?_
    refine lv_iconst (v := (0 : Int32)) hx hb dL_law_1703 (by decide) ?_
    refine lc_out C hP dL_law_1704 ?_
    refine lv_iload hx hb dL_law_1705 (lv_at hl 0 rfl) ?_
    refine lv_i2l hx hb dL_law_1707 rfl ?_
    refine W.lcmp hx hb dL_law_1708 ?_
    refine lv_if_eq (tgt := 1714) hx hb dL_law_1709 (by decide) (fun _ => ?_) (fun t => absurd (by rw [if_pos hz0, hzr hz0]; exact lg_self _) t)
    refine lv_goto (tgt := 2200) hx hb dL_law_1714 (by decide) ?_
    refine W.widen (k := kc + 4) (n := ks + 24) (by omega) (by omega) ?_
    exact K _ _ _ _ _ _ hR1 hP hD hS (lv_sub hl [2, 3, 4, 5, 6] rfl)
set_option maxHeartbeats 8000000 in
set_option maxRecDepth 100000 in
theorem lk_see (ok : Ok_see N Rl) (C : Cx p s m args meth c code 7 ret RL g (fun q => s.heap.size ≤ q) X) (hXm : xOK (gmk g hm) X) (hst : l.stackTraces = false) (hXs : va_X b L xs s s.heap) (hbl : b < s.heap.size) (hR : Rl σ τ) (hi : i + 6 ≤ L) (hL : L ≤ 3072) (hkc : kc + 4 ≤ 601024) (hks : ks + 24 ≤ 7293034) (K : Lk Rl p l e s m args below meth c g hm b i kc ks Q) (hP : va_P g.1 vwCl (lwW g (gmk g hm) σ τ o) H) (hD : va_D (fun q => s.heap.size ≤ q) (lwW g (gmk g hm) σ τ o)) (hS : va_S (fun q => s.heap.size ≤ q) s.heap H locs) (hl : lv_has ls 7 [(4, .int (nI i)), (3, .ref (g.2.2 70)), (2, .ref (hm 0)), (1, .ref (g.2.2 0)), (0, .ref b)]) : W p l e room_1 s m args below meth c H locs kc ks Q (F0 m 1717 ls []) := by
  obtain ⟨hx, hb, hr, hml, hown, hts, hK, hlocks, hXX, hA, hXo⟩ := id C
  have hbA : ¬ (fun q : Nat => s.heap.size ≤ q) b := Nat.not_le.mpr hbl
  refine lv_aload_n hx hb dL_law_1717 rfl (lv_at hl 3 rfl) ?_
  refine lv_aload_n hx hb dL_law_1718 rfl (lv_at hl 4 rfl) ?_
  refine lv_iload hx hb dL_law_1719 (lv_at hl 0 rfl) ?_
  refine lv_iconst (v := (1 : Int32)) hx hb dL_law_1721 (by decide) ?_
  refine lv_iadd hx hb dL_law_1722 ?_
  refine lc_sld 1 hx hb hXs hbl hbA hS (by decide) (by omega) hL dL_law_1723 ?_
  refine lv_aload_n hx hb dL_law_1724 rfl (lv_at hl 4 rfl) ?_
  refine lv_iload hx hb dL_law_1725 (lv_at hl 0 rfl) ?_
  refine lv_iconst (v := (2 : Int32)) hx hb dL_law_1727 (by decide) ?_
  refine lv_iadd hx hb dL_law_1728 ?_
  refine lc_sld 2 hx hb hXs hbl hbA hS (by decide) (by omega) hL dL_law_1729 ?_
  refine lv_aload_n hx hb dL_law_1730 rfl (lv_at hl 4 rfl) ?_
  refine lv_iload hx hb dL_law_1731 (lv_at hl 0 rfl) ?_
  refine lv_iconst (v := (3 : Int32)) hx hb dL_law_1733 (by decide) ?_
  refine lv_iadd hx hb dL_law_1734 ?_
  refine lc_sld 3 hx hb hXs hbl hbA hS (by decide) (by omega) hL dL_law_1735 ?_
  refine lv_if_eq (tgt := 1743) hx hb dL_law_1736 (by decide) (fun tb => ?_) (fun tb => ?_)
  · obtain ⟨z, r, τ1, hf1, hf2, hkd, hzr, hR1⟩ := ok (xs (i + 1)) (xs (i + 2)) (0 : Int32) σ τ (Or.inl rfl) hR
    refine lv_iconst (v := (0 : Int32)) hx hb dL_law_1743 (by decide) ?_
    refine lv_aload_n hx hb dL_law_1744 rfl (lv_at hl 1 rfl) ?_
    refine lc_W (hh := [(0, 12, 15, 18)]) (o' := (if z.1 = 0 then z.2.1.toInt64 else o)) (k := τ1 0 2) (rest := []) [.ref (g.2.2 0), .int (xs (i + 1)), .int (xs (i + 2)), .int (0 : Int32), .ref (g.2.2 70)] C hP hD hS hl.1 (cwr_see hXo hst hf1 (fun h => ⟨by rcases hkd with ⟨h1, h2⟩ | ⟨h1, h2⟩ <;> first | exact h2 | omega, by rw [if_pos h]⟩) (by rcases hkd with ⟨h1, h2⟩ | ⟨h1, h2⟩ <;> omega) (fun h => ⟨by rcases hkd with ⟨h1, h2⟩ | ⟨h1, h2⟩ <;> first | exact h2 | omega, by rw [if_neg (by omega)]⟩)) wa_1265 wa_1263 wa_1264 wa_209 rfl rfl nd_L_see ⟨Nat.le_of_ble_eq_true rfl, Nat.le_of_ble_eq_true rfl⟩ rfl rfl (Nat.le_of_ble_eq_true rfl) dL_law_1745 ⟨by show kc + 1 ≤ 601024; omega, by show ks + 6 ≤ 7293034; omega⟩ (fun H locs hP hD hS => ?_)
    refine lv_istore (lv' := [(5, .int (τ1 0 2)), (4, .int (nI i)), (3, .ref (g.2.2 70)), (2, .ref (hm 0)), (1, .ref (g.2.2 0)), (0, .ref b)]) hx hb dL_law_1748 hl (by decide) rfl (fun ls hl => ?_)
    refine lv_aload_n hx hb dL_law_1750 rfl (lv_at hl 3 rfl) ?_
    refine lv_aload_n hx hb dL_law_1751 rfl (lv_at hl 5 rfl) ?_
    refine lv_iload hx hb dL_law_1752 (lv_at hl 1 rfl) ?_
    refine lv_iconst (v := (1 : Int32)) hx hb dL_law_1754 (by decide) ?_
    refine lv_iadd hx hb dL_law_1755 ?_
    refine lc_sld 1 hx hb hXs hbl hbA hS (by decide) (by omega) hL dL_law_1756 ?_
    refine lv_aload_n hx hb dL_law_1757 rfl (lv_at hl 5 rfl) ?_
    refine lv_iload hx hb dL_law_1758 (lv_at hl 1 rfl) ?_
    refine lv_iconst (v := (2 : Int32)) hx hb dL_law_1760 (by decide) ?_
    refine lv_iadd hx hb dL_law_1761 ?_
    refine lc_sld 2 hx hb hXs hbl hbA hS (by decide) (by omega) hL dL_law_1762 ?_
    refine lv_aload_n hx hb dL_law_1763 rfl (lv_at hl 5 rfl) ?_
    refine lv_iload hx hb dL_law_1764 (lv_at hl 1 rfl) ?_
    refine lv_iconst (v := (3 : Int32)) hx hb dL_law_1766 (by decide) ?_
    refine lv_iadd hx hb dL_law_1767 ?_
    refine lc_sld 3 hx hb hXs hbl hbA hS (by decide) (by omega) hL dL_law_1768 ?_
    refine lv_if_eq (tgt := 1776) hx hb dL_law_1769 (by decide) (fun _ => ?_) (fun t => absurd tb t)
    refine lv_iconst (v := (0 : Int32)) hx hb dL_law_1776 (by decide) ?_
    refine lc_M (rest := []) [.int (xs (i + 1)), .int (xs (i + 2)), .int (0 : Int32)] C hXm hP hD hS hl.1 (c_X12_see hXm hf2) (cwA_V 3 hts wa_1277 wa_1274 wa_1275 wa_1276 wa_5 rfl rfl nd_X12_see ⟨Nat.le_of_ble_eq_true rfl, Nat.le_of_ble_eq_true rfl⟩) rfl rfl (Nat.le_of_ble_eq_true rfl) dL_law_1777 ⟨by show kc + 1 ≤ 601024; omega, by show ks + 6 ≤ 7293034; omega⟩ (fun H locs hP hD hS => ?_)
    refine lv_istore (lv' := [(6, .int r), (5, .int (τ1 0 2)), (4, .int (nI i)), (3, .ref (g.2.2 70)), (2, .ref (hm 0)), (1, .ref (g.2.2 0)), (0, .ref b)]) hx hb dL_law_1780 hl (by decide) rfl (fun ls hl => ?_)
    refine lv_aload_n hx hb dL_law_1782 rfl (lv_at hl 4 rfl) ?_
    refine lc_M (rest := []) [] C hXm hP hD hS hl.1 ((c_X12_thrown (N := 0) (z := (τ1 0 2, τ1)) hXm rfl)) (cwA_V 0 hts wa_624 wa_621 wa_622 wa_623 wa_5 rfl rfl nd_X12_thrown ⟨Nat.le_of_ble_eq_true rfl, Nat.le_of_ble_eq_true rfl⟩) rfl rfl (Nat.le_of_ble_eq_true rfl) dL_law_1783 ⟨by show kc + 1 ≤ 601024; omega, by show ks + 6 ≤ 7293034; omega⟩ (fun H locs hP hD hS => ?_)
    refine lv_iload hx hb dL_law_1786 (lv_at hl 1 rfl) ?_
    refine lv_icmp_eq (tgt := 1793) hx hb dL_law_1788 (by decide) (fun _ => ?_) (fun t => absurd rfl t)
    refine lv_iload hx hb dL_law_1793 (lv_at hl 1 rfl) ?_
    refine lv_if_ne (tgt := 1810) hx hb dL_law_1795 (by decide) (fun t0 => ?_) (fun t0 => ?_)
    · refine lv_goto (tgt := 2200) hx hb dL_law_1810 (by decide) ?_
      refine W.widen (k := kc + 4) (n := ks + 24) (by omega) (by omega) ?_
      exact K _ _ _ _ _ _ hR1 hP hD hS (lv_sub hl [2, 3, 4, 5, 6] rfl)
    · have hz0 : z.1 = 0 := by rcases hkd with ⟨h1, h2⟩ | ⟨h1, h2⟩ <;> first | exact h1 | (rw [h2] at t0; exact absurd t0 (by decide))
      refine lv_aload_n hx hb dL_law_1798 rfl (lv_at hl 3 rfl) ?_
      refine lv_iconst (v := (0 : Int32)) hx hb dL_law_1799 (by decide) ?_
      refine lc_out C hP dL_law_1800 ?_
      refine lv_iload hx hb dL_law_1801 (lv_at hl 0 rfl) ?_
      refine lv_i2l hx hb dL_law_1803 rfl ?_
      refine W.lcmp hx hb dL_law_1804 ?_
      refine lv_if_eq (tgt := 1810) hx hb dL_law_1805 (by decide) (fun _ => ?_) (fun t => absurd (by rw [if_pos hz0, hzr hz0]; exact lg_self _) t)
      refine lv_goto (tgt := 2200) hx hb dL_law_1810 (by decide) ?_
      refine W.widen (k := kc + 4) (n := ks + 24) (by omega) (by omega) ?_
      exact K _ _ _ _ _ _ hR1 hP hD hS (lv_sub hl [2, 3, 4, 5, 6] rfl)
  · obtain ⟨z, r, τ1, hf1, hf2, hkd, hzr, hR1⟩ := ok (xs (i + 1)) (xs (i + 2)) (1 : Int32) σ τ (Or.inr rfl) hR
    refine lv_iconst (v := (1 : Int32)) hx hb dL_law_1739 (by decide) ?_
    refine lv_goto (tgt := 1744) hx hb dL_law_1740 (by decide) ?_
    refine lv_aload_n hx hb dL_law_1744 rfl (lv_at hl 1 rfl) ?_
    refine lc_W (hh := [(0, 12, 15, 18)]) (o' := (if z.1 = 0 then z.2.1.toInt64 else o)) (k := τ1 0 2) (rest := []) [.ref (g.2.2 0), .int (xs (i + 1)), .int (xs (i + 2)), .int (1 : Int32), .ref (g.2.2 70)] C hP hD hS hl.1 (cwr_see hXo hst hf1 (fun h => ⟨by rcases hkd with ⟨h1, h2⟩ | ⟨h1, h2⟩ <;> first | exact h2 | omega, by rw [if_pos h]⟩) (by rcases hkd with ⟨h1, h2⟩ | ⟨h1, h2⟩ <;> omega) (fun h => ⟨by rcases hkd with ⟨h1, h2⟩ | ⟨h1, h2⟩ <;> first | exact h2 | omega, by rw [if_neg (by omega)]⟩)) wa_1265 wa_1263 wa_1264 wa_209 rfl rfl nd_L_see ⟨Nat.le_of_ble_eq_true rfl, Nat.le_of_ble_eq_true rfl⟩ rfl rfl (Nat.le_of_ble_eq_true rfl) dL_law_1745 ⟨by show kc + 1 ≤ 601024; omega, by show ks + 6 ≤ 7293034; omega⟩ (fun H locs hP hD hS => ?_)
    refine lv_istore (lv' := [(5, .int (τ1 0 2)), (4, .int (nI i)), (3, .ref (g.2.2 70)), (2, .ref (hm 0)), (1, .ref (g.2.2 0)), (0, .ref b)]) hx hb dL_law_1748 hl (by decide) rfl (fun ls hl => ?_)
    refine lv_aload_n hx hb dL_law_1750 rfl (lv_at hl 3 rfl) ?_
    refine lv_aload_n hx hb dL_law_1751 rfl (lv_at hl 5 rfl) ?_
    refine lv_iload hx hb dL_law_1752 (lv_at hl 1 rfl) ?_
    refine lv_iconst (v := (1 : Int32)) hx hb dL_law_1754 (by decide) ?_
    refine lv_iadd hx hb dL_law_1755 ?_
    refine lc_sld 1 hx hb hXs hbl hbA hS (by decide) (by omega) hL dL_law_1756 ?_
    refine lv_aload_n hx hb dL_law_1757 rfl (lv_at hl 5 rfl) ?_
    refine lv_iload hx hb dL_law_1758 (lv_at hl 1 rfl) ?_
    refine lv_iconst (v := (2 : Int32)) hx hb dL_law_1760 (by decide) ?_
    refine lv_iadd hx hb dL_law_1761 ?_
    refine lc_sld 2 hx hb hXs hbl hbA hS (by decide) (by omega) hL dL_law_1762 ?_
    refine lv_aload_n hx hb dL_law_1763 rfl (lv_at hl 5 rfl) ?_
    refine lv_iload hx hb dL_law_1764 (lv_at hl 1 rfl) ?_
    refine lv_iconst (v := (3 : Int32)) hx hb dL_law_1766 (by decide) ?_
    refine lv_iadd hx hb dL_law_1767 ?_
    refine lc_sld 3 hx hb hXs hbl hbA hS (by decide) (by omega) hL dL_law_1768 ?_
    refine lv_if_eq (tgt := 1776) hx hb dL_law_1769 (by decide) (fun t => absurd t tb) (fun _ => ?_)
    refine lv_iconst (v := (1 : Int32)) hx hb dL_law_1772 (by decide) ?_
    refine lv_goto (tgt := 1777) hx hb dL_law_1773 (by decide) ?_
    refine lc_M (rest := []) [.int (xs (i + 1)), .int (xs (i + 2)), .int (1 : Int32)] C hXm hP hD hS hl.1 (c_X12_see hXm hf2) (cwA_V 3 hts wa_1277 wa_1274 wa_1275 wa_1276 wa_5 rfl rfl nd_X12_see ⟨Nat.le_of_ble_eq_true rfl, Nat.le_of_ble_eq_true rfl⟩) rfl rfl (Nat.le_of_ble_eq_true rfl) dL_law_1777 ⟨by show kc + 1 ≤ 601024; omega, by show ks + 6 ≤ 7293034; omega⟩ (fun H locs hP hD hS => ?_)
    refine lv_istore (lv' := [(6, .int r), (5, .int (τ1 0 2)), (4, .int (nI i)), (3, .ref (g.2.2 70)), (2, .ref (hm 0)), (1, .ref (g.2.2 0)), (0, .ref b)]) hx hb dL_law_1780 hl (by decide) rfl (fun ls hl => ?_)
    refine lv_aload_n hx hb dL_law_1782 rfl (lv_at hl 4 rfl) ?_
    refine lc_M (rest := []) [] C hXm hP hD hS hl.1 ((c_X12_thrown (N := 0) (z := (τ1 0 2, τ1)) hXm rfl)) (cwA_V 0 hts wa_624 wa_621 wa_622 wa_623 wa_5 rfl rfl nd_X12_thrown ⟨Nat.le_of_ble_eq_true rfl, Nat.le_of_ble_eq_true rfl⟩) rfl rfl (Nat.le_of_ble_eq_true rfl) dL_law_1783 ⟨by show kc + 1 ≤ 601024; omega, by show ks + 6 ≤ 7293034; omega⟩ (fun H locs hP hD hS => ?_)
    refine lv_iload hx hb dL_law_1786 (lv_at hl 1 rfl) ?_
    refine lv_icmp_eq (tgt := 1793) hx hb dL_law_1788 (by decide) (fun _ => ?_) (fun t => absurd rfl t)
    refine lv_iload hx hb dL_law_1793 (lv_at hl 1 rfl) ?_
    refine lv_if_ne (tgt := 1810) hx hb dL_law_1795 (by decide) (fun t0 => ?_) (fun t0 => ?_)
    · refine lv_goto (tgt := 2200) hx hb dL_law_1810 (by decide) ?_
      refine W.widen (k := kc + 4) (n := ks + 24) (by omega) (by omega) ?_
      exact K _ _ _ _ _ _ hR1 hP hD hS (lv_sub hl [2, 3, 4, 5, 6] rfl)
    · have hz0 : z.1 = 0 := by rcases hkd with ⟨h1, h2⟩ | ⟨h1, h2⟩ <;> first | exact h1 | (rw [h2] at t0; exact absurd t0 (by decide))
      refine lv_aload_n hx hb dL_law_1798 rfl (lv_at hl 3 rfl) ?_
      refine lv_iconst (v := (0 : Int32)) hx hb dL_law_1799 (by decide) ?_
      refine lc_out C hP dL_law_1800 ?_
      refine lv_iload hx hb dL_law_1801 (lv_at hl 0 rfl) ?_
      refine lv_i2l hx hb dL_law_1803 rfl ?_
      refine W.lcmp hx hb dL_law_1804 ?_
      refine lv_if_eq (tgt := 1810) hx hb dL_law_1805 (by decide) (fun _ => ?_) (fun t => absurd (by rw [if_pos hz0, hzr hz0]; exact lg_self _) t)
      refine lv_goto (tgt := 2200) hx hb dL_law_1810 (by decide) ?_
      refine W.widen (k := kc + 4) (n := ks + 24) (by omega) (by omega) ?_
      exact K _ _ _ _ _ _ hR1 hP hD hS (lv_sub hl [2, 3, 4, 5, 6] rfl)
set_option maxHeartbeats 8000000 in
set_option maxRecDepth 100000 in
theorem lk_begun (ok : Ok_begun N Rl) (C : Cx p s m args meth c code 7 ret RL g (fun q => s.heap.size ≤ q) X) (hXm : xOK (gmk g hm) X) (hst : l.stackTraces = false) (hXs : va_X b L xs s s.heap) (hbl : b < s.heap.size) (hR : Rl σ τ) (hi : i + 6 ≤ L) (hL : L ≤ 3072) (hkc : kc + 4 ≤ 601024) (hks : ks + 24 ≤ 7293034) (K : Lk Rl p l e s m args below meth c g hm b i kc ks Q) (hP : va_P g.1 vwCl (lwW g (gmk g hm) σ τ o) H) (hD : va_D (fun q => s.heap.size ≤ q) (lwW g (gmk g hm) σ τ o)) (hS : va_S (fun q => s.heap.size ≤ q) s.heap H locs) (hl : lv_has ls 7 [(4, .int (nI i)), (3, .ref (g.2.2 70)), (2, .ref (hm 0)), (1, .ref (g.2.2 0)), (0, .ref b)]) : W p l e room_1 s m args below meth c H locs kc ks Q (F0 m 1813 ls []) := by
  obtain ⟨hx, hb, hr, hml, hown, hts, hK, hlocks, hXX, hA, hXo⟩ := id C
  have hbA : ¬ (fun q : Nat => s.heap.size ≤ q) b := Nat.not_le.mpr hbl
  obtain ⟨z, r, τ1, hf1, hf2, hkd, hzr, hR1⟩ := ok (xs (i + 1)) σ τ hR
  refine lv_aload_n hx hb dL_law_1813 rfl (lv_at hl 3 rfl) ?_
  refine lv_aload_n hx hb dL_law_1814 rfl (lv_at hl 4 rfl) ?_
  refine lv_iload hx hb dL_law_1815 (lv_at hl 0 rfl) ?_
  refine lv_iconst (v := (1 : Int32)) hx hb dL_law_1817 (by decide) ?_
  refine lv_iadd hx hb dL_law_1818 ?_
  refine lc_sld 1 hx hb hXs hbl hbA hS (by decide) (by omega) hL dL_law_1819 ?_
  refine lv_aload_n hx hb dL_law_1820 rfl (lv_at hl 1 rfl) ?_
  refine lc_W (hh := [(0, 9, 12, 18)]) (o' := (if z.1 = 0 then z.2.1.toInt64 else o)) (k := τ1 0 2) (rest := []) [.ref (g.2.2 0), .int (xs (i + 1)), .ref (g.2.2 70)] C hP hD hS hl.1 (cwr_begun hXo hst hf1 (fun h => ⟨by rcases hkd with ⟨h1, h2⟩ | ⟨h1, h2⟩ <;> first | exact h2 | omega, by rw [if_pos h]⟩) (by rcases hkd with ⟨h1, h2⟩ | ⟨h1, h2⟩ <;> omega) (fun h => ⟨by rcases hkd with ⟨h1, h2⟩ | ⟨h1, h2⟩ <;> first | exact h2 | omega, by rw [if_neg (by omega)]⟩)) wa_1280 wa_1278 wa_1279 wa_209 rfl rfl nd_L_begun ⟨Nat.le_of_ble_eq_true rfl, Nat.le_of_ble_eq_true rfl⟩ rfl rfl (Nat.le_of_ble_eq_true rfl) dL_law_1821 ⟨by show kc + 1 ≤ 601024; omega, by show ks + 6 ≤ 7293034; omega⟩ (fun H locs hP hD hS => ?_)
  refine lv_istore (lv' := [(5, .int (τ1 0 2)), (4, .int (nI i)), (3, .ref (g.2.2 70)), (2, .ref (hm 0)), (1, .ref (g.2.2 0)), (0, .ref b)]) hx hb dL_law_1824 hl (by decide) rfl (fun ls hl => ?_)
  refine lv_aload_n hx hb dL_law_1826 rfl (lv_at hl 3 rfl) ?_
  refine lv_aload_n hx hb dL_law_1827 rfl (lv_at hl 5 rfl) ?_
  refine lv_iload hx hb dL_law_1828 (lv_at hl 1 rfl) ?_
  refine lv_iconst (v := (1 : Int32)) hx hb dL_law_1830 (by decide) ?_
  refine lv_iadd hx hb dL_law_1831 ?_
  refine lc_sld 1 hx hb hXs hbl hbA hS (by decide) (by omega) hL dL_law_1832 ?_
  refine lc_M (rest := []) [.int (xs (i + 1))] C hXm hP hD hS hl.1 (c_X12_begun hXm hf2) (cwA_V 1 hts wa_1304 wa_1301 wa_1302 wa_1303 wa_5 rfl rfl nd_X12_begun ⟨Nat.le_of_ble_eq_true rfl, Nat.le_of_ble_eq_true rfl⟩) rfl rfl (Nat.le_of_ble_eq_true rfl) dL_law_1833 ⟨by show kc + 1 ≤ 601024; omega, by show ks + 6 ≤ 7293034; omega⟩ (fun H locs hP hD hS => ?_)
  refine lv_istore (lv' := [(6, .int r), (5, .int (τ1 0 2)), (4, .int (nI i)), (3, .ref (g.2.2 70)), (2, .ref (hm 0)), (1, .ref (g.2.2 0)), (0, .ref b)]) hx hb dL_law_1836 hl (by decide) rfl (fun ls hl => ?_)
  refine lv_aload_n hx hb dL_law_1838 rfl (lv_at hl 4 rfl) ?_
  refine lc_M (rest := []) [] C hXm hP hD hS hl.1 ((c_X12_thrown (N := 0) (z := (τ1 0 2, τ1)) hXm rfl)) (cwA_V 0 hts wa_624 wa_621 wa_622 wa_623 wa_5 rfl rfl nd_X12_thrown ⟨Nat.le_of_ble_eq_true rfl, Nat.le_of_ble_eq_true rfl⟩) rfl rfl (Nat.le_of_ble_eq_true rfl) dL_law_1839 ⟨by show kc + 1 ≤ 601024; omega, by show ks + 6 ≤ 7293034; omega⟩ (fun H locs hP hD hS => ?_)
  refine lv_iload hx hb dL_law_1842 (lv_at hl 1 rfl) ?_
  refine lv_icmp_eq (tgt := 1849) hx hb dL_law_1844 (by decide) (fun _ => ?_) (fun t => absurd rfl t)
  refine lv_iload hx hb dL_law_1849 (lv_at hl 1 rfl) ?_
  refine lv_if_ne (tgt := 1866) hx hb dL_law_1851 (by decide) (fun t0 => ?_) (fun t0 => ?_)
  · refine lv_goto (tgt := 2200) hx hb dL_law_1866 (by decide) ?_
    refine W.widen (k := kc + 4) (n := ks + 24) (by omega) (by omega) ?_
    exact K _ _ _ _ _ _ hR1 hP hD hS (lv_sub hl [2, 3, 4, 5, 6] rfl)
  · have hz0 : z.1 = 0 := by rcases hkd with ⟨h1, h2⟩ | ⟨h1, h2⟩ <;> first | exact h1 | (rw [h2] at t0; exact absurd t0 (by decide))
    refine lv_aload_n hx hb dL_law_1854 rfl (lv_at hl 3 rfl) ?_
    refine lv_iconst (v := (0 : Int32)) hx hb dL_law_1855 (by decide) ?_
    refine lc_out C hP dL_law_1856 ?_
    refine lv_iload hx hb dL_law_1857 (lv_at hl 0 rfl) ?_
    refine lv_i2l hx hb dL_law_1859 rfl ?_
    refine W.lcmp hx hb dL_law_1860 ?_
    refine lv_if_eq (tgt := 1866) hx hb dL_law_1861 (by decide) (fun _ => ?_) (fun t => absurd (by rw [if_pos hz0, hzr hz0]; exact lg_self _) t)
    refine lv_goto (tgt := 2200) hx hb dL_law_1866 (by decide) ?_
    refine W.widen (k := kc + 4) (n := ks + 24) (by omega) (by omega) ?_
    exact K _ _ _ _ _ _ hR1 hP hD hS (lv_sub hl [2, 3, 4, 5, 6] rfl)
set_option maxHeartbeats 8000000 in
set_option maxRecDepth 100000 in
theorem lk_look (ok : Ok_look N Rl) (C : Cx p s m args meth c code 7 ret RL g (fun q => s.heap.size ≤ q) X) (hXm : xOK (gmk g hm) X) (hst : l.stackTraces = false) (hXs : va_X b L xs s s.heap) (hbl : b < s.heap.size) (hR : Rl σ τ) (hi : i + 6 ≤ L) (hL : L ≤ 3072) (hkc : kc + 4 ≤ 601024) (hks : ks + 24 ≤ 7293034) (K : Lk Rl p l e s m args below meth c g hm b i kc ks Q) (hP : va_P g.1 vwCl (lwW g (gmk g hm) σ τ o) H) (hD : va_D (fun q => s.heap.size ≤ q) (lwW g (gmk g hm) σ τ o)) (hS : va_S (fun q => s.heap.size ≤ q) s.heap H locs) (hl : lv_has ls 7 [(4, .int (nI i)), (3, .ref (g.2.2 70)), (2, .ref (hm 0)), (1, .ref (g.2.2 0)), (0, .ref b)]) : W p l e room_1 s m args below meth c H locs kc ks Q (F0 m 1869 ls []) := by
  obtain ⟨hx, hb, hr, hml, hown, hts, hK, hlocks, hXX, hA, hXo⟩ := id C
  have hbA : ¬ (fun q : Nat => s.heap.size ≤ q) b := Nat.not_le.mpr hbl
  obtain ⟨z, r, τ1, hf1, hf2, hkd, hzr, hR1⟩ := ok (xs (i + 1)) σ τ hR
  refine lv_aload_n hx hb dL_law_1869 rfl (lv_at hl 3 rfl) ?_
  refine lv_aload_n hx hb dL_law_1870 rfl (lv_at hl 4 rfl) ?_
  refine lv_iload hx hb dL_law_1871 (lv_at hl 0 rfl) ?_
  refine lv_iconst (v := (1 : Int32)) hx hb dL_law_1873 (by decide) ?_
  refine lv_iadd hx hb dL_law_1874 ?_
  refine lc_sld 1 hx hb hXs hbl hbA hS (by decide) (by omega) hL dL_law_1875 ?_
  refine lv_aload_n hx hb dL_law_1876 rfl (lv_at hl 1 rfl) ?_
  refine lc_W (hh := [(0, 9, 12, 18)]) (o' := (if z.1 = 0 then z.2.1.toInt64 else o)) (k := τ1 0 2) (rest := []) [.ref (g.2.2 0), .int (xs (i + 1)), .ref (g.2.2 70)] C hP hD hS hl.1 (cwr_look hXo hst hf1 (fun h => ⟨by rcases hkd with ⟨h1, h2⟩ | ⟨h1, h2⟩ <;> first | exact h2 | omega, by rw [if_pos h]⟩) (by rcases hkd with ⟨h1, h2⟩ | ⟨h1, h2⟩ <;> omega) (fun h => ⟨by rcases hkd with ⟨h1, h2⟩ | ⟨h1, h2⟩ <;> first | exact h2 | omega, by rw [if_neg (by omega)]⟩)) wa_1317 wa_1315 wa_1316 wa_209 rfl rfl nd_L_look ⟨Nat.le_of_ble_eq_true rfl, Nat.le_of_ble_eq_true rfl⟩ rfl rfl (Nat.le_of_ble_eq_true rfl) dL_law_1877 ⟨by show kc + 1 ≤ 601024; omega, by show ks + 6 ≤ 7293034; omega⟩ (fun H locs hP hD hS => ?_)
  refine lv_istore (lv' := [(5, .int (τ1 0 2)), (4, .int (nI i)), (3, .ref (g.2.2 70)), (2, .ref (hm 0)), (1, .ref (g.2.2 0)), (0, .ref b)]) hx hb dL_law_1880 hl (by decide) rfl (fun ls hl => ?_)
  refine lv_aload_n hx hb dL_law_1882 rfl (lv_at hl 3 rfl) ?_
  refine lv_aload_n hx hb dL_law_1883 rfl (lv_at hl 5 rfl) ?_
  refine lv_iload hx hb dL_law_1884 (lv_at hl 1 rfl) ?_
  refine lv_iconst (v := (1 : Int32)) hx hb dL_law_1886 (by decide) ?_
  refine lv_iadd hx hb dL_law_1887 ?_
  refine lc_sld 1 hx hb hXs hbl hbA hS (by decide) (by omega) hL dL_law_1888 ?_
  refine lc_M (rest := []) [.int (xs (i + 1))] C hXm hP hD hS hl.1 (c_X12_look hXm hf2) (cwA_V 1 hts wa_1333 wa_1330 wa_1331 wa_1332 wa_5 rfl rfl nd_X12_look ⟨Nat.le_of_ble_eq_true rfl, Nat.le_of_ble_eq_true rfl⟩) rfl rfl (Nat.le_of_ble_eq_true rfl) dL_law_1889 ⟨by show kc + 1 ≤ 601024; omega, by show ks + 6 ≤ 7293034; omega⟩ (fun H locs hP hD hS => ?_)
  refine lv_istore (lv' := [(6, .int r), (5, .int (τ1 0 2)), (4, .int (nI i)), (3, .ref (g.2.2 70)), (2, .ref (hm 0)), (1, .ref (g.2.2 0)), (0, .ref b)]) hx hb dL_law_1892 hl (by decide) rfl (fun ls hl => ?_)
  refine lv_aload_n hx hb dL_law_1894 rfl (lv_at hl 4 rfl) ?_
  refine lc_M (rest := []) [] C hXm hP hD hS hl.1 ((c_X12_thrown (N := 0) (z := (τ1 0 2, τ1)) hXm rfl)) (cwA_V 0 hts wa_624 wa_621 wa_622 wa_623 wa_5 rfl rfl nd_X12_thrown ⟨Nat.le_of_ble_eq_true rfl, Nat.le_of_ble_eq_true rfl⟩) rfl rfl (Nat.le_of_ble_eq_true rfl) dL_law_1895 ⟨by show kc + 1 ≤ 601024; omega, by show ks + 6 ≤ 7293034; omega⟩ (fun H locs hP hD hS => ?_)
  refine lv_iload hx hb dL_law_1898 (lv_at hl 1 rfl) ?_
  refine lv_icmp_eq (tgt := 1905) hx hb dL_law_1900 (by decide) (fun _ => ?_) (fun t => absurd rfl t)
  refine lv_iload hx hb dL_law_1905 (lv_at hl 1 rfl) ?_
  refine lv_if_ne (tgt := 1922) hx hb dL_law_1907 (by decide) (fun t0 => ?_) (fun t0 => ?_)
  · refine lv_goto (tgt := 2200) hx hb dL_law_1922 (by decide) ?_
    refine W.widen (k := kc + 4) (n := ks + 24) (by omega) (by omega) ?_
    exact K _ _ _ _ _ _ hR1 hP hD hS (lv_sub hl [2, 3, 4, 5, 6] rfl)
  · have hz0 : z.1 = 0 := by rcases hkd with ⟨h1, h2⟩ | ⟨h1, h2⟩ <;> first | exact h1 | (rw [h2] at t0; exact absurd t0 (by decide))
    refine lv_aload_n hx hb dL_law_1910 rfl (lv_at hl 3 rfl) ?_
    refine lv_iconst (v := (0 : Int32)) hx hb dL_law_1911 (by decide) ?_
    refine lc_out C hP dL_law_1912 ?_
    refine lv_iload hx hb dL_law_1913 (lv_at hl 0 rfl) ?_
    refine lv_i2l hx hb dL_law_1915 rfl ?_
    refine W.lcmp hx hb dL_law_1916 ?_
    refine lv_if_eq (tgt := 1922) hx hb dL_law_1917 (by decide) (fun _ => ?_) (fun t => absurd (by rw [if_pos hz0, hzr hz0]; exact lg_self _) t)
    refine lv_goto (tgt := 2200) hx hb dL_law_1922 (by decide) ?_
    refine W.widen (k := kc + 4) (n := ks + 24) (by omega) (by omega) ?_
    exact K _ _ _ _ _ _ hR1 hP hD hS (lv_sub hl [2, 3, 4, 5, 6] rfl)
set_option maxHeartbeats 8000000 in
set_option maxRecDepth 100000 in
theorem lk_forget (ok : Ok_forget N Rl) (C : Cx p s m args meth c code 7 ret RL g (fun q => s.heap.size ≤ q) X) (hXm : xOK (gmk g hm) X) (hst : l.stackTraces = false) (hXs : va_X b L xs s s.heap) (hbl : b < s.heap.size) (hR : Rl σ τ) (hi : i + 6 ≤ L) (hL : L ≤ 3072) (hkc : kc + 4 ≤ 601024) (hks : ks + 24 ≤ 7293034) (K : Lk Rl p l e s m args below meth c g hm b i kc ks Q) (hP : va_P g.1 vwCl (lwW g (gmk g hm) σ τ o) H) (hD : va_D (fun q => s.heap.size ≤ q) (lwW g (gmk g hm) σ τ o)) (hS : va_S (fun q => s.heap.size ≤ q) s.heap H locs) (hl : lv_has ls 7 [(4, .int (nI i)), (3, .ref (g.2.2 70)), (2, .ref (hm 0)), (1, .ref (g.2.2 0)), (0, .ref b)]) : W p l e room_1 s m args below meth c H locs kc ks Q (F0 m 1925 ls []) := by
  obtain ⟨hx, hb, hr, hml, hown, hts, hK, hlocks, hXX, hA, hXo⟩ := id C
  have hbA : ¬ (fun q : Nat => s.heap.size ≤ q) b := Nat.not_le.mpr hbl
  obtain ⟨σ1, τ1, hf1, hf2, hR1⟩ := ok σ τ hR
  refine lv_aload_n hx hb dL_law_1925 rfl (lv_at hl 3 rfl) ?_
  refine lc_Xv (rest := []) [] C hP hD hS hl.1 (c_X11_forget_0 hXo hf1) (cwA_V 0 hts wa_1341 wa_1338 wa_1339 wa_1340 wa_2 rfl rfl nd_X11_forget ⟨Nat.le_of_ble_eq_true rfl, Nat.le_of_ble_eq_true rfl⟩) rfl rfl (Nat.le_of_ble_eq_true rfl) dL_law_1926 ⟨by show kc + 0 ≤ 601024; omega, by show ks + 0 ≤ 7293034; omega⟩ (fun H locs hP hD hS => ?_)
  refine lv_aload_n hx hb dL_law_1929 rfl (lv_at hl 2 rfl) ?_
  refine lc_Mv (rest := []) [] C hXm hP hD hS hl.1 (c_X12_forget hXm hf2) (cwA_V 0 hts wa_1345 wa_1342 wa_1343 wa_1344 wa_5 rfl rfl nd_X12_forget ⟨Nat.le_of_ble_eq_true rfl, Nat.le_of_ble_eq_true rfl⟩) rfl rfl (Nat.le_of_ble_eq_true rfl) dL_law_1930 ⟨by show kc + 0 ≤ 601024; omega, by show ks + 0 ≤ 7293034; omega⟩ (fun H locs hP hD hS => ?_)
  refine lv_goto (tgt := 2200) hx hb dL_law_1933 (by decide) ?_
  refine W.widen (k := kc + 4) (n := ks + 24) (by omega) (by omega) ?_
  exact K _ _ _ _ _ _ hR1 hP hD hS (lv_sub hl [0, 1, 2, 3, 4] rfl)
set_option maxHeartbeats 8000000 in
set_option maxRecDepth 100000 in
theorem lk_byMist (ok : Ok_byMist N Rl) (C : Cx p s m args meth c code 7 ret RL g (fun q => s.heap.size ≤ q) X) (hXm : xOK (gmk g hm) X) (hst : l.stackTraces = false) (hXs : va_X b L xs s s.heap) (hbl : b < s.heap.size) (hR : Rl σ τ) (hi : i + 6 ≤ L) (hL : L ≤ 3072) (hkc : kc + 4 ≤ 601024) (hks : ks + 24 ≤ 7293034) (K : Lk Rl p l e s m args below meth c g hm b i kc ks Q) (hP : va_P g.1 vwCl (lwW g (gmk g hm) σ τ o) H) (hD : va_D (fun q => s.heap.size ≤ q) (lwW g (gmk g hm) σ τ o)) (hS : va_S (fun q => s.heap.size ≤ q) s.heap H locs) (hl : lv_has ls 7 [(4, .int (nI i)), (3, .ref (g.2.2 70)), (2, .ref (hm 0)), (1, .ref (g.2.2 0)), (0, .ref b)]) : W p l e room_1 s m args below meth c H locs kc ks Q (F0 m 1936 ls []) := by
  obtain ⟨hx, hb, hr, hml, hown, hts, hK, hlocks, hXX, hA, hXo⟩ := id C
  have hbA : ¬ (fun q : Nat => s.heap.size ≤ q) b := Nat.not_le.mpr hbl
  obtain ⟨z, r, τ1, hf1, hf2, hkd, hzr, hR1⟩ := ok (xs (i + 1)) (xs (i + 2)) (xs (i + 3)) σ τ hR
  refine lv_aload_n hx hb dL_law_1936 rfl (lv_at hl 3 rfl) ?_
  refine lv_aload_n hx hb dL_law_1937 rfl (lv_at hl 4 rfl) ?_
  refine lv_iload hx hb dL_law_1938 (lv_at hl 0 rfl) ?_
  refine lv_iconst (v := (1 : Int32)) hx hb dL_law_1940 (by decide) ?_
  refine lv_iadd hx hb dL_law_1941 ?_
  refine lc_sld 1 hx hb hXs hbl hbA hS (by decide) (by omega) hL dL_law_1942 ?_
  refine lv_aload_n hx hb dL_law_1943 rfl (lv_at hl 4 rfl) ?_
  refine lv_iload hx hb dL_law_1944 (lv_at hl 0 rfl) ?_
  refine lv_iconst (v := (2 : Int32)) hx hb dL_law_1946 (by decide) ?_
  refine lv_iadd hx hb dL_law_1947 ?_
  refine lc_sld 2 hx hb hXs hbl hbA hS (by decide) (by omega) hL dL_law_1948 ?_
  refine lv_aload_n hx hb dL_law_1949 rfl (lv_at hl 4 rfl) ?_
  refine lv_iload hx hb dL_law_1950 (lv_at hl 0 rfl) ?_
  refine lv_iconst (v := (3 : Int32)) hx hb dL_law_1952 (by decide) ?_
  refine lv_iadd hx hb dL_law_1953 ?_
  refine lc_sld 3 hx hb hXs hbl hbA hS (by decide) (by omega) hL dL_law_1954 ?_
  refine lv_aload_n hx hb dL_law_1955 rfl (lv_at hl 1 rfl) ?_
  refine lc_W (hh := [(0, 12, 15, 18), (0, 12, 19, 13)]) (o' := (if z.1 = 0 then z.2.1.toInt64 else o)) (k := τ1 0 2) (rest := []) [.ref (g.2.2 0), .int (xs (i + 1)), .int (xs (i + 2)), .int (xs (i + 3)), .ref (g.2.2 70)] C hP hD hS hl.1 (cwr_byMist hXo hst hf1 (fun h => ⟨by rcases hkd with ⟨h1, h2⟩ | ⟨h1, h2⟩ | ⟨h1, h2⟩ <;> first | exact h2 | omega, by rw [if_pos h]⟩) (fun h => ⟨by rcases hkd with ⟨h1, h2⟩ | ⟨h1, h2⟩ | ⟨h1, h2⟩ <;> first | exact h2 | omega, by rw [if_neg (by omega)]⟩) (fun h => ⟨by rcases hkd with ⟨h1, h2⟩ | ⟨h1, h2⟩ | ⟨h1, h2⟩ <;> first | exact h2 | omega, by rw [if_neg (by omega)]⟩)) wa_1348 wa_1346 wa_1347 wa_209 rfl rfl nd_L_byMist ⟨Nat.le_of_ble_eq_true rfl, Nat.le_of_ble_eq_true rfl⟩ rfl rfl (Nat.le_of_ble_eq_true rfl) dL_law_1956 ⟨by show kc + 3 ≤ 601024; omega, by show ks + 18 ≤ 7293034; omega⟩ (fun H locs hP hD hS => ?_)
  refine lv_istore (lv' := [(5, .int (τ1 0 2)), (4, .int (nI i)), (3, .ref (g.2.2 70)), (2, .ref (hm 0)), (1, .ref (g.2.2 0)), (0, .ref b)]) hx hb dL_law_1959 hl (by decide) rfl (fun ls hl => ?_)
  refine lv_aload_n hx hb dL_law_1961 rfl (lv_at hl 3 rfl) ?_
  refine lv_aload_n hx hb dL_law_1962 rfl (lv_at hl 5 rfl) ?_
  refine lv_iload hx hb dL_law_1963 (lv_at hl 1 rfl) ?_
  refine lv_iconst (v := (1 : Int32)) hx hb dL_law_1965 (by decide) ?_
  refine lv_iadd hx hb dL_law_1966 ?_
  refine lc_sld 1 hx hb hXs hbl hbA hS (by decide) (by omega) hL dL_law_1967 ?_
  refine lv_aload_n hx hb dL_law_1968 rfl (lv_at hl 5 rfl) ?_
  refine lv_iload hx hb dL_law_1969 (lv_at hl 1 rfl) ?_
  refine lv_iconst (v := (2 : Int32)) hx hb dL_law_1971 (by decide) ?_
  refine lv_iadd hx hb dL_law_1972 ?_
  refine lc_sld 2 hx hb hXs hbl hbA hS (by decide) (by omega) hL dL_law_1973 ?_
  refine lv_aload_n hx hb dL_law_1974 rfl (lv_at hl 5 rfl) ?_
  refine lv_iload hx hb dL_law_1975 (lv_at hl 1 rfl) ?_
  refine lv_iconst (v := (3 : Int32)) hx hb dL_law_1977 (by decide) ?_
  refine lv_iadd hx hb dL_law_1978 ?_
  refine lc_sld 3 hx hb hXs hbl hbA hS (by decide) (by omega) hL dL_law_1979 ?_
  refine lc_M (rest := []) [.int (xs (i + 1)), .int (xs (i + 2)), .int (xs (i + 3))] C hXm hP hD hS hl.1 (c_X12_byMist hXm hf2) (cwA_V 3 hts wa_1357 wa_1354 wa_1355 wa_1356 wa_5 rfl rfl nd_X12_byMist ⟨Nat.le_of_ble_eq_true rfl, Nat.le_of_ble_eq_true rfl⟩) rfl rfl (Nat.le_of_ble_eq_true rfl) dL_law_1980 ⟨by show kc + 3 ≤ 601024; omega, by show ks + 18 ≤ 7293034; omega⟩ (fun H locs hP hD hS => ?_)
  refine lv_istore (lv' := [(6, .int r), (5, .int (τ1 0 2)), (4, .int (nI i)), (3, .ref (g.2.2 70)), (2, .ref (hm 0)), (1, .ref (g.2.2 0)), (0, .ref b)]) hx hb dL_law_1983 hl (by decide) rfl (fun ls hl => ?_)
  refine lv_aload_n hx hb dL_law_1985 rfl (lv_at hl 4 rfl) ?_
  refine lc_M (rest := []) [] C hXm hP hD hS hl.1 ((c_X12_thrown (N := 0) (z := (τ1 0 2, τ1)) hXm rfl)) (cwA_V 0 hts wa_624 wa_621 wa_622 wa_623 wa_5 rfl rfl nd_X12_thrown ⟨Nat.le_of_ble_eq_true rfl, Nat.le_of_ble_eq_true rfl⟩) rfl rfl (Nat.le_of_ble_eq_true rfl) dL_law_1986 ⟨by show kc + 3 ≤ 601024; omega, by show ks + 18 ≤ 7293034; omega⟩ (fun H locs hP hD hS => ?_)
  refine lv_iload hx hb dL_law_1989 (lv_at hl 1 rfl) ?_
  refine lv_icmp_eq (tgt := 1996) hx hb dL_law_1991 (by decide) (fun _ => ?_) (fun t => absurd rfl t)
  refine lv_iload hx hb dL_law_1996 (lv_at hl 1 rfl) ?_
  refine lv_if_ne (tgt := 2013) hx hb dL_law_1998 (by decide) (fun t0 => ?_) (fun t0 => ?_)
  · refine lv_goto (tgt := 2200) hx hb dL_law_2013 (by decide) ?_
    refine W.widen (k := kc + 4) (n := ks + 24) (by omega) (by omega) ?_
    exact K _ _ _ _ _ _ hR1 hP hD hS (lv_sub hl [2, 3, 4, 5, 6] rfl)
  · have hz0 : z.1 = 0 := by rcases hkd with ⟨h1, h2⟩ | ⟨h1, h2⟩ | ⟨h1, h2⟩ <;> first | exact h1 | (rw [h2] at t0; exact absurd t0 (by decide))
    refine lv_aload_n hx hb dL_law_2001 rfl (lv_at hl 3 rfl) ?_
    refine lv_iconst (v := (0 : Int32)) hx hb dL_law_2002 (by decide) ?_
    refine lc_out C hP dL_law_2003 ?_
    refine lv_iload hx hb dL_law_2004 (lv_at hl 0 rfl) ?_
    refine lv_i2l hx hb dL_law_2006 rfl ?_
    refine W.lcmp hx hb dL_law_2007 ?_
    refine lv_if_eq (tgt := 2013) hx hb dL_law_2008 (by decide) (fun _ => ?_) (fun t => absurd (by rw [if_pos hz0, hzr hz0]; exact lg_self _) t)
    refine lv_goto (tgt := 2200) hx hb dL_law_2013 (by decide) ?_
    refine W.widen (k := kc + 4) (n := ks + 24) (by omega) (by omega) ?_
    exact K _ _ _ _ _ _ hR1 hP hD hS (lv_sub hl [2, 3, 4, 5, 6] rfl)
set_option maxHeartbeats 8000000 in
set_option maxRecDepth 100000 in
theorem lk_game (ok : Ok_game N Rl) (C : Cx p s m args meth c code 7 ret RL g (fun q => s.heap.size ≤ q) X) (hXm : xOK (gmk g hm) X) (hst : l.stackTraces = false) (hXs : va_X b L xs s s.heap) (hbl : b < s.heap.size) (hR : Rl σ τ) (hi : i + 6 ≤ L) (hL : L ≤ 3072) (hkc : kc + 4 ≤ 601024) (hks : ks + 24 ≤ 7293034) (K : Lk Rl p l e s m args below meth c g hm b i kc ks Q) (hP : va_P g.1 vwCl (lwW g (gmk g hm) σ τ o) H) (hD : va_D (fun q => s.heap.size ≤ q) (lwW g (gmk g hm) σ τ o)) (hS : va_S (fun q => s.heap.size ≤ q) s.heap H locs) (hl : lv_has ls 7 [(4, .int (nI i)), (3, .ref (g.2.2 70)), (2, .ref (hm 0)), (1, .ref (g.2.2 0)), (0, .ref b)]) : W p l e room_1 s m args below meth c H locs kc ks Q (F0 m 2016 ls []) := by
  obtain ⟨hx, hb, hr, hml, hown, hts, hK, hlocks, hXX, hA, hXo⟩ := id C
  have hbA : ¬ (fun q : Nat => s.heap.size ≤ q) b := Nat.not_le.mpr hbl
  obtain ⟨z, r, τ1, hf1, hf2, hkd, hzr, hR1⟩ := ok (xs (i + 1)) (xs (i + 2)) (xs (i + 3)) σ τ hR
  refine lv_aload_n hx hb dL_law_2016 rfl (lv_at hl 3 rfl) ?_
  refine lv_aload_n hx hb dL_law_2017 rfl (lv_at hl 4 rfl) ?_
  refine lv_iload hx hb dL_law_2018 (lv_at hl 0 rfl) ?_
  refine lv_iconst (v := (1 : Int32)) hx hb dL_law_2020 (by decide) ?_
  refine lv_iadd hx hb dL_law_2021 ?_
  refine lc_sld 1 hx hb hXs hbl hbA hS (by decide) (by omega) hL dL_law_2022 ?_
  refine lv_aload_n hx hb dL_law_2023 rfl (lv_at hl 4 rfl) ?_
  refine lv_iload hx hb dL_law_2024 (lv_at hl 0 rfl) ?_
  refine lv_iconst (v := (2 : Int32)) hx hb dL_law_2026 (by decide) ?_
  refine lv_iadd hx hb dL_law_2027 ?_
  refine lc_sld 2 hx hb hXs hbl hbA hS (by decide) (by omega) hL dL_law_2028 ?_
  refine lv_aload_n hx hb dL_law_2029 rfl (lv_at hl 4 rfl) ?_
  refine lv_iload hx hb dL_law_2030 (lv_at hl 0 rfl) ?_
  refine lv_iconst (v := (3 : Int32)) hx hb dL_law_2032 (by decide) ?_
  refine lv_iadd hx hb dL_law_2033 ?_
  refine lc_sld 3 hx hb hXs hbl hbA hS (by decide) (by omega) hL dL_law_2034 ?_
  refine lv_aload_n hx hb dL_law_2035 rfl (lv_at hl 1 rfl) ?_
  refine lc_W (hh := [(0, 12, 15, 18), (0, 12, 19, 13)]) (o' := (if z.1 = 0 then z.2.1.toInt64 else o)) (k := τ1 0 2) (rest := []) [.ref (g.2.2 0), .int (xs (i + 1)), .int (xs (i + 2)), .int (xs (i + 3)), .ref (g.2.2 70)] C hP hD hS hl.1 (cwr_game hXo hst hf1 (fun h => ⟨by rcases hkd with ⟨h1, h2⟩ | ⟨h1, h2⟩ | ⟨h1, h2⟩ <;> first | exact h2 | omega, by rw [if_pos h]⟩) (fun h => ⟨by rcases hkd with ⟨h1, h2⟩ | ⟨h1, h2⟩ | ⟨h1, h2⟩ <;> first | exact h2 | omega, by rw [if_neg (by omega)]⟩) (fun h => ⟨by rcases hkd with ⟨h1, h2⟩ | ⟨h1, h2⟩ | ⟨h1, h2⟩ <;> first | exact h2 | omega, by rw [if_neg (by omega)]⟩)) wa_1366 wa_1364 wa_1365 wa_209 rfl rfl nd_L_game ⟨Nat.le_of_ble_eq_true rfl, Nat.le_of_ble_eq_true rfl⟩ rfl rfl (Nat.le_of_ble_eq_true rfl) dL_law_2036 ⟨by show kc + 4 ≤ 601024; omega, by show ks + 24 ≤ 7293034; omega⟩ (fun H locs hP hD hS => ?_)
  refine lv_istore (lv' := [(5, .int (τ1 0 2)), (4, .int (nI i)), (3, .ref (g.2.2 70)), (2, .ref (hm 0)), (1, .ref (g.2.2 0)), (0, .ref b)]) hx hb dL_law_2039 hl (by decide) rfl (fun ls hl => ?_)
  refine lv_aload_n hx hb dL_law_2041 rfl (lv_at hl 3 rfl) ?_
  refine lv_aload_n hx hb dL_law_2042 rfl (lv_at hl 5 rfl) ?_
  refine lv_iload hx hb dL_law_2043 (lv_at hl 1 rfl) ?_
  refine lv_iconst (v := (1 : Int32)) hx hb dL_law_2045 (by decide) ?_
  refine lv_iadd hx hb dL_law_2046 ?_
  refine lc_sld 1 hx hb hXs hbl hbA hS (by decide) (by omega) hL dL_law_2047 ?_
  refine lv_aload_n hx hb dL_law_2048 rfl (lv_at hl 5 rfl) ?_
  refine lv_iload hx hb dL_law_2049 (lv_at hl 1 rfl) ?_
  refine lv_iconst (v := (2 : Int32)) hx hb dL_law_2051 (by decide) ?_
  refine lv_iadd hx hb dL_law_2052 ?_
  refine lc_sld 2 hx hb hXs hbl hbA hS (by decide) (by omega) hL dL_law_2053 ?_
  refine lv_aload_n hx hb dL_law_2054 rfl (lv_at hl 5 rfl) ?_
  refine lv_iload hx hb dL_law_2055 (lv_at hl 1 rfl) ?_
  refine lv_iconst (v := (3 : Int32)) hx hb dL_law_2057 (by decide) ?_
  refine lv_iadd hx hb dL_law_2058 ?_
  refine lc_sld 3 hx hb hXs hbl hbA hS (by decide) (by omega) hL dL_law_2059 ?_
  refine lc_M (rest := []) [.int (xs (i + 1)), .int (xs (i + 2)), .int (xs (i + 3))] C hXm hP hD hS hl.1 (c_X12_game hXm hf2) (cwA_V 3 hts wa_1382 wa_1379 wa_1380 wa_1381 wa_5 rfl rfl nd_X12_game ⟨Nat.le_of_ble_eq_true rfl, Nat.le_of_ble_eq_true rfl⟩) rfl rfl (Nat.le_of_ble_eq_true rfl) dL_law_2060 ⟨by show kc + 4 ≤ 601024; omega, by show ks + 24 ≤ 7293034; omega⟩ (fun H locs hP hD hS => ?_)
  refine lv_istore (lv' := [(6, .int r), (5, .int (τ1 0 2)), (4, .int (nI i)), (3, .ref (g.2.2 70)), (2, .ref (hm 0)), (1, .ref (g.2.2 0)), (0, .ref b)]) hx hb dL_law_2063 hl (by decide) rfl (fun ls hl => ?_)
  refine lv_aload_n hx hb dL_law_2065 rfl (lv_at hl 4 rfl) ?_
  refine lc_M (rest := []) [] C hXm hP hD hS hl.1 ((c_X12_thrown (N := 0) (z := (τ1 0 2, τ1)) hXm rfl)) (cwA_V 0 hts wa_624 wa_621 wa_622 wa_623 wa_5 rfl rfl nd_X12_thrown ⟨Nat.le_of_ble_eq_true rfl, Nat.le_of_ble_eq_true rfl⟩) rfl rfl (Nat.le_of_ble_eq_true rfl) dL_law_2066 ⟨by show kc + 4 ≤ 601024; omega, by show ks + 24 ≤ 7293034; omega⟩ (fun H locs hP hD hS => ?_)
  refine lv_iload hx hb dL_law_2069 (lv_at hl 1 rfl) ?_
  refine lv_icmp_eq (tgt := 2076) hx hb dL_law_2071 (by decide) (fun _ => ?_) (fun t => absurd rfl t)
  refine lv_iload hx hb dL_law_2076 (lv_at hl 1 rfl) ?_
  refine lv_if_ne (tgt := 2093) hx hb dL_law_2078 (by decide) (fun t0 => ?_) (fun t0 => ?_)
  · refine lv_goto (tgt := 2200) hx hb dL_law_2093 (by decide) ?_
    refine W.widen (k := kc + 4) (n := ks + 24) (by omega) (by omega) ?_
    exact K _ _ _ _ _ _ hR1 hP hD hS (lv_sub hl [2, 3, 4, 5, 6] rfl)
  · have hz0 : z.1 = 0 := by rcases hkd with ⟨h1, h2⟩ | ⟨h1, h2⟩ | ⟨h1, h2⟩ <;> first | exact h1 | (rw [h2] at t0; exact absurd t0 (by decide))
    refine lv_aload_n hx hb dL_law_2081 rfl (lv_at hl 3 rfl) ?_
    refine lv_iconst (v := (0 : Int32)) hx hb dL_law_2082 (by decide) ?_
    refine lc_out C hP dL_law_2083 ?_
    refine lv_iload hx hb dL_law_2084 (lv_at hl 0 rfl) ?_
    refine lv_i2l hx hb dL_law_2086 rfl ?_
    refine W.lcmp hx hb dL_law_2087 ?_
    refine lv_if_eq (tgt := 2093) hx hb dL_law_2088 (by decide) (fun _ => ?_) (fun t => absurd (by rw [if_pos hz0, hzr hz0]; exact lg_self _) t)
    refine lv_goto (tgt := 2200) hx hb dL_law_2093 (by decide) ?_
    refine W.widen (k := kc + 4) (n := ks + 24) (by omega) (by omega) ?_
    exact K _ _ _ _ _ _ hR1 hP hD hS (lv_sub hl [2, 3, 4, 5, 6] rfl)
set_option maxHeartbeats 8000000 in
set_option maxRecDepth 100000 in
theorem lk_years (ok : Ok_years N Rl) (C : Cx p s m args meth c code 7 ret RL g (fun q => s.heap.size ≤ q) X) (hXm : xOK (gmk g hm) X) (hst : l.stackTraces = false) (hXs : va_X b L xs s s.heap) (hbl : b < s.heap.size) (hR : Rl σ τ) (hi : i + 6 ≤ L) (hL : L ≤ 3072) (hkc : kc + 4 ≤ 601024) (hks : ks + 24 ≤ 7293034) (K : Lk Rl p l e s m args below meth c g hm b i kc ks Q) (hP : va_P g.1 vwCl (lwW g (gmk g hm) σ τ o) H) (hD : va_D (fun q => s.heap.size ≤ q) (lwW g (gmk g hm) σ τ o)) (hS : va_S (fun q => s.heap.size ≤ q) s.heap H locs) (hl : lv_has ls 7 [(4, .int (nI i)), (3, .ref (g.2.2 70)), (2, .ref (hm 0)), (1, .ref (g.2.2 0)), (0, .ref b)]) : W p l e room_1 s m args below meth c H locs kc ks Q (F0 m 2096 ls []) := by
  obtain ⟨hx, hb, hr, hml, hown, hts, hK, hlocks, hXX, hA, hXo⟩ := id C
  have hbA : ¬ (fun q : Nat => s.heap.size ≤ q) b := Nat.not_le.mpr hbl
  obtain ⟨z, r, τ1, hf1, hf2, hkd, hzr, hR1⟩ := ok (xs (i + 1)) (xs (i + 2)) (xs (i + 3)) σ τ hR
  refine lv_aload_n hx hb dL_law_2096 rfl (lv_at hl 3 rfl) ?_
  refine lv_aload_n hx hb dL_law_2097 rfl (lv_at hl 4 rfl) ?_
  refine lv_iload hx hb dL_law_2098 (lv_at hl 0 rfl) ?_
  refine lv_iconst (v := (1 : Int32)) hx hb dL_law_2100 (by decide) ?_
  refine lv_iadd hx hb dL_law_2101 ?_
  refine lc_sld 1 hx hb hXs hbl hbA hS (by decide) (by omega) hL dL_law_2102 ?_
  refine lv_aload_n hx hb dL_law_2103 rfl (lv_at hl 4 rfl) ?_
  refine lv_iload hx hb dL_law_2104 (lv_at hl 0 rfl) ?_
  refine lv_iconst (v := (2 : Int32)) hx hb dL_law_2106 (by decide) ?_
  refine lv_iadd hx hb dL_law_2107 ?_
  refine lc_sld 2 hx hb hXs hbl hbA hS (by decide) (by omega) hL dL_law_2108 ?_
  refine lv_aload_n hx hb dL_law_2109 rfl (lv_at hl 4 rfl) ?_
  refine lv_iload hx hb dL_law_2110 (lv_at hl 0 rfl) ?_
  refine lv_iconst (v := (3 : Int32)) hx hb dL_law_2112 (by decide) ?_
  refine lv_iadd hx hb dL_law_2113 ?_
  refine lc_sld 3 hx hb hXs hbl hbA hS (by decide) (by omega) hL dL_law_2114 ?_
  refine lv_aload_n hx hb dL_law_2115 rfl (lv_at hl 1 rfl) ?_
  refine lc_W (hh := [(0, 12, 15, 18), (0, 12, 19, 13)]) (o' := (if z.1 = 0 then z.2.1.toInt64 else o)) (k := τ1 0 2) (rest := []) [.ref (g.2.2 0), .int (xs (i + 1)), .int (xs (i + 2)), .int (xs (i + 3)), .ref (g.2.2 70)] C hP hD hS hl.1 (cwr_years hXo hst hf1 (fun h => ⟨by rcases hkd with ⟨h1, h2⟩ | ⟨h1, h2⟩ | ⟨h1, h2⟩ <;> first | exact h2 | omega, by rw [if_pos h]⟩) (fun h => ⟨by rcases hkd with ⟨h1, h2⟩ | ⟨h1, h2⟩ | ⟨h1, h2⟩ <;> first | exact h2 | omega, by rw [if_neg (by omega)]⟩) (fun h => ⟨by rcases hkd with ⟨h1, h2⟩ | ⟨h1, h2⟩ | ⟨h1, h2⟩ <;> first | exact h2 | omega, by rw [if_neg (by omega)]⟩)) wa_1389 wa_1387 wa_1388 wa_209 rfl rfl nd_L_years ⟨Nat.le_of_ble_eq_true rfl, Nat.le_of_ble_eq_true rfl⟩ rfl rfl (Nat.le_of_ble_eq_true rfl) dL_law_2116 ⟨by show kc + 2 ≤ 601024; omega, by show ks + 12 ≤ 7293034; omega⟩ (fun H locs hP hD hS => ?_)
  refine lv_istore (lv' := [(5, .int (τ1 0 2)), (4, .int (nI i)), (3, .ref (g.2.2 70)), (2, .ref (hm 0)), (1, .ref (g.2.2 0)), (0, .ref b)]) hx hb dL_law_2119 hl (by decide) rfl (fun ls hl => ?_)
  refine lv_aload_n hx hb dL_law_2121 rfl (lv_at hl 3 rfl) ?_
  refine lv_aload_n hx hb dL_law_2122 rfl (lv_at hl 5 rfl) ?_
  refine lv_iload hx hb dL_law_2123 (lv_at hl 1 rfl) ?_
  refine lv_iconst (v := (1 : Int32)) hx hb dL_law_2125 (by decide) ?_
  refine lv_iadd hx hb dL_law_2126 ?_
  refine lc_sld 1 hx hb hXs hbl hbA hS (by decide) (by omega) hL dL_law_2127 ?_
  refine lv_aload_n hx hb dL_law_2128 rfl (lv_at hl 5 rfl) ?_
  refine lv_iload hx hb dL_law_2129 (lv_at hl 1 rfl) ?_
  refine lv_iconst (v := (2 : Int32)) hx hb dL_law_2131 (by decide) ?_
  refine lv_iadd hx hb dL_law_2132 ?_
  refine lc_sld 2 hx hb hXs hbl hbA hS (by decide) (by omega) hL dL_law_2133 ?_
  refine lv_aload_n hx hb dL_law_2134 rfl (lv_at hl 5 rfl) ?_
  refine lv_iload hx hb dL_law_2135 (lv_at hl 1 rfl) ?_
  refine lv_iconst (v := (3 : Int32)) hx hb dL_law_2137 (by decide) ?_
  refine lv_iadd hx hb dL_law_2138 ?_
  refine lc_sld 3 hx hb hXs hbl hbA hS (by decide) (by omega) hL dL_law_2139 ?_
  refine lc_M (rest := []) [.int (xs (i + 1)), .int (xs (i + 2)), .int (xs (i + 3))] C hXm hP hD hS hl.1 (c_X12_years hXm hf2) (cwA_V 3 hts wa_1407 wa_1404 wa_1405 wa_1406 wa_5 rfl rfl nd_X12_years ⟨Nat.le_of_ble_eq_true rfl, Nat.le_of_ble_eq_true rfl⟩) rfl rfl (Nat.le_of_ble_eq_true rfl) dL_law_2140 ⟨by show kc + 2 ≤ 601024; omega, by show ks + 12 ≤ 7293034; omega⟩ (fun H locs hP hD hS => ?_)
  refine lv_istore (lv' := [(6, .int r), (5, .int (τ1 0 2)), (4, .int (nI i)), (3, .ref (g.2.2 70)), (2, .ref (hm 0)), (1, .ref (g.2.2 0)), (0, .ref b)]) hx hb dL_law_2143 hl (by decide) rfl (fun ls hl => ?_)
  refine lv_aload_n hx hb dL_law_2145 rfl (lv_at hl 4 rfl) ?_
  refine lc_M (rest := []) [] C hXm hP hD hS hl.1 ((c_X12_thrown (N := 0) (z := (τ1 0 2, τ1)) hXm rfl)) (cwA_V 0 hts wa_624 wa_621 wa_622 wa_623 wa_5 rfl rfl nd_X12_thrown ⟨Nat.le_of_ble_eq_true rfl, Nat.le_of_ble_eq_true rfl⟩) rfl rfl (Nat.le_of_ble_eq_true rfl) dL_law_2146 ⟨by show kc + 2 ≤ 601024; omega, by show ks + 12 ≤ 7293034; omega⟩ (fun H locs hP hD hS => ?_)
  refine lv_iload hx hb dL_law_2149 (lv_at hl 1 rfl) ?_
  refine lv_icmp_eq (tgt := 2156) hx hb dL_law_2151 (by decide) (fun _ => ?_) (fun t => absurd rfl t)
  refine lv_iload hx hb dL_law_2156 (lv_at hl 1 rfl) ?_
  refine lv_if_ne (tgt := 2173) hx hb dL_law_2158 (by decide) (fun t0 => ?_) (fun t0 => ?_)
  · refine lv_goto (tgt := 2200) hx hb dL_law_2173 (by decide) ?_
    refine W.widen (k := kc + 4) (n := ks + 24) (by omega) (by omega) ?_
    exact K _ _ _ _ _ _ hR1 hP hD hS (lv_sub hl [2, 3, 4, 5, 6] rfl)
  · have hz0 : z.1 = 0 := by rcases hkd with ⟨h1, h2⟩ | ⟨h1, h2⟩ | ⟨h1, h2⟩ <;> first | exact h1 | (rw [h2] at t0; exact absurd t0 (by decide))
    refine lv_aload_n hx hb dL_law_2161 rfl (lv_at hl 3 rfl) ?_
    refine lv_iconst (v := (0 : Int32)) hx hb dL_law_2162 (by decide) ?_
    refine lc_out C hP dL_law_2163 ?_
    refine lv_iload hx hb dL_law_2164 (lv_at hl 0 rfl) ?_
    refine lv_i2l hx hb dL_law_2166 rfl ?_
    refine W.lcmp hx hb dL_law_2167 ?_
    refine lv_if_eq (tgt := 2173) hx hb dL_law_2168 (by decide) (fun _ => ?_) (fun t => absurd (by rw [if_pos hz0, hzr hz0]; exact lg_self _) t)
    refine lv_goto (tgt := 2200) hx hb dL_law_2173 (by decide) ?_
    refine W.widen (k := kc + 4) (n := ks + 24) (by omega) (by omega) ?_
    exact K _ _ _ _ _ _ hR1 hP hD hS (lv_sub hl [2, 3, 4, 5, 6] rfl)
set_option maxHeartbeats 8000000 in
set_option maxRecDepth 100000 in
theorem lk_image (ok : Ok_image N Rl) (C : Cx p s m args meth c code 7 ret RL g (fun q => s.heap.size ≤ q) X) (hXm : xOK (gmk g hm) X) (hst : l.stackTraces = false) (hXs : va_X b L xs s s.heap) (hbl : b < s.heap.size) (hR : Rl σ τ) (hi : i + 6 ≤ L) (hL : L ≤ 3072) (hkc : kc + 4 ≤ 601024) (hks : ks + 24 ≤ 7293034) (K : Lk Rl p l e s m args below meth c g hm b i kc ks Q) (hP : va_P g.1 vwCl (lwW g (gmk g hm) σ τ o) H) (hD : va_D (fun q => s.heap.size ≤ q) (lwW g (gmk g hm) σ τ o)) (hS : va_S (fun q => s.heap.size ≤ q) s.heap H locs) (hl : lv_has ls 7 [(4, .int (nI i)), (3, .ref (g.2.2 70)), (2, .ref (hm 0)), (1, .ref (g.2.2 0)), (0, .ref b)]) : W p l e room_1 s m args below meth c H locs kc ks Q (F0 m 2176 ls []) := by
  obtain ⟨hx, hb, hr, hml, hown, hts, hK, hlocks, hXX, hA, hXo⟩ := id C
  have hbA : ¬ (fun q : Nat => s.heap.size ≤ q) b := Nat.not_le.mpr hbl
  obtain ⟨σ1, τ1, hf1, hf2, hR1⟩ := ok σ τ hR
  refine lv_aload_n hx hb dL_law_2176 rfl (lv_at hl 3 rfl) ?_
  refine lc_Xv (rest := []) [] C hP hD hS hl.1 (c_X11_image_0 hXo hf1) (cwA_V 0 hts wa_1421 wa_1418 wa_1419 wa_1420 wa_2 rfl rfl nd_X11_image ⟨Nat.le_of_ble_eq_true rfl, Nat.le_of_ble_eq_true rfl⟩) rfl rfl (Nat.le_of_ble_eq_true rfl) dL_law_2177 ⟨by show kc + 0 ≤ 601024; omega, by show ks + 0 ≤ 7293034; omega⟩ (fun H locs hP hD hS => ?_)
  refine lv_aload_n hx hb dL_law_2180 rfl (lv_at hl 2 rfl) ?_
  refine lc_Mv (rest := []) [] C hXm hP hD hS hl.1 (c_X12_image hXm hf2) (cwA_V 0 hts wa_1441 wa_1438 wa_1439 wa_1440 wa_5 rfl rfl nd_X12_image ⟨Nat.le_of_ble_eq_true rfl, Nat.le_of_ble_eq_true rfl⟩) rfl rfl (Nat.le_of_ble_eq_true rfl) dL_law_2181 ⟨by show kc + 0 ≤ 601024; omega, by show ks + 0 ≤ 7293034; omega⟩ (fun H locs hP hD hS => ?_)
  refine lv_goto (tgt := 2200) hx hb dL_law_2184 (by decide) ?_
  refine W.widen (k := kc + 4) (n := ks + 24) (by omega) (by omega) ?_
  exact K _ _ _ _ _ _ hR1 hP hD hS (lv_sub hl [0, 1, 2, 3, 4] rfl)
set_option maxHeartbeats 8000000 in
set_option maxRecDepth 100000 in
theorem lk_restore (ok : Ok_restore N Rl) (C : Cx p s m args meth c code 7 ret RL g (fun q => s.heap.size ≤ q) X) (hXm : xOK (gmk g hm) X) (hst : l.stackTraces = false) (hXs : va_X b L xs s s.heap) (hbl : b < s.heap.size) (hR : Rl σ τ) (hi : i + 6 ≤ L) (hL : L ≤ 3072) (hkc : kc + 4 ≤ 601024) (hks : ks + 24 ≤ 7293034) (K : Lk Rl p l e s m args below meth c g hm b i kc ks Q) (hP : va_P g.1 vwCl (lwW g (gmk g hm) σ τ o) H) (hD : va_D (fun q => s.heap.size ≤ q) (lwW g (gmk g hm) σ τ o)) (hS : va_S (fun q => s.heap.size ≤ q) s.heap H locs) (hl : lv_has ls 7 [(4, .int (nI i)), (3, .ref (g.2.2 70)), (2, .ref (hm 0)), (1, .ref (g.2.2 0)), (0, .ref b)]) : W p l e room_1 s m args below meth c H locs kc ks Q (F0 m 2187 ls []) := by
  obtain ⟨hx, hb, hr, hml, hown, hts, hK, hlocks, hXX, hA, hXo⟩ := id C
  have hbA : ¬ (fun q : Nat => s.heap.size ≤ q) b := Nat.not_le.mpr hbl
  obtain ⟨r, σ1, τ1, hf1, hf2, hR1⟩ := ok σ τ hR
  refine lv_aload_n hx hb dL_law_2187 rfl (lv_at hl 3 rfl) ?_
  refine lc_X (rest := []) [] C hP hD hS hl.1 (c_X11_restore_0 hXo hf1) (cwA_V 0 hts wa_1450 wa_1447 wa_1448 wa_1449 wa_2 rfl rfl nd_X11_restore ⟨Nat.le_of_ble_eq_true rfl, Nat.le_of_ble_eq_true rfl⟩) rfl rfl (Nat.le_of_ble_eq_true rfl) dL_law_2188 ⟨by show kc + 0 ≤ 601024; omega, by show ks + 0 ≤ 7293034; omega⟩ (fun H locs hP hD hS => ?_)
  refine lv_aload_n hx hb dL_law_2191 rfl (lv_at hl 2 rfl) ?_
  refine lc_M (rest := [.int r]) [] C hXm hP hD hS hl.1 (c_X12_restore hXm hf2) (cwA_V 0 hts wa_1454 wa_1451 wa_1452 wa_1453 wa_5 rfl rfl nd_X12_restore ⟨Nat.le_of_ble_eq_true rfl, Nat.le_of_ble_eq_true rfl⟩) rfl rfl (Nat.le_of_ble_eq_true rfl) dL_law_2192 ⟨by show kc + 0 ≤ 601024; omega, by show ks + 0 ≤ 7293034; omega⟩ (fun H locs hP hD hS => ?_)
  refine lv_icmp_eq (tgt := 2200) hx hb dL_law_2195 (by decide) (fun _ => ?_) (fun t => absurd rfl t)
  refine W.widen (k := kc + 4) (n := ks + 24) (by omega) (by omega) ?_
  exact K _ _ _ _ _ _ hR1 hP hD hS (lv_sub hl [0, 1, 2, 3, 4] rfl)
end CASES
