/-! The law's cases -/
theorem nI_z {e : Nat} (he : e < 100) (hz : nI e = 0) : e = 0 := by
  have h1 : (nI e).toInt = (0 : Int32).toInt := by rw [hz]
  rw [nI_toInt (by omega)] at h1
  have h2 : (0 : Int32).toInt = 0 := by decide
  omega
theorem gqf_ok {M M1 : mw_M} {c d : Int} {σ : Nat → Nat} {k e : Nat} {z v : Int32} (f9 : Int32 → Int64) (hc : CF M1 σ k (nw M) (mL M 247 1) (pst M) (pss M)) (hI : IK M k) (hB : MB (nw M) c ∧ ∀ i, i < k → MB (pst M i) c) (hd : c ≤ d) (f : fo ST M M1) (he : e = 0) : qpost (kept M1 (f9 v)) e z v (fun N b => Fin d 0 (f9 b) N) :=
  ⟨fun h => absurd he h, fun _ N s h5 => ⟨h5, fun _ => S8.o (s.mono e8_Sq8), gstay hc hI hB hd (kept_mid hI.1 f) (kept_T8 _ _) (s.mono e8_Sq8) (kepq (kept_mid hI.1 f).1 s)⟩⟩
theorem gqf_no {M : mw_M} {c d : Int} {σ : Nat → Nat} {k e n : Nat} {z v : Int32} (f9 : Int32 → Int64) (hc : CF M σ k (nw M) (mL M 247 1) (pst M) (pss M)) (hI : IK M k) (hB : MB (nw M) c ∧ ∀ i, i < k → MB (pst M i) c) (hd : c ≤ d) (he : e = n + 1) : qpost M e z v (fun N b => Fin d (n + 1) (f9 b) N) :=
  ⟨fun _ N s h5 => ⟨h5.trans (by rw [he]), fun h => absurd h (Nat.succ_ne_zero n), gstay hc hI hB hd (st_mid hI.1 fo.rf) fo.rf (s.mono e8_Sq8) (kepq hI.1 s)⟩, fun h => absurd (he.symm.trans h) (Nat.succ_ne_zero n)⟩
theorem g_audible {M : mw_M} {c d : Int} {x1 : Int32} (h : LI M c) (hd : c ≤ d) : w_X7_isAudible 255 M 1 x1 (fun v => w_X8_isAudible 255 (kept M (if v = 0 then 0 else 1)) 247 x1 (fun N b => Fin d 0 (if b = 0 then 0 else 1) N)) (fun M1 nm => ∃ e, hS1[e]? = some nm ∧ w_X8_isAudible 255 M1 247 x1 (fun N b => Fin d (e + 1) (if b = 0 then 0 else 1) N)) := by
  obtain ⟨σ, k, hc, hI, hB⟩ := h
  have hV := hc.cx.2.2.2.1
  refine s_X7_isAudible hc.cx (fun a => ⟨0, rfl, s_X8_isAudible hI.1 hV.2.2.1 (gqf_no (fun b => if b = 0 then 0 else 1) hc hI hB hd (c1_f a))⟩) (fun a => s_X8_isAudible (ik_kept hI fo.rf).1 ((nw_kept hI.1 fo.rf).symm ▸ hV.2.2.1) ?_)
  rw [nw_kept hI.1 fo.rf]
  exact gqf_ok (fun b => if b = 0 then 0 else 1) hc hI hB hd fo.rf (c1_t a)
theorem lc_setSource {G : mw_G} {l : Launch} {Y : mw_Y} (hlt : l.stackTraces = false) (hC : mw_C G l room_1 Y cL_law RL) (hnL : mw_nL Y = 8) {b L : Nat} {xs : Nat → Int32} (hS0 : mw_S b L xs Y) (hN : L ≤ 3584) {t k sl : Nat} {c d : Int} {M : mw_M} (ht : 7 * t + 7 ≤ L) (hk : k ≤ 5000) (hs : sl ≤ 29000) (hI : LI M c) (hc0 : 0 ≤ c) (hc9 : c ≤ 900000) (hd : c + 1000 ≤ d) (kk : ∀ N, LI N d → mw_J Y (k + 8) (sl + 48) 255 N 2276 (Lc t) []) : mw_J Y k sl 255 M 180 (Lc t) [] := by
  refine jr_aload_n (j := 1) hC dL_law_180 rfl rfl ?_
  refine jr_argc (j0 := 0) (j4 := 4) (t := t) (q := 1) hC hS0 hN rfl rfl (by omega) dL_law_181 dL_law_182 dL_law_184 rfl dL_law_185 dL_law_186 ?_
  refine jr_argc (j0 := 0) (j4 := 4) (t := t) (q := 2) hC hS0 hN rfl rfl (by omega) dL_law_187 dL_law_188 dL_law_190 rfl dL_law_191 dL_law_192 ?_
  refine jr_argc (j0 := 0) (j4 := 4) (t := t) (q := 3) hC hS0 hN rfl rfl (by omega) dL_law_193 dL_law_194 dL_law_196 rfl dL_law_197 dL_law_198 ?_
  refine jr_argc (j0 := 0) (j4 := 4) (t := t) (q := 4) hC hS0 hN rfl rfl (by omega) dL_law_199 dL_law_200 dL_law_202 rfl dL_law_203 dL_law_204 ?_
  refine jr_argc (j0 := 0) (j4 := 4) (t := t) (q := 5) hC hS0 hN rfl rfl (by omega) dL_law_205 dL_law_206 dL_law_208 rfl dL_law_209 dL_law_210 ?_
  refine jr_aload_n (j := 3) hC dL_law_211 rfl rfl ?_
  refine jr_callSW (mc := 2) (ms := 12) (As := [.ref 1, .int (xs (7 * t + 1)), .int (xs (7 * t + 2)), .int (xs (7 * t + 3)), .int (xs (7 * t + 4)), .int (xs (7 * t + 5)), .ref 254]) (st := []) hC xs_114 (v_setSource (W := (fun M2 e => w_X8_setSource 255 M2 247 (xs (7 * t + 1)) (xs (7 * t + 2)) (xs (7 * t + 3)) (xs (7 * t + 4)) (xs (7 * t + 5)) (fun N b => Fin d e b.toInt64 N))) hlt (g_setSource hI (by omega))) rfl rfl ⟨⟨rfl, rfl⟩, ⟨by decide, by decide⟩, by show k + 2 ≤ 601024; omega, by show sl + 12 ≤ 7293034; omega⟩ (Nat.le_of_ble_eq_true rfl) dL_law_212 (fun M1 v hP => ?_)
  obtain ⟨e, he, rfl, hq⟩ := hP
  refine jr_istore (L1 := (5, .int (nI e)) :: Lc t) hC dL_law_215 hnL (by decide) rfl ?_
  refine jr_aload_n (j := 3) hC dL_law_217 rfl rfl ?_
  refine jr_argc (j0 := 1) (j4 := 5) (t := t) (q := 1) hC hS0 hN rfl rfl (by omega) dL_law_218 dL_law_219 dL_law_221 rfl dL_law_222 dL_law_223 ?_
  refine jr_argc (j0 := 1) (j4 := 5) (t := t) (q := 2) hC hS0 hN rfl rfl (by omega) dL_law_224 dL_law_225 dL_law_227 rfl dL_law_228 dL_law_229 ?_
  refine jr_argc (j0 := 1) (j4 := 5) (t := t) (q := 3) hC hS0 hN rfl rfl (by omega) dL_law_230 dL_law_231 dL_law_233 rfl dL_law_234 dL_law_235 ?_
  refine jr_argc (j0 := 1) (j4 := 5) (t := t) (q := 4) hC hS0 hN rfl rfl (by omega) dL_law_236 dL_law_237 dL_law_239 rfl dL_law_240 dL_law_241 ?_
  refine jr_argc (j0 := 1) (j4 := 5) (t := t) (q := 5) hC hS0 hN rfl rfl (by omega) dL_law_242 dL_law_243 dL_law_245 rfl dL_law_246 dL_law_247 ?_
  refine jr_callV (mc := 0) (ms := 0) (As := [.int (xs (7 * t + 1)), .int (xs (7 * t + 2)), .int (xs (7 * t + 3)), .int (xs (7 * t + 4)), .int (xs (7 * t + 5))]) (st := []) hC xv_119 (c_X8_setSource hlt hq) is247 rfl rfl ⟨⟨rfl, rfl⟩, ⟨by decide, by decide⟩, by show k + 2 + 0 ≤ 601024; omega, by show sl + 12 + 0 ≤ 7293034; omega⟩ (Nat.le_of_ble_eq_true rfl) dL_law_248 (fun N v hP => ?_)
  obtain ⟨r, rfl, hF⟩ := hP
  exact jr_tailI hC hlt hnL (off := 1995) ⟨dL_law_251, dL_law_253, dL_law_254, dL_law_257, dL_law_259, dL_law_264, dL_law_266, dL_law_269, dL_law_270, dL_law_271, dL_law_272, dL_law_274, dL_law_275, dL_law_276, dL_law_281, by decide⟩ he hF (by omega) (by omega) (fun N h => jr_widen (k1 := k + 8) (sl1 := sl + 48) (by omega) (by omega) (kk N h))
theorem lc_sample {G : mw_G} {l : Launch} {Y : mw_Y} (hlt : l.stackTraces = false) (hC : mw_C G l room_1 Y cL_law RL) (hnL : mw_nL Y = 8) {b L : Nat} {xs : Nat → Int32} (hS0 : mw_S b L xs Y) (hN : L ≤ 3584) {t k sl : Nat} {c d : Int} {M : mw_M} (ht : 7 * t + 7 ≤ L) (hk : k ≤ 5000) (hs : sl ≤ 29000) (hI : LI M c) (hc0 : 0 ≤ c) (hc9 : c ≤ 900000) (hd : c + 1000 ≤ d) (kk : ∀ N, LI N d → mw_J Y (k + 8) (sl + 48) 255 N 2276 (Lc t) []) : mw_J Y k sl 255 M 284 (Lc t) [] := by
  refine jr_aload_n (j := 1) hC dL_law_284 rfl rfl ?_
  refine jr_argc (j0 := 0) (j4 := 4) (t := t) (q := 1) hC hS0 hN rfl rfl (by omega) dL_law_285 dL_law_286 dL_law_288 rfl dL_law_289 dL_law_290 ?_
  refine jr_argc (j0 := 0) (j4 := 4) (t := t) (q := 2) hC hS0 hN rfl rfl (by omega) dL_law_291 dL_law_292 dL_law_294 rfl dL_law_295 dL_law_296 ?_
  refine jr_aload_n (j := 3) hC dL_law_297 rfl rfl ?_
  refine jr_callSW (mc := 2) (ms := 12) (As := [.ref 1, .int (xs (7 * t + 1)), .int (xs (7 * t + 2)), .ref 254]) (st := []) hC xs_123 (v_sample (W := (fun M2 e => w_X8_sample 255 M2 247 (xs (7 * t + 1)) (xs (7 * t + 2)) (fun N b => Fin d e b.toInt64 N))) hlt (g_sample hI (by omega))) rfl rfl ⟨⟨rfl, rfl⟩, ⟨by decide, by decide⟩, by show k + 2 ≤ 601024; omega, by show sl + 12 ≤ 7293034; omega⟩ (Nat.le_of_ble_eq_true rfl) dL_law_298 (fun M1 v hP => ?_)
  obtain ⟨e, he, rfl, hq⟩ := hP
  refine jr_istore (L1 := (5, .int (nI e)) :: Lc t) hC dL_law_301 hnL (by decide) rfl ?_
  refine jr_aload_n (j := 3) hC dL_law_303 rfl rfl ?_
  refine jr_argc (j0 := 1) (j4 := 5) (t := t) (q := 1) hC hS0 hN rfl rfl (by omega) dL_law_304 dL_law_305 dL_law_307 rfl dL_law_308 dL_law_309 ?_
  refine jr_argc (j0 := 1) (j4 := 5) (t := t) (q := 2) hC hS0 hN rfl rfl (by omega) dL_law_310 dL_law_311 dL_law_313 rfl dL_law_314 dL_law_315 ?_
  refine jr_callV (mc := 0) (ms := 0) (As := [.int (xs (7 * t + 1)), .int (xs (7 * t + 2))]) (st := []) hC xv_126 (c_X8_sample hlt hq) is247 rfl rfl ⟨⟨rfl, rfl⟩, ⟨by decide, by decide⟩, by show k + 2 + 0 ≤ 601024; omega, by show sl + 12 + 0 ≤ 7293034; omega⟩ (Nat.le_of_ble_eq_true rfl) dL_law_316 (fun N v hP => ?_)
  obtain ⟨r, rfl, hF⟩ := hP
  exact jr_tailI hC hlt hnL (off := 1927) ⟨dL_law_319, dL_law_321, dL_law_322, dL_law_325, dL_law_327, dL_law_332, dL_law_334, dL_law_337, dL_law_338, dL_law_339, dL_law_340, dL_law_342, dL_law_343, dL_law_344, dL_law_349, by decide⟩ he hF (by omega) (by omega) (fun N h => jr_widen (k1 := k + 8) (sl1 := sl + 48) (by omega) (by omega) (kk N h))
theorem lc_addClip {G : mw_G} {l : Launch} {Y : mw_Y} (hlt : l.stackTraces = false) (hC : mw_C G l room_1 Y cL_law RL) (hnL : mw_nL Y = 8) {b L : Nat} {xs : Nat → Int32} (hS0 : mw_S b L xs Y) (hN : L ≤ 3584) {t k sl : Nat} {c d : Int} {M : mw_M} (ht : 7 * t + 7 ≤ L) (hk : k ≤ 5000) (hs : sl ≤ 29000) (hI : LI M c) (hc0 : 0 ≤ c) (hc9 : c ≤ 900000) (hd : c + 1000 ≤ d) (kk : ∀ N, LI N d → mw_J Y (k + 8) (sl + 48) 255 N 2276 (Lc t) []) : mw_J Y k sl 255 M 352 (Lc t) [] := by
  refine jr_aload_n (j := 1) hC dL_law_352 rfl rfl ?_
  refine jr_argc (j0 := 0) (j4 := 4) (t := t) (q := 1) hC hS0 hN rfl rfl (by omega) dL_law_353 dL_law_354 dL_law_356 rfl dL_law_357 dL_law_358 ?_
  refine jr_argc (j0 := 0) (j4 := 4) (t := t) (q := 2) hC hS0 hN rfl rfl (by omega) dL_law_359 dL_law_360 dL_law_362 rfl dL_law_363 dL_law_364 ?_
  refine jr_argc (j0 := 0) (j4 := 4) (t := t) (q := 3) hC hS0 hN rfl rfl (by omega) dL_law_365 dL_law_366 dL_law_368 rfl dL_law_369 dL_law_370 ?_
  refine jr_argc (j0 := 0) (j4 := 4) (t := t) (q := 4) hC hS0 hN rfl rfl (by omega) dL_law_371 dL_law_372 dL_law_374 rfl dL_law_375 dL_law_376 ?_
  refine jr_argc (j0 := 0) (j4 := 4) (t := t) (q := 5) hC hS0 hN rfl rfl (by omega) dL_law_377 dL_law_378 dL_law_380 rfl dL_law_381 dL_law_382 ?_
  refine jr_argb (j0 := 0) (j4 := 4) (t := t) (q := 6) hC hS0 hN rfl rfl (by omega) dL_law_383 dL_law_384 dL_law_386 rfl dL_law_388 dL_law_389 ?_
  refine jr_aload_n (j := 3) hC dL_law_390 rfl rfl ?_
  refine jr_callSW (mc := 2) (ms := 12) (As := [.ref 1, .int (xs (7 * t + 1)), .int (xs (7 * t + 2)), .int (xs (7 * t + 3)), .int (xs (7 * t + 4)), .int (xs (7 * t + 5)), .int (xs (7 * t + 6)), .ref 254]) (st := []) hC xs_127 (v_addClip (W := (fun M2 e => w_X8_addClip 255 M2 247 (xs (7 * t + 1)) (xs (7 * t + 2)) (xs (7 * t + 3)) (xs (7 * t + 4)) (xs (7 * t + 5)) (xs (7 * t + 6)) (fun N b => Fin d e b.toInt64 N))) hlt (g_addClip hI (by omega))) rfl rfl ⟨⟨rfl, rfl⟩, ⟨by decide, by decide⟩, by show k + 2 ≤ 601024; omega, by show sl + 12 ≤ 7293034; omega⟩ (Nat.le_of_ble_eq_true rfl) dL_law_391 (fun M1 v hP => ?_)
  obtain ⟨e, he, rfl, hq⟩ := hP
  refine jr_istore (L1 := (5, .int (nI e)) :: Lc t) hC dL_law_394 hnL (by decide) rfl ?_
  refine jr_aload_n (j := 3) hC dL_law_396 rfl rfl ?_
  refine jr_argc (j0 := 1) (j4 := 5) (t := t) (q := 1) hC hS0 hN rfl rfl (by omega) dL_law_397 dL_law_398 dL_law_400 rfl dL_law_401 dL_law_402 ?_
  refine jr_argc (j0 := 1) (j4 := 5) (t := t) (q := 2) hC hS0 hN rfl rfl (by omega) dL_law_403 dL_law_404 dL_law_406 rfl dL_law_407 dL_law_408 ?_
  refine jr_argc (j0 := 1) (j4 := 5) (t := t) (q := 3) hC hS0 hN rfl rfl (by omega) dL_law_409 dL_law_410 dL_law_412 rfl dL_law_413 dL_law_414 ?_
  refine jr_argc (j0 := 1) (j4 := 5) (t := t) (q := 4) hC hS0 hN rfl rfl (by omega) dL_law_415 dL_law_416 dL_law_418 rfl dL_law_419 dL_law_420 ?_
  refine jr_argc (j0 := 1) (j4 := 5) (t := t) (q := 5) hC hS0 hN rfl rfl (by omega) dL_law_421 dL_law_422 dL_law_424 rfl dL_law_425 dL_law_426 ?_
  refine jr_argb (j0 := 1) (j4 := 5) (t := t) (q := 6) hC hS0 hN rfl rfl (by omega) dL_law_427 dL_law_428 dL_law_430 rfl dL_law_432 dL_law_433 ?_
  refine jr_callV (mc := 0) (ms := 0) (As := [.int (xs (7 * t + 1)), .int (xs (7 * t + 2)), .int (xs (7 * t + 3)), .int (xs (7 * t + 4)), .int (xs (7 * t + 5)), .int (xs (7 * t + 6))]) (st := []) hC xv_130 (c_X8_addClip hlt hq) is247 rfl rfl ⟨⟨rfl, rfl⟩, ⟨by decide, by decide⟩, by show k + 2 + 0 ≤ 601024; omega, by show sl + 12 + 0 ≤ 7293034; omega⟩ (Nat.le_of_ble_eq_true rfl) dL_law_434 (fun N v hP => ?_)
  obtain ⟨r, rfl, hF⟩ := hP
  exact jr_tailI hC hlt hnL (off := 1809) ⟨dL_law_437, dL_law_439, dL_law_440, dL_law_443, dL_law_445, dL_law_450, dL_law_452, dL_law_455, dL_law_456, dL_law_457, dL_law_458, dL_law_460, dL_law_461, dL_law_462, dL_law_467, by decide⟩ he hF (by omega) (by omega) (fun N h => jr_widen (k1 := k + 8) (sl1 := sl + 48) (by omega) (by omega) (kk N h))
theorem lc_setFades {G : mw_G} {l : Launch} {Y : mw_Y} (hlt : l.stackTraces = false) (hC : mw_C G l room_1 Y cL_law RL) (hnL : mw_nL Y = 8) {b L : Nat} {xs : Nat → Int32} (hS0 : mw_S b L xs Y) (hN : L ≤ 3584) {t k sl : Nat} {c d : Int} {M : mw_M} (ht : 7 * t + 7 ≤ L) (hk : k ≤ 5000) (hs : sl ≤ 29000) (hI : LI M c) (hc0 : 0 ≤ c) (hc9 : c ≤ 900000) (hd : c + 1000 ≤ d) (kk : ∀ N, LI N d → mw_J Y (k + 8) (sl + 48) 255 N 2276 (Lc t) []) : mw_J Y k sl 255 M 470 (Lc t) [] := by
  refine jr_aload_n (j := 1) hC dL_law_470 rfl rfl ?_
  refine jr_argc (j0 := 0) (j4 := 4) (t := t) (q := 1) hC hS0 hN rfl rfl (by omega) dL_law_471 dL_law_472 dL_law_474 rfl dL_law_475 dL_law_476 ?_
  refine jr_argc (j0 := 0) (j4 := 4) (t := t) (q := 2) hC hS0 hN rfl rfl (by omega) dL_law_477 dL_law_478 dL_law_480 rfl dL_law_481 dL_law_482 ?_
  refine jr_argc (j0 := 0) (j4 := 4) (t := t) (q := 3) hC hS0 hN rfl rfl (by omega) dL_law_483 dL_law_484 dL_law_486 rfl dL_law_487 dL_law_488 ?_
  refine jr_argc (j0 := 0) (j4 := 4) (t := t) (q := 4) hC hS0 hN rfl rfl (by omega) dL_law_489 dL_law_490 dL_law_492 rfl dL_law_493 dL_law_494 ?_
  refine jr_aload_n (j := 3) hC dL_law_495 rfl rfl ?_
  refine jr_callSW (mc := 2) (ms := 12) (As := [.ref 1, .int (xs (7 * t + 1)), .int (xs (7 * t + 2)), .int (xs (7 * t + 3)), .int (xs (7 * t + 4)), .ref 254]) (st := []) hC xs_131 (v_setFades (W := (fun M2 e => w_X8_setFades 255 M2 247 (xs (7 * t + 1)) (xs (7 * t + 2)) (xs (7 * t + 3)) (xs (7 * t + 4)) (fun N b => Fin d e b.toInt64 N))) hlt (g_setFades hI (by omega))) rfl rfl ⟨⟨rfl, rfl⟩, ⟨by decide, by decide⟩, by show k + 2 ≤ 601024; omega, by show sl + 12 ≤ 7293034; omega⟩ (Nat.le_of_ble_eq_true rfl) dL_law_496 (fun M1 v hP => ?_)
  obtain ⟨e, he, rfl, hq⟩ := hP
  refine jr_istore (L1 := (5, .int (nI e)) :: Lc t) hC dL_law_499 hnL (by decide) rfl ?_
  refine jr_aload_n (j := 3) hC dL_law_501 rfl rfl ?_
  refine jr_argc (j0 := 1) (j4 := 5) (t := t) (q := 1) hC hS0 hN rfl rfl (by omega) dL_law_502 dL_law_503 dL_law_505 rfl dL_law_506 dL_law_507 ?_
  refine jr_argc (j0 := 1) (j4 := 5) (t := t) (q := 2) hC hS0 hN rfl rfl (by omega) dL_law_508 dL_law_509 dL_law_511 rfl dL_law_512 dL_law_513 ?_
  refine jr_argc (j0 := 1) (j4 := 5) (t := t) (q := 3) hC hS0 hN rfl rfl (by omega) dL_law_514 dL_law_515 dL_law_517 rfl dL_law_518 dL_law_519 ?_
  refine jr_argc (j0 := 1) (j4 := 5) (t := t) (q := 4) hC hS0 hN rfl rfl (by omega) dL_law_520 dL_law_521 dL_law_523 rfl dL_law_524 dL_law_525 ?_
  refine jr_callV (mc := 0) (ms := 0) (As := [.int (xs (7 * t + 1)), .int (xs (7 * t + 2)), .int (xs (7 * t + 3)), .int (xs (7 * t + 4))]) (st := []) hC xv_134 (c_X8_setFades hlt hq) is247 rfl rfl ⟨⟨rfl, rfl⟩, ⟨by decide, by decide⟩, by show k + 2 + 0 ≤ 601024; omega, by show sl + 12 + 0 ≤ 7293034; omega⟩ (Nat.le_of_ble_eq_true rfl) dL_law_526 (fun N v hP => ?_)
  obtain ⟨r, rfl, hF⟩ := hP
  exact jr_tailI hC hlt hnL (off := 1717) ⟨dL_law_529, dL_law_531, dL_law_532, dL_law_535, dL_law_537, dL_law_542, dL_law_544, dL_law_547, dL_law_548, dL_law_549, dL_law_550, dL_law_552, dL_law_553, dL_law_554, dL_law_559, by decide⟩ he hF (by omega) (by omega) (fun N h => jr_widen (k1 := k + 8) (sl1 := sl + 48) (by omega) (by omega) (kk N h))
theorem lc_moveClip {G : mw_G} {l : Launch} {Y : mw_Y} (hlt : l.stackTraces = false) (hC : mw_C G l room_1 Y cL_law RL) (hnL : mw_nL Y = 8) {b L : Nat} {xs : Nat → Int32} (hS0 : mw_S b L xs Y) (hN : L ≤ 3584) {t k sl : Nat} {c d : Int} {M : mw_M} (ht : 7 * t + 7 ≤ L) (hk : k ≤ 5000) (hs : sl ≤ 29000) (hI : LI M c) (hc0 : 0 ≤ c) (hc9 : c ≤ 900000) (hd : c + 1000 ≤ d) (kk : ∀ N, LI N d → mw_J Y (k + 8) (sl + 48) 255 N 2276 (Lc t) []) : mw_J Y k sl 255 M 562 (Lc t) [] := by
  refine jr_aload_n (j := 1) hC dL_law_562 rfl rfl ?_
  refine jr_argc (j0 := 0) (j4 := 4) (t := t) (q := 1) hC hS0 hN rfl rfl (by omega) dL_law_563 dL_law_564 dL_law_566 rfl dL_law_567 dL_law_568 ?_
  refine jr_argc (j0 := 0) (j4 := 4) (t := t) (q := 2) hC hS0 hN rfl rfl (by omega) dL_law_569 dL_law_570 dL_law_572 rfl dL_law_573 dL_law_574 ?_
  refine jr_aload_n (j := 3) hC dL_law_575 rfl rfl ?_
  refine jr_callSW (mc := 2) (ms := 12) (As := [.ref 1, .int (xs (7 * t + 1)), .int (xs (7 * t + 2)), .ref 254]) (st := []) hC xs_135 (v_moveClip (W := (fun M2 e => w_X8_moveClip 255 M2 247 (xs (7 * t + 1)) (xs (7 * t + 2)) (fun N b => Fin d e b.toInt64 N))) hlt (g_moveClip hI (by omega))) rfl rfl ⟨⟨rfl, rfl⟩, ⟨by decide, by decide⟩, by show k + 2 ≤ 601024; omega, by show sl + 12 ≤ 7293034; omega⟩ (Nat.le_of_ble_eq_true rfl) dL_law_576 (fun M1 v hP => ?_)
  obtain ⟨e, he, rfl, hq⟩ := hP
  refine jr_istore (L1 := (5, .int (nI e)) :: Lc t) hC dL_law_579 hnL (by decide) rfl ?_
  refine jr_aload_n (j := 3) hC dL_law_581 rfl rfl ?_
  refine jr_argc (j0 := 1) (j4 := 5) (t := t) (q := 1) hC hS0 hN rfl rfl (by omega) dL_law_582 dL_law_583 dL_law_585 rfl dL_law_586 dL_law_587 ?_
  refine jr_argc (j0 := 1) (j4 := 5) (t := t) (q := 2) hC hS0 hN rfl rfl (by omega) dL_law_588 dL_law_589 dL_law_591 rfl dL_law_592 dL_law_593 ?_
  refine jr_callV (mc := 0) (ms := 0) (As := [.int (xs (7 * t + 1)), .int (xs (7 * t + 2))]) (st := []) hC xv_137 (c_X8_moveClip hlt hq) is247 rfl rfl ⟨⟨rfl, rfl⟩, ⟨by decide, by decide⟩, by show k + 2 + 0 ≤ 601024; omega, by show sl + 12 + 0 ≤ 7293034; omega⟩ (Nat.le_of_ble_eq_true rfl) dL_law_594 (fun N v hP => ?_)
  obtain ⟨r, rfl, hF⟩ := hP
  exact jr_tailI hC hlt hnL (off := 1649) ⟨dL_law_597, dL_law_599, dL_law_600, dL_law_603, dL_law_605, dL_law_610, dL_law_612, dL_law_615, dL_law_616, dL_law_617, dL_law_618, dL_law_620, dL_law_621, dL_law_622, dL_law_627, by decide⟩ he hF (by omega) (by omega) (fun N h => jr_widen (k1 := k + 8) (sl1 := sl + 48) (by omega) (by omega) (kk N h))
theorem lc_trimClip {G : mw_G} {l : Launch} {Y : mw_Y} (hlt : l.stackTraces = false) (hC : mw_C G l room_1 Y cL_law RL) (hnL : mw_nL Y = 8) {b L : Nat} {xs : Nat → Int32} (hS0 : mw_S b L xs Y) (hN : L ≤ 3584) {t k sl : Nat} {c d : Int} {M : mw_M} (ht : 7 * t + 7 ≤ L) (hk : k ≤ 5000) (hs : sl ≤ 29000) (hI : LI M c) (hc0 : 0 ≤ c) (hc9 : c ≤ 900000) (hd : c + 1000 ≤ d) (kk : ∀ N, LI N d → mw_J Y (k + 8) (sl + 48) 255 N 2276 (Lc t) []) : mw_J Y k sl 255 M 630 (Lc t) [] := by
  refine jr_aload_n (j := 1) hC dL_law_630 rfl rfl ?_
  refine jr_argc (j0 := 0) (j4 := 4) (t := t) (q := 1) hC hS0 hN rfl rfl (by omega) dL_law_631 dL_law_632 dL_law_634 rfl dL_law_635 dL_law_636 ?_
  refine jr_argc (j0 := 0) (j4 := 4) (t := t) (q := 2) hC hS0 hN rfl rfl (by omega) dL_law_637 dL_law_638 dL_law_640 rfl dL_law_641 dL_law_642 ?_
  refine jr_argc (j0 := 0) (j4 := 4) (t := t) (q := 3) hC hS0 hN rfl rfl (by omega) dL_law_643 dL_law_644 dL_law_646 rfl dL_law_647 dL_law_648 ?_
  refine jr_aload_n (j := 3) hC dL_law_649 rfl rfl ?_
  refine jr_callSW (mc := 2) (ms := 12) (As := [.ref 1, .int (xs (7 * t + 1)), .int (xs (7 * t + 2)), .int (xs (7 * t + 3)), .ref 254]) (st := []) hC xs_138 (v_trimClip (W := (fun M2 e => w_X8_trimClip 255 M2 247 (xs (7 * t + 1)) (xs (7 * t + 2)) (xs (7 * t + 3)) (fun N b => Fin d e b.toInt64 N))) hlt (g_trimClip hI (by omega))) rfl rfl ⟨⟨rfl, rfl⟩, ⟨by decide, by decide⟩, by show k + 2 ≤ 601024; omega, by show sl + 12 ≤ 7293034; omega⟩ (Nat.le_of_ble_eq_true rfl) dL_law_650 (fun M1 v hP => ?_)
  obtain ⟨e, he, rfl, hq⟩ := hP
  refine jr_istore (L1 := (5, .int (nI e)) :: Lc t) hC dL_law_653 hnL (by decide) rfl ?_
  refine jr_aload_n (j := 3) hC dL_law_655 rfl rfl ?_
  refine jr_argc (j0 := 1) (j4 := 5) (t := t) (q := 1) hC hS0 hN rfl rfl (by omega) dL_law_656 dL_law_657 dL_law_659 rfl dL_law_660 dL_law_661 ?_
  refine jr_argc (j0 := 1) (j4 := 5) (t := t) (q := 2) hC hS0 hN rfl rfl (by omega) dL_law_662 dL_law_663 dL_law_665 rfl dL_law_666 dL_law_667 ?_
  refine jr_argc (j0 := 1) (j4 := 5) (t := t) (q := 3) hC hS0 hN rfl rfl (by omega) dL_law_668 dL_law_669 dL_law_671 rfl dL_law_672 dL_law_673 ?_
  refine jr_callV (mc := 0) (ms := 0) (As := [.int (xs (7 * t + 1)), .int (xs (7 * t + 2)), .int (xs (7 * t + 3))]) (st := []) hC xv_141 (c_X8_trimClip hlt hq) is247 rfl rfl ⟨⟨rfl, rfl⟩, ⟨by decide, by decide⟩, by show k + 2 + 0 ≤ 601024; omega, by show sl + 12 + 0 ≤ 7293034; omega⟩ (Nat.le_of_ble_eq_true rfl) dL_law_674 (fun N v hP => ?_)
  obtain ⟨r, rfl, hF⟩ := hP
  exact jr_tailI hC hlt hnL (off := 1569) ⟨dL_law_677, dL_law_679, dL_law_680, dL_law_683, dL_law_685, dL_law_690, dL_law_692, dL_law_695, dL_law_696, dL_law_697, dL_law_698, dL_law_700, dL_law_701, dL_law_702, dL_law_707, by decide⟩ he hF (by omega) (by omega) (fun N h => jr_widen (k1 := k + 8) (sl1 := sl + 48) (by omega) (by omega) (kk N h))
theorem lc_splitClip {G : mw_G} {l : Launch} {Y : mw_Y} (hlt : l.stackTraces = false) (hC : mw_C G l room_1 Y cL_law RL) (hnL : mw_nL Y = 8) {b L : Nat} {xs : Nat → Int32} (hS0 : mw_S b L xs Y) (hN : L ≤ 3584) {t k sl : Nat} {c d : Int} {M : mw_M} (ht : 7 * t + 7 ≤ L) (hk : k ≤ 5000) (hs : sl ≤ 29000) (hI : LI M c) (hc0 : 0 ≤ c) (hc9 : c ≤ 900000) (hd : c + 1000 ≤ d) (kk : ∀ N, LI N d → mw_J Y (k + 8) (sl + 48) 255 N 2276 (Lc t) []) : mw_J Y k sl 255 M 710 (Lc t) [] := by
  refine jr_aload_n (j := 1) hC dL_law_710 rfl rfl ?_
  refine jr_argc (j0 := 0) (j4 := 4) (t := t) (q := 1) hC hS0 hN rfl rfl (by omega) dL_law_711 dL_law_712 dL_law_714 rfl dL_law_715 dL_law_716 ?_
  refine jr_argc (j0 := 0) (j4 := 4) (t := t) (q := 2) hC hS0 hN rfl rfl (by omega) dL_law_717 dL_law_718 dL_law_720 rfl dL_law_721 dL_law_722 ?_
  refine jr_aload_n (j := 3) hC dL_law_723 rfl rfl ?_
  refine jr_callSW (mc := 3) (ms := 18) (As := [.ref 1, .int (xs (7 * t + 1)), .int (xs (7 * t + 2)), .ref 254]) (st := []) hC xs_142 (v_splitClip (W := (fun M2 e => w_X8_splitClip 255 M2 247 (xs (7 * t + 1)) (xs (7 * t + 2)) (fun N b => Fin d e b.toInt64 N))) hlt (g_splitClip hI (by omega))) rfl rfl ⟨⟨rfl, rfl⟩, ⟨by decide, by decide⟩, by show k + 3 ≤ 601024; omega, by show sl + 18 ≤ 7293034; omega⟩ (Nat.le_of_ble_eq_true rfl) dL_law_724 (fun M1 v hP => ?_)
  obtain ⟨e, he, rfl, hq⟩ := hP
  refine jr_istore (L1 := (5, .int (nI e)) :: Lc t) hC dL_law_727 hnL (by decide) rfl ?_
  refine jr_aload_n (j := 3) hC dL_law_729 rfl rfl ?_
  refine jr_argc (j0 := 1) (j4 := 5) (t := t) (q := 1) hC hS0 hN rfl rfl (by omega) dL_law_730 dL_law_731 dL_law_733 rfl dL_law_734 dL_law_735 ?_
  refine jr_argc (j0 := 1) (j4 := 5) (t := t) (q := 2) hC hS0 hN rfl rfl (by omega) dL_law_736 dL_law_737 dL_law_739 rfl dL_law_740 dL_law_741 ?_
  refine jr_callV (mc := 0) (ms := 0) (As := [.int (xs (7 * t + 1)), .int (xs (7 * t + 2))]) (st := []) hC xv_144 (c_X8_splitClip hlt hq) is247 rfl rfl ⟨⟨rfl, rfl⟩, ⟨by decide, by decide⟩, by show k + 3 + 0 ≤ 601024; omega, by show sl + 18 + 0 ≤ 7293034; omega⟩ (Nat.le_of_ble_eq_true rfl) dL_law_742 (fun N v hP => ?_)
  obtain ⟨r, rfl, hF⟩ := hP
  exact jr_tailI hC hlt hnL (off := 1501) ⟨dL_law_745, dL_law_747, dL_law_748, dL_law_751, dL_law_753, dL_law_758, dL_law_760, dL_law_763, dL_law_764, dL_law_765, dL_law_766, dL_law_768, dL_law_769, dL_law_770, dL_law_775, by decide⟩ he hF (by omega) (by omega) (fun N h => jr_widen (k1 := k + 8) (sl1 := sl + 48) (by omega) (by omega) (kk N h))
theorem lc_removeClip {G : mw_G} {l : Launch} {Y : mw_Y} (hlt : l.stackTraces = false) (hC : mw_C G l room_1 Y cL_law RL) (hnL : mw_nL Y = 8) {b L : Nat} {xs : Nat → Int32} (hS0 : mw_S b L xs Y) (hN : L ≤ 3584) {t k sl : Nat} {c d : Int} {M : mw_M} (ht : 7 * t + 7 ≤ L) (hk : k ≤ 5000) (hs : sl ≤ 29000) (hI : LI M c) (hc0 : 0 ≤ c) (hc9 : c ≤ 900000) (hd : c + 1000 ≤ d) (kk : ∀ N, LI N d → mw_J Y (k + 8) (sl + 48) 255 N 2276 (Lc t) []) : mw_J Y k sl 255 M 778 (Lc t) [] := by
  refine jr_aload_n (j := 1) hC dL_law_778 rfl rfl ?_
  refine jr_argc (j0 := 0) (j4 := 4) (t := t) (q := 1) hC hS0 hN rfl rfl (by omega) dL_law_779 dL_law_780 dL_law_782 rfl dL_law_783 dL_law_784 ?_
  refine jr_aload_n (j := 3) hC dL_law_785 rfl rfl ?_
  refine jr_callSW (mc := 1) (ms := 6) (As := [.ref 1, .int (xs (7 * t + 1)), .ref 254]) (st := []) hC xs_145 (v_removeClip (W := (fun M2 e => w_X8_removeClip 255 M2 247 (xs (7 * t + 1)) (fun N b => Fin d e b.toInt64 N))) hlt (g_removeClip hI (by omega))) rfl rfl ⟨⟨rfl, rfl⟩, ⟨by decide, by decide⟩, by show k + 1 ≤ 601024; omega, by show sl + 6 ≤ 7293034; omega⟩ (Nat.le_of_ble_eq_true rfl) dL_law_786 (fun M1 v hP => ?_)
  obtain ⟨e, he, rfl, hq⟩ := hP
  refine jr_istore (L1 := (5, .int (nI e)) :: Lc t) hC dL_law_789 hnL (by decide) rfl ?_
  refine jr_aload_n (j := 3) hC dL_law_791 rfl rfl ?_
  refine jr_argc (j0 := 1) (j4 := 5) (t := t) (q := 1) hC hS0 hN rfl rfl (by omega) dL_law_792 dL_law_793 dL_law_795 rfl dL_law_796 dL_law_797 ?_
  refine jr_callV (mc := 0) (ms := 0) (As := [.int (xs (7 * t + 1))]) (st := []) hC xv_148 (c_X8_removeClip hlt hq) is247 rfl rfl ⟨⟨rfl, rfl⟩, ⟨by decide, by decide⟩, by show k + 1 + 0 ≤ 601024; omega, by show sl + 6 + 0 ≤ 7293034; omega⟩ (Nat.le_of_ble_eq_true rfl) dL_law_798 (fun N v hP => ?_)
  obtain ⟨r, rfl, hF⟩ := hP
  exact jr_tailI hC hlt hnL (off := 1445) ⟨dL_law_801, dL_law_803, dL_law_804, dL_law_807, dL_law_809, dL_law_814, dL_law_816, dL_law_819, dL_law_820, dL_law_821, dL_law_822, dL_law_824, dL_law_825, dL_law_826, dL_law_831, by decide⟩ he hF (by omega) (by omega) (fun N h => jr_widen (k1 := k + 8) (sl1 := sl + 48) (by omega) (by omega) (kk N h))
theorem lc_deleteTime {G : mw_G} {l : Launch} {Y : mw_Y} (hlt : l.stackTraces = false) (hC : mw_C G l room_1 Y cL_law RL) (hnL : mw_nL Y = 8) {b L : Nat} {xs : Nat → Int32} (hS0 : mw_S b L xs Y) (hN : L ≤ 3584) {t k sl : Nat} {c d : Int} {M : mw_M} (ht : 7 * t + 7 ≤ L) (hk : k ≤ 5000) (hs : sl ≤ 29000) (hI : LI M c) (hc0 : 0 ≤ c) (hc9 : c ≤ 900000) (hd : c + 1000 ≤ d) (kk : ∀ N, LI N d → mw_J Y (k + 8) (sl + 48) 255 N 2276 (Lc t) []) : mw_J Y k sl 255 M 834 (Lc t) [] := by
  refine jr_aload_n (j := 1) hC dL_law_834 rfl rfl ?_
  refine jr_argc (j0 := 0) (j4 := 4) (t := t) (q := 1) hC hS0 hN rfl rfl (by omega) dL_law_835 dL_law_836 dL_law_838 rfl dL_law_839 dL_law_840 ?_
  refine jr_argc (j0 := 0) (j4 := 4) (t := t) (q := 2) hC hS0 hN rfl rfl (by omega) dL_law_841 dL_law_842 dL_law_844 rfl dL_law_845 dL_law_846 ?_
  refine jr_argc (j0 := 0) (j4 := 4) (t := t) (q := 3) hC hS0 hN rfl rfl (by omega) dL_law_847 dL_law_848 dL_law_850 rfl dL_law_851 dL_law_852 ?_
  refine jr_aload_n (j := 3) hC dL_law_853 rfl rfl ?_
  refine jr_callSW (mc := 2) (ms := 12) (As := [.ref 1, .int (xs (7 * t + 1)), .int (xs (7 * t + 2)), .int (xs (7 * t + 3)), .ref 254]) (st := []) hC xs_149 (v_deleteTime (W := (fun M2 e => w_X8_deleteTime 255 M2 247 (xs (7 * t + 1)) (xs (7 * t + 2)) (xs (7 * t + 3)) (fun N b => Fin d e b.toInt64 N))) hlt (g_deleteTime hI (by omega))) rfl rfl ⟨⟨rfl, rfl⟩, ⟨by decide, by decide⟩, by show k + 2 ≤ 601024; omega, by show sl + 12 ≤ 7293034; omega⟩ (Nat.le_of_ble_eq_true rfl) dL_law_854 (fun M1 v hP => ?_)
  obtain ⟨e, he, rfl, hq⟩ := hP
  refine jr_istore (L1 := (5, .int (nI e)) :: Lc t) hC dL_law_857 hnL (by decide) rfl ?_
  refine jr_aload_n (j := 3) hC dL_law_859 rfl rfl ?_
  refine jr_argc (j0 := 1) (j4 := 5) (t := t) (q := 1) hC hS0 hN rfl rfl (by omega) dL_law_860 dL_law_861 dL_law_863 rfl dL_law_864 dL_law_865 ?_
  refine jr_argc (j0 := 1) (j4 := 5) (t := t) (q := 2) hC hS0 hN rfl rfl (by omega) dL_law_866 dL_law_867 dL_law_869 rfl dL_law_870 dL_law_871 ?_
  refine jr_argc (j0 := 1) (j4 := 5) (t := t) (q := 3) hC hS0 hN rfl rfl (by omega) dL_law_872 dL_law_873 dL_law_875 rfl dL_law_876 dL_law_877 ?_
  refine jr_callV (mc := 0) (ms := 0) (As := [.int (xs (7 * t + 1)), .int (xs (7 * t + 2)), .int (xs (7 * t + 3))]) (st := []) hC xv_151 (c_X8_deleteTime hlt hq) is247 rfl rfl ⟨⟨rfl, rfl⟩, ⟨by decide, by decide⟩, by show k + 2 + 0 ≤ 601024; omega, by show sl + 12 + 0 ≤ 7293034; omega⟩ (Nat.le_of_ble_eq_true rfl) dL_law_878 (fun N v hP => ?_)
  obtain ⟨r, rfl, hF⟩ := hP
  exact jr_tailI hC hlt hnL (off := 1365) ⟨dL_law_881, dL_law_883, dL_law_884, dL_law_887, dL_law_889, dL_law_894, dL_law_896, dL_law_899, dL_law_900, dL_law_901, dL_law_902, dL_law_904, dL_law_905, dL_law_906, dL_law_911, by decide⟩ he hF (by omega) (by omega) (fun N h => jr_widen (k1 := k + 8) (sl1 := sl + 48) (by omega) (by omega) (kk N h))
theorem lc_clips {G : mw_G} {l : Launch} {Y : mw_Y} (hlt : l.stackTraces = false) (hC : mw_C G l room_1 Y cL_law RL) (hnL : mw_nL Y = 8) {b L : Nat} {xs : Nat → Int32} (hS0 : mw_S b L xs Y) (hN : L ≤ 3584) {t k sl : Nat} {c d : Int} {M : mw_M} (ht : 7 * t + 7 ≤ L) (hk : k ≤ 5000) (hs : sl ≤ 29000) (hI : LI M c) (hc0 : 0 ≤ c) (hc9 : c ≤ 900000) (hd : c + 1000 ≤ d) (kk : ∀ N, LI N d → mw_J Y (k + 8) (sl + 48) 255 N 2276 (Lc t) []) : mw_J Y k sl 255 M 914 (Lc t) [] := by
  refine jr_aload_n (j := 1) hC dL_law_914 rfl rfl ?_
  refine jr_callV (mc := 0) (ms := 0) (As := []) (st := []) hC xv_152 (c_X7_clips hlt (g_clips (d := d) hI (by omega))) is1 rfl rfl ⟨⟨rfl, rfl⟩, ⟨by decide, by decide⟩, by show k + 0 ≤ 601024; omega, by show sl + 0 ≤ 7293034; omega⟩ (Nat.le_of_ble_eq_true rfl) dL_law_915 (fun M1 v hP => ?_)
  obtain ⟨rfl, r, rfl, hq⟩ := hP
  refine jr_aload_n (j := 2) hC dL_law_918 rfl rfl ?_
  refine jr_callV (mc := 0) (ms := 0) (As := []) (st := [.int r]) hC xv_155 (c_X8_clips hlt hq) is247 rfl rfl ⟨⟨rfl, rfl⟩, ⟨by decide, by decide⟩, by show k + 0 + 0 ≤ 601024; omega, by show sl + 0 + 0 ≤ 7293034; omega⟩ (Nat.le_of_ble_eq_true rfl) dL_law_919 (fun N v hP => ?_)
  obtain ⟨r2, rfl, hv, hF⟩ := hP
  refine jr_ic_eq (tgt := 2276) hC dL_law_922 (by decide) (fun _ => ?_) (fun h => absurd hv h)
  exact (jr_widen (k1 := k + 8) (sl1 := sl + 48) (by omega) (by omega) (kk N hF))
theorem lc_clip {G : mw_G} {l : Launch} {Y : mw_Y} (hlt : l.stackTraces = false) (hC : mw_C G l room_1 Y cL_law RL) (hnL : mw_nL Y = 8) {b L : Nat} {xs : Nat → Int32} (hS0 : mw_S b L xs Y) (hN : L ≤ 3584) {t k sl : Nat} {c d : Int} {M : mw_M} (ht : 7 * t + 7 ≤ L) (hk : k ≤ 5000) (hs : sl ≤ 29000) (hI : LI M c) (hc0 : 0 ≤ c) (hc9 : c ≤ 900000) (hd : c + 1000 ≤ d) (kk : ∀ N, LI N d → mw_J Y (k + 8) (sl + 48) 255 N 2276 (Lc t) []) : mw_J Y k sl 255 M 927 (Lc t) [] := by
  refine jr_aload_n (j := 1) hC dL_law_927 rfl rfl ?_
  refine jr_argc (j0 := 0) (j4 := 4) (t := t) (q := 1) hC hS0 hN rfl rfl (by omega) dL_law_928 dL_law_929 dL_law_931 rfl dL_law_932 dL_law_933 ?_
  refine jr_argc (j0 := 0) (j4 := 4) (t := t) (q := 2) hC hS0 hN rfl rfl (by omega) dL_law_934 dL_law_935 dL_law_937 rfl dL_law_938 dL_law_939 ?_
  refine jr_aload_n (j := 3) hC dL_law_940 rfl rfl ?_
  refine jr_callSW (mc := 2) (ms := 12) (As := [.ref 1, .int (xs (7 * t + 1)), .int (xs (7 * t + 2)), .ref 254]) (st := []) hC xs_156 (v_clip (W := (fun M2 e => w_X8_clip 255 M2 247 (xs (7 * t + 1)) (xs (7 * t + 2)) (fun N b => Fin d e b.toInt64 N))) hlt (g_clip hI (by omega))) rfl rfl ⟨⟨rfl, rfl⟩, ⟨by decide, by decide⟩, by show k + 2 ≤ 601024; omega, by show sl + 12 ≤ 7293034; omega⟩ (Nat.le_of_ble_eq_true rfl) dL_law_941 (fun M1 v hP => ?_)
  obtain ⟨e, he, rfl, hq⟩ := hP
  refine jr_istore (L1 := (5, .int (nI e)) :: Lc t) hC dL_law_944 hnL (by decide) rfl ?_
  refine jr_aload_n (j := 3) hC dL_law_946 rfl rfl ?_
  refine jr_argc (j0 := 1) (j4 := 5) (t := t) (q := 1) hC hS0 hN rfl rfl (by omega) dL_law_947 dL_law_948 dL_law_950 rfl dL_law_951 dL_law_952 ?_
  refine jr_argc (j0 := 1) (j4 := 5) (t := t) (q := 2) hC hS0 hN rfl rfl (by omega) dL_law_953 dL_law_954 dL_law_956 rfl dL_law_957 dL_law_958 ?_
  refine jr_callV (mc := 0) (ms := 0) (As := [.int (xs (7 * t + 1)), .int (xs (7 * t + 2))]) (st := []) hC xv_158 (c_X8_clip hlt hq) is247 rfl rfl ⟨⟨rfl, rfl⟩, ⟨by decide, by decide⟩, by show k + 2 + 0 ≤ 601024; omega, by show sl + 12 + 0 ≤ 7293034; omega⟩ (Nat.le_of_ble_eq_true rfl) dL_law_959 (fun N v hP => ?_)
  obtain ⟨r, rfl, hF⟩ := hP
  exact jr_tailI hC hlt hnL (off := 1284) ⟨dL_law_962, dL_law_964, dL_law_965, dL_law_968, dL_law_970, dL_law_975, dL_law_977, dL_law_980, dL_law_981, dL_law_982, dL_law_983, dL_law_985, dL_law_986, dL_law_987, dL_law_992, by decide⟩ he hF (by omega) (by omega) (fun N h => jr_widen (k1 := k + 8) (sl1 := sl + 48) (by omega) (by omega) (kk N h))
theorem lc_clipValue {G : mw_G} {l : Launch} {Y : mw_Y} (hlt : l.stackTraces = false) (hC : mw_C G l room_1 Y cL_law RL) (hnL : mw_nL Y = 8) {b L : Nat} {xs : Nat → Int32} (hS0 : mw_S b L xs Y) (hN : L ≤ 3584) {t k sl : Nat} {c d : Int} {M : mw_M} (ht : 7 * t + 7 ≤ L) (hk : k ≤ 5000) (hs : sl ≤ 29000) (hI : LI M c) (hc0 : 0 ≤ c) (hc9 : c ≤ 900000) (hd : c + 1000 ≤ d) (kk : ∀ N, LI N d → mw_J Y (k + 8) (sl + 48) 255 N 2276 (Lc t) []) : mw_J Y k sl 255 M 995 (Lc t) [] := by
  refine jr_aload_n (j := 1) hC dL_law_995 rfl rfl ?_
  refine jr_argc (j0 := 0) (j4 := 4) (t := t) (q := 1) hC hS0 hN rfl rfl (by omega) dL_law_996 dL_law_997 dL_law_999 rfl dL_law_1000 dL_law_1001 ?_
  refine jr_argc (j0 := 0) (j4 := 4) (t := t) (q := 2) hC hS0 hN rfl rfl (by omega) dL_law_1002 dL_law_1003 dL_law_1005 rfl dL_law_1006 dL_law_1007 ?_
  refine jr_aload_n (j := 3) hC dL_law_1008 rfl rfl ?_
  refine jr_callSW (mc := 2) (ms := 12) (As := [.ref 1, .int (xs (7 * t + 1)), .int (xs (7 * t + 2)), .ref 254]) (st := []) hC xs_159 (v_clipValue (W := (fun M2 e => w_X8_clipValue 255 M2 247 (xs (7 * t + 1)) (xs (7 * t + 2)) (fun N b => Fin d e b.toInt64 N))) hlt (g_clipValue hI (by omega))) rfl rfl ⟨⟨rfl, rfl⟩, ⟨by decide, by decide⟩, by show k + 2 ≤ 601024; omega, by show sl + 12 ≤ 7293034; omega⟩ (Nat.le_of_ble_eq_true rfl) dL_law_1009 (fun M1 v hP => ?_)
  obtain ⟨e, he, rfl, hq⟩ := hP
  refine jr_istore (L1 := (5, .int (nI e)) :: Lc t) hC dL_law_1012 hnL (by decide) rfl ?_
  refine jr_aload_n (j := 3) hC dL_law_1014 rfl rfl ?_
  refine jr_argc (j0 := 1) (j4 := 5) (t := t) (q := 1) hC hS0 hN rfl rfl (by omega) dL_law_1015 dL_law_1016 dL_law_1018 rfl dL_law_1019 dL_law_1020 ?_
  refine jr_argc (j0 := 1) (j4 := 5) (t := t) (q := 2) hC hS0 hN rfl rfl (by omega) dL_law_1021 dL_law_1022 dL_law_1024 rfl dL_law_1025 dL_law_1026 ?_
  refine jr_callV (mc := 0) (ms := 0) (As := [.int (xs (7 * t + 1)), .int (xs (7 * t + 2))]) (st := []) hC xv_161 (c_X8_clipValue hlt hq) is247 rfl rfl ⟨⟨rfl, rfl⟩, ⟨by decide, by decide⟩, by show k + 2 + 0 ≤ 601024; omega, by show sl + 12 + 0 ≤ 7293034; omega⟩ (Nat.le_of_ble_eq_true rfl) dL_law_1027 (fun N v hP => ?_)
  obtain ⟨r, rfl, hF⟩ := hP
  exact jr_tailI hC hlt hnL (off := 1216) ⟨dL_law_1030, dL_law_1032, dL_law_1033, dL_law_1036, dL_law_1038, dL_law_1043, dL_law_1045, dL_law_1048, dL_law_1049, dL_law_1050, dL_law_1051, dL_law_1053, dL_law_1054, dL_law_1055, dL_law_1060, by decide⟩ he hF (by omega) (by omega) (fun N h => jr_widen (k1 := k + 8) (sl1 := sl + 48) (by omega) (by omega) (kk N h))
theorem lc_setTrack {G : mw_G} {l : Launch} {Y : mw_Y} (hlt : l.stackTraces = false) (hC : mw_C G l room_1 Y cL_law RL) (hnL : mw_nL Y = 8) {b L : Nat} {xs : Nat → Int32} (hS0 : mw_S b L xs Y) (hN : L ≤ 3584) {t k sl : Nat} {c d : Int} {M : mw_M} (ht : 7 * t + 7 ≤ L) (hk : k ≤ 5000) (hs : sl ≤ 29000) (hI : LI M c) (hc0 : 0 ≤ c) (hc9 : c ≤ 900000) (hd : c + 1000 ≤ d) (kk : ∀ N, LI N d → mw_J Y (k + 8) (sl + 48) 255 N 2276 (Lc t) []) : mw_J Y k sl 255 M 1063 (Lc t) [] := by
  refine jr_aload_n (j := 1) hC dL_law_1063 rfl rfl ?_
  refine jr_argc (j0 := 0) (j4 := 4) (t := t) (q := 1) hC hS0 hN rfl rfl (by omega) dL_law_1064 dL_law_1065 dL_law_1067 rfl dL_law_1068 dL_law_1069 ?_
  refine jr_argc (j0 := 0) (j4 := 4) (t := t) (q := 2) hC hS0 hN rfl rfl (by omega) dL_law_1070 dL_law_1071 dL_law_1073 rfl dL_law_1074 dL_law_1075 ?_
  refine jr_argc (j0 := 0) (j4 := 4) (t := t) (q := 3) hC hS0 hN rfl rfl (by omega) dL_law_1076 dL_law_1077 dL_law_1079 rfl dL_law_1080 dL_law_1081 ?_
  refine jr_argc (j0 := 0) (j4 := 4) (t := t) (q := 4) hC hS0 hN rfl rfl (by omega) dL_law_1082 dL_law_1083 dL_law_1085 rfl dL_law_1086 dL_law_1087 ?_
  refine jr_bool hC dL_law_1088 dL_law_1091 dL_law_1092 dL_law_1095 ?_
  refine jr_argc (j0 := 0) (j4 := 4) (t := t) (q := 5) hC hS0 hN rfl rfl (by omega) dL_law_1096 dL_law_1097 dL_law_1099 rfl dL_law_1100 dL_law_1101 ?_
  refine jr_bool hC dL_law_1102 dL_law_1105 dL_law_1106 dL_law_1109 ?_
  refine jr_aload_n (j := 3) hC dL_law_1110 rfl rfl ?_
  refine jr_callSW (mc := 2) (ms := 12) (As := [.ref 1, .int (xs (7 * t + 1)), .int (xs (7 * t + 2)), .int (xs (7 * t + 3)), .int (tz (xs (7 * t + 4))), .int (tz (xs (7 * t + 5))), .ref 254]) (st := []) hC xs_162 (v_setTrack (W := (fun M2 e => w_X8_setTrack 255 M2 247 (xs (7 * t + 1)) (xs (7 * t + 2)) (xs (7 * t + 3)) (tz (xs (7 * t + 4))) (tz (xs (7 * t + 5))) (fun N b => Fin d e b.toInt64 N))) hlt (g_setTrack hI (tz01 _) (tz01 _) (by omega))) rfl rfl ⟨⟨rfl, rfl⟩, ⟨by decide, by decide⟩, by show k + 2 ≤ 601024; omega, by show sl + 12 ≤ 7293034; omega⟩ (Nat.le_of_ble_eq_true rfl) dL_law_1111 (fun M1 v hP => ?_)
  obtain ⟨e, he, rfl, hq⟩ := hP
  refine jr_istore (L1 := (5, .int (nI e)) :: Lc t) hC dL_law_1114 hnL (by decide) rfl ?_
  refine jr_aload_n (j := 3) hC dL_law_1116 rfl rfl ?_
  refine jr_argc (j0 := 1) (j4 := 5) (t := t) (q := 1) hC hS0 hN rfl rfl (by omega) dL_law_1117 dL_law_1118 dL_law_1120 rfl dL_law_1121 dL_law_1122 ?_
  refine jr_argc (j0 := 1) (j4 := 5) (t := t) (q := 2) hC hS0 hN rfl rfl (by omega) dL_law_1123 dL_law_1124 dL_law_1126 rfl dL_law_1127 dL_law_1128 ?_
  refine jr_argc (j0 := 1) (j4 := 5) (t := t) (q := 3) hC hS0 hN rfl rfl (by omega) dL_law_1129 dL_law_1130 dL_law_1132 rfl dL_law_1133 dL_law_1134 ?_
  refine jr_argc (j0 := 1) (j4 := 5) (t := t) (q := 4) hC hS0 hN rfl rfl (by omega) dL_law_1135 dL_law_1136 dL_law_1138 rfl dL_law_1139 dL_law_1140 ?_
  refine jr_bool hC dL_law_1141 dL_law_1144 dL_law_1145 dL_law_1148 ?_
  refine jr_argc (j0 := 1) (j4 := 5) (t := t) (q := 5) hC hS0 hN rfl rfl (by omega) dL_law_1149 dL_law_1150 dL_law_1152 rfl dL_law_1153 dL_law_1154 ?_
  refine jr_bool hC dL_law_1155 dL_law_1158 dL_law_1159 dL_law_1162 ?_
  refine jr_callV (mc := 0) (ms := 0) (As := [.int (xs (7 * t + 1)), .int (xs (7 * t + 2)), .int (xs (7 * t + 3)), .int (tz (xs (7 * t + 4))), .int (tz (xs (7 * t + 5)))]) (st := []) hC xv_165 (c_X8_setTrack hlt hq) is247 rfl rfl ⟨⟨rfl, rfl⟩, ⟨by decide, by decide⟩, by show k + 2 + 0 ≤ 601024; omega, by show sl + 12 + 0 ≤ 7293034; omega⟩ (Nat.le_of_ble_eq_true rfl) dL_law_1163 (fun N v hP => ?_)
  obtain ⟨r, rfl, hF⟩ := hP
  exact jr_tailI hC hlt hnL (off := 1080) ⟨dL_law_1166, dL_law_1168, dL_law_1169, dL_law_1172, dL_law_1174, dL_law_1179, dL_law_1181, dL_law_1184, dL_law_1185, dL_law_1186, dL_law_1187, dL_law_1189, dL_law_1190, dL_law_1191, dL_law_1196, by decide⟩ he hF (by omega) (by omega) (fun N h => jr_widen (k1 := k + 8) (sl1 := sl + 48) (by omega) (by omega) (kk N h))
theorem lc_setPoint {G : mw_G} {l : Launch} {Y : mw_Y} (hlt : l.stackTraces = false) (hC : mw_C G l room_1 Y cL_law RL) (hnL : mw_nL Y = 8) {b L : Nat} {xs : Nat → Int32} (hS0 : mw_S b L xs Y) (hN : L ≤ 3584) {t k sl : Nat} {c d : Int} {M : mw_M} (ht : 7 * t + 7 ≤ L) (hk : k ≤ 5000) (hs : sl ≤ 29000) (hI : LI M c) (hc0 : 0 ≤ c) (hc9 : c ≤ 900000) (hd : c + 1000 ≤ d) (kk : ∀ N, LI N d → mw_J Y (k + 8) (sl + 48) 255 N 2276 (Lc t) []) : mw_J Y k sl 255 M 1199 (Lc t) [] := by
  refine jr_aload_n (j := 1) hC dL_law_1199 rfl rfl ?_
  refine jr_argc (j0 := 0) (j4 := 4) (t := t) (q := 1) hC hS0 hN rfl rfl (by omega) dL_law_1200 dL_law_1201 dL_law_1203 rfl dL_law_1204 dL_law_1205 ?_
  refine jr_argc (j0 := 0) (j4 := 4) (t := t) (q := 2) hC hS0 hN rfl rfl (by omega) dL_law_1206 dL_law_1207 dL_law_1209 rfl dL_law_1210 dL_law_1211 ?_
  refine jr_argc (j0 := 0) (j4 := 4) (t := t) (q := 3) hC hS0 hN rfl rfl (by omega) dL_law_1212 dL_law_1213 dL_law_1215 rfl dL_law_1216 dL_law_1217 ?_
  refine jr_argc (j0 := 0) (j4 := 4) (t := t) (q := 4) hC hS0 hN rfl rfl (by omega) dL_law_1218 dL_law_1219 dL_law_1221 rfl dL_law_1222 dL_law_1223 ?_
  refine jr_bool hC dL_law_1224 dL_law_1227 dL_law_1228 dL_law_1231 ?_
  refine jr_aload_n (j := 3) hC dL_law_1232 rfl rfl ?_
  refine jr_callSW (mc := 3) (ms := 18) (As := [.ref 1, .int (xs (7 * t + 1)), .int (xs (7 * t + 2)), .int (xs (7 * t + 3)), .int (tz (xs (7 * t + 4))), .ref 254]) (st := []) hC xs_166 (v_setPoint (W := (fun M2 e => w_X8_setPoint 255 M2 247 (xs (7 * t + 1)) (xs (7 * t + 2)) (xs (7 * t + 3)) (tz (xs (7 * t + 4))) (fun N b => Fin d e b.toInt64 N))) hlt (g_setPoint hI (tz01 _) (by omega))) rfl rfl ⟨⟨rfl, rfl⟩, ⟨by decide, by decide⟩, by show k + 3 ≤ 601024; omega, by show sl + 18 ≤ 7293034; omega⟩ (Nat.le_of_ble_eq_true rfl) dL_law_1233 (fun M1 v hP => ?_)
  obtain ⟨e, he, rfl, hq⟩ := hP
  refine jr_istore (L1 := (5, .int (nI e)) :: Lc t) hC dL_law_1236 hnL (by decide) rfl ?_
  refine jr_aload_n (j := 3) hC dL_law_1238 rfl rfl ?_
  refine jr_argc (j0 := 1) (j4 := 5) (t := t) (q := 1) hC hS0 hN rfl rfl (by omega) dL_law_1239 dL_law_1240 dL_law_1242 rfl dL_law_1243 dL_law_1244 ?_
  refine jr_argc (j0 := 1) (j4 := 5) (t := t) (q := 2) hC hS0 hN rfl rfl (by omega) dL_law_1245 dL_law_1246 dL_law_1248 rfl dL_law_1249 dL_law_1250 ?_
  refine jr_argc (j0 := 1) (j4 := 5) (t := t) (q := 3) hC hS0 hN rfl rfl (by omega) dL_law_1251 dL_law_1252 dL_law_1254 rfl dL_law_1255 dL_law_1256 ?_
  refine jr_argc (j0 := 1) (j4 := 5) (t := t) (q := 4) hC hS0 hN rfl rfl (by omega) dL_law_1257 dL_law_1258 dL_law_1260 rfl dL_law_1261 dL_law_1262 ?_
  refine jr_bool hC dL_law_1263 dL_law_1266 dL_law_1267 dL_law_1270 ?_
  refine jr_callV (mc := 0) (ms := 0) (As := [.int (xs (7 * t + 1)), .int (xs (7 * t + 2)), .int (xs (7 * t + 3)), .int (tz (xs (7 * t + 4)))]) (st := []) hC xv_169 (c_X8_setPoint hlt hq) is247 rfl rfl ⟨⟨rfl, rfl⟩, ⟨by decide, by decide⟩, by show k + 3 + 0 ≤ 601024; omega, by show sl + 18 + 0 ≤ 7293034; omega⟩ (Nat.le_of_ble_eq_true rfl) dL_law_1271 (fun N v hP => ?_)
  obtain ⟨r, rfl, hF⟩ := hP
  exact jr_tailI hC hlt hnL (off := 972) ⟨dL_law_1274, dL_law_1276, dL_law_1277, dL_law_1280, dL_law_1282, dL_law_1287, dL_law_1289, dL_law_1292, dL_law_1293, dL_law_1294, dL_law_1295, dL_law_1297, dL_law_1298, dL_law_1299, dL_law_1304, by decide⟩ he hF (by omega) (by omega) (fun N h => jr_widen (k1 := k + 8) (sl1 := sl + 48) (by omega) (by omega) (kk N h))
theorem lc_removePoint {G : mw_G} {l : Launch} {Y : mw_Y} (hlt : l.stackTraces = false) (hC : mw_C G l room_1 Y cL_law RL) (hnL : mw_nL Y = 8) {b L : Nat} {xs : Nat → Int32} (hS0 : mw_S b L xs Y) (hN : L ≤ 3584) {t k sl : Nat} {c d : Int} {M : mw_M} (ht : 7 * t + 7 ≤ L) (hk : k ≤ 5000) (hs : sl ≤ 29000) (hI : LI M c) (hc0 : 0 ≤ c) (hc9 : c ≤ 900000) (hd : c + 1000 ≤ d) (kk : ∀ N, LI N d → mw_J Y (k + 8) (sl + 48) 255 N 2276 (Lc t) []) : mw_J Y k sl 255 M 1307 (Lc t) [] := by
  refine jr_aload_n (j := 1) hC dL_law_1307 rfl rfl ?_
  refine jr_argc (j0 := 0) (j4 := 4) (t := t) (q := 1) hC hS0 hN rfl rfl (by omega) dL_law_1308 dL_law_1309 dL_law_1311 rfl dL_law_1312 dL_law_1313 ?_
  refine jr_argc (j0 := 0) (j4 := 4) (t := t) (q := 2) hC hS0 hN rfl rfl (by omega) dL_law_1314 dL_law_1315 dL_law_1317 rfl dL_law_1318 dL_law_1319 ?_
  refine jr_aload_n (j := 3) hC dL_law_1320 rfl rfl ?_
  refine jr_callSW (mc := 2) (ms := 12) (As := [.ref 1, .int (xs (7 * t + 1)), .int (xs (7 * t + 2)), .ref 254]) (st := []) hC xs_170 (v_removePoint (W := (fun M2 e => w_X8_removePoint 255 M2 247 (xs (7 * t + 1)) (xs (7 * t + 2)) (fun N b => Fin d e b.toInt64 N))) hlt (g_removePoint hI (by omega))) rfl rfl ⟨⟨rfl, rfl⟩, ⟨by decide, by decide⟩, by show k + 2 ≤ 601024; omega, by show sl + 12 ≤ 7293034; omega⟩ (Nat.le_of_ble_eq_true rfl) dL_law_1321 (fun M1 v hP => ?_)
  obtain ⟨e, he, rfl, hq⟩ := hP
  refine jr_istore (L1 := (5, .int (nI e)) :: Lc t) hC dL_law_1324 hnL (by decide) rfl ?_
  refine jr_aload_n (j := 3) hC dL_law_1326 rfl rfl ?_
  refine jr_argc (j0 := 1) (j4 := 5) (t := t) (q := 1) hC hS0 hN rfl rfl (by omega) dL_law_1327 dL_law_1328 dL_law_1330 rfl dL_law_1331 dL_law_1332 ?_
  refine jr_argc (j0 := 1) (j4 := 5) (t := t) (q := 2) hC hS0 hN rfl rfl (by omega) dL_law_1333 dL_law_1334 dL_law_1336 rfl dL_law_1337 dL_law_1338 ?_
  refine jr_callV (mc := 0) (ms := 0) (As := [.int (xs (7 * t + 1)), .int (xs (7 * t + 2))]) (st := []) hC xv_172 (c_X8_removePoint hlt hq) is247 rfl rfl ⟨⟨rfl, rfl⟩, ⟨by decide, by decide⟩, by show k + 2 + 0 ≤ 601024; omega, by show sl + 12 + 0 ≤ 7293034; omega⟩ (Nat.le_of_ble_eq_true rfl) dL_law_1339 (fun N v hP => ?_)
  obtain ⟨r, rfl, hF⟩ := hP
  exact jr_tailI hC hlt hnL (off := 904) ⟨dL_law_1342, dL_law_1344, dL_law_1345, dL_law_1348, dL_law_1350, dL_law_1355, dL_law_1357, dL_law_1360, dL_law_1361, dL_law_1362, dL_law_1363, dL_law_1365, dL_law_1366, dL_law_1367, dL_law_1372, by decide⟩ he hF (by omega) (by omega) (fun N h => jr_widen (k1 := k + 8) (sl1 := sl + 48) (by omega) (by omega) (kk N h))
theorem lc_automation {G : mw_G} {l : Launch} {Y : mw_Y} (hlt : l.stackTraces = false) (hC : mw_C G l room_1 Y cL_law RL) (hnL : mw_nL Y = 8) {b L : Nat} {xs : Nat → Int32} (hS0 : mw_S b L xs Y) (hN : L ≤ 3584) {t k sl : Nat} {c d : Int} {M : mw_M} (ht : 7 * t + 7 ≤ L) (hk : k ≤ 5000) (hs : sl ≤ 29000) (hI : LI M c) (hc0 : 0 ≤ c) (hc9 : c ≤ 900000) (hd : c + 1000 ≤ d) (kk : ∀ N, LI N d → mw_J Y (k + 8) (sl + 48) 255 N 2276 (Lc t) []) : mw_J Y k sl 255 M 1375 (Lc t) [] := by
  refine jr_aload_n (j := 1) hC dL_law_1375 rfl rfl ?_
  refine jr_argc (j0 := 0) (j4 := 4) (t := t) (q := 1) hC hS0 hN rfl rfl (by omega) dL_law_1376 dL_law_1377 dL_law_1379 rfl dL_law_1380 dL_law_1381 ?_
  refine jr_argc (j0 := 0) (j4 := 4) (t := t) (q := 2) hC hS0 hN rfl rfl (by omega) dL_law_1382 dL_law_1383 dL_law_1385 rfl dL_law_1386 dL_law_1387 ?_
  refine jr_aload_n (j := 3) hC dL_law_1388 rfl rfl ?_
  refine jr_callSW (mc := 2) (ms := 12) (As := [.ref 1, .int (xs (7 * t + 1)), .int (xs (7 * t + 2)), .ref 254]) (st := []) hC xs_173 (v_automation (W := (fun M2 e => w_X8_automation 255 M2 247 (xs (7 * t + 1)) (xs (7 * t + 2)) (fun N b => Fin d e b.toInt64 N))) hlt (g_automation hI (by omega))) rfl rfl ⟨⟨rfl, rfl⟩, ⟨by decide, by decide⟩, by show k + 2 ≤ 601024; omega, by show sl + 12 ≤ 7293034; omega⟩ (Nat.le_of_ble_eq_true rfl) dL_law_1389 (fun M1 v hP => ?_)
  obtain ⟨e, he, rfl, hq⟩ := hP
  refine jr_istore (L1 := (5, .int (nI e)) :: Lc t) hC dL_law_1392 hnL (by decide) rfl ?_
  refine jr_aload_n (j := 3) hC dL_law_1394 rfl rfl ?_
  refine jr_argc (j0 := 1) (j4 := 5) (t := t) (q := 1) hC hS0 hN rfl rfl (by omega) dL_law_1395 dL_law_1396 dL_law_1398 rfl dL_law_1399 dL_law_1400 ?_
  refine jr_argc (j0 := 1) (j4 := 5) (t := t) (q := 2) hC hS0 hN rfl rfl (by omega) dL_law_1401 dL_law_1402 dL_law_1404 rfl dL_law_1405 dL_law_1406 ?_
  refine jr_callV (mc := 0) (ms := 0) (As := [.int (xs (7 * t + 1)), .int (xs (7 * t + 2))]) (st := []) hC xv_175 (c_X8_automation hlt hq) is247 rfl rfl ⟨⟨rfl, rfl⟩, ⟨by decide, by decide⟩, by show k + 2 + 0 ≤ 601024; omega, by show sl + 12 + 0 ≤ 7293034; omega⟩ (Nat.le_of_ble_eq_true rfl) dL_law_1407 (fun N v hP => ?_)
  obtain ⟨r, rfl, hF⟩ := hP
  exact jr_tailI hC hlt hnL (off := 836) ⟨dL_law_1410, dL_law_1412, dL_law_1413, dL_law_1416, dL_law_1418, dL_law_1423, dL_law_1425, dL_law_1428, dL_law_1429, dL_law_1430, dL_law_1431, dL_law_1433, dL_law_1434, dL_law_1435, dL_law_1440, by decide⟩ he hF (by omega) (by omega) (fun N h => jr_widen (k1 := k + 8) (sl1 := sl + 48) (by omega) (by omega) (kk N h))
theorem lc_duck {G : mw_G} {l : Launch} {Y : mw_Y} (hlt : l.stackTraces = false) (hC : mw_C G l room_1 Y cL_law RL) (hnL : mw_nL Y = 8) {b L : Nat} {xs : Nat → Int32} (hS0 : mw_S b L xs Y) (hN : L ≤ 3584) {t k sl : Nat} {c d : Int} {M : mw_M} (ht : 7 * t + 7 ≤ L) (hk : k ≤ 5000) (hs : sl ≤ 29000) (hI : LI M c) (hc0 : 0 ≤ c) (hc9 : c ≤ 900000) (hd : c + 1000 ≤ d) (kk : ∀ N, LI N d → mw_J Y (k + 8) (sl + 48) 255 N 2276 (Lc t) []) : mw_J Y k sl 255 M 1443 (Lc t) [] := by
  refine jr_aload_n (j := 1) hC dL_law_1443 rfl rfl ?_
  refine jr_argc (j0 := 0) (j4 := 4) (t := t) (q := 1) hC hS0 hN rfl rfl (by omega) dL_law_1444 dL_law_1445 dL_law_1447 rfl dL_law_1448 dL_law_1449 ?_
  refine jr_argc (j0 := 0) (j4 := 4) (t := t) (q := 2) hC hS0 hN rfl rfl (by omega) dL_law_1450 dL_law_1451 dL_law_1453 rfl dL_law_1454 dL_law_1455 ?_
  refine jr_argc (j0 := 0) (j4 := 4) (t := t) (q := 3) hC hS0 hN rfl rfl (by omega) dL_law_1456 dL_law_1457 dL_law_1459 rfl dL_law_1460 dL_law_1461 ?_
  refine jr_argc (j0 := 0) (j4 := 4) (t := t) (q := 4) hC hS0 hN rfl rfl (by omega) dL_law_1462 dL_law_1463 dL_law_1465 rfl dL_law_1466 dL_law_1467 ?_
  refine jr_argc (j0 := 0) (j4 := 4) (t := t) (q := 5) hC hS0 hN rfl rfl (by omega) dL_law_1468 dL_law_1469 dL_law_1471 rfl dL_law_1472 dL_law_1473 ?_
  refine jr_argb (j0 := 0) (j4 := 4) (t := t) (q := 6) hC hS0 hN rfl rfl (by omega) dL_law_1474 dL_law_1475 dL_law_1477 rfl dL_law_1479 dL_law_1480 ?_
  refine jr_aload_n (j := 3) hC dL_law_1481 rfl rfl ?_
  refine jr_callSW (mc := 2) (ms := 12) (As := [.ref 1, .int (xs (7 * t + 1)), .int (xs (7 * t + 2)), .int (xs (7 * t + 3)), .int (xs (7 * t + 4)), .int (xs (7 * t + 5)), .int (xs (7 * t + 6)), .ref 254]) (st := []) hC xs_176 (v_duck (W := (fun M2 e => w_X8_duck 255 M2 247 (xs (7 * t + 1)) (xs (7 * t + 2)) (xs (7 * t + 3)) (xs (7 * t + 4)) (xs (7 * t + 5)) (xs (7 * t + 6)) (fun N b => Fin d e b.toInt64 N))) hlt (g_duck hI (by omega))) rfl rfl ⟨⟨rfl, rfl⟩, ⟨by decide, by decide⟩, by show k + 2 ≤ 601024; omega, by show sl + 12 ≤ 7293034; omega⟩ (Nat.le_of_ble_eq_true rfl) dL_law_1482 (fun M1 v hP => ?_)
  obtain ⟨e, he, rfl, hq⟩ := hP
  refine jr_istore (L1 := (5, .int (nI e)) :: Lc t) hC dL_law_1485 hnL (by decide) rfl ?_
  refine jr_aload_n (j := 3) hC dL_law_1487 rfl rfl ?_
  refine jr_argc (j0 := 1) (j4 := 5) (t := t) (q := 1) hC hS0 hN rfl rfl (by omega) dL_law_1488 dL_law_1489 dL_law_1491 rfl dL_law_1492 dL_law_1493 ?_
  refine jr_argc (j0 := 1) (j4 := 5) (t := t) (q := 2) hC hS0 hN rfl rfl (by omega) dL_law_1494 dL_law_1495 dL_law_1497 rfl dL_law_1498 dL_law_1499 ?_
  refine jr_argc (j0 := 1) (j4 := 5) (t := t) (q := 3) hC hS0 hN rfl rfl (by omega) dL_law_1500 dL_law_1501 dL_law_1503 rfl dL_law_1504 dL_law_1505 ?_
  refine jr_argc (j0 := 1) (j4 := 5) (t := t) (q := 4) hC hS0 hN rfl rfl (by omega) dL_law_1506 dL_law_1507 dL_law_1509 rfl dL_law_1510 dL_law_1511 ?_
  refine jr_argc (j0 := 1) (j4 := 5) (t := t) (q := 5) hC hS0 hN rfl rfl (by omega) dL_law_1512 dL_law_1513 dL_law_1515 rfl dL_law_1516 dL_law_1517 ?_
  refine jr_argb (j0 := 1) (j4 := 5) (t := t) (q := 6) hC hS0 hN rfl rfl (by omega) dL_law_1518 dL_law_1519 dL_law_1521 rfl dL_law_1523 dL_law_1524 ?_
  refine jr_callV (mc := 0) (ms := 0) (As := [.int (xs (7 * t + 1)), .int (xs (7 * t + 2)), .int (xs (7 * t + 3)), .int (xs (7 * t + 4)), .int (xs (7 * t + 5)), .int (xs (7 * t + 6))]) (st := []) hC xv_178 (c_X8_duck hlt hq) is247 rfl rfl ⟨⟨rfl, rfl⟩, ⟨by decide, by decide⟩, by show k + 2 + 0 ≤ 601024; omega, by show sl + 12 + 0 ≤ 7293034; omega⟩ (Nat.le_of_ble_eq_true rfl) dL_law_1525 (fun N v hP => ?_)
  obtain ⟨r, rfl, hF⟩ := hP
  exact jr_tailI hC hlt hnL (off := 718) ⟨dL_law_1528, dL_law_1530, dL_law_1531, dL_law_1534, dL_law_1536, dL_law_1541, dL_law_1543, dL_law_1546, dL_law_1547, dL_law_1548, dL_law_1549, dL_law_1551, dL_law_1552, dL_law_1553, dL_law_1558, by decide⟩ he hF (by omega) (by omega) (fun N h => jr_widen (k1 := k + 8) (sl1 := sl + 48) (by omega) (by omega) (kk N h))
theorem lc_endDuck {G : mw_G} {l : Launch} {Y : mw_Y} (hlt : l.stackTraces = false) (hC : mw_C G l room_1 Y cL_law RL) (hnL : mw_nL Y = 8) {b L : Nat} {xs : Nat → Int32} (hS0 : mw_S b L xs Y) (hN : L ≤ 3584) {t k sl : Nat} {c d : Int} {M : mw_M} (ht : 7 * t + 7 ≤ L) (hk : k ≤ 5000) (hs : sl ≤ 29000) (hI : LI M c) (hc0 : 0 ≤ c) (hc9 : c ≤ 900000) (hd : c + 1000 ≤ d) (kk : ∀ N, LI N d → mw_J Y (k + 8) (sl + 48) 255 N 2276 (Lc t) []) : mw_J Y k sl 255 M 1561 (Lc t) [] := by
  refine jr_aload_n (j := 1) hC dL_law_1561 rfl rfl ?_
  refine jr_argc (j0 := 0) (j4 := 4) (t := t) (q := 1) hC hS0 hN rfl rfl (by omega) dL_law_1562 dL_law_1563 dL_law_1565 rfl dL_law_1566 dL_law_1567 ?_
  refine jr_aload_n (j := 3) hC dL_law_1568 rfl rfl ?_
  refine jr_callSW (mc := 1) (ms := 6) (As := [.ref 1, .int (xs (7 * t + 1)), .ref 254]) (st := []) hC xs_179 (v_endDuck (W := (fun M2 e => w_X8_endDuck 255 M2 247 (xs (7 * t + 1)) (fun N b => Fin d e b.toInt64 N))) hlt (g_endDuck hI (by omega))) rfl rfl ⟨⟨rfl, rfl⟩, ⟨by decide, by decide⟩, by show k + 1 ≤ 601024; omega, by show sl + 6 ≤ 7293034; omega⟩ (Nat.le_of_ble_eq_true rfl) dL_law_1569 (fun M1 v hP => ?_)
  obtain ⟨e, he, rfl, hq⟩ := hP
  refine jr_istore (L1 := (5, .int (nI e)) :: Lc t) hC dL_law_1572 hnL (by decide) rfl ?_
  refine jr_aload_n (j := 3) hC dL_law_1574 rfl rfl ?_
  refine jr_argc (j0 := 1) (j4 := 5) (t := t) (q := 1) hC hS0 hN rfl rfl (by omega) dL_law_1575 dL_law_1576 dL_law_1578 rfl dL_law_1579 dL_law_1580 ?_
  refine jr_callV (mc := 0) (ms := 0) (As := [.int (xs (7 * t + 1))]) (st := []) hC xv_181 (c_X8_endDuck hlt hq) is247 rfl rfl ⟨⟨rfl, rfl⟩, ⟨by decide, by decide⟩, by show k + 1 + 0 ≤ 601024; omega, by show sl + 6 + 0 ≤ 7293034; omega⟩ (Nat.le_of_ble_eq_true rfl) dL_law_1581 (fun N v hP => ?_)
  obtain ⟨r, rfl, hF⟩ := hP
  exact jr_tailI hC hlt hnL (off := 662) ⟨dL_law_1584, dL_law_1586, dL_law_1587, dL_law_1590, dL_law_1592, dL_law_1597, dL_law_1599, dL_law_1602, dL_law_1603, dL_law_1604, dL_law_1605, dL_law_1607, dL_law_1608, dL_law_1609, dL_law_1614, by decide⟩ he hF (by omega) (by omega) (fun N h => jr_widen (k1 := k + 8) (sl1 := sl + 48) (by omega) (by omega) (kk N h))
theorem lc_duckGain {G : mw_G} {l : Launch} {Y : mw_Y} (hlt : l.stackTraces = false) (hC : mw_C G l room_1 Y cL_law RL) (hnL : mw_nL Y = 8) {b L : Nat} {xs : Nat → Int32} (hS0 : mw_S b L xs Y) (hN : L ≤ 3584) {t k sl : Nat} {c d : Int} {M : mw_M} (ht : 7 * t + 7 ≤ L) (hk : k ≤ 5000) (hs : sl ≤ 29000) (hI : LI M c) (hc0 : 0 ≤ c) (hc9 : c ≤ 900000) (hd : c + 1000 ≤ d) (kk : ∀ N, LI N d → mw_J Y (k + 8) (sl + 48) 255 N 2276 (Lc t) []) : mw_J Y k sl 255 M 1617 (Lc t) [] := by
  refine jr_aload_n (j := 1) hC dL_law_1617 rfl rfl ?_
  refine jr_argc (j0 := 0) (j4 := 4) (t := t) (q := 1) hC hS0 hN rfl rfl (by omega) dL_law_1618 dL_law_1619 dL_law_1621 rfl dL_law_1622 dL_law_1623 ?_
  refine jr_argc (j0 := 0) (j4 := 4) (t := t) (q := 2) hC hS0 hN rfl rfl (by omega) dL_law_1624 dL_law_1625 dL_law_1627 rfl dL_law_1628 dL_law_1629 ?_
  refine jr_aload_n (j := 3) hC dL_law_1630 rfl rfl ?_
  refine jr_callSW (mc := 2) (ms := 12) (As := [.ref 1, .int (xs (7 * t + 1)), .int (xs (7 * t + 2)), .ref 254]) (st := []) hC xs_182 (v_duckGain (W := (fun M2 e => w_X8_duckGain 255 M2 247 (xs (7 * t + 1)) (xs (7 * t + 2)) (fun N b => Fin d e b.toInt64 N))) hlt (g_duckGain hI (by omega))) rfl rfl ⟨⟨rfl, rfl⟩, ⟨by decide, by decide⟩, by show k + 2 ≤ 601024; omega, by show sl + 12 ≤ 7293034; omega⟩ (Nat.le_of_ble_eq_true rfl) dL_law_1631 (fun M1 v hP => ?_)
  obtain ⟨e, he, rfl, hq⟩ := hP
  refine jr_istore (L1 := (5, .int (nI e)) :: Lc t) hC dL_law_1634 hnL (by decide) rfl ?_
  refine jr_aload_n (j := 3) hC dL_law_1636 rfl rfl ?_
  refine jr_argc (j0 := 1) (j4 := 5) (t := t) (q := 1) hC hS0 hN rfl rfl (by omega) dL_law_1637 dL_law_1638 dL_law_1640 rfl dL_law_1641 dL_law_1642 ?_
  refine jr_argc (j0 := 1) (j4 := 5) (t := t) (q := 2) hC hS0 hN rfl rfl (by omega) dL_law_1643 dL_law_1644 dL_law_1646 rfl dL_law_1647 dL_law_1648 ?_
  refine jr_callV (mc := 0) (ms := 0) (As := [.int (xs (7 * t + 1)), .int (xs (7 * t + 2))]) (st := []) hC xv_184 (c_X8_duckGain hlt hq) is247 rfl rfl ⟨⟨rfl, rfl⟩, ⟨by decide, by decide⟩, by show k + 2 + 0 ≤ 601024; omega, by show sl + 12 + 0 ≤ 7293034; omega⟩ (Nat.le_of_ble_eq_true rfl) dL_law_1649 (fun N v hP => ?_)
  obtain ⟨r, rfl, hF⟩ := hP
  exact jr_tailI hC hlt hnL (off := 594) ⟨dL_law_1652, dL_law_1654, dL_law_1655, dL_law_1658, dL_law_1660, dL_law_1665, dL_law_1667, dL_law_1670, dL_law_1671, dL_law_1672, dL_law_1673, dL_law_1675, dL_law_1676, dL_law_1677, dL_law_1682, by decide⟩ he hF (by omega) (by omega) (fun N h => jr_widen (k1 := k + 8) (sl1 := sl + 48) (by omega) (by omega) (kk N h))
theorem lc_trackValue {G : mw_G} {l : Launch} {Y : mw_Y} (hlt : l.stackTraces = false) (hC : mw_C G l room_1 Y cL_law RL) (hnL : mw_nL Y = 8) {b L : Nat} {xs : Nat → Int32} (hS0 : mw_S b L xs Y) (hN : L ≤ 3584) {t k sl : Nat} {c d : Int} {M : mw_M} (ht : 7 * t + 7 ≤ L) (hk : k ≤ 5000) (hs : sl ≤ 29000) (hI : LI M c) (hc0 : 0 ≤ c) (hc9 : c ≤ 900000) (hd : c + 1000 ≤ d) (kk : ∀ N, LI N d → mw_J Y (k + 8) (sl + 48) 255 N 2276 (Lc t) []) : mw_J Y k sl 255 M 1685 (Lc t) [] := by
  refine jr_aload_n (j := 1) hC dL_law_1685 rfl rfl ?_
  refine jr_argc (j0 := 0) (j4 := 4) (t := t) (q := 1) hC hS0 hN rfl rfl (by omega) dL_law_1686 dL_law_1687 dL_law_1689 rfl dL_law_1690 dL_law_1691 ?_
  refine jr_argc (j0 := 0) (j4 := 4) (t := t) (q := 2) hC hS0 hN rfl rfl (by omega) dL_law_1692 dL_law_1693 dL_law_1695 rfl dL_law_1696 dL_law_1697 ?_
  refine jr_aload_n (j := 3) hC dL_law_1698 rfl rfl ?_
  refine jr_callSW (mc := 2) (ms := 12) (As := [.ref 1, .int (xs (7 * t + 1)), .int (xs (7 * t + 2)), .ref 254]) (st := []) hC xs_185 (v_trackValue (W := (fun M2 e => w_X8_trackValue 255 M2 247 (xs (7 * t + 1)) (xs (7 * t + 2)) (fun N b => Fin d e b.toInt64 N))) hlt (g_trackValue hI (by omega))) rfl rfl ⟨⟨rfl, rfl⟩, ⟨by decide, by decide⟩, by show k + 2 ≤ 601024; omega, by show sl + 12 ≤ 7293034; omega⟩ (Nat.le_of_ble_eq_true rfl) dL_law_1699 (fun M1 v hP => ?_)
  obtain ⟨e, he, rfl, hq⟩ := hP
  refine jr_istore (L1 := (5, .int (nI e)) :: Lc t) hC dL_law_1702 hnL (by decide) rfl ?_
  refine jr_aload_n (j := 3) hC dL_law_1704 rfl rfl ?_
  refine jr_argc (j0 := 1) (j4 := 5) (t := t) (q := 1) hC hS0 hN rfl rfl (by omega) dL_law_1705 dL_law_1706 dL_law_1708 rfl dL_law_1709 dL_law_1710 ?_
  refine jr_argc (j0 := 1) (j4 := 5) (t := t) (q := 2) hC hS0 hN rfl rfl (by omega) dL_law_1711 dL_law_1712 dL_law_1714 rfl dL_law_1715 dL_law_1716 ?_
  refine jr_callV (mc := 0) (ms := 0) (As := [.int (xs (7 * t + 1)), .int (xs (7 * t + 2))]) (st := []) hC xv_187 (c_X8_trackValue hlt hq) is247 rfl rfl ⟨⟨rfl, rfl⟩, ⟨by decide, by decide⟩, by show k + 2 + 0 ≤ 601024; omega, by show sl + 12 + 0 ≤ 7293034; omega⟩ (Nat.le_of_ble_eq_true rfl) dL_law_1717 (fun N v hP => ?_)
  obtain ⟨r, rfl, hF⟩ := hP
  exact jr_tailI hC hlt hnL (off := 526) ⟨dL_law_1720, dL_law_1722, dL_law_1723, dL_law_1726, dL_law_1728, dL_law_1733, dL_law_1735, dL_law_1738, dL_law_1739, dL_law_1740, dL_law_1741, dL_law_1743, dL_law_1744, dL_law_1745, dL_law_1750, by decide⟩ he hF (by omega) (by omega) (fun N h => jr_widen (k1 := k + 8) (sl1 := sl + 48) (by omega) (by omega) (kk N h))
theorem lc_isAudible {G : mw_G} {l : Launch} {Y : mw_Y} (hlt : l.stackTraces = false) (hC : mw_C G l room_1 Y cL_law RL) (hnL : mw_nL Y = 8) {b L : Nat} {xs : Nat → Int32} (hS0 : mw_S b L xs Y) (hN : L ≤ 3584) {t k sl : Nat} {c d : Int} {M : mw_M} (ht : 7 * t + 7 ≤ L) (hk : k ≤ 5000) (hs : sl ≤ 29000) (hI : LI M c) (hc0 : 0 ≤ c) (hc9 : c ≤ 900000) (hd : c + 1000 ≤ d) (kk : ∀ N, LI N d → mw_J Y (k + 8) (sl + 48) 255 N 2276 (Lc t) []) : mw_J Y k sl 255 M 1753 (Lc t) [] := by
  refine jr_aload_n (j := 1) hC dL_law_1753 rfl rfl ?_
  refine jr_argc (j0 := 0) (j4 := 4) (t := t) (q := 1) hC hS0 hN rfl rfl (by omega) dL_law_1754 dL_law_1755 dL_law_1757 rfl dL_law_1758 dL_law_1759 ?_
  refine jr_aload_n (j := 3) hC dL_law_1760 rfl rfl ?_
  refine jr_callSW (mc := 1) (ms := 6) (As := [.ref 1, .int (xs (7 * t + 1)), .ref 254]) (st := []) hC xs_188 (v_isAudible (W := (fun M2 e => w_X8_isAudible 255 M2 247 (xs (7 * t + 1)) (fun N b => Fin d e (if b = 0 then 0 else 1) N))) hlt (g_audible hI (by omega))) rfl rfl ⟨⟨rfl, rfl⟩, ⟨by decide, by decide⟩, by show k + 1 ≤ 601024; omega, by show sl + 6 ≤ 7293034; omega⟩ (Nat.le_of_ble_eq_true rfl) dL_law_1761 (fun M1 v hP => ?_)
  obtain ⟨e, he, rfl, hq⟩ := hP
  refine jr_istore (L1 := (5, .int (nI e)) :: Lc t) hC dL_law_1764 hnL (by decide) rfl ?_
  refine jr_aload_n (j := 3) hC dL_law_1766 rfl rfl ?_
  refine jr_argc (j0 := 1) (j4 := 5) (t := t) (q := 1) hC hS0 hN rfl rfl (by omega) dL_law_1767 dL_law_1768 dL_law_1770 rfl dL_law_1771 dL_law_1772 ?_
  refine jr_callV (mc := 0) (ms := 0) (As := [.int (xs (7 * t + 1))]) (st := []) hC xv_190 (c_X8_isAudible hlt hq) is247 rfl rfl ⟨⟨rfl, rfl⟩, ⟨by decide, by decide⟩, by show k + 1 + 0 ≤ 601024; omega, by show sl + 6 + 0 ≤ 7293034; omega⟩ (Nat.le_of_ble_eq_true rfl) dL_law_1773 (fun N v hP => ?_)
  obtain ⟨r, rfl, hF⟩ := hP
  obtain ⟨h5, h0, hI2⟩ := hF
  refine jr_istore (L1 := (6, .int r) :: (5, .int (nI e)) :: Lc t) hC dL_law_1776 hnL (by decide) rfl ?_
  refine jr_aload_n (j := 4) hC dL_law_1778 rfl rfl ?_
  refine jr_callV (mc := 0) (ms := 0) (As := []) (st := []) hC xv_120 (c_X8_thrown (Q := fun v => v = mI N 247 5) hlt (by unfold w_X8_thrown; exact ⟨is247, rfl⟩)) is247 rfl rfl ⟨⟨rfl, rfl⟩, ⟨by decide, by decide⟩, by show k + 1 + 0 + 0 ≤ 601024; omega, by show sl + 6 + 0 + 0 ≤ 7293034; omega⟩ (Nat.le_of_ble_eq_true rfl) dL_law_1779 (fun N1 v hP => ?_)
  obtain ⟨rfl, x, rfl, hx⟩ := hP
  rw [h5] at hx
  subst hx
  refine jr_iload (j := 1) hC dL_law_1782 rfl ?_
  refine jr_ic_eq (tgt := 1789) hC dL_law_1784 (by decide) (fun _ => ?_) (fun h => absurd rfl h)
  refine jr_iload (j := 1) hC dL_law_1789 rfl ?_
  refine jr_if_ne (tgt := 1813) hC dL_law_1791 (by decide) (fun _ => ?_) (fun hz => ?_)
  · refine jr_sub [2, 3, 4, 5, 6] (L1 := Lc t) rfl ?_
    exact jr_goto (tgt := 2276) hC dL_law_1813 (by decide) (jr_widen (k1 := k + 8) (sl1 := sl + 48) (by omega) (by omega) (kk N1 hI2))
  · have e0 : e = 0 := nI_z he hz
    have hv := h0 e0
    refine jr_aload_n (j := 5) hC dL_law_1794 rfl rfl ?_
    refine jr_iconst hC dL_law_1795 rfl ?_
    refine jr_lald hC is254 vi254 dL_law_1796 ?_
    refine jr_iload (j := 0) hC dL_law_1797 rfl ?_
    refine jr_if_eq (tgt := 1806) hC dL_law_1799 (by decide) (fun hr => ?_) (fun hr => ?_)
    · rw [if_pos hr] at hv
      refine jr_lconst hC dL_law_1806 rfl ?_
      refine jr_lc_eq (tgt := 1813) hC dL_law_1807 dL_law_1808 (by decide) (fun _ => ?_) (fun h => absurd hv h)
      refine jr_sub [2, 3, 4, 5, 6] (L1 := Lc t) rfl ?_
      exact jr_goto (tgt := 2276) hC dL_law_1813 (by decide) (jr_widen (k1 := k + 8) (sl1 := sl + 48) (by omega) (by omega) (kk N1 hI2))
    · rw [if_neg hr] at hv
      refine jr_lconst hC dL_law_1802 rfl ?_
      refine jr_goto (tgt := 1807) hC dL_law_1803 (by decide) ?_
      refine jr_lc_eq (tgt := 1813) hC dL_law_1807 dL_law_1808 (by decide) (fun _ => ?_) (fun h => absurd hv h)
      refine jr_sub [2, 3, 4, 5, 6] (L1 := Lc t) rfl ?_
      exact jr_goto (tgt := 2276) hC dL_law_1813 (by decide) (jr_widen (k1 := k + 8) (sl1 := sl + 48) (by omega) (by omega) (kk N1 hI2))
theorem lc_setMaster {G : mw_G} {l : Launch} {Y : mw_Y} (hlt : l.stackTraces = false) (hC : mw_C G l room_1 Y cL_law RL) (hnL : mw_nL Y = 8) {b L : Nat} {xs : Nat → Int32} (hS0 : mw_S b L xs Y) (hN : L ≤ 3584) {t k sl : Nat} {c d : Int} {M : mw_M} (ht : 7 * t + 7 ≤ L) (hk : k ≤ 5000) (hs : sl ≤ 29000) (hI : LI M c) (hc0 : 0 ≤ c) (hc9 : c ≤ 900000) (hd : c + 1000 ≤ d) (kk : ∀ N, LI N d → mw_J Y (k + 8) (sl + 48) 255 N 2276 (Lc t) []) : mw_J Y k sl 255 M 1816 (Lc t) [] := by
  refine jr_aload_n (j := 1) hC dL_law_1816 rfl rfl ?_
  refine jr_argc (j0 := 0) (j4 := 4) (t := t) (q := 1) hC hS0 hN rfl rfl (by omega) dL_law_1817 dL_law_1818 dL_law_1820 rfl dL_law_1821 dL_law_1822 ?_
  refine jr_aload_n (j := 3) hC dL_law_1823 rfl rfl ?_
  refine jr_callSW (mc := 1) (ms := 6) (As := [.ref 1, .int (xs (7 * t + 1)), .ref 254]) (st := []) hC xs_191 (v_setMaster (W := (fun M2 e => w_X8_setMaster 255 M2 247 (xs (7 * t + 1)) (fun N b => Fin d e b.toInt64 N))) hlt (g_setMaster hI (by omega))) rfl rfl ⟨⟨rfl, rfl⟩, ⟨by decide, by decide⟩, by show k + 1 ≤ 601024; omega, by show sl + 6 ≤ 7293034; omega⟩ (Nat.le_of_ble_eq_true rfl) dL_law_1824 (fun M1 v hP => ?_)
  obtain ⟨e, he, rfl, hq⟩ := hP
  refine jr_istore (L1 := (5, .int (nI e)) :: Lc t) hC dL_law_1827 hnL (by decide) rfl ?_
  refine jr_aload_n (j := 3) hC dL_law_1829 rfl rfl ?_
  refine jr_argc (j0 := 1) (j4 := 5) (t := t) (q := 1) hC hS0 hN rfl rfl (by omega) dL_law_1830 dL_law_1831 dL_law_1833 rfl dL_law_1834 dL_law_1835 ?_
  refine jr_callV (mc := 0) (ms := 0) (As := [.int (xs (7 * t + 1))]) (st := []) hC xv_193 (c_X8_setMaster hlt hq) is247 rfl rfl ⟨⟨rfl, rfl⟩, ⟨by decide, by decide⟩, by show k + 1 + 0 ≤ 601024; omega, by show sl + 6 + 0 ≤ 7293034; omega⟩ (Nat.le_of_ble_eq_true rfl) dL_law_1836 (fun N v hP => ?_)
  obtain ⟨r, rfl, hF⟩ := hP
  exact jr_tailI hC hlt hnL (off := 407) ⟨dL_law_1839, dL_law_1841, dL_law_1842, dL_law_1845, dL_law_1847, dL_law_1852, dL_law_1854, dL_law_1857, dL_law_1858, dL_law_1859, dL_law_1860, dL_law_1862, dL_law_1863, dL_law_1864, dL_law_1869, by decide⟩ he hF (by omega) (by omega) (fun N h => jr_widen (k1 := k + 8) (sl1 := sl + 48) (by omega) (by omega) (kk N h))
theorem lc_mix {G : mw_G} {l : Launch} {Y : mw_Y} (hlt : l.stackTraces = false) (hC : mw_C G l room_1 Y cL_law RL) (hnL : mw_nL Y = 8) {b L : Nat} {xs : Nat → Int32} (hS0 : mw_S b L xs Y) (hN : L ≤ 3584) {t k sl : Nat} {c d : Int} {M : mw_M} (ht : 7 * t + 7 ≤ L) (hk : k ≤ 5000) (hs : sl ≤ 29000) (hI : LI M c) (hc0 : 0 ≤ c) (hc9 : c ≤ 900000) (hd : c + 1000 ≤ d) (kk : ∀ N, LI N d → mw_J Y (k + 8) (sl + 48) 255 N 2276 (Lc t) []) : mw_J Y k sl 255 M 1872 (Lc t) [] := by
  refine jr_aload_n (j := 1) hC dL_law_1872 rfl rfl ?_
  refine jr_argc (j0 := 0) (j4 := 4) (t := t) (q := 1) hC hS0 hN rfl rfl (by omega) dL_law_1873 dL_law_1874 dL_law_1876 rfl dL_law_1877 dL_law_1878 ?_
  refine jr_argc (j0 := 0) (j4 := 4) (t := t) (q := 2) hC hS0 hN rfl rfl (by omega) dL_law_1879 dL_law_1880 dL_law_1882 rfl dL_law_1883 dL_law_1884 ?_
  refine jr_bool hC dL_law_1885 dL_law_1888 dL_law_1889 dL_law_1892 ?_
  refine jr_aload_n (j := 3) hC dL_law_1893 rfl rfl ?_
  refine jr_callSW (mc := 1) (ms := 6) (As := [.ref 1, .int (xs (7 * t + 1)), .int (tz (xs (7 * t + 2))), .ref 254]) (st := []) hC xs_194 (v_mix (W := (fun M2 e => w_X8_mix 255 M2 247 (xs (7 * t + 1)) (tz (xs (7 * t + 2))) (fun N b => Fin d e b.toInt64 N))) hlt (g_mix hI (by omega))) rfl rfl ⟨⟨rfl, rfl⟩, ⟨by decide, by decide⟩, by show k + 1 ≤ 601024; omega, by show sl + 6 ≤ 7293034; omega⟩ (Nat.le_of_ble_eq_true rfl) dL_law_1894 (fun M1 v hP => ?_)
  obtain ⟨e, he, rfl, hq⟩ := hP
  refine jr_istore (L1 := (5, .int (nI e)) :: Lc t) hC dL_law_1897 hnL (by decide) rfl ?_
  refine jr_aload_n (j := 3) hC dL_law_1899 rfl rfl ?_
  refine jr_argc (j0 := 1) (j4 := 5) (t := t) (q := 1) hC hS0 hN rfl rfl (by omega) dL_law_1900 dL_law_1901 dL_law_1903 rfl dL_law_1904 dL_law_1905 ?_
  refine jr_argc (j0 := 1) (j4 := 5) (t := t) (q := 2) hC hS0 hN rfl rfl (by omega) dL_law_1906 dL_law_1907 dL_law_1909 rfl dL_law_1910 dL_law_1911 ?_
  refine jr_bool hC dL_law_1912 dL_law_1915 dL_law_1916 dL_law_1919 ?_
  refine jr_callV (mc := 0) (ms := 0) (As := [.int (xs (7 * t + 1)), .int (tz (xs (7 * t + 2)))]) (st := []) hC xv_197 (c_X8_mix hlt hq) is247 rfl rfl ⟨⟨rfl, rfl⟩, ⟨by decide, by decide⟩, by show k + 1 + 0 ≤ 601024; omega, by show sl + 6 + 0 ≤ 7293034; omega⟩ (Nat.le_of_ble_eq_true rfl) dL_law_1920 (fun N v hP => ?_)
  obtain ⟨r, rfl, hF⟩ := hP
  exact jr_tailI hC hlt hnL (off := 323) ⟨dL_law_1923, dL_law_1925, dL_law_1926, dL_law_1929, dL_law_1931, dL_law_1936, dL_law_1938, dL_law_1941, dL_law_1942, dL_law_1943, dL_law_1944, dL_law_1946, dL_law_1947, dL_law_1948, dL_law_1953, by decide⟩ he hF (by omega) (by omega) (fun N h => jr_widen (k1 := k + 8) (sl1 := sl + 48) (by omega) (by omega) (kk N h))
theorem lc_setLoop {G : mw_G} {l : Launch} {Y : mw_Y} (hlt : l.stackTraces = false) (hC : mw_C G l room_1 Y cL_law RL) (hnL : mw_nL Y = 8) {b L : Nat} {xs : Nat → Int32} (hS0 : mw_S b L xs Y) (hN : L ≤ 3584) {t k sl : Nat} {c d : Int} {M : mw_M} (ht : 7 * t + 7 ≤ L) (hk : k ≤ 5000) (hs : sl ≤ 29000) (hI : LI M c) (hc0 : 0 ≤ c) (hc9 : c ≤ 900000) (hd : c + 1000 ≤ d) (kk : ∀ N, LI N d → mw_J Y (k + 8) (sl + 48) 255 N 2276 (Lc t) []) : mw_J Y k sl 255 M 1956 (Lc t) [] := by
  refine jr_aload_n (j := 1) hC dL_law_1956 rfl rfl ?_
  refine jr_argc (j0 := 0) (j4 := 4) (t := t) (q := 1) hC hS0 hN rfl rfl (by omega) dL_law_1957 dL_law_1958 dL_law_1960 rfl dL_law_1961 dL_law_1962 ?_
  refine jr_argc (j0 := 0) (j4 := 4) (t := t) (q := 2) hC hS0 hN rfl rfl (by omega) dL_law_1963 dL_law_1964 dL_law_1966 rfl dL_law_1967 dL_law_1968 ?_
  refine jr_aload_n (j := 3) hC dL_law_1969 rfl rfl ?_
  refine jr_callSW (mc := 1) (ms := 6) (As := [.ref 1, .int (xs (7 * t + 1)), .int (xs (7 * t + 2)), .ref 254]) (st := []) hC xs_198 (v_setLoop (W := (fun M2 e => w_X8_setLoop 255 M2 247 (xs (7 * t + 1)) (xs (7 * t + 2)) (fun N b => Fin d e b.toInt64 N))) hlt (g_setLoop hI (by omega))) rfl rfl ⟨⟨rfl, rfl⟩, ⟨by decide, by decide⟩, by show k + 1 ≤ 601024; omega, by show sl + 6 ≤ 7293034; omega⟩ (Nat.le_of_ble_eq_true rfl) dL_law_1970 (fun M1 v hP => ?_)
  obtain ⟨e, he, rfl, hq⟩ := hP
  refine jr_istore (L1 := (5, .int (nI e)) :: Lc t) hC dL_law_1973 hnL (by decide) rfl ?_
  refine jr_aload_n (j := 3) hC dL_law_1975 rfl rfl ?_
  refine jr_argc (j0 := 1) (j4 := 5) (t := t) (q := 1) hC hS0 hN rfl rfl (by omega) dL_law_1976 dL_law_1977 dL_law_1979 rfl dL_law_1980 dL_law_1981 ?_
  refine jr_argc (j0 := 1) (j4 := 5) (t := t) (q := 2) hC hS0 hN rfl rfl (by omega) dL_law_1982 dL_law_1983 dL_law_1985 rfl dL_law_1986 dL_law_1987 ?_
  refine jr_callV (mc := 0) (ms := 0) (As := [.int (xs (7 * t + 1)), .int (xs (7 * t + 2))]) (st := []) hC xv_200 (c_X8_setLoop hlt hq) is247 rfl rfl ⟨⟨rfl, rfl⟩, ⟨by decide, by decide⟩, by show k + 1 + 0 ≤ 601024; omega, by show sl + 6 + 0 ≤ 7293034; omega⟩ (Nat.le_of_ble_eq_true rfl) dL_law_1988 (fun N v hP => ?_)
  obtain ⟨r, rfl, hF⟩ := hP
  exact jr_tailI hC hlt hnL (off := 255) ⟨dL_law_1991, dL_law_1993, dL_law_1994, dL_law_1997, dL_law_1999, dL_law_2004, dL_law_2006, dL_law_2009, dL_law_2010, dL_law_2011, dL_law_2012, dL_law_2014, dL_law_2015, dL_law_2016, dL_law_2021, by decide⟩ he hF (by omega) (by omega) (fun N h => jr_widen (k1 := k + 8) (sl1 := sl + 48) (by omega) (by omega) (kk N h))
theorem lc_seek {G : mw_G} {l : Launch} {Y : mw_Y} (hlt : l.stackTraces = false) (hC : mw_C G l room_1 Y cL_law RL) (hnL : mw_nL Y = 8) {b L : Nat} {xs : Nat → Int32} (hS0 : mw_S b L xs Y) (hN : L ≤ 3584) {t k sl : Nat} {c d : Int} {M : mw_M} (ht : 7 * t + 7 ≤ L) (hk : k ≤ 5000) (hs : sl ≤ 29000) (hI : LI M c) (hc0 : 0 ≤ c) (hc9 : c ≤ 900000) (hd : c + 1000 ≤ d) (kk : ∀ N, LI N d → mw_J Y (k + 8) (sl + 48) 255 N 2276 (Lc t) []) : mw_J Y k sl 255 M 2024 (Lc t) [] := by
  refine jr_aload_n (j := 1) hC dL_law_2024 rfl rfl ?_
  refine jr_argc (j0 := 0) (j4 := 4) (t := t) (q := 1) hC hS0 hN rfl rfl (by omega) dL_law_2025 dL_law_2026 dL_law_2028 rfl dL_law_2029 dL_law_2030 ?_
  refine jr_aload_n (j := 3) hC dL_law_2031 rfl rfl ?_
  refine jr_callSW (mc := 1) (ms := 6) (As := [.ref 1, .int (xs (7 * t + 1)), .ref 254]) (st := []) hC xs_201 (v_seek (W := (fun M2 e => w_X8_seek 255 M2 247 (xs (7 * t + 1)) (fun N b => Fin d e b.toInt64 N))) hlt (g_seek hI (by omega))) rfl rfl ⟨⟨rfl, rfl⟩, ⟨by decide, by decide⟩, by show k + 1 ≤ 601024; omega, by show sl + 6 ≤ 7293034; omega⟩ (Nat.le_of_ble_eq_true rfl) dL_law_2032 (fun M1 v hP => ?_)
  obtain ⟨e, he, rfl, hq⟩ := hP
  refine jr_istore (L1 := (5, .int (nI e)) :: Lc t) hC dL_law_2035 hnL (by decide) rfl ?_
  refine jr_aload_n (j := 3) hC dL_law_2037 rfl rfl ?_
  refine jr_argc (j0 := 1) (j4 := 5) (t := t) (q := 1) hC hS0 hN rfl rfl (by omega) dL_law_2038 dL_law_2039 dL_law_2041 rfl dL_law_2042 dL_law_2043 ?_
  refine jr_callV (mc := 0) (ms := 0) (As := [.int (xs (7 * t + 1))]) (st := []) hC xv_203 (c_X8_seek hlt hq) is247 rfl rfl ⟨⟨rfl, rfl⟩, ⟨by decide, by decide⟩, by show k + 1 + 0 ≤ 601024; omega, by show sl + 6 + 0 ≤ 7293034; omega⟩ (Nat.le_of_ble_eq_true rfl) dL_law_2044 (fun N v hP => ?_)
  obtain ⟨r, rfl, hF⟩ := hP
  exact jr_tailI hC hlt hnL (off := 199) ⟨dL_law_2047, dL_law_2049, dL_law_2050, dL_law_2053, dL_law_2055, dL_law_2060, dL_law_2062, dL_law_2065, dL_law_2066, dL_law_2067, dL_law_2068, dL_law_2070, dL_law_2071, dL_law_2072, dL_law_2077, by decide⟩ he hF (by omega) (by omega) (fun N h => jr_widen (k1 := k + 8) (sl1 := sl + 48) (by omega) (by omega) (kk N h))
theorem lc_render {G : mw_G} {l : Launch} {Y : mw_Y} (hlt : l.stackTraces = false) (hC : mw_C G l room_1 Y cL_law RL) (hnL : mw_nL Y = 8) {b L : Nat} {xs : Nat → Int32} (hS0 : mw_S b L xs Y) (hN : L ≤ 3584) {t k sl : Nat} {c d : Int} {M : mw_M} (ht : 7 * t + 7 ≤ L) (hk : k ≤ 5000) (hs : sl ≤ 29000) (hI : LI M c) (hc0 : 0 ≤ c) (hc9 : c ≤ 900000) (hd : c + 1000 ≤ d) (kk : ∀ N, LI N d → mw_J Y (k + 8) (sl + 48) 255 N 2276 (Lc t) []) : mw_J Y k sl 255 M 2080 (Lc t) [] := by
  refine jr_aload_n (j := 1) hC dL_law_2080 rfl rfl ?_
  refine jr_argc (j0 := 0) (j4 := 4) (t := t) (q := 1) hC hS0 hN rfl rfl (by omega) dL_law_2081 dL_law_2082 dL_law_2084 rfl dL_law_2085 dL_law_2086 ?_
  refine jr_aload_n (j := 3) hC dL_law_2087 rfl rfl ?_
  refine jr_callSW (mc := 1) (ms := 6) (As := [.ref 1, .int (xs (7 * t + 1)), .ref 254]) (st := []) hC xs_204 (v_render (W := (fun M2 e => w_X8_render 255 M2 247 (xs (7 * t + 1)) (fun N b => Fin d e b.toInt64 N))) hlt (g_render hI hc9 hd)) rfl rfl ⟨⟨rfl, rfl⟩, ⟨by decide, by decide⟩, by show k + 1 ≤ 601024; omega, by show sl + 6 ≤ 7293034; omega⟩ (Nat.le_of_ble_eq_true rfl) dL_law_2088 (fun M1 v hP => ?_)
  obtain ⟨e, he, rfl, hq⟩ := hP
  refine jr_istore (L1 := (5, .int (nI e)) :: Lc t) hC dL_law_2091 hnL (by decide) rfl ?_
  refine jr_aload_n (j := 3) hC dL_law_2093 rfl rfl ?_
  refine jr_argc (j0 := 1) (j4 := 5) (t := t) (q := 1) hC hS0 hN rfl rfl (by omega) dL_law_2094 dL_law_2095 dL_law_2097 rfl dL_law_2098 dL_law_2099 ?_
  refine jr_callV (mc := 0) (ms := 0) (As := [.int (xs (7 * t + 1))]) (st := []) hC xv_206 (c_X8_render hlt hq) is247 rfl rfl ⟨⟨rfl, rfl⟩, ⟨by decide, by decide⟩, by show k + 1 + 0 ≤ 601024; omega, by show sl + 6 + 0 ≤ 7293034; omega⟩ (Nat.le_of_ble_eq_true rfl) dL_law_2100 (fun N v hP => ?_)
  obtain ⟨r, rfl, hF⟩ := hP
  exact jr_tailI hC hlt hnL (off := 143) ⟨dL_law_2103, dL_law_2105, dL_law_2106, dL_law_2109, dL_law_2111, dL_law_2116, dL_law_2118, dL_law_2121, dL_law_2122, dL_law_2123, dL_law_2124, dL_law_2126, dL_law_2127, dL_law_2128, dL_law_2133, by decide⟩ he hF (by omega) (by omega) (fun N h => jr_widen (k1 := k + 8) (sl1 := sl + 48) (by omega) (by omega) (kk N h))
theorem lc_meter {G : mw_G} {l : Launch} {Y : mw_Y} (hlt : l.stackTraces = false) (hC : mw_C G l room_1 Y cL_law RL) (hnL : mw_nL Y = 8) {b L : Nat} {xs : Nat → Int32} (hS0 : mw_S b L xs Y) (hN : L ≤ 3584) {t k sl : Nat} {c d : Int} {M : mw_M} (ht : 7 * t + 7 ≤ L) (hk : k ≤ 5000) (hs : sl ≤ 29000) (hI : LI M c) (hc0 : 0 ≤ c) (hc9 : c ≤ 900000) (hd : c + 1000 ≤ d) (kk : ∀ N, LI N d → mw_J Y (k + 8) (sl + 48) 255 N 2276 (Lc t) []) : mw_J Y k sl 255 M 2136 (Lc t) [] := by
  refine jr_aload_n (j := 1) hC dL_law_2136 rfl rfl ?_
  refine jr_argc (j0 := 0) (j4 := 4) (t := t) (q := 1) hC hS0 hN rfl rfl (by omega) dL_law_2137 dL_law_2138 dL_law_2140 rfl dL_law_2141 dL_law_2142 ?_
  refine jr_aload_n (j := 3) hC dL_law_2143 rfl rfl ?_
  refine jr_callSW (mc := 1) (ms := 6) (As := [.ref 1, .int (xs (7 * t + 1)), .ref 254]) (st := []) hC xs_207 (v_meter (W := (fun M2 e => w_X8_meter 255 M2 247 (xs (7 * t + 1)) (fun N b => Fin d e b N))) hlt (g_meter hI (by omega))) rfl rfl ⟨⟨rfl, rfl⟩, ⟨by decide, by decide⟩, by show k + 1 ≤ 601024; omega, by show sl + 6 ≤ 7293034; omega⟩ (Nat.le_of_ble_eq_true rfl) dL_law_2144 (fun M1 v hP => ?_)
  obtain ⟨e, he, rfl, hq⟩ := hP
  refine jr_istore (L1 := (5, .int (nI e)) :: Lc t) hC dL_law_2147 hnL (by decide) rfl ?_
  refine jr_aload_n (j := 3) hC dL_law_2149 rfl rfl ?_
  refine jr_argc (j0 := 1) (j4 := 5) (t := t) (q := 1) hC hS0 hN rfl rfl (by omega) dL_law_2150 dL_law_2151 dL_law_2153 rfl dL_law_2154 dL_law_2155 ?_
  refine jr_callV (mc := 0) (ms := 0) (As := [.int (xs (7 * t + 1))]) (st := []) hC xv_209 (c_X8_meter hlt hq) is247 rfl rfl ⟨⟨rfl, rfl⟩, ⟨by decide, by decide⟩, by show k + 1 + 0 ≤ 601024; omega, by show sl + 6 + 0 ≤ 7293034; omega⟩ (Nat.le_of_ble_eq_true rfl) dL_law_2156 (fun N v hP => ?_)
  obtain ⟨r, rfl, hF⟩ := hP
  obtain ⟨h5, h0, hI2⟩ := hF
  refine jr_lstore (L1 := (6, .long r) :: (5, .int (nI e)) :: Lc t) hC dL_law_2159 hnL (by decide) rfl ?_
  refine jr_aload_n (j := 4) hC dL_law_2161 rfl rfl ?_
  refine jr_callV (mc := 0) (ms := 0) (As := []) (st := []) hC xv_120 (c_X8_thrown (Q := fun v => v = mI N 247 5) hlt (by unfold w_X8_thrown; exact ⟨is247, rfl⟩)) is247 rfl rfl ⟨⟨rfl, rfl⟩, ⟨by decide, by decide⟩, by show k + 1 + 0 + 0 ≤ 601024; omega, by show sl + 6 + 0 + 0 ≤ 7293034; omega⟩ (Nat.le_of_ble_eq_true rfl) dL_law_2162 (fun N1 v hP => ?_)
  obtain ⟨rfl, x, rfl, hx⟩ := hP
  rw [h5] at hx
  subst hx
  refine jr_iload (j := 1) hC dL_law_2165 rfl ?_
  refine jr_ic_eq (tgt := 2172) hC dL_law_2167 (by decide) (fun _ => ?_) (fun h => absurd rfl h)
  refine jr_iload (j := 1) hC dL_law_2172 rfl ?_
  refine jr_if_ne (tgt := 2188) hC dL_law_2174 (by decide) (fun _ => ?_) (fun hz => ?_)
  · refine jr_sub [2, 3, 4, 5, 6] (L1 := Lc t) rfl ?_
    exact jr_goto (tgt := 2276) hC dL_law_2188 (by decide) (jr_widen (k1 := k + 8) (sl1 := sl + 48) (by omega) (by omega) (kk N1 hI2))
  · have e0 : e = 0 := nI_z he hz
    have hv := h0 e0
    refine jr_aload_n (j := 5) hC dL_law_2177 rfl rfl ?_
    refine jr_iconst hC dL_law_2178 rfl ?_
    refine jr_lald hC is254 vi254 dL_law_2179 ?_
    refine jr_lload (j := 0) hC dL_law_2180 rfl ?_
    refine jr_lc_eq (tgt := 2188) hC dL_law_2182 dL_law_2183 (by decide) (fun _ => ?_) (fun h => absurd hv h)
    refine jr_sub [2, 3, 4, 5, 6] (L1 := Lc t) rfl ?_
    exact jr_goto (tgt := 2276) hC dL_law_2188 (by decide) (jr_widen (k1 := k + 8) (sl1 := sl + 48) (by omega) (by omega) (kk N1 hI2))
theorem lc_clearMeters {G : mw_G} {l : Launch} {Y : mw_Y} (hlt : l.stackTraces = false) (hC : mw_C G l room_1 Y cL_law RL) (hnL : mw_nL Y = 8) {b L : Nat} {xs : Nat → Int32} (hS0 : mw_S b L xs Y) (hN : L ≤ 3584) {t k sl : Nat} {c d : Int} {M : mw_M} (ht : 7 * t + 7 ≤ L) (hk : k ≤ 5000) (hs : sl ≤ 29000) (hI : LI M c) (hc0 : 0 ≤ c) (hc9 : c ≤ 900000) (hd : c + 1000 ≤ d) (kk : ∀ N, LI N d → mw_J Y (k + 8) (sl + 48) 255 N 2276 (Lc t) []) : mw_J Y k sl 255 M 2191 (Lc t) [] := by
  refine jr_aload_n (j := 1) hC dL_law_2191 rfl rfl ?_
  refine jr_callV (mc := 0) (ms := 0) (As := []) (st := []) hC xv_210 (c_X7_clearMeters hlt (g_clearMeters (d := d) hI (by omega) (by omega))) is1 rfl rfl ⟨⟨rfl, rfl⟩, ⟨by decide, by decide⟩, by show k + 0 ≤ 601024; omega, by show sl + 0 ≤ 7293034; omega⟩ (Nat.le_of_ble_eq_true rfl) dL_law_2192 (fun M1 v hP => ?_)
  obtain ⟨r, rfl, hq⟩ := hP
  refine jr_aload_n (j := 2) hC dL_law_2195 rfl rfl ?_
  refine jr_callV (mc := 0) (ms := 0) (As := []) (st := [.long r]) hC xv_214 (c_X8_clearMeters hlt hq) is247 rfl rfl ⟨⟨rfl, rfl⟩, ⟨by decide, by decide⟩, by show k + 0 + 0 ≤ 601024; omega, by show sl + 0 + 0 ≤ 7293034; omega⟩ (Nat.le_of_ble_eq_true rfl) dL_law_2196 (fun N v hP => ?_)
  obtain ⟨r2, rfl, hv, hF⟩ := hP
  refine jr_lc_eq (tgt := 2276) hC dL_law_2199 dL_law_2200 (by decide) (fun _ => ?_) (fun h => absurd hv h)
  exact (jr_widen (k1 := k + 8) (sl1 := sl + 48) (by omega) (by omega) (kk N hF))
theorem lc_length {G : mw_G} {l : Launch} {Y : mw_Y} (hlt : l.stackTraces = false) (hC : mw_C G l room_1 Y cL_law RL) (hnL : mw_nL Y = 8) {b L : Nat} {xs : Nat → Int32} (hS0 : mw_S b L xs Y) (hN : L ≤ 3584) {t k sl : Nat} {c d : Int} {M : mw_M} (ht : 7 * t + 7 ≤ L) (hk : k ≤ 5000) (hs : sl ≤ 29000) (hI : LI M c) (hc0 : 0 ≤ c) (hc9 : c ≤ 900000) (hd : c + 1000 ≤ d) (kk : ∀ N, LI N d → mw_J Y (k + 8) (sl + 48) 255 N 2276 (Lc t) []) : mw_J Y k sl 255 M 2205 (Lc t) [] := by
  refine jr_aload_n (j := 1) hC dL_law_2205 rfl rfl ?_
  refine jr_callV (mc := 0) (ms := 0) (As := []) (st := []) hC xv_215 (c_X7_length hlt (g_length (d := d) hI (by omega))) is1 rfl rfl ⟨⟨rfl, rfl⟩, ⟨by decide, by decide⟩, by show k + 0 ≤ 601024; omega, by show sl + 0 ≤ 7293034; omega⟩ (Nat.le_of_ble_eq_true rfl) dL_law_2206 (fun M1 v hP => ?_)
  obtain ⟨rfl, r, rfl, hq⟩ := hP
  refine jr_aload_n (j := 2) hC dL_law_2209 rfl rfl ?_
  refine jr_callV (mc := 0) (ms := 0) (As := []) (st := [.int r]) hC xv_218 (c_X8_length hlt hq) is247 rfl rfl ⟨⟨rfl, rfl⟩, ⟨by decide, by decide⟩, by show k + 0 + 0 ≤ 601024; omega, by show sl + 0 + 0 ≤ 7293034; omega⟩ (Nat.le_of_ble_eq_true rfl) dL_law_2210 (fun N v hP => ?_)
  obtain ⟨r2, rfl, hv, hF⟩ := hP
  refine jr_ic_eq (tgt := 2276) hC dL_law_2213 (by decide) (fun _ => ?_) (fun h => absurd hv h)
  exact (jr_widen (k1 := k + 8) (sl1 := sl + 48) (by omega) (by omega) (kk N hF))
theorem lc_undo {G : mw_G} {l : Launch} {Y : mw_Y} (hlt : l.stackTraces = false) (hC : mw_C G l room_1 Y cL_law RL) (hnL : mw_nL Y = 8) {b L : Nat} {xs : Nat → Int32} (hS0 : mw_S b L xs Y) (hN : L ≤ 3584) {t k sl : Nat} {c d : Int} {M : mw_M} (ht : 7 * t + 7 ≤ L) (hk : k ≤ 5000) (hs : sl ≤ 29000) (hI : LI M c) (hc0 : 0 ≤ c) (hc9 : c ≤ 900000) (hd : c + 1000 ≤ d) (kk : ∀ N, LI N d → mw_J Y (k + 8) (sl + 48) 255 N 2276 (Lc t) []) : mw_J Y k sl 255 M 2218 (Lc t) [] := by
  refine jr_aload_n (j := 1) hC dL_law_2218 rfl rfl ?_
  refine jr_aload_n (j := 3) hC dL_law_2219 rfl rfl ?_
  refine jr_callSW (mc := 1) (ms := 6) (As := [.ref 1, .ref 254]) (st := []) hC xs_219 (v_undo (W := (fun M2 e => w_X8_undo 255 M2 247 (fun N b => Fin d e b.toInt64 N))) hlt (g_undo hI (by omega))) rfl rfl ⟨⟨rfl, rfl⟩, ⟨by decide, by decide⟩, by show k + 1 ≤ 601024; omega, by show sl + 6 ≤ 7293034; omega⟩ (Nat.le_of_ble_eq_true rfl) dL_law_2220 (fun M1 v hP => ?_)
  obtain ⟨e, he, rfl, hq⟩ := hP
  refine jr_istore (L1 := (5, .int (nI e)) :: Lc t) hC dL_law_2223 hnL (by decide) rfl ?_
  refine jr_aload_n (j := 3) hC dL_law_2225 rfl rfl ?_
  refine jr_callV (mc := 0) (ms := 0) (As := []) (st := []) hC xv_222 (c_X8_undo hlt hq) is247 rfl rfl ⟨⟨rfl, rfl⟩, ⟨by decide, by decide⟩, by show k + 1 + 0 ≤ 601024; omega, by show sl + 6 + 0 ≤ 7293034; omega⟩ (Nat.le_of_ble_eq_true rfl) dL_law_2226 (fun N v hP => ?_)
  obtain ⟨r, rfl, hF⟩ := hP
  exact jr_tailI hC hlt hnL (off := 17) ⟨dL_law_2229, dL_law_2231, dL_law_2232, dL_law_2235, dL_law_2237, dL_law_2242, dL_law_2244, dL_law_2247, dL_law_2248, dL_law_2249, dL_law_2250, dL_law_2252, dL_law_2253, dL_law_2254, dL_law_2259, by decide⟩ he hF (by omega) (by omega) (fun N h => jr_widen (k1 := k + 8) (sl1 := sl + 48) (by omega) (by omega) (kk N h))
theorem lc_digest {G : mw_G} {l : Launch} {Y : mw_Y} (hlt : l.stackTraces = false) (hC : mw_C G l room_1 Y cL_law RL) (hnL : mw_nL Y = 8) {b L : Nat} {xs : Nat → Int32} (hS0 : mw_S b L xs Y) (hN : L ≤ 3584) {t k sl : Nat} {c d : Int} {M : mw_M} (ht : 7 * t + 7 ≤ L) (hk : k ≤ 5000) (hs : sl ≤ 29000) (hI : LI M c) (hc0 : 0 ≤ c) (hc9 : c ≤ 900000) (hd : c + 1000 ≤ d) (kk : ∀ N, LI N d → mw_J Y (k + 8) (sl + 48) 255 N 2276 (Lc t) []) : mw_J Y k sl 255 M 2262 (Lc t) [] := by
  refine jr_aload_n (j := 1) hC dL_law_2262 rfl rfl ?_
  refine jr_callV (mc := 0) (ms := 0) (As := []) (st := []) hC xv_223 (c_X7_digest hlt (g_digest (d := d) hI (by omega))) is1 rfl rfl ⟨⟨rfl, rfl⟩, ⟨by decide, by decide⟩, by show k + 0 ≤ 601024; omega, by show sl + 0 ≤ 7293034; omega⟩ (Nat.le_of_ble_eq_true rfl) dL_law_2263 (fun M1 v hP => ?_)
  obtain ⟨r, rfl, hq⟩ := hP
  refine jr_aload_n (j := 2) hC dL_law_2266 rfl rfl ?_
  refine jr_callV (mc := 0) (ms := 0) (As := []) (st := [.long r]) hC xv_226 (c_X8_digest hlt hq) is247 rfl rfl ⟨⟨rfl, rfl⟩, ⟨by decide, by decide⟩, by show k + 0 + 0 ≤ 601024; omega, by show sl + 0 + 0 ≤ 7293034; omega⟩ (Nat.le_of_ble_eq_true rfl) dL_law_2267 (fun N v hP => ?_)
  obtain ⟨r2, rfl, hv, hF⟩ := hP
  refine jr_lc_eq (tgt := 2276) hC dL_law_2270 dL_law_2271 (by decide) (fun _ => ?_) (fun h => absurd hv h)
  exact (jr_widen (k1 := k + 8) (sl1 := sl + 48) (by omega) (by omega) (kk N hF))
