/-! ===== the law: its cases (generated) ===== -/
section LCS
variable {p : Program} {l : Launch} {e : Env} {s : State} {m : MethodId} {below : List Frame} {meth : Method} {c : Code} {b L : Nat} {xs : Nat → Int32} {D : va_G} {aC : FieldType → ClassId} {adK adV : Nat → Nat} {hC hM : aH} {J : Int64} {cells slots i : Nat}
def kBo (x : Int32) : Int32 := if x = 0 then 0 else 1
theorem kBo_01 (x : Int32) : kBo x = 0 ∨ kBo x = 1 := by
  unfold kBo
  split
  · exact Or.inl rfl
  · exact Or.inr rfl
theorem al_bool {pc t1 : Nat} {o1 o2 : Int} {ls : List (Nat × Value)} {st : List Value} {x : Int32} (X : LC p s m meth c b L xs D aC adK adV) (d0 : decode code pc = .ok (.ifCond .eq o1, 3)) (h1 : (pc : Int) + o1 = (t1 : Int)) (d1 : decode code (pc + 3) = .ok (.iconst 1, 1)) (d2 : decode code (pc + 3 + 1) = .ok (.goto o2, 3)) (h2 : ((pc + 3 + 1 : Nat) : Int) + o2 = ((t1 + 1 : Nat) : Int)) (d3 : decode code t1 = .ok (.iconst 0, 1)) (k : AL p l e s m below meth c b D aC adK adV (t1 + 1) ls (.int (kBo x) :: st) hC hM J cells slots) : AL p l e s m below meth c b D aC adK adV pc ls (.int x :: st) hC hM J cells slots := by
  by_cases hx : x = 0
  · have e : kBo x = 0 := by unfold kBo; rw [if_pos hx]
    rw [e] at k
    exact AL.lift k (fun H locs la Z hS hl kk => lv_if_eq X.1.1 X.1.2.1 d0 h1 (fun _ => lv_iconst X.1.1 X.1.2.1 d3 rfl (kk la hl)) (fun h => absurd hx h))
  · have e : kBo x = 1 := by unfold kBo; rw [if_neg hx]
    rw [e] at k
    exact AL.lift k (fun H locs la Z hS hl kk => lv_if_eq X.1.1 X.1.2.1 d0 h1 (fun h => absurd h hx) (fun _ => lv_iconst X.1.1 X.1.2.1 d1 rfl (lv_goto X.1.1 X.1.2.1 d2 h2 (kk la hl))))
theorem cs_0 (X : LC p s m meth c b L xs D aC adK adV) (hi : i + 6 ≤ L) (g : GR hC hM) (hcl : cells ≤ 601024 ∧ slots ≤ 7293033) (hk : ∀ hC' hM', GR hC' hM' → AL p l e s m below meth c b D aC adK adV 1379 (lsL s b i) [] hC' hM' J cells slots) : AL p l e s m below meth c b D aC adK adV 192 (lsL s b i) [] hC hM J cells slots := by
  refine al_aload_n X dL_law_192 rfl 1 rfl ?_
  refine al_arg (k := 1) X hi dL_law_193 rfl dL_law_194 rfl dL_law_196 rfl (by decide) rfl dL_law_197 rfl dL_law_198 ?_
  refine al_arg (k := 2) X hi dL_law_199 rfl dL_law_200 rfl dL_law_202 rfl (by decide) rfl dL_law_203 rfl dL_law_204 ?_
  refine al_arg (k := 3) X hi dL_law_205 rfl dL_law_206 rfl dL_law_208 rfl (by decide) rfl dL_law_209 rfl dL_law_210 ?_
  refine al_arg (k := 4) X hi dL_law_211 rfl dL_law_212 rfl dL_law_214 rfl (by decide) rfl dL_law_215 rfl dL_law_216 ?_
  refine al_arg (k := 5) X hi dL_law_217 rfl dL_law_218 rfl dL_law_220 rfl (by decide) rfl dL_law_221 rfl dL_law_222 ?_
  refine al_callC (N := mX9_feed) (d := 200) (As := [.int (xs (i + 1)), .int (xs (i + 2)), .int (xs (i + 3)), .int (xs (i + 4)), .int (xs (i + 5))]) (st := []) X dL_law_223 mkX9_feed rfl lkL_21 miX9_feed mvX9_feed rfl (Nat.le_of_ble_eq_true rfl) (Nat.le_of_ble_eq_true rfl) rfl (by decide) hcl (j_feed (l' := l) (ad' := fun q => s.heap.size + 373 + q) (adK := adK) (adV := adV) (d := 199) (d' := 200) g) (fun r h1 hr => ?_)
  obtain ⟨v, rfl, hv⟩ := hr
  refine al_aload_n X dL_law_226 rfl 2 rfl ?_
  refine al_arg (k := 1) X hi dL_law_227 rfl dL_law_228 rfl dL_law_230 rfl (by decide) rfl dL_law_231 rfl dL_law_232 ?_
  refine al_arg (k := 2) X hi dL_law_233 rfl dL_law_234 rfl dL_law_236 rfl (by decide) rfl dL_law_237 rfl dL_law_238 ?_
  refine al_arg (k := 3) X hi dL_law_239 rfl dL_law_240 rfl dL_law_242 rfl (by decide) rfl dL_law_243 rfl dL_law_244 ?_
  refine al_arg (k := 4) X hi dL_law_245 rfl dL_law_246 rfl dL_law_248 rfl (by decide) rfl dL_law_249 rfl dL_law_250 ?_
  refine al_arg (k := 5) X hi dL_law_251 rfl dL_law_252 rfl dL_law_254 rfl (by decide) rfl dL_law_255 rfl dL_law_256 ?_
  refine al_callM (N := mX10_feed) (d := 200) (As := [.int (xs (i + 1)), .int (xs (i + 2)), .int (xs (i + 3)), .int (xs (i + 4)), .int (xs (i + 5))]) (st := [.int v]) X dL_law_257 mkX10_feed rfl lkL_25 miX10_feed mvX10_feed rfl (Nat.le_of_ble_eq_true rfl) (Nat.le_of_ble_eq_true rfl) rfl (by decide) hcl hv (fun r h2 hr => ?_)
  obtain ⟨_, rfl, rfl, g'⟩ := hr
  exact al_icmp_eq X dL_law_260 (by decide) (hk _ _ g')
theorem cs_1 (X : LC p s m meth c b L xs D aC adK adV) (hi : i + 6 ≤ L) (g : GR hC hM) (hcl : cells ≤ 601024 ∧ slots ≤ 7293033) (hk : ∀ hC' hM', GR hC' hM' → AL p l e s m below meth c b D aC adK adV 1379 (lsL s b i) [] hC' hM' J cells slots) : AL p l e s m below meth c b D aC adK adV 265 (lsL s b i) [] hC hM J cells slots := by
  refine al_aload_n X dL_law_265 rfl 1 rfl ?_
  refine al_arg (k := 1) X hi dL_law_266 rfl dL_law_267 rfl dL_law_269 rfl (by decide) rfl dL_law_270 rfl dL_law_271 ?_
  refine al_callC (N := mX9_text) (d := 200) (As := [.int (xs (i + 1))]) (st := []) X dL_law_272 mkX9_text rfl lkL_26 miX9_text mvX9_text rfl (Nat.le_of_ble_eq_true rfl) (Nat.le_of_ble_eq_true rfl) rfl (by decide) hcl (j_text (l' := l) (ad' := fun q => s.heap.size + 373 + q) (adK := adK) (adV := adV) (d := 117) (d' := 49) g) (fun r h1 hr => ?_)
  obtain ⟨v, rfl, hv⟩ := hr
  refine al_aload_n X dL_law_275 rfl 2 rfl ?_
  refine al_arg (k := 1) X hi dL_law_276 rfl dL_law_277 rfl dL_law_279 rfl (by decide) rfl dL_law_280 rfl dL_law_281 ?_
  refine al_callM (N := mX10_text) (d := 200) (As := [.int (xs (i + 1))]) (st := [.int v]) X dL_law_282 mkX10_text rfl lkL_30 miX10_text mvX10_text rfl (Nat.le_of_ble_eq_true rfl) (Nat.le_of_ble_eq_true rfl) rfl (by decide) hcl hv (fun r h2 hr => ?_)
  obtain ⟨_, rfl, rfl, g'⟩ := hr
  exact al_icmp_eq X dL_law_285 (by decide) (hk _ _ g')
theorem cs_2 (X : LC p s m meth c b L xs D aC adK adV) (hi : i + 6 ≤ L) (g : GR hC hM) (hcl : cells ≤ 601024 ∧ slots ≤ 7293033) (hk : ∀ hC' hM', GR hC' hM' → AL p l e s m below meth c b D aC adK adV 1379 (lsL s b i) [] hC' hM' J cells slots) : AL p l e s m below meth c b D aC adK adV 290 (lsL s b i) [] hC hM J cells slots := by
  refine al_aload_n X dL_law_290 rfl 1 rfl ?_
  refine al_arg (k := 1) X hi dL_law_291 rfl dL_law_292 rfl dL_law_294 rfl (by decide) rfl dL_law_295 rfl dL_law_296 ?_
  refine al_callC (N := mX9_fault) (d := 200) (As := [.int (xs (i + 1))]) (st := []) X dL_law_297 mkX9_fault rfl lkL_31 miX9_fault mvX9_fault rfl (Nat.le_of_ble_eq_true rfl) (Nat.le_of_ble_eq_true rfl) rfl (by decide) hcl (j_fault (l' := l) (ad' := fun q => s.heap.size + 373 + q) (adK := adK) (adV := adV) (d := 200) (d' := 200) g) (fun r h1 hr => ?_)
  obtain ⟨v, rfl, hv⟩ := hr
  refine al_aload_n X dL_law_300 rfl 2 rfl ?_
  refine al_arg (k := 1) X hi dL_law_301 rfl dL_law_302 rfl dL_law_304 rfl (by decide) rfl dL_law_305 rfl dL_law_306 ?_
  refine al_callM (N := mX10_fault) (d := 200) (As := [.int (xs (i + 1))]) (st := [.int v]) X dL_law_307 mkX10_fault rfl lkL_34 miX10_fault mvX10_fault rfl (Nat.le_of_ble_eq_true rfl) (Nat.le_of_ble_eq_true rfl) rfl (by decide) hcl hv (fun r h2 hr => ?_)
  obtain ⟨_, rfl, rfl, g'⟩ := hr
  exact al_icmp_eq X dL_law_310 (by decide) (hk _ _ g')
theorem cs_3 (X : LC p s m meth c b L xs D aC adK adV) (hi : i + 6 ≤ L) (g : GR hC hM) (hcl : cells ≤ 601024 ∧ slots ≤ 7293033) (hk : ∀ hC' hM', GR hC' hM' → AL p l e s m below meth c b D aC adK adV 1379 (lsL s b i) [] hC' hM' J cells slots) : AL p l e s m below meth c b D aC adK adV 315 (lsL s b i) [] hC hM J cells slots := by
  refine al_aload_n X dL_law_315 rfl 1 rfl ?_
  refine al_arg (k := 1) X hi dL_law_316 rfl dL_law_317 rfl dL_law_319 rfl (by decide) rfl dL_law_320 rfl dL_law_321 ?_
  refine al_arg (k := 2) X hi dL_law_322 rfl dL_law_323 rfl dL_law_325 rfl (by decide) rfl dL_law_326 rfl dL_law_327 ?_
  refine al_callC (N := mX9_named) (d := 200) (As := [.int (xs (i + 1)), .int (xs (i + 2))]) (st := []) X dL_law_328 mkX9_named rfl lkL_35 miX9_named mvX9_named rfl (Nat.le_of_ble_eq_true rfl) (Nat.le_of_ble_eq_true rfl) rfl (by decide) hcl (j_named (l' := l) (ad' := fun q => s.heap.size + 373 + q) (adK := adK) (adV := adV) (d := 199) (d' := 199) g) (fun r h1 hr => ?_)
  obtain ⟨v, rfl, hv⟩ := hr
  refine al_aload_n X dL_law_331 rfl 2 rfl ?_
  refine al_arg (k := 1) X hi dL_law_332 rfl dL_law_333 rfl dL_law_335 rfl (by decide) rfl dL_law_336 rfl dL_law_337 ?_
  refine al_arg (k := 2) X hi dL_law_338 rfl dL_law_339 rfl dL_law_341 rfl (by decide) rfl dL_law_342 rfl dL_law_343 ?_
  refine al_callM (N := mX10_named) (d := 200) (As := [.int (xs (i + 1)), .int (xs (i + 2))]) (st := [.int v]) X dL_law_344 mkX10_named rfl lkL_38 miX10_named mvX10_named rfl (Nat.le_of_ble_eq_true rfl) (Nat.le_of_ble_eq_true rfl) rfl (by decide) hcl hv (fun r h2 hr => ?_)
  obtain ⟨_, rfl, rfl, g'⟩ := hr
  exact al_icmp_eq X dL_law_347 (by decide) (hk _ _ g')
theorem cs_5 (X : LC p s m meth c b L xs D aC adK adV) (hi : i + 6 ≤ L) (g : GR hC hM) (hcl : cells ≤ 601024 ∧ slots ≤ 7293033) (hk : ∀ hC' hM', GR hC' hM' → AL p l e s m below meth c b D aC adK adV 1379 (lsL s b i) [] hC' hM' J cells slots) : AL p l e s m below meth c b D aC adK adV 420 (lsL s b i) [] hC hM J cells slots := by
  refine al_aload_n X dL_law_420 rfl 1 rfl ?_
  refine al_arg (k := 1) X hi dL_law_421 rfl dL_law_422 rfl dL_law_424 rfl (by decide) rfl dL_law_425 rfl dL_law_426 ?_
  refine al_arg (k := 2) X hi dL_law_427 rfl dL_law_428 rfl dL_law_430 rfl (by decide) rfl dL_law_431 rfl dL_law_432 ?_
  refine al_callC (N := mX9_man) (d := 200) (As := [.int (xs (i + 1)), .int (xs (i + 2))]) (st := []) X dL_law_433 mkX9_man rfl lkL_49 miX9_man mvX9_man rfl (Nat.le_of_ble_eq_true rfl) (Nat.le_of_ble_eq_true rfl) rfl (by decide) hcl (j_man (l' := l) (ad' := fun q => s.heap.size + 373 + q) (adK := adK) (adV := adV) (d := 199) (d' := 198) g) (fun r h1 hr => ?_)
  obtain ⟨v, rfl, hv⟩ := hr
  refine al_aload_n X dL_law_436 rfl 2 rfl ?_
  refine al_arg (k := 1) X hi dL_law_437 rfl dL_law_438 rfl dL_law_440 rfl (by decide) rfl dL_law_441 rfl dL_law_442 ?_
  refine al_arg (k := 2) X hi dL_law_443 rfl dL_law_444 rfl dL_law_446 rfl (by decide) rfl dL_law_447 rfl dL_law_448 ?_
  refine al_callM (N := mX10_man) (d := 200) (As := [.int (xs (i + 1)), .int (xs (i + 2))]) (st := [.int v]) X dL_law_449 mkX10_man rfl lkL_52 miX10_man mvX10_man rfl (Nat.le_of_ble_eq_true rfl) (Nat.le_of_ble_eq_true rfl) rfl (by decide) hcl hv (fun r h2 hr => ?_)
  obtain ⟨_, rfl, rfl, g'⟩ := hr
  exact al_icmp_eq X dL_law_452 (by decide) (hk _ _ g')
theorem cs_6 (X : LC p s m meth c b L xs D aC adK adV) (hi : i + 6 ≤ L) (g : GR hC hM) (hcl : cells ≤ 601024 ∧ slots ≤ 7293033) (hk : ∀ hC' hM', GR hC' hM' → AL p l e s m below meth c b D aC adK adV 1379 (lsL s b i) [] hC' hM' J cells slots) : AL p l e s m below meth c b D aC adK adV 457 (lsL s b i) [] hC hM J cells slots := by
  refine al_aload_n X dL_law_457 rfl 1 rfl ?_
  refine al_arg (k := 1) X hi dL_law_458 rfl dL_law_459 rfl dL_law_461 rfl (by decide) rfl dL_law_462 rfl dL_law_463 ?_
  refine al_arg (k := 2) X hi dL_law_464 rfl dL_law_465 rfl dL_law_467 rfl (by decide) rfl dL_law_468 rfl dL_law_469 ?_
  refine al_callC (N := mX9_tusk) (d := 200) (As := [.int (xs (i + 1)), .int (xs (i + 2))]) (st := []) X dL_law_470 mkX9_tusk rfl lkL_53 miX9_tusk mvX9_tusk rfl (Nat.le_of_ble_eq_true rfl) (Nat.le_of_ble_eq_true rfl) rfl (by decide) hcl (j_tusk (l' := l) (ad' := fun q => s.heap.size + 373 + q) (adK := adK) (adV := adV) (d := 199) (d' := 198) g) (fun r h1 hr => ?_)
  obtain ⟨v, rfl, hv⟩ := hr
  refine al_aload_n X dL_law_473 rfl 2 rfl ?_
  refine al_arg (k := 1) X hi dL_law_474 rfl dL_law_475 rfl dL_law_477 rfl (by decide) rfl dL_law_478 rfl dL_law_479 ?_
  refine al_arg (k := 2) X hi dL_law_480 rfl dL_law_481 rfl dL_law_483 rfl (by decide) rfl dL_law_484 rfl dL_law_485 ?_
  refine al_callM (N := mX10_tusk) (d := 200) (As := [.int (xs (i + 1)), .int (xs (i + 2))]) (st := [.int v]) X dL_law_486 mkX10_tusk rfl lkL_56 miX10_tusk mvX10_tusk rfl (Nat.le_of_ble_eq_true rfl) (Nat.le_of_ble_eq_true rfl) rfl (by decide) hcl hv (fun r h2 hr => ?_)
  obtain ⟨_, rfl, rfl, g'⟩ := hr
  exact al_icmp_eq X dL_law_489 (by decide) (hk _ _ g')
theorem cs_7 (X : LC p s m meth c b L xs D aC adK adV) (hi : i + 6 ≤ L) (g : GR hC hM) (hcl : cells ≤ 601024 ∧ slots ≤ 7293033) (hk : ∀ hC' hM', GR hC' hM' → AL p l e s m below meth c b D aC adK adV 1379 (lsL s b i) [] hC' hM' J cells slots) : AL p l e s m below meth c b D aC adK adV 494 (lsL s b i) [] hC hM J cells slots := by
  refine al_aload_n X dL_law_494 rfl 1 rfl ?_
  refine al_arg (k := 1) X hi dL_law_495 rfl dL_law_496 rfl dL_law_498 rfl (by decide) rfl dL_law_499 rfl dL_law_500 ?_
  refine al_arg (k := 2) X hi dL_law_501 rfl dL_law_502 rfl dL_law_504 rfl (by decide) rfl dL_law_505 rfl dL_law_506 ?_
  refine al_arg (k := 3) X hi dL_law_507 rfl dL_law_508 rfl dL_law_510 rfl (by decide) rfl dL_law_511 rfl dL_law_512 ?_
  refine al_callC (N := mX9_law) (d := 200) (As := [.int (xs (i + 1)), .int (xs (i + 2)), .int (xs (i + 3))]) (st := []) X dL_law_513 mkX9_law rfl lkL_57 miX9_law mvX9_law rfl (Nat.le_of_ble_eq_true rfl) (Nat.le_of_ble_eq_true rfl) rfl (by decide) hcl (j_law (l' := l) (ad' := fun q => s.heap.size + 373 + q) (adK := adK) (adV := adV) (d := 197) (d' := 196) g) (fun r h1 hr => ?_)
  obtain ⟨v, rfl, hv⟩ := hr
  refine al_aload_n X dL_law_516 rfl 2 rfl ?_
  refine al_arg (k := 1) X hi dL_law_517 rfl dL_law_518 rfl dL_law_520 rfl (by decide) rfl dL_law_521 rfl dL_law_522 ?_
  refine al_arg (k := 2) X hi dL_law_523 rfl dL_law_524 rfl dL_law_526 rfl (by decide) rfl dL_law_527 rfl dL_law_528 ?_
  refine al_arg (k := 3) X hi dL_law_529 rfl dL_law_530 rfl dL_law_532 rfl (by decide) rfl dL_law_533 rfl dL_law_534 ?_
  refine al_callM (N := mX10_law) (d := 200) (As := [.int (xs (i + 1)), .int (xs (i + 2)), .int (xs (i + 3))]) (st := [.long v]) X dL_law_535 mkX10_law rfl lkL_61 miX10_law mvX10_law rfl (Nat.le_of_ble_eq_true rfl) (Nat.le_of_ble_eq_true rfl) rfl (by decide) hcl hv (fun r h2 hr => ?_)
  obtain ⟨_, rfl, rfl, g'⟩ := hr
  exact al_lcmp_eq X dL_law_538 dL_law_539 (by decide) (hk _ _ g')
theorem cs_8 (X : LC p s m meth c b L xs D aC adK adV) (hi : i + 6 ≤ L) (g : GR hC hM) (hcl : cells ≤ 601024 ∧ slots ≤ 7293033) (hk : ∀ hC' hM', GR hC' hM' → AL p l e s m below meth c b D aC adK adV 1379 (lsL s b i) [] hC' hM' J cells slots) : AL p l e s m below meth c b D aC adK adV 544 (lsL s b i) [] hC hM J cells slots := by
  refine al_aload_n X dL_law_544 rfl 1 rfl ?_
  refine al_arg (k := 1) X hi dL_law_545 rfl dL_law_546 rfl dL_law_548 rfl (by decide) rfl dL_law_549 rfl dL_law_550 ?_
  refine al_arg (k := 2) X hi dL_law_551 rfl dL_law_552 rfl dL_law_554 rfl (by decide) rfl dL_law_555 rfl dL_law_556 ?_
  refine al_arg (k := 3) X hi dL_law_557 rfl dL_law_558 rfl dL_law_560 rfl (by decide) rfl dL_law_561 rfl dL_law_562 ?_
  refine al_arg (k := 4) X hi dL_law_563 rfl dL_law_564 rfl dL_law_566 rfl (by decide) rfl dL_law_567 rfl dL_law_568 ?_
  refine al_callC (N := mX9_lend) (d := 200) (As := [.int (xs (i + 1)), .int (xs (i + 2)), .int (xs (i + 3)), .int (xs (i + 4))]) (st := []) X dL_law_569 mkX9_lend rfl lkL_62 miX9_lend mvX9_lend rfl (Nat.le_of_ble_eq_true rfl) (Nat.le_of_ble_eq_true rfl) rfl (by decide) hcl (j_lend (l' := l) (ad' := fun q => s.heap.size + 373 + q) (adK := adK) (adV := adV) (d := 197) (d' := 198) g) (fun r h1 hr => ?_)
  obtain ⟨v, rfl, hv⟩ := hr
  refine al_aload_n X dL_law_572 rfl 2 rfl ?_
  refine al_arg (k := 1) X hi dL_law_573 rfl dL_law_574 rfl dL_law_576 rfl (by decide) rfl dL_law_577 rfl dL_law_578 ?_
  refine al_arg (k := 2) X hi dL_law_579 rfl dL_law_580 rfl dL_law_582 rfl (by decide) rfl dL_law_583 rfl dL_law_584 ?_
  refine al_arg (k := 3) X hi dL_law_585 rfl dL_law_586 rfl dL_law_588 rfl (by decide) rfl dL_law_589 rfl dL_law_590 ?_
  refine al_arg (k := 4) X hi dL_law_591 rfl dL_law_592 rfl dL_law_594 rfl (by decide) rfl dL_law_595 rfl dL_law_596 ?_
  refine al_callM (N := mX10_lend) (d := 200) (As := [.int (xs (i + 1)), .int (xs (i + 2)), .int (xs (i + 3)), .int (xs (i + 4))]) (st := [.int v]) X dL_law_597 mkX10_lend rfl lkL_66 miX10_lend mvX10_lend rfl (Nat.le_of_ble_eq_true rfl) (Nat.le_of_ble_eq_true rfl) rfl (by decide) hcl hv (fun r h2 hr => ?_)
  obtain ⟨_, rfl, rfl, g'⟩ := hr
  exact al_icmp_eq X dL_law_600 (by decide) (hk _ _ g')
theorem cs_9 (X : LC p s m meth c b L xs D aC adK adV) (hi : i + 6 ≤ L) (g : GR hC hM) (hcl : cells ≤ 601024 ∧ slots ≤ 7293033) (hk : ∀ hC' hM', GR hC' hM' → AL p l e s m below meth c b D aC adK adV 1379 (lsL s b i) [] hC' hM' J cells slots) : AL p l e s m below meth c b D aC adK adV 605 (lsL s b i) [] hC hM J cells slots := by
  refine al_aload_n X dL_law_605 rfl 1 rfl ?_
  refine al_arg (k := 1) X hi dL_law_606 rfl dL_law_607 rfl dL_law_609 rfl (by decide) rfl dL_law_610 rfl dL_law_611 ?_
  refine al_arg (k := 2) X hi dL_law_612 rfl dL_law_613 rfl dL_law_615 rfl (by decide) rfl dL_law_616 rfl dL_law_617 ?_
  refine al_callC (N := mX9_lean) (d := 200) (As := [.int (xs (i + 1)), .int (xs (i + 2))]) (st := []) X dL_law_618 mkX9_lean rfl lkL_67 miX9_lean mvX9_lean rfl (Nat.le_of_ble_eq_true rfl) (Nat.le_of_ble_eq_true rfl) rfl (by decide) hcl (j_lean (l' := l) (ad' := fun q => s.heap.size + 373 + q) (adK := adK) (adV := adV) (d := 196) (d' := 196) g) (fun r h1 hr => ?_)
  obtain ⟨v, rfl, hv⟩ := hr
  refine al_aload_n X dL_law_621 rfl 2 rfl ?_
  refine al_arg (k := 1) X hi dL_law_622 rfl dL_law_623 rfl dL_law_625 rfl (by decide) rfl dL_law_626 rfl dL_law_627 ?_
  refine al_arg (k := 2) X hi dL_law_628 rfl dL_law_629 rfl dL_law_631 rfl (by decide) rfl dL_law_632 rfl dL_law_633 ?_
  refine al_callM (N := mX10_lean) (d := 200) (As := [.int (xs (i + 1)), .int (xs (i + 2))]) (st := [.int v]) X dL_law_634 mkX10_lean rfl lkL_70 miX10_lean mvX10_lean rfl (Nat.le_of_ble_eq_true rfl) (Nat.le_of_ble_eq_true rfl) rfl (by decide) hcl hv (fun r h2 hr => ?_)
  obtain ⟨_, rfl, rfl, g'⟩ := hr
  exact al_icmp_eq X dL_law_637 (by decide) (hk _ _ g')
theorem cs_10 (X : LC p s m meth c b L xs D aC adK adV) (hi : i + 6 ≤ L) (g : GR hC hM) (hcl : cells ≤ 601024 ∧ slots ≤ 7293033) (hk : ∀ hC' hM', GR hC' hM' → AL p l e s m below meth c b D aC adK adV 1379 (lsL s b i) [] hC' hM' J cells slots) : AL p l e s m below meth c b D aC adK adV 642 (lsL s b i) [] hC hM J cells slots := by
  refine al_aload_n X dL_law_642 rfl 1 rfl ?_
  refine al_arg (k := 1) X hi dL_law_643 rfl dL_law_644 rfl dL_law_646 rfl (by decide) rfl dL_law_647 rfl dL_law_648 ?_
  refine al_callC (N := mX9_pay) (d := 200) (As := [.int (xs (i + 1))]) (st := []) X dL_law_649 mkX9_pay rfl lkL_71 miX9_pay mvX9_pay rfl (Nat.le_of_ble_eq_true rfl) (Nat.le_of_ble_eq_true rfl) rfl (by decide) hcl (j_pay (l' := l) (ad' := fun q => s.heap.size + 373 + q) (adK := adK) (adV := adV) (d := 197) (d' := 198) g) (fun r h1 hr => ?_)
  obtain ⟨v, rfl, hv⟩ := hr
  refine al_aload_n X dL_law_652 rfl 2 rfl ?_
  refine al_arg (k := 1) X hi dL_law_653 rfl dL_law_654 rfl dL_law_656 rfl (by decide) rfl dL_law_657 rfl dL_law_658 ?_
  refine al_callM (N := mX10_pay) (d := 200) (As := [.int (xs (i + 1))]) (st := [.int v]) X dL_law_659 mkX10_pay rfl lkL_74 miX10_pay mvX10_pay rfl (Nat.le_of_ble_eq_true rfl) (Nat.le_of_ble_eq_true rfl) rfl (by decide) hcl hv (fun r h2 hr => ?_)
  obtain ⟨_, rfl, rfl, g'⟩ := hr
  exact al_icmp_eq X dL_law_662 (by decide) (hk _ _ g')
theorem cs_11 (X : LC p s m meth c b L xs D aC adK adV) (hi : i + 6 ≤ L) (g : GR hC hM) (hcl : cells ≤ 601024 ∧ slots ≤ 7293033) (hk : ∀ hC' hM', GR hC' hM' → AL p l e s m below meth c b D aC adK adV 1379 (lsL s b i) [] hC' hM' J cells slots) : AL p l e s m below meth c b D aC adK adV 667 (lsL s b i) [] hC hM J cells slots := by
  refine al_aload_n X dL_law_667 rfl 1 rfl ?_
  refine al_arg (k := 1) X hi dL_law_668 rfl dL_law_669 rfl dL_law_671 rfl (by decide) rfl dL_law_672 rfl dL_law_673 ?_
  refine al_arg (k := 2) X hi dL_law_674 rfl dL_law_675 rfl dL_law_677 rfl (by decide) rfl dL_law_678 rfl dL_law_679 ?_
  refine al_callC (N := mX9_gift) (d := 200) (As := [.int (xs (i + 1)), .int (xs (i + 2))]) (st := []) X dL_law_680 mkX9_gift rfl lkL_75 miX9_gift mvX9_gift rfl (Nat.le_of_ble_eq_true rfl) (Nat.le_of_ble_eq_true rfl) rfl (by decide) hcl (j_gift (l' := l) (ad' := fun q => s.heap.size + 373 + q) (adK := adK) (adV := adV) (d := 197) (d' := 198) g) (fun r h1 hr => ?_)
  obtain ⟨v, rfl, hv⟩ := hr
  refine al_aload_n X dL_law_683 rfl 2 rfl ?_
  refine al_arg (k := 1) X hi dL_law_684 rfl dL_law_685 rfl dL_law_687 rfl (by decide) rfl dL_law_688 rfl dL_law_689 ?_
  refine al_arg (k := 2) X hi dL_law_690 rfl dL_law_691 rfl dL_law_693 rfl (by decide) rfl dL_law_694 rfl dL_law_695 ?_
  refine al_callM (N := mX10_gift) (d := 200) (As := [.int (xs (i + 1)), .int (xs (i + 2))]) (st := [.int v]) X dL_law_696 mkX10_gift rfl lkL_78 miX10_gift mvX10_gift rfl (Nat.le_of_ble_eq_true rfl) (Nat.le_of_ble_eq_true rfl) rfl (by decide) hcl hv (fun r h2 hr => ?_)
  obtain ⟨_, rfl, rfl, g'⟩ := hr
  exact al_icmp_eq X dL_law_699 (by decide) (hk _ _ g')
theorem cs_12 (X : LC p s m meth c b L xs D aC adK adV) (hi : i + 6 ≤ L) (g : GR hC hM) (hcl : cells ≤ 601024 ∧ slots ≤ 7293033) (hk : ∀ hC' hM', GR hC' hM' → AL p l e s m below meth c b D aC adK adV 1379 (lsL s b i) [] hC' hM' J cells slots) : AL p l e s m below meth c b D aC adK adV 704 (lsL s b i) [] hC hM J cells slots := by
  refine al_aload_n X dL_law_704 rfl 1 rfl ?_
  refine al_arg (k := 1) X hi dL_law_705 rfl dL_law_706 rfl dL_law_708 rfl (by decide) rfl dL_law_709 rfl dL_law_710 ?_
  refine al_callC (N := mX9_go) (d := 200) (As := [.int (xs (i + 1))]) (st := []) X dL_law_711 mkX9_go rfl lkL_79 miX9_go mvX9_go rfl (Nat.le_of_ble_eq_true rfl) (Nat.le_of_ble_eq_true rfl) rfl (by decide) hcl (j_go (l' := l) (ad' := fun q => s.heap.size + 373 + q) (adK := adK) (adV := adV) (d := 193) (d' := 193) g) (fun r h1 hr => ?_)
  obtain ⟨v, rfl, hv⟩ := hr
  refine al_aload_n X dL_law_714 rfl 2 rfl ?_
  refine al_arg (k := 1) X hi dL_law_715 rfl dL_law_716 rfl dL_law_718 rfl (by decide) rfl dL_law_719 rfl dL_law_720 ?_
  refine al_callM (N := mX10_go) (d := 200) (As := [.int (xs (i + 1))]) (st := [.int v]) X dL_law_721 mkX10_go rfl lkL_82 miX10_go mvX10_go rfl (Nat.le_of_ble_eq_true rfl) (Nat.le_of_ble_eq_true rfl) rfl (by decide) hcl hv (fun r h2 hr => ?_)
  obtain ⟨_, rfl, rfl, g'⟩ := hr
  exact al_icmp_eq X dL_law_724 (by decide) (hk _ _ g')
theorem cs_13 (X : LC p s m meth c b L xs D aC adK adV) (hi : i + 6 ≤ L) (g : GR hC hM) (hcl : cells ≤ 601024 ∧ slots ≤ 7293033) (hk : ∀ hC' hM', GR hC' hM' → AL p l e s m below meth c b D aC adK adV 1379 (lsL s b i) [] hC' hM' J cells slots) : AL p l e s m below meth c b D aC adK adV 729 (lsL s b i) [] hC hM J cells slots := by
  refine al_aload_n X dL_law_729 rfl 1 rfl ?_
  refine al_arg (k := 1) X hi dL_law_730 rfl dL_law_731 rfl dL_law_733 rfl (by decide) rfl dL_law_734 rfl dL_law_735 ?_
  refine al_arg (k := 2) X hi dL_law_736 rfl dL_law_737 rfl dL_law_739 rfl (by decide) rfl dL_law_740 rfl dL_law_741 ?_
  refine al_arg (k := 3) X hi dL_law_742 rfl dL_law_743 rfl dL_law_745 rfl (by decide) rfl dL_law_746 rfl dL_law_747 ?_
  refine al_callC (N := mX9_ahead) (d := 200) (As := [.int (xs (i + 1)), .int (xs (i + 2)), .int (xs (i + 3))]) (st := []) X dL_law_748 mkX9_ahead rfl lkL_83 miX9_ahead mvX9_ahead rfl (Nat.le_of_ble_eq_true rfl) (Nat.le_of_ble_eq_true rfl) rfl (by decide) hcl (j_ahead (l' := l) (ad' := fun q => s.heap.size + 373 + q) (adK := adK) (adV := adV) (d := 193) (d' := 191) g) (fun r h1 hr => ?_)
  obtain ⟨v, rfl, hv⟩ := hr
  refine al_aload_n X dL_law_751 rfl 2 rfl ?_
  refine al_arg (k := 1) X hi dL_law_752 rfl dL_law_753 rfl dL_law_755 rfl (by decide) rfl dL_law_756 rfl dL_law_757 ?_
  refine al_arg (k := 2) X hi dL_law_758 rfl dL_law_759 rfl dL_law_761 rfl (by decide) rfl dL_law_762 rfl dL_law_763 ?_
  refine al_arg (k := 3) X hi dL_law_764 rfl dL_law_765 rfl dL_law_767 rfl (by decide) rfl dL_law_768 rfl dL_law_769 ?_
  refine al_callM (N := mX10_ahead) (d := 200) (As := [.int (xs (i + 1)), .int (xs (i + 2)), .int (xs (i + 3))]) (st := [.int v]) X dL_law_770 mkX10_ahead rfl lkL_87 miX10_ahead mvX10_ahead rfl (Nat.le_of_ble_eq_true rfl) (Nat.le_of_ble_eq_true rfl) rfl (by decide) hcl hv (fun r h2 hr => ?_)
  obtain ⟨_, rfl, rfl, g'⟩ := hr
  exact al_icmp_eq X dL_law_773 (by decide) (hk _ _ g')
theorem cs_14 (X : LC p s m meth c b L xs D aC adK adV) (hi : i + 6 ≤ L) (g : GR hC hM) (hcl : cells ≤ 601024 ∧ slots ≤ 7293033) (hk : ∀ hC' hM', GR hC' hM' → AL p l e s m below meth c b D aC adK adV 1379 (lsL s b i) [] hC' hM' J cells slots) : AL p l e s m below meth c b D aC adK adV 778 (lsL s b i) [] hC hM J cells slots := by
  refine al_aload_n X dL_law_778 rfl 1 rfl ?_
  refine al_arg (k := 1) X hi dL_law_779 rfl dL_law_780 rfl dL_law_782 rfl (by decide) rfl dL_law_783 rfl dL_law_784 ?_
  refine al_callC (N := mX9_ends) (d := 200) (As := [.int (xs (i + 1))]) (st := []) X dL_law_785 mkX9_ends rfl lkL_88 miX9_ends mvX9_ends rfl (Nat.le_of_ble_eq_true rfl) (Nat.le_of_ble_eq_true rfl) rfl (by decide) hcl (j_ends (l' := l) (ad' := fun q => s.heap.size + 373 + q) (adK := adK) (adV := adV) (d := 194) (d' := 193) g) (fun r h1 hr => ?_)
  obtain ⟨v, rfl, hv⟩ := hr
  refine al_aload_n X dL_law_788 rfl 2 rfl ?_
  refine al_arg (k := 1) X hi dL_law_789 rfl dL_law_790 rfl dL_law_792 rfl (by decide) rfl dL_law_793 rfl dL_law_794 ?_
  refine al_callM (N := mX10_ends) (d := 200) (As := [.int (xs (i + 1))]) (st := [.int v]) X dL_law_795 mkX10_ends rfl lkL_91 miX10_ends mvX10_ends rfl (Nat.le_of_ble_eq_true rfl) (Nat.le_of_ble_eq_true rfl) rfl (by decide) hcl hv (fun r h2 hr => ?_)
  obtain ⟨_, rfl, rfl, g'⟩ := hr
  exact al_icmp_eq X dL_law_798 (by decide) (hk _ _ g')
theorem cs_15 (X : LC p s m meth c b L xs D aC adK adV) (hi : i + 6 ≤ L) (g : GR hC hM) (hcl : cells ≤ 601024 ∧ slots ≤ 7293033) (hk : ∀ hC' hM', GR hC' hM' → AL p l e s m below meth c b D aC adK adV 1379 (lsL s b i) [] hC' hM' J cells slots) : AL p l e s m below meth c b D aC adK adV 803 (lsL s b i) [] hC hM J cells slots := by
  refine al_aload_n X dL_law_803 rfl 1 rfl ?_
  refine al_callC (N := mX9_clear) (d := 200) (As := []) (st := []) X dL_law_804 mkX9_clear rfl lkL_92 miX9_clear mvX9_clear rfl (Nat.le_of_ble_eq_true rfl) (Nat.le_of_ble_eq_true rfl) rfl (by decide) hcl (j_clear (l' := l) (ad' := fun q => s.heap.size + 373 + q) (adK := adK) (adV := adV) (d := 197) (d' := 197) g) (fun r h1 hr => ?_)
  obtain ⟨v, rfl, hv⟩ := hr
  refine al_aload_n X dL_law_807 rfl 2 rfl ?_
  refine al_callM (N := mX10_clear) (d := 200) (As := []) (st := [.int v]) X dL_law_808 mkX10_clear rfl lkL_95 miX10_clear mvX10_clear rfl (Nat.le_of_ble_eq_true rfl) (Nat.le_of_ble_eq_true rfl) rfl (by decide) hcl hv (fun r h2 hr => ?_)
  obtain ⟨_, rfl, rfl, g'⟩ := hr
  exact al_icmp_eq X dL_law_811 (by decide) (hk _ _ g')
theorem cs_16 (X : LC p s m meth c b L xs D aC adK adV) (hi : i + 6 ≤ L) (g : GR hC hM) (hcl : cells ≤ 601024 ∧ slots ≤ 7293033) (hk : ∀ hC' hM', GR hC' hM' → AL p l e s m below meth c b D aC adK adV 1379 (lsL s b i) [] hC' hM' J cells slots) : AL p l e s m below meth c b D aC adK adV 816 (lsL s b i) [] hC hM J cells slots := by
  refine al_aload_n X dL_law_816 rfl 1 rfl ?_
  refine al_arg (k := 1) X hi dL_law_817 rfl dL_law_818 rfl dL_law_820 rfl (by decide) rfl dL_law_821 rfl dL_law_822 ?_
  refine al_arg (k := 2) X hi dL_law_823 rfl dL_law_824 rfl dL_law_826 rfl (by decide) rfl dL_law_827 rfl dL_law_828 ?_
  refine al_callC (N := mX9_keep) (d := 200) (As := [.int (xs (i + 1)), .int (xs (i + 2))]) (st := []) X dL_law_829 mkX9_keep rfl lkL_96 miX9_keep mvX9_keep rfl (Nat.le_of_ble_eq_true rfl) (Nat.le_of_ble_eq_true rfl) rfl (by decide) hcl (j_keep (l' := l) (ad' := fun q => s.heap.size + 373 + q) (adK := adK) (adV := adV) (d := 193) (d' := 192) g) (fun r h1 hr => ?_)
  obtain ⟨v, rfl, hv⟩ := hr
  refine al_aload_n X dL_law_832 rfl 2 rfl ?_
  refine al_arg (k := 1) X hi dL_law_833 rfl dL_law_834 rfl dL_law_836 rfl (by decide) rfl dL_law_837 rfl dL_law_838 ?_
  refine al_arg (k := 2) X hi dL_law_839 rfl dL_law_840 rfl dL_law_842 rfl (by decide) rfl dL_law_843 rfl dL_law_844 ?_
  refine al_callM (N := mX10_keep) (d := 200) (As := [.int (xs (i + 1)), .int (xs (i + 2))]) (st := [.int v]) X dL_law_845 mkX10_keep rfl lkL_99 miX10_keep mvX10_keep rfl (Nat.le_of_ble_eq_true rfl) (Nat.le_of_ble_eq_true rfl) rfl (by decide) hcl hv (fun r h2 hr => ?_)
  obtain ⟨_, rfl, rfl, g'⟩ := hr
  exact al_icmp_eq X dL_law_848 (by decide) (hk _ _ g')
theorem cs_17 (X : LC p s m meth c b L xs D aC adK adV) (hi : i + 6 ≤ L) (g : GR hC hM) (hcl : cells ≤ 601024 ∧ slots ≤ 7293033) (hk : ∀ hC' hM', GR hC' hM' → AL p l e s m below meth c b D aC adK adV 1379 (lsL s b i) [] hC' hM' J cells slots) : AL p l e s m below meth c b D aC adK adV 853 (lsL s b i) [] hC hM J cells slots := by
  refine al_aload_n X dL_law_853 rfl 1 rfl ?_
  refine al_arg (k := 1) X hi dL_law_854 rfl dL_law_855 rfl dL_law_857 rfl (by decide) rfl dL_law_858 rfl dL_law_859 ?_
  refine al_callC (N := mX9_order) (d := 200) (As := [.int (xs (i + 1))]) (st := []) X dL_law_860 mkX9_order rfl lkL_100 miX9_order mvX9_order rfl (Nat.le_of_ble_eq_true rfl) (Nat.le_of_ble_eq_true rfl) rfl (by decide) hcl (j_order (l' := l) (ad' := fun q => s.heap.size + 373 + q) (adK := adK) (adV := adV) (d := 196) (d' := 193) g) (fun r h1 hr => ?_)
  obtain ⟨v, rfl, hv⟩ := hr
  refine al_aload_n X dL_law_863 rfl 2 rfl ?_
  refine al_arg (k := 1) X hi dL_law_864 rfl dL_law_865 rfl dL_law_867 rfl (by decide) rfl dL_law_868 rfl dL_law_869 ?_
  refine al_callM (N := mX10_order) (d := 200) (As := [.int (xs (i + 1))]) (st := [.int v]) X dL_law_870 mkX10_order rfl lkL_103 miX10_order mvX10_order rfl (Nat.le_of_ble_eq_true rfl) (Nat.le_of_ble_eq_true rfl) rfl (by decide) hcl hv (fun r h2 hr => ?_)
  obtain ⟨_, rfl, rfl, g'⟩ := hr
  exact al_icmp_eq X dL_law_873 (by decide) (hk _ _ g')
theorem cs_18 (X : LC p s m meth c b L xs D aC adK adV) (hi : i + 6 ≤ L) (g : GR hC hM) (hcl : cells ≤ 601024 ∧ slots ≤ 7293033) (hk : ∀ hC' hM', GR hC' hM' → AL p l e s m below meth c b D aC adK adV 1379 (lsL s b i) [] hC' hM' J cells slots) : AL p l e s m below meth c b D aC adK adV 878 (lsL s b i) [] hC hM J cells slots := by
  refine al_aload_n X dL_law_878 rfl 1 rfl ?_
  refine al_arg (k := 1) X hi dL_law_879 rfl dL_law_880 rfl dL_law_882 rfl (by decide) rfl dL_law_883 rfl dL_law_884 ?_
  refine al_arg (k := 2) X hi dL_law_885 rfl dL_law_886 rfl dL_law_888 rfl (by decide) rfl dL_law_889 rfl dL_law_890 ?_
  refine al_callC (N := mX9_rests) (d := 200) (As := [.int (xs (i + 1)), .int (xs (i + 2))]) (st := []) X dL_law_891 mkX9_rests rfl lkL_104 miX9_rests mvX9_rests rfl (Nat.le_of_ble_eq_true rfl) (Nat.le_of_ble_eq_true rfl) rfl (by decide) hcl (j_rests (l' := l) (ad' := fun q => s.heap.size + 373 + q) (adK := adK) (adV := adV) (d := 197) (d' := 196) g) (fun r h1 hr => ?_)
  obtain ⟨v, rfl, hv⟩ := hr
  refine al_aload_n X dL_law_894 rfl 2 rfl ?_
  refine al_arg (k := 1) X hi dL_law_895 rfl dL_law_896 rfl dL_law_898 rfl (by decide) rfl dL_law_899 rfl dL_law_900 ?_
  refine al_arg (k := 2) X hi dL_law_901 rfl dL_law_902 rfl dL_law_904 rfl (by decide) rfl dL_law_905 rfl dL_law_906 ?_
  refine al_callM (N := mX10_rests) (d := 200) (As := [.int (xs (i + 1)), .int (xs (i + 2))]) (st := [.int v]) X dL_law_907 mkX10_rests rfl lkL_107 miX10_rests mvX10_rests rfl (Nat.le_of_ble_eq_true rfl) (Nat.le_of_ble_eq_true rfl) rfl (by decide) hcl hv (fun r h2 hr => ?_)
  obtain ⟨_, rfl, rfl, g'⟩ := hr
  exact al_icmp_eq X dL_law_910 (by decide) (hk _ _ g')
theorem cs_19 (X : LC p s m meth c b L xs D aC adK adV) (hi : i + 6 ≤ L) (g : GR hC hM) (hcl : cells ≤ 601024 ∧ slots ≤ 7293033) (hk : ∀ hC' hM', GR hC' hM' → AL p l e s m below meth c b D aC adK adV 1379 (lsL s b i) [] hC' hM' J cells slots) : AL p l e s m below meth c b D aC adK adV 915 (lsL s b i) [] hC hM J cells slots := by
  refine al_aload_n X dL_law_915 rfl 1 rfl ?_
  refine al_arg (k := 1) X hi dL_law_916 rfl dL_law_917 rfl dL_law_919 rfl (by decide) rfl dL_law_920 rfl dL_law_921 ?_
  refine al_arg (k := 2) X hi dL_law_922 rfl dL_law_923 rfl dL_law_925 rfl (by decide) rfl dL_law_926 rfl dL_law_927 ?_
  refine al_arg (k := 3) X hi dL_law_928 rfl dL_law_929 rfl dL_law_931 rfl (by decide) rfl dL_law_932 rfl dL_law_933 ?_
  refine al_callC (N := mX9_rest) (d := 200) (As := [.int (xs (i + 1)), .int (xs (i + 2)), .int (xs (i + 3))]) (st := []) X dL_law_934 mkX9_rest rfl lkL_108 miX9_rest mvX9_rest rfl (Nat.le_of_ble_eq_true rfl) (Nat.le_of_ble_eq_true rfl) rfl (by decide) hcl (j_rest (l' := l) (ad' := fun q => s.heap.size + 373 + q) (adK := adK) (adV := adV) (d := 197) (d' := 196) g) (fun r h1 hr => ?_)
  obtain ⟨v, rfl, hv⟩ := hr
  refine al_aload_n X dL_law_937 rfl 2 rfl ?_
  refine al_arg (k := 1) X hi dL_law_938 rfl dL_law_939 rfl dL_law_941 rfl (by decide) rfl dL_law_942 rfl dL_law_943 ?_
  refine al_arg (k := 2) X hi dL_law_944 rfl dL_law_945 rfl dL_law_947 rfl (by decide) rfl dL_law_948 rfl dL_law_949 ?_
  refine al_arg (k := 3) X hi dL_law_950 rfl dL_law_951 rfl dL_law_953 rfl (by decide) rfl dL_law_954 rfl dL_law_955 ?_
  refine al_callM (N := mX10_rest) (d := 200) (As := [.int (xs (i + 1)), .int (xs (i + 2)), .int (xs (i + 3))]) (st := [.int v]) X dL_law_956 mkX10_rest rfl lkL_111 miX10_rest mvX10_rest rfl (Nat.le_of_ble_eq_true rfl) (Nat.le_of_ble_eq_true rfl) rfl (by decide) hcl hv (fun r h2 hr => ?_)
  obtain ⟨_, rfl, rfl, g'⟩ := hr
  exact al_icmp_eq X dL_law_959 (by decide) (hk _ _ g')
theorem cs_20 (X : LC p s m meth c b L xs D aC adK adV) (hi : i + 6 ≤ L) (g : GR hC hM) (hcl : cells ≤ 601024 ∧ slots ≤ 7293033) (hk : ∀ hC' hM', GR hC' hM' → AL p l e s m below meth c b D aC adK adV 1379 (lsL s b i) [] hC' hM' J cells slots) : AL p l e s m below meth c b D aC adK adV 964 (lsL s b i) [] hC hM J cells slots := by
  refine al_aload_n X dL_law_964 rfl 1 rfl ?_
  refine al_arg (k := 1) X hi dL_law_965 rfl dL_law_966 rfl dL_law_968 rfl (by decide) rfl dL_law_969 rfl dL_law_970 ?_
  refine al_arg (k := 2) X hi dL_law_971 rfl dL_law_972 rfl dL_law_974 rfl (by decide) rfl dL_law_975 rfl dL_law_976 ?_
  refine al_arg (k := 3) X hi dL_law_977 rfl dL_law_978 rfl dL_law_980 rfl (by decide) rfl dL_law_981 rfl dL_law_982 ?_
  refine al_callC (N := mX9_lives) (d := 200) (As := [.int (xs (i + 1)), .int (xs (i + 2)), .int (xs (i + 3))]) (st := []) X dL_law_983 mkX9_lives rfl lkL_112 miX9_lives mvX9_lives rfl (Nat.le_of_ble_eq_true rfl) (Nat.le_of_ble_eq_true rfl) rfl (by decide) hcl (j_lives (l' := l) (ad' := fun q => s.heap.size + 373 + q) (adK := adK) (adV := adV) (d := 196) (d' := 196) g) (fun r h1 hr => ?_)
  obtain ⟨v, rfl, hv⟩ := hr
  refine al_aload_n X dL_law_986 rfl 2 rfl ?_
  refine al_arg (k := 1) X hi dL_law_987 rfl dL_law_988 rfl dL_law_990 rfl (by decide) rfl dL_law_991 rfl dL_law_992 ?_
  refine al_arg (k := 2) X hi dL_law_993 rfl dL_law_994 rfl dL_law_996 rfl (by decide) rfl dL_law_997 rfl dL_law_998 ?_
  refine al_arg (k := 3) X hi dL_law_999 rfl dL_law_1000 rfl dL_law_1002 rfl (by decide) rfl dL_law_1003 rfl dL_law_1004 ?_
  refine al_callM (N := mX10_lives) (d := 200) (As := [.int (xs (i + 1)), .int (xs (i + 2)), .int (xs (i + 3))]) (st := [.long v]) X dL_law_1005 mkX10_lives rfl lkL_115 miX10_lives mvX10_lives rfl (Nat.le_of_ble_eq_true rfl) (Nat.le_of_ble_eq_true rfl) rfl (by decide) hcl hv (fun r h2 hr => ?_)
  obtain ⟨_, rfl, rfl, g'⟩ := hr
  exact al_lcmp_eq X dL_law_1008 dL_law_1009 (by decide) (hk _ _ g')
theorem cs_21 (X : LC p s m meth c b L xs D aC adK adV) (hi : i + 6 ≤ L) (g : GR hC hM) (hcl : cells ≤ 601024 ∧ slots ≤ 7293033) (hk : ∀ hC' hM', GR hC' hM' → AL p l e s m below meth c b D aC adK adV 1379 (lsL s b i) [] hC' hM' J cells slots) : AL p l e s m below meth c b D aC adK adV 1014 (lsL s b i) [] hC hM J cells slots := by
  refine al_aload_n X dL_law_1014 rfl 1 rfl ?_
  refine al_arg (k := 1) X hi dL_law_1015 rfl dL_law_1016 rfl dL_law_1018 rfl (by decide) rfl dL_law_1019 rfl dL_law_1020 ?_
  refine al_callC (N := mX9_before) (d := 200) (As := [.int (xs (i + 1))]) (st := []) X dL_law_1021 mkX9_before rfl lkL_116 miX9_before mvX9_before rfl (Nat.le_of_ble_eq_true rfl) (Nat.le_of_ble_eq_true rfl) rfl (by decide) hcl (j_before (l' := l) (ad' := fun q => s.heap.size + 373 + q) (adK := adK) (adV := adV) (d := 193) (d' := 192) g) (fun r h1 hr => ?_)
  obtain ⟨v, rfl, hv⟩ := hr
  refine al_aload_n X dL_law_1024 rfl 2 rfl ?_
  refine al_arg (k := 1) X hi dL_law_1025 rfl dL_law_1026 rfl dL_law_1028 rfl (by decide) rfl dL_law_1029 rfl dL_law_1030 ?_
  refine al_callM (N := mX10_before) (d := 200) (As := [.int (xs (i + 1))]) (st := [.int v]) X dL_law_1031 mkX10_before rfl lkL_119 miX10_before mvX10_before rfl (Nat.le_of_ble_eq_true rfl) (Nat.le_of_ble_eq_true rfl) rfl (by decide) hcl hv (fun r h2 hr => ?_)
  obtain ⟨_, rfl, rfl, g'⟩ := hr
  exact al_icmp_eq X dL_law_1034 (by decide) (hk _ _ g')
theorem cs_22 (X : LC p s m meth c b L xs D aC adK adV) (hi : i + 6 ≤ L) (g : GR hC hM) (hcl : cells ≤ 601024 ∧ slots ≤ 7293033) (hk : ∀ hC' hM', GR hC' hM' → AL p l e s m below meth c b D aC adK adV 1379 (lsL s b i) [] hC' hM' J cells slots) : AL p l e s m below meth c b D aC adK adV 1039 (lsL s b i) [] hC hM J cells slots := by
  refine al_aload_n X dL_law_1039 rfl 1 rfl ?_
  refine al_callC (N := mX9_ring) (d := 200) (As := []) (st := []) X dL_law_1040 mkX9_ring rfl lkL_120 miX9_ring mvX9_ring rfl (Nat.le_of_ble_eq_true rfl) (Nat.le_of_ble_eq_true rfl) rfl (by decide) hcl (j_ring (l' := l) (ad' := fun q => s.heap.size + 373 + q) (adK := adK) (adV := adV) (d := 198) (d' := 198) g) (fun r h1 hr => ?_)
  obtain ⟨v, rfl, hv⟩ := hr
  refine al_aload_n X dL_law_1043 rfl 2 rfl ?_
  refine al_callM (N := mX10_ring) (d := 200) (As := []) (st := [.int v]) X dL_law_1044 mkX10_ring rfl lkL_123 miX10_ring mvX10_ring rfl (Nat.le_of_ble_eq_true rfl) (Nat.le_of_ble_eq_true rfl) rfl (by decide) hcl hv (fun r h2 hr => ?_)
  obtain ⟨_, rfl, rfl, g'⟩ := hr
  exact al_icmp_eq X dL_law_1047 (by decide) (hk _ _ g')
theorem cs_23 (X : LC p s m meth c b L xs D aC adK adV) (hi : i + 6 ≤ L) (g : GR hC hM) (hcl : cells ≤ 601024 ∧ slots ≤ 7293033) (hk : ∀ hC' hM', GR hC' hM' → AL p l e s m below meth c b D aC adK adV 1379 (lsL s b i) [] hC' hM' J cells slots) : AL p l e s m below meth c b D aC adK adV 1052 (lsL s b i) [] hC hM J cells slots := by
  refine al_aload_n X dL_law_1052 rfl 1 rfl ?_
  refine al_arg (k := 1) X hi dL_law_1053 rfl dL_law_1054 rfl dL_law_1056 rfl (by decide) rfl dL_law_1057 rfl dL_law_1058 ?_
  refine al_callC (N := mX9_oldest) (d := 200) (As := [.int (xs (i + 1))]) (st := []) X dL_law_1059 mkX9_oldest rfl lkL_124 miX9_oldest mvX9_oldest rfl (Nat.le_of_ble_eq_true rfl) (Nat.le_of_ble_eq_true rfl) rfl (by decide) hcl (j_oldest (l' := l) (ad' := fun q => s.heap.size + 373 + q) (adK := adK) (adV := adV) (d := 199) (d' := 197) g) (fun r h1 hr => ?_)
  obtain ⟨v, rfl, hv⟩ := hr
  refine al_aload_n X dL_law_1062 rfl 2 rfl ?_
  refine al_arg (k := 1) X hi dL_law_1063 rfl dL_law_1064 rfl dL_law_1066 rfl (by decide) rfl dL_law_1067 rfl dL_law_1068 ?_
  refine al_callM (N := mX10_oldest) (d := 200) (As := [.int (xs (i + 1))]) (st := [.int v]) X dL_law_1069 mkX10_oldest rfl lkL_127 miX10_oldest mvX10_oldest rfl (Nat.le_of_ble_eq_true rfl) (Nat.le_of_ble_eq_true rfl) rfl (by decide) hcl hv (fun r h2 hr => ?_)
  obtain ⟨_, rfl, rfl, g'⟩ := hr
  exact al_icmp_eq X dL_law_1072 (by decide) (hk _ _ g')
theorem cs_24 (X : LC p s m meth c b L xs D aC adK adV) (hi : i + 6 ≤ L) (g : GR hC hM) (hcl : cells ≤ 601024 ∧ slots ≤ 7293033) (hk : ∀ hC' hM', GR hC' hM' → AL p l e s m below meth c b D aC adK adV 1379 (lsL s b i) [] hC' hM' J cells slots) : AL p l e s m below meth c b D aC adK adV 1077 (lsL s b i) [] hC hM J cells slots := by
  refine al_aload_n X dL_law_1077 rfl 1 rfl ?_
  refine al_arg (k := 1) X hi dL_law_1078 rfl dL_law_1079 rfl dL_law_1081 rfl (by decide) rfl dL_law_1082 rfl dL_law_1083 ?_
  refine al_arg (k := 2) X hi dL_law_1084 rfl dL_law_1085 rfl dL_law_1087 rfl (by decide) rfl dL_law_1088 rfl dL_law_1089 ?_
  refine al_arg (k := 3) X hi dL_law_1090 rfl dL_law_1091 rfl dL_law_1093 rfl (by decide) rfl dL_law_1094 rfl dL_law_1095 ?_
  refine al_bool X dL_law_1096 (by decide) dL_law_1099 dL_law_1100 (by decide) dL_law_1103 ?_
  refine al_callC (N := mX9_see) (d := 200) (As := [.int (xs (i + 1)), .int (xs (i + 2)), .int (kBo (xs (i + 3)))]) (st := []) X dL_law_1104 mkX9_see rfl lkL_128 miX9_see mvX9_see rfl (Nat.le_of_ble_eq_true rfl) (Nat.le_of_ble_eq_true rfl) rfl (by decide) hcl (j_see (l' := l) (ad' := fun q => s.heap.size + 373 + q) (adK := adK) (adV := adV) (d := 199) (d' := 200) (kBo_01 _) g) (fun r h1 hr => ?_)
  obtain ⟨v, rfl, hv⟩ := hr
  refine al_aload_n X dL_law_1107 rfl 2 rfl ?_
  refine al_arg (k := 1) X hi dL_law_1108 rfl dL_law_1109 rfl dL_law_1111 rfl (by decide) rfl dL_law_1112 rfl dL_law_1113 ?_
  refine al_arg (k := 2) X hi dL_law_1114 rfl dL_law_1115 rfl dL_law_1117 rfl (by decide) rfl dL_law_1118 rfl dL_law_1119 ?_
  refine al_arg (k := 3) X hi dL_law_1120 rfl dL_law_1121 rfl dL_law_1123 rfl (by decide) rfl dL_law_1124 rfl dL_law_1125 ?_
  refine al_bool X dL_law_1126 (by decide) dL_law_1129 dL_law_1130 (by decide) dL_law_1133 ?_
  refine al_callM (N := mX10_see) (d := 200) (As := [.int (xs (i + 1)), .int (xs (i + 2)), .int (kBo (xs (i + 3)))]) (st := [.int v]) X dL_law_1134 mkX10_see rfl lkL_132 miX10_see mvX10_see rfl (Nat.le_of_ble_eq_true rfl) (Nat.le_of_ble_eq_true rfl) rfl (by decide) hcl hv (fun r h2 hr => ?_)
  obtain ⟨_, rfl, rfl, g'⟩ := hr
  exact al_icmp_eq X dL_law_1137 (by decide) (hk _ _ g')
theorem cs_25 (X : LC p s m meth c b L xs D aC adK adV) (hi : i + 6 ≤ L) (g : GR hC hM) (hcl : cells ≤ 601024 ∧ slots ≤ 7293033) (hk : ∀ hC' hM', GR hC' hM' → AL p l e s m below meth c b D aC adK adV 1379 (lsL s b i) [] hC' hM' J cells slots) : AL p l e s m below meth c b D aC adK adV 1142 (lsL s b i) [] hC hM J cells slots := by
  refine al_aload_n X dL_law_1142 rfl 1 rfl ?_
  refine al_arg (k := 1) X hi dL_law_1143 rfl dL_law_1144 rfl dL_law_1146 rfl (by decide) rfl dL_law_1147 rfl dL_law_1148 ?_
  refine al_callC (N := mX9_out) (d := 200) (As := [.int (xs (i + 1))]) (st := []) X dL_law_1149 mkX9_out rfl lkL_133 miX9_out mvX9_out rfl (Nat.le_of_ble_eq_true rfl) (Nat.le_of_ble_eq_true rfl) rfl (by decide) hcl (j_out (l' := l) (ad' := fun q => s.heap.size + 373 + q) (adK := adK) (adV := adV) (d := 199) (d' := 200) g) (fun r h1 hr => ?_)
  obtain ⟨v, rfl, hv⟩ := hr
  refine al_aload_n X dL_law_1152 rfl 2 rfl ?_
  refine al_arg (k := 1) X hi dL_law_1153 rfl dL_law_1154 rfl dL_law_1156 rfl (by decide) rfl dL_law_1157 rfl dL_law_1158 ?_
  refine al_callM (N := mX10_out) (d := 200) (As := [.int (xs (i + 1))]) (st := [.int v]) X dL_law_1159 mkX10_out rfl lkL_136 miX10_out mvX10_out rfl (Nat.le_of_ble_eq_true rfl) (Nat.le_of_ble_eq_true rfl) rfl (by decide) hcl hv (fun r h2 hr => ?_)
  obtain ⟨_, rfl, rfl, g'⟩ := hr
  exact al_icmp_eq X dL_law_1162 (by decide) (hk _ _ g')
theorem cs_26 (X : LC p s m meth c b L xs D aC adK adV) (hi : i + 6 ≤ L) (g : GR hC hM) (hcl : cells ≤ 601024 ∧ slots ≤ 7293033) (hk : ∀ hC' hM', GR hC' hM' → AL p l e s m below meth c b D aC adK adV 1379 (lsL s b i) [] hC' hM' J cells slots) : AL p l e s m below meth c b D aC adK adV 1167 (lsL s b i) [] hC hM J cells slots := by
  refine al_aload_n X dL_law_1167 rfl 1 rfl ?_
  refine al_arg (k := 1) X hi dL_law_1168 rfl dL_law_1169 rfl dL_law_1171 rfl (by decide) rfl dL_law_1172 rfl dL_law_1173 ?_
  refine al_callC (N := mX9_known) (d := 200) (As := [.int (xs (i + 1))]) (st := []) X dL_law_1174 mkX9_known rfl lkL_137 miX9_known mvX9_known rfl (Nat.le_of_ble_eq_true rfl) (Nat.le_of_ble_eq_true rfl) rfl (by decide) hcl (j_known (l' := l) (ad' := fun q => s.heap.size + 373 + q) (adK := adK) (adV := adV) (d := 200) (d' := 200) g) (fun r h1 hr => ?_)
  obtain ⟨v, rfl, hv⟩ := hr
  refine al_aload_n X dL_law_1177 rfl 2 rfl ?_
  refine al_arg (k := 1) X hi dL_law_1178 rfl dL_law_1179 rfl dL_law_1181 rfl (by decide) rfl dL_law_1182 rfl dL_law_1183 ?_
  refine al_callM (N := mX10_known) (d := 200) (As := [.int (xs (i + 1))]) (st := [.int v]) X dL_law_1184 mkX10_known rfl lkL_141 miX10_known mvX10_known rfl (Nat.le_of_ble_eq_true rfl) (Nat.le_of_ble_eq_true rfl) rfl (by decide) hcl hv (fun r h2 hr => ?_)
  obtain ⟨_, rfl, rfl, g'⟩ := hr
  exact al_icmp_eq X dL_law_1187 (by decide) (hk _ _ g')
theorem cs_27 (X : LC p s m meth c b L xs D aC adK adV) (hi : i + 6 ≤ L) (g : GR hC hM) (hcl : cells ≤ 601024 ∧ slots ≤ 7293033) (hk : ∀ hC' hM', GR hC' hM' → AL p l e s m below meth c b D aC adK adV 1379 (lsL s b i) [] hC' hM' J cells slots) : AL p l e s m below meth c b D aC adK adV 1192 (lsL s b i) [] hC hM J cells slots := by
  refine al_aload_n X dL_law_1192 rfl 1 rfl ?_
  refine al_arg (k := 1) X hi dL_law_1193 rfl dL_law_1194 rfl dL_law_1196 rfl (by decide) rfl dL_law_1197 rfl dL_law_1198 ?_
  refine al_callC (N := mX9_had) (d := 200) (As := [.int (xs (i + 1))]) (st := []) X dL_law_1199 mkX9_had rfl lkL_142 miX9_had mvX9_had rfl (Nat.le_of_ble_eq_true rfl) (Nat.le_of_ble_eq_true rfl) rfl (by decide) hcl (j_had (l' := l) (ad' := fun q => s.heap.size + 373 + q) (adK := adK) (adV := adV) (d := 193) (d' := 192) g) (fun r h1 hr => ?_)
  obtain ⟨v, rfl, hv⟩ := hr
  refine al_aload_n X dL_law_1202 rfl 2 rfl ?_
  refine al_arg (k := 1) X hi dL_law_1203 rfl dL_law_1204 rfl dL_law_1206 rfl (by decide) rfl dL_law_1207 rfl dL_law_1208 ?_
  refine al_callM (N := mX10_had) (d := 200) (As := [.int (xs (i + 1))]) (st := [.int v]) X dL_law_1209 mkX10_had rfl lkL_145 miX10_had mvX10_had rfl (Nat.le_of_ble_eq_true rfl) (Nat.le_of_ble_eq_true rfl) rfl (by decide) hcl hv (fun r h2 hr => ?_)
  obtain ⟨_, rfl, rfl, g'⟩ := hr
  exact al_icmp_eq X dL_law_1212 (by decide) (hk _ _ g')
theorem cs_28 (X : LC p s m meth c b L xs D aC adK adV) (hi : i + 6 ≤ L) (g : GR hC hM) (hcl : cells ≤ 601024 ∧ slots ≤ 7293033) (hk : ∀ hC' hM', GR hC' hM' → AL p l e s m below meth c b D aC adK adV 1379 (lsL s b i) [] hC' hM' J cells slots) : AL p l e s m below meth c b D aC adK adV 1217 (lsL s b i) [] hC hM J cells slots := by
  refine al_aload_n X dL_law_1217 rfl 1 rfl ?_
  refine al_arg (k := 1) X hi dL_law_1218 rfl dL_law_1219 rfl dL_law_1221 rfl (by decide) rfl dL_law_1222 rfl dL_law_1223 ?_
  refine al_arg (k := 2) X hi dL_law_1224 rfl dL_law_1225 rfl dL_law_1227 rfl (by decide) rfl dL_law_1228 rfl dL_law_1229 ?_
  refine al_arg (k := 3) X hi dL_law_1230 rfl dL_law_1231 rfl dL_law_1233 rfl (by decide) rfl dL_law_1234 rfl dL_law_1235 ?_
  refine al_callC (N := mX9_chance) (d := 200) (As := [.int (xs (i + 1)), .int (xs (i + 2)), .int (xs (i + 3))]) (st := []) X dL_law_1236 mkX9_chance rfl lkL_146 miX9_chance mvX9_chance rfl (Nat.le_of_ble_eq_true rfl) (Nat.le_of_ble_eq_true rfl) rfl (by decide) hcl (j_chance (l' := l) (ad' := fun q => s.heap.size + 373 + q) (adK := adK) (adV := adV) (d := 193) (d' := 193) g) (fun r h1 hr => ?_)
  obtain ⟨v, rfl, hv⟩ := hr
  refine al_aload_n X dL_law_1239 rfl 2 rfl ?_
  refine al_arg (k := 1) X hi dL_law_1240 rfl dL_law_1241 rfl dL_law_1243 rfl (by decide) rfl dL_law_1244 rfl dL_law_1245 ?_
  refine al_arg (k := 2) X hi dL_law_1246 rfl dL_law_1247 rfl dL_law_1249 rfl (by decide) rfl dL_law_1250 rfl dL_law_1251 ?_
  refine al_arg (k := 3) X hi dL_law_1252 rfl dL_law_1253 rfl dL_law_1255 rfl (by decide) rfl dL_law_1256 rfl dL_law_1257 ?_
  refine al_callM (N := mX10_chance) (d := 200) (As := [.int (xs (i + 1)), .int (xs (i + 2)), .int (xs (i + 3))]) (st := [.int v]) X dL_law_1258 mkX10_chance rfl lkL_149 miX10_chance mvX10_chance rfl (Nat.le_of_ble_eq_true rfl) (Nat.le_of_ble_eq_true rfl) rfl (by decide) hcl hv (fun r h2 hr => ?_)
  obtain ⟨_, rfl, rfl, g'⟩ := hr
  exact al_icmp_eq X dL_law_1261 (by decide) (hk _ _ g')
theorem cs_29 (X : LC p s m meth c b L xs D aC adK adV) (hi : i + 6 ≤ L) (g : GR hC hM) (hcl : cells ≤ 601024 ∧ slots ≤ 7293033) (hk : ∀ hC' hM', GR hC' hM' → AL p l e s m below meth c b D aC adK adV 1379 (lsL s b i) [] hC' hM' J cells slots) : AL p l e s m below meth c b D aC adK adV 1266 (lsL s b i) [] hC hM J cells slots := by
  refine al_aload_n X dL_law_1266 rfl 1 rfl ?_
  refine al_arg (k := 1) X hi dL_law_1267 rfl dL_law_1268 rfl dL_law_1270 rfl (by decide) rfl dL_law_1271 rfl dL_law_1272 ?_
  refine al_arg (k := 2) X hi dL_law_1273 rfl dL_law_1274 rfl dL_law_1276 rfl (by decide) rfl dL_law_1277 rfl dL_law_1278 ?_
  refine al_arg (k := 3) X hi dL_law_1279 rfl dL_law_1280 rfl dL_law_1282 rfl (by decide) rfl dL_law_1283 rfl dL_law_1284 ?_
  refine al_callC (N := mX9_tried) (d := 200) (As := [.int (xs (i + 1)), .int (xs (i + 2)), .int (xs (i + 3))]) (st := []) X dL_law_1285 mkX9_tried rfl lkL_150 miX9_tried mvX9_tried rfl (Nat.le_of_ble_eq_true rfl) (Nat.le_of_ble_eq_true rfl) rfl (by decide) hcl (j_tried (l' := l) (ad' := fun q => s.heap.size + 373 + q) (adK := adK) (adV := adV) (d := 193) (d' := 192) g) (fun r h1 hr => ?_)
  obtain ⟨v, rfl, hv⟩ := hr
  refine al_aload_n X dL_law_1288 rfl 2 rfl ?_
  refine al_arg (k := 1) X hi dL_law_1289 rfl dL_law_1290 rfl dL_law_1292 rfl (by decide) rfl dL_law_1293 rfl dL_law_1294 ?_
  refine al_arg (k := 2) X hi dL_law_1295 rfl dL_law_1296 rfl dL_law_1298 rfl (by decide) rfl dL_law_1299 rfl dL_law_1300 ?_
  refine al_arg (k := 3) X hi dL_law_1301 rfl dL_law_1302 rfl dL_law_1304 rfl (by decide) rfl dL_law_1305 rfl dL_law_1306 ?_
  refine al_callM (N := mX10_tried) (d := 200) (As := [.int (xs (i + 1)), .int (xs (i + 2)), .int (xs (i + 3))]) (st := [.int v]) X dL_law_1307 mkX10_tried rfl lkL_153 miX10_tried mvX10_tried rfl (Nat.le_of_ble_eq_true rfl) (Nat.le_of_ble_eq_true rfl) rfl (by decide) hcl hv (fun r h2 hr => ?_)
  obtain ⟨_, rfl, rfl, g'⟩ := hr
  exact al_icmp_eq X dL_law_1310 (by decide) (hk _ _ g')
theorem cs_30 (X : LC p s m meth c b L xs D aC adK adV) (hi : i + 6 ≤ L) (g : GR hC hM) (hcl : cells ≤ 601024 ∧ slots ≤ 7293033) (hk : ∀ hC' hM', GR hC' hM' → AL p l e s m below meth c b D aC adK adV 1379 (lsL s b i) [] hC' hM' J cells slots) : AL p l e s m below meth c b D aC adK adV 1315 (lsL s b i) [] hC hM J cells slots := by
  refine al_aload_n X dL_law_1315 rfl 1 rfl ?_
  refine al_callC (N := mX9_undo) (d := 200) (As := []) (st := []) X dL_law_1316 mkX9_undo rfl lkL_154 miX9_undo mvX9_undo rfl (Nat.le_of_ble_eq_true rfl) (Nat.le_of_ble_eq_true rfl) rfl (by decide) hcl (j_undo (l' := l) (ad' := fun q => s.heap.size + 373 + q) (adK := adK) (adV := adV) (d := 197) (d' := 199) g) (fun r h1 hr => ?_)
  obtain ⟨v, rfl, hv⟩ := hr
  refine al_aload_n X dL_law_1319 rfl 2 rfl ?_
  refine al_callM (N := mX10_undo) (d := 200) (As := []) (st := [.int v]) X dL_law_1320 mkX10_undo rfl lkL_157 miX10_undo mvX10_undo rfl (Nat.le_of_ble_eq_true rfl) (Nat.le_of_ble_eq_true rfl) rfl (by decide) hcl hv (fun r h2 hr => ?_)
  obtain ⟨_, rfl, rfl, g'⟩ := hr
  exact al_icmp_eq X dL_law_1323 (by decide) (hk _ _ g')
theorem cs_31 (X : LC p s m meth c b L xs D aC adK adV) (hi : i + 6 ≤ L) (g : GR hC hM) (hcl : cells ≤ 601024 ∧ slots ≤ 7293033) (hk : ∀ hC' hM', GR hC' hM' → AL p l e s m below meth c b D aC adK adV 1379 (lsL s b i) [] hC' hM' J cells slots) : AL p l e s m below meth c b D aC adK adV 1328 (lsL s b i) [] hC hM J cells slots := by
  refine al_aload_n X dL_law_1328 rfl 1 rfl ?_
  refine al_callC (N := mX9_image) (d := 200) (As := []) (st := []) X dL_law_1329 mkX9_image rfl lkL_158 miX9_image mvX9_image rfl (Nat.le_of_ble_eq_true rfl) (Nat.le_of_ble_eq_true rfl) rfl (by decide) hcl (j_image (l' := l) (ad' := fun q => s.heap.size + 373 + q) (adK := adK) (adV := adV) (d := 198) (d' := 199) g) (fun r h1 hr => ?_)
  obtain ⟨v, rfl, hv⟩ := hr
  refine al_aload_n X dL_law_1332 rfl 2 rfl ?_
  refine al_callM (N := mX10_image) (d := 200) (As := []) (st := [.int v]) X dL_law_1333 mkX10_image rfl lkL_161 miX10_image mvX10_image rfl (Nat.le_of_ble_eq_true rfl) (Nat.le_of_ble_eq_true rfl) rfl (by decide) hcl hv (fun r h2 hr => ?_)
  obtain ⟨_, rfl, rfl, g'⟩ := hr
  exact al_icmp_eq X dL_law_1336 (by decide) (hk _ _ g')
theorem cs_32 (X : LC p s m meth c b L xs D aC adK adV) (hi : i + 6 ≤ L) (g : GR hC hM) (hcl : cells ≤ 601024 ∧ slots ≤ 7293033) (hk : ∀ hC' hM', GR hC' hM' → AL p l e s m below meth c b D aC adK adV 1379 (lsL s b i) [] hC' hM' J cells slots) : AL p l e s m below meth c b D aC adK adV 1341 (lsL s b i) [] hC hM J cells slots := by
  refine al_aload_n X dL_law_1341 rfl 1 rfl ?_
  refine al_callC (N := mX9_back) (d := 200) (As := []) (st := []) X dL_law_1342 mkX9_back rfl lkL_162 miX9_back mvX9_back rfl (Nat.le_of_ble_eq_true rfl) (Nat.le_of_ble_eq_true rfl) rfl (by decide) hcl (j_back (l' := l) (ad' := fun q => s.heap.size + 373 + q) (adK := adK) (adV := adV) (d := 198) (d' := 199) g) (fun r h1 hr => ?_)
  obtain ⟨v, rfl, hv⟩ := hr
  refine al_aload_n X dL_law_1345 rfl 2 rfl ?_
  refine al_callM (N := mX10_back) (d := 200) (As := []) (st := [.int v]) X dL_law_1346 mkX10_back rfl lkL_165 miX10_back mvX10_back rfl (Nat.le_of_ble_eq_true rfl) (Nat.le_of_ble_eq_true rfl) rfl (by decide) hcl hv (fun r h2 hr => ?_)
  obtain ⟨_, rfl, rfl, g'⟩ := hr
  exact al_icmp_eq X dL_law_1349 (by decide) (hk _ _ g')
theorem cs_33 (X : LC p s m meth c b L xs D aC adK adV) (hi : i + 6 ≤ L) (g : GR hC hM) (hcl : cells ≤ 601024 ∧ slots ≤ 7293033) (hk : ∀ hC' hM', GR hC' hM' → AL p l e s m below meth c b D aC adK adV 1379 (lsL s b i) [] hC' hM' J cells slots) : AL p l e s m below meth c b D aC adK adV 1354 (lsL s b i) [] hC hM J cells slots := by
  refine al_aload_n X dL_law_1354 rfl 1 rfl ?_
  refine al_arg (k := 1) X hi dL_law_1355 rfl dL_law_1356 rfl dL_law_1358 rfl (by decide) rfl dL_law_1359 rfl dL_law_1360 ?_
  refine al_callC (N := mX9_count) (d := 200) (As := [.int (xs (i + 1))]) (st := []) X dL_law_1361 mkX9_count rfl lkL_166 miX9_count mvX9_count rfl (Nat.le_of_ble_eq_true rfl) (Nat.le_of_ble_eq_true rfl) rfl (by decide) hcl (j_count (l' := l) (ad' := fun q => s.heap.size + 373 + q) (adK := adK) (adV := adV) (d := 199) (d' := 199) g) (fun r h1 hr => ?_)
  obtain ⟨v, rfl, hv⟩ := hr
  refine al_aload_n X dL_law_1364 rfl 2 rfl ?_
  refine al_arg (k := 1) X hi dL_law_1365 rfl dL_law_1366 rfl dL_law_1368 rfl (by decide) rfl dL_law_1369 rfl dL_law_1370 ?_
  refine al_callM (N := mX10_count) (d := 200) (As := [.int (xs (i + 1))]) (st := [.int v]) X dL_law_1371 mkX10_count rfl lkL_169 miX10_count mvX10_count rfl (Nat.le_of_ble_eq_true rfl) (Nat.le_of_ble_eq_true rfl) rfl (by decide) hcl hv (fun r h2 hr => ?_)
  obtain ⟨_, rfl, rfl, g'⟩ := hr
  exact al_icmp_eq X dL_law_1374 (by decide) (hk _ _ g')
end LCS
