/-! ===== the law's case of debt ===== -/
section DBL
variable {p : Program} {l : Launch} {e : Env} {s : State} {m : MethodId} {below : List Frame} {meth : Method} {c : Code} {b L : Nat} {xs : Nat → Int32} {D : va_G} {aC : FieldType → ClassId} {adK adV : Nat → Nat} {pc : Nat} {ls : List (Nat × Value)} {st : List Value} {hC hM : aH} {J : Int64} {cells slots : Nat}
theorem sl_call {H : Heap} {locs : List Loc} {Pc : Array Value → State → Prop} {Qc : Array Value → State → Outcome → State → Prop} {free : Addr → Prop} {As rest : List Value} {g : JFrame} (C0 : lw_At p s m meth c b L xs) (hM : Met l yLd wsL (kR 16 1 6) Pc Qc 1 6 free) (hbl : FrameBlind Pc) (hPc : ∀ U : State, U.heap = H → s.WarmedH U.vm → Pc As.toArray U) (hg : g.method = m) (hn : As.length = 4) (hsize : g.locals.size = 7) (hstack : g.stack = As.reverse ++ rest) (hW : 2 * g.monitorRoom + (rest.map fun v => v.category).sum ≤ 8) (hdg : decode code g.pc = .ok (.invokestatic 39, 3)) (hf : cells + 1 ≤ 601024 ∧ slots + 6 ≤ 7293033) :
    va_Run p l e room_1 s m #[Value.ref b] below meth c H locs cells slots 1 6 g rest (Qc As.toArray) free := by
  obtain ⟨hx, hb, hr, hml, hown, hts0, hX, hbl', hlocks, hgv⟩ := C0
  have hts : ∀ w ∈ aTB, w.before #[Value.ref b] s = true := fun w hw => hts0 w (List.mem_filter.mp hw).1
  have hpay := pay_in hts wsL_good
  have hK : Back l room_1 p e below s #[Value.ref b] yLd 3 8 (PreOf room_1 1 6 Pc) (PostOf Qc 1 6 free) := va_backW (hh := hhL) (bytes := method_3_code) (maxL := 5) (ret := some .int) hM hbl rfl rfl (Nat.le_of_ble_eq_true rfl) (Nat.le_of_ble_eq_true rfl) hpay List.mem_cons_self (fun a' U h => hpay _ (List.mem_cons_of_mem _ inLd) a' U h)
  intro T hT X
  obtain ⟨mk, methM, cM, hnamed, hmethM, -, -, -, -, -, -, hsigM⟩ := Cond.codeWith_spec (hts _ cwLd)
  have hstatic : methM.isStatic = true := Cond.static_spec hnamed hmethM (hts _ stLd)
  obtain ⟨kP, hkP, -⟩ := className_of_methodNamed hnamed
  have hinitP : kP.init = .initialized := Cond.initialized_spec (findClass_of_methodNamed hnamed) hkP (hts _ inLd)
  have h9 : (parseMethodDescriptor yLd.desc).map (fun d => d.parameters.length) = some 4 := by decide +kernel
  rw [hsigM] at h9
  obtain ⟨vm₁, X₁, hstep₁⟩ := X.invokestatic hx hown (hts _ lkLd_39) hnamed hmethM hstatic hkP hinitP (by decide) (g := g) hg (argsL := As) (rest := rest) (hn.trans (Option.some.inj h9).symm) hstack (by rw [hb]; exact hdg)
  obtain ⟨v, ⟨U', l2, c2, s2⟩, X', ⟨g', mk', t, L', e1, e2, hq, h1, hL, h2, h3⟩, hsteps⟩ := hK m meth c ⟨T.setVm vm₁, locs, cells, slots⟩ { g with stack := rest } (.invokestatic 39) mk As.toArray X₁ hg (hsize.trans hml.symm) (by rw [hb]; exact hdg) hW (X₁.named hnamed) ⟨hf.1, hf.2, hPc (T.setVm vm₁) hT X₁.warmed⟩
  dsimp only [Pt.U, Pt.locs, Pt.cells, Pt.slots] at X' e1 e2 h1 h2 h3 hsteps
  subst h1; subst h2; subst h3
  exact ⟨v, (T.setVm vm₁).calling g' mk' As.toArray, t, U', L', hT, X', hL, e1, e2, hq, fun target h => hstep₁ _ fun acts => by rw [doInvoke_state]; exact hsteps.trans h⟩
theorem al_callD {N : Nat} {x y : Int32} (X : LC p s m meth c b L xs D aC adK adV) (hl : l.stackTraces = false) (X0 : XW s #[Value.ref b]) (hnc : (Cond.not (.castable exN exI)).before #[Value.ref b] s = true) (hN : hC.1 66 11 = nI N) (hN8 : N ≤ 8) (hd : decode code pc = .ok (.invokestatic 39, 3)) (hro : (st.map fun v => v.category).sum ≤ 8) (hcl : cells + 1 ≤ 601024 ∧ slots + 6 ≤ 7293033)
    (kk : ∀ J' : Int64, (dbr N x y = 0 → J' = (dbv hC x y).toInt64) → AL p l e s m below meth c b D aC adK adV (pc + 3) ls (.int (dbr N x y) :: st) hC hM J' (cells + 1) (slots + 6)) : AL p l e s m below meth c b D aC adK adV pc ls (.ref (s.heap.size + 419) :: .int y :: .int x :: .ref s.heap.size :: st) hC hM J cells slots := by
  intro H locs la hP1 hP2 hJ hS hl7
  have run := sl_call (e := e) (below := below) (H := H) (locs := locs) (cells := cells) (slots := slots) (As := [.ref s.heap.size, .int x, .int y, .ref (s.heap.size + 419)]) (rest := st) (g := F0 m pc la (.ref (s.heap.size + 419) :: .int y :: .int x :: .ref s.heap.size :: st)) X.1 (dl_met (D := D) (aC := aC) (ad := fun q => s.heap.size + q) (lj := s.heap.size + 419) (J := J) (x := x) (y := y) hl X0 hnc hN hN8) pcL_blind (fun U hU hW => ⟨rfl, by rw [hU]; exact hP1, va_K.moved hW.alike X.2.2.1, by rw [hU]; exact hJ, hW, fun q hq => by rw [hU]; exact hS.2.1 q hq (Nat.not_le.mpr hq)⟩) rfl rfl hl7.1 rfl (lv_room hro) hd hcl
  intro T hT XT
  obtain ⟨v, st₀, t, T', L', h0, X', hL, e1, e2, ⟨hv, hF, J', hJ', hJv⟩, stp⟩ := run T hT XT
  cases hv
  have hz : H.size ≤ T'.heap.size := by rw [e1, ← h0]; exact hF.1
  have hk : ∀ q : Nat, q < H.size → ¬ q = s.heap.size + 419 → T'.heap[q]? = H[q]? := fun q h1 h2 => by rw [e1, ← h0]; exact hF.2 q (by rw [h0]; exact h1) h2
  obtain ⟨t2, a1, b1⟩ := kk J' hJv T'.heap (locs ++ L') la (hP1.kept (fun k y hy => hk y.1 ((hP1 k y hy).lt) (by
      obtain ⟨x, hx, rfl⟩ := awl_inv hy
      intro hq
      have h8 : k < 373 := by
        have := (List.getElem?_eq_some_iff.mp hx).1
        have h9 : GC.2.2.2.1.length = 373 := aSHC_len
        omega
      have h9 : s.heap.size + k = s.heap.size + 419 := hq
      omega))) (hP2.kept (fun k y hy => hk y.1 ((hP2 k y hy).lt) (by
      obtain ⟨x, hx, rfl⟩ := awl_inv hy
      intro hq
      have h8 : k < 46 := by
        have := (List.getElem?_eq_some_iff.mp hx).1
        have h9 : (GM adK adV).2.2.2.1.length = 46 := aSHM_len
        omega
      have h9 : s.heap.size + 373 + k = s.heap.size + 419 := hq
      omega))) (by rw [e1]; exact hJ') ⟨Nat.le_trans hS.1 hz, fun q h1 h2 => by
        rw [hk q (Nat.lt_of_lt_of_le h1 hS.1) (fun h => by omega)]
        exact hS.2.1 q h1 h2, fun q hq => by
        rcases List.mem_append.mp hq with h | h
        · exact hS.2.2 q h
        · exact (show (q.base : Nat) = s.heap.size + 419 from hL q h) ▸ Nat.le_add_right s.heap.size 419⟩ hl7 T' rfl X'
  exact ⟨t2, stp t2 a1, b1⟩
theorem al_istore {i : Nat} {x : Int32} {ls' : List (Nat × Value)} (X : LC p s m meth c b L xs D aC adK adV) (hd : decode code pc = .ok (.istore i, 2)) (hn : i < 7) (hs : (i, Value.int x) :: ls.filter (fun q => !(q.1 == i) && !(q.1 + 1 == i && q.2.category == 2)) = ls') (k : AL p l e s m below meth c b D aC adK adV (pc + 2) ls' st hC hM J cells slots) : AL p l e s m below meth c b D aC adK adV pc ls (.int x :: st) hC hM J cells slots :=
  AL.lift k (fun H locs la Z hS hl kk => lv_istore X.1.1 X.1.2.1 hd hl hn hs kk)
theorem al_argX {i k p1 p2 p3 p4 : Nat} {n : Int} (j0 j4 : Nat) (X : LC p s m meth c b L xs D aC adK adV) (h0 : ls[j0]? = some (0, .ref b)) (h4 : ls[j4]? = some (4, .int (nI i))) (hi : i + 6 ≤ L) (d0 : decode code pc = .ok (.aload_n 0, 1)) (e1 : p1 = pc + 1) (d1 : decode code p1 = .ok (.iload 4, 2)) (e2 : p2 = p1 + 2) (d2 : decode code p2 = .ok (.iconst n, 1)) (hn : n = k) (hk : k < 6) (e3 : p3 = p2 + 1) (d3 : decode code p3 = .ok (.iadd, 1)) (e4 : p4 = p3 + 1) (d4 : decode code p4 = .ok (.iaload, 1)) (kk : AL p l e s m below meth c b D aC adK adV (p4 + 1) ls (.int (xs (i + k)) :: st) hC hM J cells slots) : AL p l e s m below meth c b D aC adK adV pc ls st hC hM J cells slots := by
  subst e1 e2 e3 e4 hn
  refine al_aload_n X d0 rfl j0 h0 (al_iload X d1 j4 h4 (al_iconst (v := nI k) X d2 rfl (al_iadd X d3 (al_sld (j := i + k) X d4 ?_ (by omega) rfl kk))))
  show Int32.ofNat i + Int32.ofNat k = Int32.ofNat (i + k)
  rw [← Int32.ofNat_add]
theorem al_if_ne {x : Int32} {off : Int} {tgt : Nat} (X : LC p s m meth c b L xs D aC adK adV) (hd : decode code pc = .ok (.ifCond .ne off, 3)) (ht : (pc : Int) + off = (tgt : Int)) (k1 : ¬ x = 0 → AL p l e s m below meth c b D aC adK adV tgt ls st hC hM J cells slots) (k2 : x = 0 → AL p l e s m below meth c b D aC adK adV (pc + 3) ls st hC hM J cells slots) : AL p l e s m below meth c b D aC adK adV pc ls (.int x :: st) hC hM J cells slots := by
  intro H locs la a1 a2 a3 hS hl
  exact lv_if_ne X.1.1 X.1.2.1 hd ht (fun h => k1 h H locs la a1 a2 a3 hS hl) (fun h => k2 h H locs la a1 a2 a3 hS hl)
theorem al_laldJ {i : Int32} (X : LC p s m meth c b L xs D aC adK adV) (hi : i = 0) (hd : decode code pc = .ok (.laload, 1)) (k : AL p l e s m below meth c b D aC adK adV (pc + 1) ls (.long J :: st) hC hM J cells slots) : AL p l e s m below meth c b D aC adK adV pc ls (.int i :: .ref (s.heap.size + 419) :: st) hC hM J cells slots := by
  subst hi
  intro H locs la a1 a2 a3 hS hl
  refine va_lald (ws := [(s.heap.size + 419, .inl (aC .long, 1, .inr (.inl (fun _ => J))))]) (cl := acl) (D := D) X.1.1 X.1.2.1 X.2.2.1 (fun k q hk => ?_) 0 1 rfl (atys_get (G := GC) rfl) (vp_in_nI (n := 0) (by decide) (by decide)) hd (k H locs la a1 a2 a3 hS hl)
  match k, hk with
  | 0, hk => cases hk; exact a3
theorem al_i2l {x : Int32} (X : LC p s m meth c b L xs D aC adK adV) (hd : decode code pc = .ok (.i2l, 1)) (k : AL p l e s m below meth c b D aC adK adV (pc + 1) ls (.long x.toInt64 :: st) hC hM J cells slots) : AL p l e s m below meth c b D aC adK adV pc ls (.int x :: st) hC hM J cells slots :=
  AL.lift k (fun H locs la Z hS hl kk => lv_i2l X.1.1 X.1.2.1 hd rfl (kk la hl))
theorem db_ok (X : LC p s m meth c b L xs D aC adK adV) (hl : l.stackTraces = false) : DbOk p l e s m below meth c b L D aC adK adV := by
  intro i hC hM J cells slots hi g hc1 hc2 hk
  have C0 := X.1
  have X0 : XW s #[Value.ref b] := ⟨C0.2.2.2.2.2.1, lw_g C0 9 (by decide +kernel), lw_g C0 10 (by decide +kernel)⟩
  have hnc : (Cond.not (.castable exN exI)).before #[Value.ref b] s = true := lw_g C0 22 (by decide +kernel)
  obtain ⟨sy, mm, t, n, D0, N, g⟩ := g
  have hN := (g_D g).1
  have hN8 : N ≤ 8 := g.2.1.1.1.2.2.1
  refine al_aload_n X dL_law_352 rfl 1 rfl ?_
  refine al_arg (k := 1) X hi dL_law_353 rfl dL_law_354 rfl dL_law_356 rfl (by decide) rfl dL_law_357 rfl dL_law_358 ?_
  refine al_arg (k := 2) X hi dL_law_359 rfl dL_law_360 rfl dL_law_362 rfl (by decide) rfl dL_law_363 rfl dL_law_364 ?_
  refine al_aload_n X dL_law_365 rfl 3 rfl ?_
  refine al_callD X hl X0 hnc hN hN8 dL_law_366 (by decide) ⟨by omega, by omega⟩ (fun J' hJ' => ?_)
  have hcl : cells + 1 ≤ 601024 ∧ slots + 6 ≤ 7293033 := ⟨by omega, by omega⟩
  refine al_istore (ls' := (5, .int (dbr N (xs (i + 1)) (xs (i + 2)))) :: lsL s b i) X dL_law_369 (by decide) rfl ?_
  refine al_aload_n X dL_law_371 rfl 3 rfl ?_
  refine al_argX (k := 1) 1 5 X rfl rfl hi dL_law_372 rfl dL_law_373 rfl dL_law_375 rfl (by decide) rfl dL_law_376 rfl dL_law_377 ?_
  refine al_argX (k := 2) 1 5 X rfl rfl hi dL_law_378 rfl dL_law_379 rfl dL_law_381 rfl (by decide) rfl dL_law_382 rfl dL_law_383 ?_
  refine al_callM (N := mX10_debt) (d := 200) (As := [.int (xs (i + 1)), .int (xs (i + 2))]) (st := []) X dL_law_384 mkX10_debt rfl lkL_44 miX10_debt mvX10_debt rfl (Nat.le_of_ble_eq_true rfl) (Nat.le_of_ble_eq_true rfl) rfl (by decide) hcl (m_debt (d := 199) (R := fun z hM' => GQ hC hM' sy mm t n D0 N ∧ hM'.1 0 0 = dbr N (xs (i + 1)) (xs (i + 2)) ∧ (dbr N (xs (i + 1)) (xs (i + 2)) = 0 → z = dbv hC (xs (i + 1)) (xs (i + 2)))) g (fun z hM' a1 a2 a3 => ⟨a1, a2, a3⟩)) (fun r h1 hr => ?_)
  obtain ⟨z, rfl, g1, e00, hz⟩ := hr
  refine al_istore (ls' := (6, .int z) :: (5, .int (dbr N (xs (i + 1)) (xs (i + 2)))) :: lsL s b i) X dL_law_387 (by decide) rfl ?_
  refine al_aload_n X dL_law_389 rfl 4 rfl ?_
  refine al_callM (N := mX10_thrown) (d := 200) (As := []) (st := []) X dL_law_390 mkX10_thrown rfl lkL_45 miX10_thrown mvX10_thrown rfl (Nat.le_of_ble_eq_true rfl) (Nat.le_of_ble_eq_true rfl) rfl (by decide) hcl (bX10_thrown_0 (R := fun z hM' => z = h1.1 0 0 ∧ hM' = h1) h1 ⟨rfl, rfl⟩) (fun r h2 hr => ?_)
  obtain ⟨z2, rfl, rfl, rfl⟩ := hr
  rw [e00]
  refine al_iload X dL_law_393 1 rfl ?_
  refine al_icmp_eq (tgt := 400) X dL_law_395 (by decide) ?_
  refine al_iload X dL_law_400 1 rfl ?_
  have fin : AL p l e s m below meth c b D aC adK adV 417 ((6, .int z) :: (5, .int (dbr N (xs (i + 1)) (xs (i + 2)))) :: lsL s b i) [] hC h2 J' (cells + 1) (slots + 6) := by
    refine al_goto (tgt := 1379) X dL_law_417 (by decide) (al_ls [2, 3, 4, 5, 6] rfl (al_widen (by omega) (by omega) (hk hC h2 J' ⟨sy, mm, t, n, D0, N, g1⟩)))
  refine al_if_ne (tgt := 417) X dL_law_402 (by decide) (fun _ => fin) (fun h0 => ?_)
  refine al_aload_n X dL_law_405 rfl 5 rfl (al_iconst (v := 0) X dL_law_406 (by decide) (al_laldJ X rfl dL_law_407 (al_iload X dL_law_408 0 rfl (al_i2l X dL_law_410 ?_))))
  rw [hJ' h0, hz h0]
  refine al_lcmp_eq (tgt := 417) X dL_law_411 dL_law_412 (by decide) ?_
  rw [hJ' h0, hz h0] at fin
  exact fin
end DBL
/-- the law from its entry -/
theorem whole_start {p : Program} {e : Env} {s : State} {m : MethodId} {below : List Frame} {meth : Method} {c : Code} {b L : Nat} {xs : Nat → Int32} (l : Launch) (hl : l.stackTraces = false) (hL : L ≤ 3072) (C0 : lw_At p s m meth c b L xs) : W p l e room_1 s m #[Value.ref b] below meth c s.heap [] 0 0 (lw_Z below #[Value.ref b] s) (entryFrame m ([Value.ref b] : List Value).toArray 7) :=
  whole_from l hL C0 (fun D aC adK adV X => db_ok X hl)
