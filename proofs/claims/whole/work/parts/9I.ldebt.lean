/-! ===== the law's own debt: the class's answer in a cell, how it ended as the answer ===== -/
section DLW
variable {l : Launch} {ad : Nat → Nat} {D : va_G} {aC : FieldType → ClassId} {hC : aH} {N : Nat} {x y : Int32}
abbrev yLd : MethodName := { cls := "TuskLedgerLaw", name := "debt", desc := "(LTuskLedger;II[J)I" }
abbrev hhL : List (Nat × Nat × Nat × Nat) := [(0, 10, 13, 13), (0, 10, 17, 15)]
def wsL : List Cond := .codeWith yLd method_3_code 5 (some .int) hhL :: aTB
theorem dLd_0 : decode method_3_code 0 = .ok (.aload_n 3, 1) := by decide +kernel
theorem dLd_1 : decode method_3_code 1 = .ok (.iconst 0, 1) := by decide +kernel
theorem dLd_2 : decode method_3_code 2 = .ok (.aload_n 0, 1) := by decide +kernel
theorem dLd_3 : decode method_3_code 3 = .ok (.iload_n 1, 1) := by decide +kernel
theorem dLd_4 : decode method_3_code 4 = .ok (.iload_n 2, 1) := by decide +kernel
theorem dLd_5 : decode method_3_code 5 = .ok (.invokevirtual 7, 3) := by decide +kernel
theorem dLd_8 : decode method_3_code 8 = .ok (.i2l, 1) := by decide +kernel
theorem dLd_9 : decode method_3_code 9 = .ok (.lastore, 1) := by decide +kernel
theorem dLd_10 : decode method_3_code 10 = .ok (.goto 11, 3) := by decide +kernel
theorem dLd_13 : decode method_3_code 13 = .ok (.astore 4, 2) := by decide +kernel
theorem dLd_15 : decode method_3_code 15 = .ok (.iconst 1, 1) := by decide +kernel
theorem dLd_16 : decode method_3_code 16 = .ok (.ireturn, 1) := by decide +kernel
theorem dLd_17 : decode method_3_code 17 = .ok (.astore 4, 2) := by decide +kernel
theorem dLd_19 : decode method_3_code 19 = .ok (.iconst 2, 1) := by decide +kernel
theorem dLd_20 : decode method_3_code 20 = .ok (.ireturn, 1) := by decide +kernel
theorem dLd_21 : decode method_3_code 21 = .ok (.iconst 0, 1) := by decide +kernel
theorem dLd_22 : decode method_3_code 22 = .ok (.ireturn, 1) := by decide +kernel
theorem lkLd_39 : Cond.methodLink R_law 39 yLd ∈ aTB := aTB_t 1157 (by decide +kernel) (by decide +kernel)
theorem stLd : Cond.static yLd ∈ aTB := aTB_t 1158 (by decide +kernel) (by decide +kernel)
theorem cwLd : Cond.codeWith yLd method_3_code 5 (some .int) hhL ∈ aTB := aTB_t 1159 (by decide +kernel) (by decide +kernel)
theorem clLd_13 : Cond.classLink R_law 13 exI ∈ aTB := aTB_t 1160 (by decide +kernel) (by decide +kernel)
theorem clLd_15 : Cond.classLink R_law 15 exN ∈ aTB := aTB_t 1161 (by decide +kernel) (by decide +kernel)
theorem lkLd_7 : Cond.methodLink R_law 7 yX9_debt ∈ aTB := aTB_t 1162 (by decide +kernel) (by decide +kernel)
theorem inLd : Cond.initialized R_law ∈ aTB := aTB_t 0 (by decide +kernel) (by decide +kernel)
theorem wsL_good : GoodIn aTB wsL := fun w hw => by
  rcases List.mem_cons.mp hw with rfl | h
  · exact ⟨cwLd, aTB_good _ cwLd⟩
  · exact ⟨h, aTB_good _ h⟩
theorem kp_S {H H' : Heap} (h : ∀ (q : Nat) (ce : Cell), H[q]? = some ce → H'[q]? = some ce) : H.size ≤ H'.size ∧ ∀ q : Nat, q < H.size → H'[q]? = H[q]? := by
  refine ⟨Nat.not_lt.mp fun h1 => ?_, fun q hq => ?_⟩
  · have h2 := h _ _ (Array.getElem?_eq_getElem h1)
    exact absurd (Array.getElem?_eq_some_iff.mp h2).1 (Nat.lt_irrefl _)
  · rw [Array.getElem?_eq_getElem hq]
    exact h q _ (Array.getElem?_eq_getElem hq)
theorem vl_one (cA : ClassId) {f g : Nat → Int64} (h : f 0 = g 0) : vp_cell cA (1, .inr (.inl f)) = vp_cell cA (1, .inr (.inl g)) := by
  rw [vp_cell_l, vp_cell_l]
  unfold arrV
  congr 2
  funext j
  have hj : j.val = 0 := by omega
  rw [hj]
  show Value.long (f 0) = Value.long (g 0)
  rw [h]
theorem tw_rows {L : List ExceptionTableEntry} {a b : Nat × Nat × Nat × Nat} (h : L.map (fun h => (h.startPc, h.endPc, h.handlerPc, h.catchType)) = [a, b]) : ∃ x1 x2 : ExceptionTableEntry, L = [x1, x2] ∧ (x1.startPc, x1.endPc, x1.handlerPc, x1.catchType) = a ∧ (x2.startPc, x2.endPc, x2.handlerPc, x2.catchType) = b := by
  obtain ⟨x1, L1, rfl, h1, h2⟩ := List.map_eq_cons_iff.mp h
  obtain ⟨x2, L2, rfl, h3, h4⟩ := List.map_eq_cons_iff.mp h2
  have h5 := List.map_eq_nil_iff.mp h4
  subst h5
  exact ⟨x1, x2, rfl, h1, h3⟩
theorem te_nc {s U : State} {A B : Array Value} {c d : String} (h : TE s U) (hn : (Cond.not (.castable c d)).before A s = true) : (Cond.not (.castable c d)).before B U = true := by
  have hv := Cond.holds_not_iff.mp hn
  refine Cond.holds_not_iff.mpr ?_
  simp only [Cond.value] at hv ⊢
  rw [h.1.alike.findClass, h.1.alike.findClass]
  simp only [h.1.alike.assignable]
  exact hv
theorem te_go {s0 s U : State} (h : TE s0 s) (hU : U.heap = s.heap) (hW : s.WarmedH U.vm) : TE s0 U := ⟨State.WarmedH.trans h.1 hW, fun q hq => by rw [hU]; exact h.2 q hq⟩
theorem pcD_blind {s0 : State} : FrameBlind (PcD s0 D aC ad hC x y) := fun a U g mk q => ⟨⟨q.1.1, q.1.2.1, va_K.moved (u := U) (U := U.calling g mk a) (Vm.Alike.refl U.vm) q.1.2.2⟩, q.2⟩
def PcL (s0 : State) (D : va_G) (aC : FieldType → ClassId) (ad : Nat → Nat) (hC : aH) (lj : Nat) (J : Int64) (x y : Int32) : Array Value → State → Prop := fun v U => v = [Value.ref (ad 0), .int x, .int y, .ref lj].toArray ∧ va_P D acl (awl GC ad aC hC) U.heap ∧ va_K D acl (atys GC aC) U ∧ U.heap[lj]? = some (vp_cell (aC .long) (1, .inr (.inl (fun _ => J)))) ∧ TE s0 U
def QcL (aC : FieldType → ClassId) (hC : aH) (N lj : Nat) (x y : Int32) : Array Value → State → Outcome → State → Prop := fun _ st o t => o = .returned (some (.int (dbr N x y))) ∧ va_F (fun q => q = lj) st t ∧ ∃ J' : Int64, t.heap[lj]? = some (vp_cell (aC .long) (1, .inr (.inl (fun _ => J')))) ∧ (dbr N x y = 0 → J' = (dbv hC x y).toInt64)
theorem pcL_blind {s0 : State} {lj : Nat} {J : Int64} : FrameBlind (PcL s0 D aC ad hC lj J x y) := fun a U g mk q => ⟨q.1, q.2.1, va_K.moved (u := U) (U := U.calling g mk a) (Vm.Alike.refl U.vm) q.2.2.1, q.2.2.2.1, q.2.2.2.2⟩
theorem dl_met {s0 : State} {A0 : Array Value} {lj : Nat} {J : Int64} (hl : l.stackTraces = false) (X0 : XW s0 A0) (hnc : (Cond.not (.castable exN exI)).before A0 s0 = true) (hN : hC.1 66 11 = nI N) (hN8 : N ≤ 8) : Met l yLd wsL (kR 16 1 6) (PcL s0 D aC ad hC lj J x y) (QcL aC hC N lj x y) 1 6 (fun q => q = lj) := by
  refine va_MetW (cc := method_3_code) (maxL := 5) (ret := some .int) (hh := hhL) (ws' := aTB) (by decide) rfl ?_
  intro p e s m args below meth c s₁ B hml hv
  obtain ⟨rfl, hP, hK, hJ, hTE⟩ := hv
  have hts0 := atoms_spec (ws := wsL) B.pre
  have hts : ∀ w ∈ aTB, w.before [Value.ref (ad 0), .int x, .int y, .ref lj].toArray s = true := fun w hw => hts0 w (List.mem_cons_of_mem _ hw)
  have hx := B.exec
  have hb := B.bytes
  have hown : s.vm.findClass R_law = some m.cls := findClass_of_methodNamed B.named
  have hrec := va_recv (a := ad 0) (ci := 9) hK hP ckX9.1 (awl_get shC0)
  have hl0 := lv_entry [.ref (ad 0), .int x, .int y, .ref lj] (n := 5) (Nat.le_of_ble_eq_true rfl)
  rw [lg_entry_eq]
  generalize (lg_sl [.ref (ad 0), .int x, .int y, .ref lj] ++ List.replicate (5 - (lg_sl [.ref (ad 0), .int x, .int y, .ref lj]).length) Slot.unset).toArray = la at hl0 ⊢
  have hla : lv_has la 5 [(0, .ref (ad 0)), (1, .int x), (2, .int y), (3, .ref lj)] := hl0
  refine lv_aload_n hx hb dLd_0 rfl (lv_at hla 3 rfl) (lv_iconst (v := 0) hx hb dLd_1 (by decide) (lv_aload_n hx hb dLd_2 rfl (lv_at hla 0 rfl) (lv_iload_n hx hb dLd_3 rfl (lv_at hla 1 rfl) (lv_iload_n hx hb dLd_4 rfl (lv_at hla 2 rfl) ?_))))
  by_cases hr : dbr N x y = 0
  · have hcb : CallB (kR 16 1 6) s [Value.ref (ad 0), .int x, .int y, .ref lj].toArray R_law 7 yX9_debt cX9_debt 3 (some .int) (aws mX9_debt) (kR 8 1 6) 1 6 2 := callB_of 2 hts (aws_good mkX9_debt) rfl rfl rfl (hts _ mkX9_debt.2.2.1) (hts _ lkLd_7) mkX9_debt.2.2.2.1 (by decide)
    have run := va_runV (meth := meth) (below := below) (e := e) (H := s.heap) (locs := []) (cells := 0) (slots := 0) (g := F0 m 5 la [.int y, .int x, .ref (ad 0), .int 0, .ref lj]) (C := RX9) (b := ad 0) (As := [.int x, .int y]) (rest := [.int 0, .ref lj]) ⟨hx, hb, hml, hown, hts⟩ (db_met0 (D := D) (aC := aC) (ad := ad) (x := x) (y := y) hl X0 hN hN8 hr) ⟨hcb, hts _ miX9_debt, hts _ mvX9_debt⟩ ⟨pcD_blind, hrec, fun U hU hW => ⟨⟨rfl, by rw [hU]; exact hP, va_K.moved hW.alike hK⟩, te_go hTE hU hW⟩⟩ rfl rfl hla.1 rfl (lv_room (Nat.le_of_ble_eq_true rfl)) dLd_5 ⟨by decide, by decide⟩
    intro T hT XT
    obtain ⟨v, st₀, t, T', L', h0, X', hL, e1, e2, ⟨hv, hh⟩, stp⟩ := run T hT XT
    cases hv
    have hL0 : L' = [] := List.eq_nil_iff_forall_not_mem.mpr (fun q hq => hL q hq)
    subst hL0
    have hkp := kp_S (H := s.heap) (H' := T'.heap) (fun q ce hq => by rw [e1]; exact hh q ce (by rw [h0]; exact hq))
    have hJ' : T'.heap[lj]? = some (vp_cell (aC .long) (1, .inr (.inl (fun _ => J)))) := by rw [hkp.2 lj (Array.getElem?_eq_some_iff.mp hJ).1]; exact hJ
    have fin : W p l e (kR 16 1 6) s m [Value.ref (ad 0), .int x, .int y, .ref lj].toArray below meth c T'.heap ([] ++ []) (0 + 1) (0 + 6) (MQ below (QcL aC hC N lj x y) [Value.ref (ad 0), .int x, .int y, .ref lj].toArray s 1 6 (fun q => q = lj)) (F0 m 8 la [.int (dbv hC x y), .int 0, .ref lj]) := by
      refine lv_i2l hx hb dLd_8 rfl ?_
      refine va_last (ws := [(lj, .inl (aC .long, 1, .inr (.inl (fun _ => J))))]) (A := fun q => q = lj) (H0 := s.heap) (a := lj) (cl := acl) (D := D) hx hb hK (fun k q hk => ?_) ⟨fun i j p q hi hj hpq => ?_, fun k q hk => ?_⟩ ⟨hkp.1, fun q h1 _ => hkp.2 q h1, fun q hq => by cases hq⟩ 0 1 rfl (atys_get (G := GC) rfl) (vp_in_nI (n := 0) (by decide) (by decide)) dLd_9 (fun H1 locs1 hP1 hD1 hS1 => ?_)
      · match k, hk with
        | 0, hk => cases hk; exact hJ'
      · match i, j, hi, hj with
        | 0, 0, _, _ => rfl
      · match k, hk with
        | 0, hk => cases hk; rfl
      · refine lv_goto (tgt := 21) hx hb dLd_10 (by decide) (lv_iconst (v := 0) hx hb dLd_21 (by decide) ?_)
        refine W.iret hx hb B.returns (fun t ht hW => ?_) hS1.2.2 dLd_22 B.notSynchronized
        have h9 : H1[lj]? = some (vp_cell (aC .long) (1, .inr (.inl (vp_updL (fun _ => J) (0 : Int32).toNatClampNeg (dbv hC x y).toInt64)))) := hP1 0 _ rfl
        exact ⟨by rw [hr], hS1.F ht, (dbv hC x y).toInt64, by rw [ht, h9, vl_one (aC .long) (g := fun _ => (dbv hC x y).toInt64) rfl], fun _ => rfl⟩
    obtain ⟨t2, a1, b1⟩ := fin T' rfl X'
    exact ⟨t2, stp t2 a1, b1⟩
  · obtain ⟨cellB, c1, c2, c3⟩ := hrec
    intro T hT XT
    obtain ⟨T', a, ce, cls, vm₁, X', hce, hcv, hW₁, hfc, hcs, hkp0, st⟩ := db_runT (D := D) (aC := aC) (ad := ad) (hC := hC) (N := N) (x := x) (y := y) (own := R_law) (ix := 7) hl X0 hN hN8 hr XT hx hown hts lkLd_7 (by decide) (by decide) (by decide) (by decide) (cellB := cellB) (by rw [hT]; exact c1) c2 c3 (g := F0 m 5 la [.int y, .int x, .ref (ad 0), .int 0, .ref lj]) (rest := [.int 0, .ref lj]) rfl (hla.1.trans hml.symm) rfl (lv_room (Nat.le_of_ble_eq_true rfl)) (by rw [hb]; exact dLd_5) (fun U hU hW => ⟨⟨rfl, by rw [hU, hT]; exact hP, va_K.moved hW.alike hK⟩, te_go hTE (by rw [hU, hT]) hW⟩)
    have hkp := kp_S (H := s.heap) (H' := T'.heap) (fun q k hq => hkp0 q k (by rw [hT]; exact hq))
    have hJ' : T'.heap[lj]? = some (vp_cell (aC .long) (1, .inr (.inl (fun _ => J)))) := by rw [hkp.2 lj (Array.getElem?_eq_some_iff.mp hJ).1]; exact hJ
    have hfs : s.vm.findClass cls = some ce.cls := by rw [← hW₁.alike.findClass]; exact hfc
    obtain ⟨m9, meth9, c9, g1, g2, g3, -, -, g4, -⟩ := Cond.codeWith_spec (hts0 _ List.mem_cons_self)
    cases B.named.symm.trans g1
    cases XT.method.symm.trans g2
    cases XT.code.symm.trans g3
    obtain ⟨x1, x2, htab, r1, r2⟩ := tw_rows g4
    simp only [Prod.mk.injEq] at r1 r2
    obtain ⟨a1, a2, a3, a4⟩ := r1
    obtain ⟨b1, b2, b3, b4⟩ := r2
    have fin : ∀ (V : Vm) (pc : Nat) (i : Int) (v : Int32), decode method_3_code pc = .ok (.astore 4, 2) → decode method_3_code (pc + 2) = .ok (.iconst i, 1) → decode method_3_code (pc + 2 + 1) = .ok (.ireturn, 1) → Int32.ofInt i = v → dbr N x y = v → W p l e (kR 16 1 6) s m [Value.ref (ad 0), .int x, .int y, .ref lj].toArray below meth c T'.heap ([] ++ []) (0 + 1) (0 + 6) (MQ below (QcL aC hC N lj x y) [Value.ref (ad 0), .int x, .int y, .ref lj].toArray s 1 6 (fun q => q = lj)) (F0 m pc la [.ref a]) := by
      intro V pc i v d0 d1 d2 hi hv
      refine lv_astore hx hb d0 hla (by decide) rfl (fun la' hla' => lv_iconst hx hb d1 hi ?_)
      refine W.iret hx hb B.returns (fun t ht hW => ?_) (fun q hq => by cases hq) d2 B.notSynchronized
      exact ⟨by rw [hv], ⟨by rw [ht]; exact hkp.1, fun q h1 _ => by rw [ht]; exact hkp.2 q h1⟩, J, by rw [ht]; exact hJ', fun h => absurd h hr⟩
    rcases hcs with ⟨h1, rfl⟩ | ⟨h1, rfl⟩
    · obtain ⟨V, XV, stV⟩ := ct_two X' (a := a) (g := F0 m 5 la [.int 0, .ref lj]) rfl hown (n1 := exI) (n2 := exN) (pc := 13) htab (by show (decide (x1.startPc ≤ 5) && decide (5 < x1.endPc)) = true; rw [a1, a2]; decide) (by show (decide (x2.startPc ≤ 5) && decide (5 < x2.endPc)) = true; rw [b1, b2]; decide) (by rw [a4]; decide) (by rw [b4]; decide) (by rw [a4]; exact hts _ clLd_13) (by rw [b4]; exact hts _ clLd_15) hce hcv hfs (Or.inl ⟨te_t X0 hTE hts (i := 1168) (by decide +kernel) (Or.inr (Or.inl ⟨_, _, rfl⟩)), a3.symm⟩)
      obtain ⟨t2, q1, q2⟩ := fin V 13 1 1 dLd_13 dLd_15 dLd_16 (by decide) h1 (T'.setVm V) rfl XV
      exact ⟨t2, st t2 (stV t2 q1), q2⟩
    · obtain ⟨V, XV, stV⟩ := ct_two X' (a := a) (g := F0 m 5 la [.int 0, .ref lj]) rfl hown (n1 := exI) (n2 := exN) (pc := 17) htab (by show (decide (x1.startPc ≤ 5) && decide (5 < x1.endPc)) = true; rw [a1, a2]; decide) (by show (decide (x2.startPc ≤ 5) && decide (5 < x2.endPc)) = true; rw [b1, b2]; decide) (by rw [a4]; decide) (by rw [b4]; decide) (by rw [a4]; exact hts _ clLd_13) (by rw [b4]; exact hts _ clLd_15) hce hcv hfs (Or.inr ⟨te_nc hTE hnc, te_t X0 hTE hts (i := 1230) (by decide +kernel) (Or.inr (Or.inl ⟨_, _, rfl⟩)), b3.symm⟩)
      obtain ⟨t2, q1, q2⟩ := fin V 17 2 2 dLd_17 dLd_19 dLd_20 (by decide) h1 (T'.setVm V) rfl XV
      exact ⟨t2, st t2 (stV t2 q1), q2⟩
end DLW
