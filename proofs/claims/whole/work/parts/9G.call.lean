/-! ===== debt of the class, as it is called ===== -/
section DBK
variable {l : Launch} {ad : Nat → Nat} {D : va_G} {aC : FieldType → ClassId} {hC : aH} {N : Nat} {x y : Int32}
/-- answered -/
theorem db_met0 {s0 : State} {A0 : Array Value} (hl : l.stackTraces = false) (X0 : XW s0 A0) (hN : hC.1 66 11 = nI N) (hN8 : N ≤ 8) (hr : dbr N x y = 0) : Met l mX9_debt.1 (aws mX9_debt) (kR 8 1 6) (PcD s0 D aC ad hC x y) (fun _ st o t => o = .returned (some (.int (dbv hC x y))) ∧ ∀ (q : Nat) (ce : Cell), st.heap[q]? = some ce → t.heap[q]? = some ce) 1 6 (fun _ => False) := by
  intro p e h1 h2 h3 s m args below h4 h5 h6 h7
  obtain ⟨n, o, a1, a2, a3, hW, hS, hQ⟩ := db_met (D := D) (aC := aC) (ad := ad) (x := x) (y := y) hl X0 hN hN8 p e h1 h2 h3 s m args below h4 h5 h6 h7
  refine ⟨n, o, a1, a2, a3, ?_⟩
  rcases hQ with ⟨-, rfl⟩ | ⟨a, cls, ce, rfl, -, -, -, hq⟩
  · exact ⟨⟨rfl, fun q ce hc => State.sameButNew.old_cell hS hc⟩, [], ⟨⟨_, rfl⟩, hW, hS⟩, fun q hq => by cases hq⟩
  · rcases hq with ⟨hq, -⟩ | ⟨hq, -⟩ <;> rw [hr] at hq <;> exact absurd hq (by decide)
/-- thrown: the caller stands with the exception over its frame -/
theorem db_runT {p : Program} {e : Env} {R : Room} {s T : State} {m : MethodId} {args : Array Value} {below : List Frame} {meth : Method} {c : Code} {locs : List Loc} {cells slots ix : Nat} {own : String} {g : JFrame} {rest : List Value} {s0 : State} {A0 : Array Value} (hl : l.stackTraces = false) (X0 : XW s0 A0) (hN : hC.1 66 11 = nI N) (hN8 : N ≤ 8) (hr : ¬ dbr N x y = 0)
    (X : Stand p l e R s m args below meth c T locs cells slots) (hexec : p.tables.exec = Jvm.exec) (hown : s.vm.findClass own = some m.cls) (hts : ∀ w ∈ aTB, w.before args s = true) (hlk : Cond.methodLink own ix yX9_debt ∈ aTB) (hf : 9 ≤ R.frames) (hlo : 8 + (3 + 11) + 512 ≤ R.locals) (hc1 : cells + 1 ≤ R.cells) (hc2 : slots + 6 ≤ R.slots)
    {cellB : Cell} (hcell : T.heap[ad 0]? = some cellB) (hobj : cellB.vm.isStatics = false) (hcls : s.vm.findClass RX9 = some cellB.cls)
    (hg : g.method = m) (hsize : g.locals.size = c.maxLocals) (hstack : g.stack = [.int y, .int x, .ref (ad 0)] ++ rest) (hW8 : 2 * g.monitorRoom + (rest.map fun v => v.category).sum ≤ 8) (hdg : decode c.code g.pc = .ok (.invokevirtual ix, 3))
    (hpre : ∀ U : State, U.heap = T.heap → s.WarmedH U.vm → PcD s0 D aC ad hC x y #[.ref (ad 0), .int x, .int y] U) :
    ∃ (T' : State) (a : Addr) (ce : Cell) (cls : String) (vm₁ : Vm), Stand p l e R s m args below meth c T' (locs ++ []) (cells + 1) (slots + 6) ∧ T'.heap[a]? = some ce ∧ ce.vm = .none ∧ s.WarmedH vm₁ ∧ vm₁.findClass cls = some ce.cls ∧ (dbr N x y = 1 ∧ cls = exI ∨ dbr N x y = 2 ∧ cls = exN) ∧ (∀ (q : Nat) (k : Cell), T.heap[q]? = some k → T'.heap[q]? = some k) ∧
      ∀ target, Steps p.tables e below ((T'.setTop { g with stack := rest }).pushFrame (.throwing a)) target → Steps p.tables e below (T.setTop g) target := by
  have K := mkX9_debt
  have hcode := hts _ K.2.1
  obtain ⟨mk, methM, hnamed, hmethM, hstM, habM⟩ := Cond.instanceMethod_spec (hts _ miX9_debt)
  obtain ⟨methM', cM, hmethM', -, -, -, -, -, -, hsigM⟩ := Cond.code_spec hnamed hcode
  cases hmethM.symm.trans hmethM'
  obtain ⟨c2, r2, m2, q1, q2, q3, q4, kP, hkP, hkPi⟩ := Cond.selects_spec (hts _ mvX9_debt)
  cases hcls.symm.trans q1
  cases (State.methodFound?_of_named hnamed ⟨K.2.2.2.1.1, K.2.2.2.1.2.1⟩).symm.trans q2
  cases hnamed.symm.trans q3
  have hselP : selectMethod e.platform s.vm cellB.cls mk = .method mk := by rw [Launch.admits_selectMethod X.admits]; exact q4
  obtain ⟨vm₁, X₁, hstep₁⟩ := X.invokevirtual hexec hown (hts _ hlk) hnamed hmethM hstM hkP hkPi ⟨K.2.2.2.1.1, K.2.2.2.1.2.1⟩ (a := ad 0) (cell := cellB) hcell (fun z h => by rw [h] at hobj; cases hobj) hselP hmethM habM hkP hkPi (g := g) hg (argsL := [.int x, .int y]) (rest := rest) (by
    have h9 := K.2.2.2.1.2.2
    rw [hsigM] at h9
    exact (Option.some.inj h9).symm) hstack hdg
  have hws := pay_in hts (aws_good K)
  have hn := X₁.named hnamed
  have h2 : (Cond.code yX9_debt cX9_debt 3 (some .int)).before #[.ref (ad 0), .int x, .int y] (T.setVm vm₁) = true := hws _ List.mem_cons_self _ _ X₁.warmed
  have h3 : (Cond.initialized yX9_debt.cls).before #[.ref (ad 0), .int x, .int y] (T.setVm vm₁) = true := hws _ (List.mem_cons_of_mem _ K.2.2.1) _ _ X₁.warmed
  obtain ⟨methY, cY, hmY, hcY, -, hlY, -, -, -, -⟩ := Cond.code_spec hn h2
  obtain ⟨kY, hkY, -⟩ := className_of_methodNamed hn
  have hinitY : kY.init = .initialized := Cond.initialized_spec (findClass_of_methodNamed hn) hkY h3
  have hAt : At (T.setVm vm₁) ({ g with stack := rest } : JFrame).method c below := by
    show At (T.setVm vm₁) g.method c below
    rw [hg]; exact X₁.here
  have happ : (headSpec (aws mX9_debt) (kR 8 1 6)).appliesLoose yX9_debt e.platform ((T.setVm vm₁).calling { g with stack := rest } mk #[.ref (ad 0), .int x, .int y]) = true :=
    Spec.appliesLoose_calling (g := { g with stack := rest }) hAt hdg hn hkY hinitY
      (X₁.room_calling (g := { g with stack := rest }) (R' := kR 8 1 6) hsize hmY hcY hf (by
        rw [hlY]
        have h9 : 2 * ({ g with stack := rest } : JFrame).monitorRoom + (rest.map fun v => v.category).sum ≤ 8 := hW8
        show 2 * ({ g with stack := rest } : JFrame).monitorRoom + (rest.map fun v => v.category).sum + (3 + 11) + 512 ≤ R.locals
        omega) hc1 hc2) (atoms_intro fun w hw => hws w hw _ _ X₁.warmed)
  obtain ⟨mid, hmid⟩ := hAt.above
  have hfr : ((T.setVm vm₁).setTop { g with stack := rest }).frames = (.java { g with stack := rest } :: mid) ++ below := by rw [State.frames_setTop' _ hAt.top, hmid]; rfl
  obtain ⟨o, s₂, hsteps, -, hend, hq⟩ := Steps.callFree (db_met (D := D) (aC := aC) (ad := ad) (x := x) (y := y) hl X0 hN hN8) p X.admits X.cas X.clock (acts := []) hfr happ (hpre _ rfl X₁.warmed) trivial
  obtain ⟨hW₂, hS₂, hQ⟩ := hq
  rcases hQ with ⟨h0, -⟩ | ⟨a, cls, ce, rfl, hce, hvm, hfc, hcs⟩
  · exact absurd h0 hr
  rw [State.frames_setTop' _ hAt.top, X₁.tail] at hend
  obtain ⟨T', X', hW', hsame', ht⟩ := X₁.outOfThrown (g := { g with stack := rest }) hg hend hW₂ hS₂
  refine ⟨T', a, ce, cls, vm₁, X', ?_, hvm, X₁.warmed, hfc, hcs, fun q k hk => ?_, fun target h => hstep₁ _ fun acts => ?_⟩
  · rw [ht, Stand.throwing_heap] at hce
    exact hce
  · exact State.sameButNew.old_cell hsame' hk
  · rw [doInvoke_state]
    rw [← ht] at h
    exact hsteps.trans h
end DBK
