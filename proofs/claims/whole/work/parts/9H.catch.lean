/-! ===== catching, where the handlers' classes may not be resolved yet ===== -/
section CTC
/-- one row of the handlers whose class links: it is noted, and catches or is passed -/
theorem ct_row {e : Env} {s S : State} {f : JFrame} {a : Addr} {x : ExceptionTableEntry} {t : List ExceptionTableEntry} {c : ClassId} {cell : Cell} (hW : s.WarmedH S.vm) (hx : covers x f.pc = true) (h0 : x.catchType ≠ 0) (hl : s.vm.ClassLinks e.platform f.method.cls x.catchType c) (hcell : S.heap[a]? = some cell) (hobj : cell.vm = .none) (hk : ∃ k, s.vm.classes[cell.cls]? = some k) :
    ∃ V : Vm, s.WarmedH V ∧ (s.vm.assignable cell.cls c = true → ∀ (Q : Handler → Pre) (E : CtlPost) (d : Bool) (acts : List Action), wp (findHandler.go f a (x :: t)) Q E e d acts S ↔ Q (.found x.handlerPc) d acts (S.setVm V)) ∧ (s.vm.assignable cell.cls c = false → ∀ (Q : Handler → Pre) (E : CtlPost) (d : Bool) (acts : List Action), wp (findHandler.go f a (x :: t)) Q E e d acts S ↔ wp (findHandler.go f a t) Q E e d acts (S.setVm V)) := by
  obtain ⟨_, _, _, kc, hd, _, _, _, _, hkc, _, hop⟩ := hl.here
  have hV := hW.noted hd hop (State.rightAt_cls hl)
  have hlS := hW.classLinks hl
  obtain ⟨r1, r2⟩ := (resolveClass_links e.toSetting hlS).op (op := VmOp.resolveClass f.method.cls x.catchType) rfl
  obtain ⟨k, hk⟩ := hk
  obtain ⟨k1, w1, -⟩ := hV.alike.2.2 _ _ hk
  obtain ⟨k2, w2, -⟩ := hV.alike.2.2 _ _ hkc
  have hx' : (decide (x.startPc ≤ f.pc) && decide (f.pc < x.endPc)) = true := hx
  have as := hV.alike.assignable cell.cls c
  refine ⟨_, hV, fun h Q E d acts => ?_, fun h Q E d acts => ?_⟩
  · rw [h] at as
    simp [findHandler.go, hx', h0, r1, r2, hcell, hobj, w1, w2, as, VmOp.dirties, VmOp.acts]
  · rw [h] at as
    simp [findHandler.go, hx', h0, r1, r2, hcell, hobj, w1, w2, as, VmOp.dirties, VmOp.acts]
/-- the step into the handler -/
theorem ct_step {tb : Tables} {e : Env} {s target : State} {g : JFrame} {c : Code} {below : List Frame} {a : Addr} {V : Vm} {pc : Nat} (h : At s g.method c below) (hf : ∀ (Q : Handler → Pre) (E : CtlPost) (d : Bool) (acts : List Action), wp (findHandler g a) Q E e d acts ((s.setTop g).pushFrame (.throwing a)) ↔ Q (.found pc) d acts (((s.setTop g).pushFrame (.throwing a)).setVm V)) (hr : Steps tb e below ((s.setVm V).setTop { g with pc := pc, stack := [.ref a] }) target) : Steps tb e below ((s.setTop g).pushFrame (.throwing a)) target := by
  obtain ⟨go, wi⟩ := h.throwing a
  obtain ⟨g₀, hg⟩ := Option.isSome_iff_exists.mp h.top
  obtain ⟨r, hrr⟩ := State.topJava?_eq_some.mp hg
  have one : (stepThrowing e ((s.setTop g).pushFrame (.throwing a)) a (.java g :: s.frames.tail)).Is ((((s.setTop g).pushFrame (.throwing a)).setVm V).setFrames (.java { g with pc := pc, stack := [.ref a] } :: s.frames.tail)) [] := by
    simp only [stepThrowing, searchFrame, vmDo]
    generalize hres : Sem.go _ e false [] _ = res
    obtain ⟨as, rfl, ha⟩ := Sem.eq_ok_of hres (a := Handler.found pc) (s' := ((s.setTop g).pushFrame (.throwing a)).setVm V) (acts' := []) (by simp [hf _ _ _ _])
    exact ⟨rfl, ha⟩
  refine Steps.head go wi ?_
  rw [stepThread_throwing (frames_entered h.top _), one.1]
  have e1 : (((s.setTop g).pushFrame (.throwing a)).setVm V).setFrames (.java { g with pc := pc, stack := [.ref a] } :: s.frames.tail) = (s.setVm V).setTop { g with pc := pc, stack := [.ref a] } := by
    have hr2 : (s.setVm V).frames = .java g₀ :: r := hrr
    rw [State.setTop_of_frames _ hr2, State.pushFrame, State.setTop_of_frames _ hrr, hrr, List.tail_cons]
    have e2 : ∀ (u : State) (F G : List Frame), ((u.setFrames F).setVm V).setFrames G = (u.setVm V).setFrames G := fun u F G => by
      rw [show (u.setFrames F).setVm V = (u.setVm V).setFrames F from rfl, State.setFrames_setFrames]
    rw [e2, e2]
  rw [e1]
  exact hr
/-- two rows over the pc: the first catches, or the second -/
theorem ct_two {p : Program} {l : Launch} {e : Env} {R : Room} {s : State} {m : MethodId} {args : Array Value} {below : List Frame} {meth : Method} {c : Code} {T : State} {locs : List Loc} {cells slots : Nat} (X : Stand p l e R s m args below meth c T locs cells slots) {a : Addr} {g : JFrame} (hg : g.method = m) {own n1 n2 cls : String} (hown : s.vm.findClass own = some m.cls) {x1 x2 : ExceptionTableEntry} (htab : c.exceptionTable.toList = [x1, x2]) (v1 : covers x1 g.pc = true) (v2 : covers x2 g.pc = true) (z1 : x1.catchType ≠ 0) (z2 : x2.catchType ≠ 0) (l1 : (Cond.classLink own x1.catchType n1).before args s = true) (l2 : (Cond.classLink own x2.catchType n2).before args s = true) {cell : Cell} (hcell : T.heap[a]? = some cell) (hobj : cell.vm = .none) (hcls : s.vm.findClass cls = some cell.cls) {pc : Nat} (hc : ((Cond.castable cls n1).before args s = true ∧ pc = x1.handlerPc) ∨ ((Cond.not (.castable cls n1)).before args s = true ∧ (Cond.castable cls n2).before args s = true ∧ pc = x2.handlerPc)) :
    ∃ V : Vm, Stand p l e R s m args below meth c (T.setVm V) locs cells slots ∧ ∀ target, Steps p.tables e below ((T.setVm V).setTop { g with pc := pc, stack := [.ref a] }) target → Steps p.tables e below ((T.setTop g).pushFrame (.throwing a)) target := by
  subst hg
  have hpl : e.platform.magicAccessors = ({} : Platform).magicAccessors := by rw [X.admits.platform]
  obtain ⟨c1, f1, k1⟩ := Cond.classLink_spec hown l1 e.platform hpl
  obtain ⟨c2, f2, k2⟩ := Cond.classLink_spec hown l2 e.platform hpl
  have hk := Vm.classAt_of_findClass hcls
  have hW : s.WarmedH ((T.setTop g).pushFrame (.throwing a)).vm := by rw [Stand.throwing_vm]; exact X.warmed
  have hce : ((T.setTop g).pushFrame (.throwing a)).heap[a]? = some cell := by rw [Stand.throwing_heap]; exact hcell
  have hmt : ((T.setTop g).pushFrame (.throwing a)).vm.method? g.method = some meth := by rw [Stand.throwing_vm]; exact X.method'
  obtain ⟨V1, w1, yes1, no1⟩ := ct_row (f := g) (a := a) (x := x1) (t := [x2]) hW v1 z1 k1 hce hobj hk
  rcases hc with ⟨h1, rfl⟩ | ⟨h1, h2, rfl⟩
  · obtain ⟨_, _, q1, q2, q3⟩ := Cond.castable_spec h1
    cases hcls.symm.trans q1
    cases f1.symm.trans q2
    refine ⟨V1, X.noted w1, fun target hr => ct_step X.here (fun Q E d acts => ?_) hr⟩
    rw [W.findHandler_eq hmt X.code, htab]
    exact yes1 q3 Q E d acts
  · obtain ⟨_, _, q1, q2, q3⟩ := Cond.castable_spec h2
    cases hcls.symm.trans q1
    cases f2.symm.trans q2
    have hv := Cond.holds_not_iff.mp h1
    simp only [Cond.value, hcls, f1] at hv
    have hno := Option.some.inj hv
    obtain ⟨V2, w2, yes2, no2⟩ := ct_row (s := s) (S := ((T.setTop g).pushFrame (.throwing a)).setVm V1) (f := g) (a := a) (x := x2) (t := []) w1 v2 z2 k2 hce hobj hk
    refine ⟨V2, X.noted w2, fun target hr => ct_step X.here (fun Q E d acts => ?_) hr⟩
    rw [W.findHandler_eq hmt X.code, htab, no1 hno Q E d acts]
    exact yes2 q3 Q E d acts
end CTC
