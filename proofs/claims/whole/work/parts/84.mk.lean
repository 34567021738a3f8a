/-! ===== making objects: cells one behind another ===== -/
def cw : Nat → List va_E → va_W
  | _, [] => []
  | b, e :: r => (b, e) :: cw (b + 1) r
theorem cw_get : ∀ (ws : List va_E) (b k : Nat), (cw b ws)[k]? = (ws[k]?).map (fun e => (b + k, e))
  | [], b, k => by simp [cw]
  | e :: r, b, 0 => by simp [cw]
  | e :: r, b, k + 1 => by
    show (cw (b + 1) r)[k]? = (r[k]?).map (fun e => (b + (k + 1), e))
    rw [cw_get r (b + 1) k, show b + 1 + k = b + (k + 1) by omega]
theorem cw_app : ∀ (x y : List va_E) (b : Nat), cw b (x ++ y) = cw b x ++ cw (b + x.length) y
  | [], y, b => rfl
  | e :: r, y, b => by
    show (b, e) :: cw (b + 1) (r ++ y) = (b, e) :: (cw (b + 1) r ++ cw (b + (r.length + 1)) y)
    rw [cw_app r y (b + 1), show b + 1 + r.length = b + (r.length + 1) by omega]
theorem cw_set : ∀ (ws : List va_E) (b k : Nat) (e : va_E), (cw b ws).set k (b + k, e) = cw b (ws.set k e)
  | [], b, k, e => by simp [cw]
  | x :: r, b, 0, e => by simp [cw]
  | x :: r, b, k + 1, e => by
    show (b, x) :: (cw (b + 1) r).set k (b + (k + 1), e) = (b, x) :: cw (b + 1) (r.set k e)
    rw [show b + (k + 1) = b + 1 + k by omega, cw_set r (b + 1) k e]
theorem cw_at {ws : List va_E} {b k : Nat} {e : va_E} (h : ws[k]? = some e) : (cw b ws)[k]? = some (b + k, e) := by rw [cw_get, h]; rfl
theorem cw_inv {ws : List va_E} {b k : Nat} {q : Nat × va_E} (h : (cw b ws)[k]? = some q) : ws[k]? = some q.2 ∧ q.1 = b + k := by
  rw [cw_get] at h
  obtain ⟨e, h1, rfl⟩ := Option.map_eq_some_iff.mp h
  exact ⟨h1, rfl⟩
theorem cw_D (b : Nat) (ws : List va_E) : va_D (fun q => b ≤ q) (cw b ws) := by
  refine ⟨fun i j p q hi hj e => ?_, fun k q hk => ?_⟩
  · have h1 := (cw_inv hi).2
    have h2 := (cw_inv hj).2
    omega
  · have h1 := (cw_inv hk).2
    show b ≤ q.1
    omega
/-- from this frame of a constructor over the cells ws from b on, it comes to its end -/
def AK (l : Launch) (D : va_G) (aC : FieldType → ClassId) (Zs : State → Prop) (R : Room) (M : aM) (b mc ms : Nat) (Qc : Array Value → State → Outcome → State → Prop) (pc : Nat) (ls : List (Nat × Value)) (st : List Value) (ws : List va_E) (cells slots : Nat) : Prop :=
  ∀ (p : Program) (e : Env) (s : State) (m : MethodId) (args : Array Value) (below : List Frame) (meth : Method) (c : Code) (H : Heap) (locs : List Loc) (la : Array Slot),
    aX GC M p s m args meth c D aC → meth.name = "<init>" → (H.size = b + ws.length ∧ H.size = s.heap.size + cells) → va_P D acl (cw b ws) H → va_S (fun q => b ≤ q) s.heap H locs → Zs s → lv_has la M.2.2.1 ls →
    W p l e R s m args below meth c H locs cells slots (MQ below Qc args s mc ms (fun q => b ≤ q)) (F0 m pc la st)
def kSt (b : Nat) (Zs : State → Prop) : Prop := ∀ (s U : State), Zs s → s.WarmedH U.vm → s.heap.size ≤ U.heap.size → (∀ q : Nat, q < s.heap.size → ¬ b ≤ q → U.heap[q]? = s.heap[q]?) → Zs U
def PcK (D : va_G) (aC : FieldType → ClassId) (Zs : State → Prop) (b : Nat) (As : List Value) (ws0 : List va_E) : Array Value → State → Prop := fun v U => v = (Value.ref b :: As).toArray ∧ U.heap.size = b + ws0.length ∧ va_P D acl (cw b ws0) U.heap ∧ va_K D acl (atys GC aC) U ∧ Zs U
def QcK (D : va_G) (b : Nat) (ws1 : List va_E) : Array Value → State → Outcome → State → Prop := fun _ st o t => o = .returned none ∧ t.heap.size = b + ws1.length ∧ va_P D acl (cw b ws1) t.heap ∧ va_F (fun q => b ≤ q) st t
def kR (d mc ms : Nat) : Room := { frames := d, cells := mc, slots := ms, locals := 64 * d }
section AKR
variable {l : Launch} {D : va_G} {aC : FieldType → ClassId} {Zs : State → Prop} {R : Room} {M : aM} {b mc ms : Nat} {Qc : Array Value → State → Outcome → State → Prop} {pc : Nat} {ls : List (Nat × Value)} {st : List Value} {ws : List va_E} {cells slots : Nat}
theorem AK.lift {pc' : Nat} {ls' : List (Nat × Value)} {st' : List Value} (k : AK l D aC Zs R M b mc ms Qc pc' ls' st' ws cells slots)
    (f : ∀ (p : Program) (e : Env) (s : State) (m : MethodId) (args : Array Value) (below : List Frame) (meth : Method) (c : Code) (H : Heap) (locs : List Loc) (la : Array Slot) (Z : State → Prop), aX GC M p s m args meth c D aC → lv_has la M.2.2.1 ls → (∀ la', lv_has la' M.2.2.1 ls' → W p l e R s m args below meth c H locs cells slots Z (F0 m pc' la' st')) → W p l e R s m args below meth c H locs cells slots Z (F0 m pc la st)) : AK l D aC Zs R M b mc ms Qc pc ls st ws cells slots :=
  fun p e s m args below meth c H locs la X hi hz hP hS hZ hl => f p e s m args below meth c H locs la _ X hl (fun la' hl' => k p e s m args below meth c H locs la' X hi hz hP hS hZ hl')
theorem ak_iconst {n : Int} {v : Int32} (hd : decode M.2.1 pc = .ok (.iconst n, 1)) (hv : Int32.ofInt n = v) (k : AK l D aC Zs R M b mc ms Qc (pc + 1) ls (.int v :: st) ws cells slots) : AK l D aC Zs R M b mc ms Qc pc ls st ws cells slots :=
  AK.lift k (fun p e s m args below meth c H locs la Z X hl kk => lv_iconst X.1 X.2.1 hd hv (kk la hl))
theorem ak_bipush {n : Int} {v : Int32} (hd : decode M.2.1 pc = .ok (.bipush n, 2)) (hv : (Int8.ofInt n).toInt32 = v) (k : AK l D aC Zs R M b mc ms Qc (pc + 2) ls (.int v :: st) ws cells slots) : AK l D aC Zs R M b mc ms Qc pc ls st ws cells slots :=
  AK.lift k (fun p e s m args below meth c H locs la Z X hl kk => lv_bipush X.1 X.2.1 hd hv (kk la hl))
theorem ak_sipush {n : Int} {v : Int32} (hd : decode M.2.1 pc = .ok (.sipush n, 3)) (hv : (Int16.ofInt n).toInt32 = v) (k : AK l D aC Zs R M b mc ms Qc (pc + 3) ls (.int v :: st) ws cells slots) : AK l D aC Zs R M b mc ms Qc pc ls st ws cells slots :=
  AK.lift k (fun p e s m args below meth c H locs la Z X hl kk => lv_sipush X.1 X.2.1 hd hv (kk la hl))
theorem ak_aload_n {q : Fin 4} {i x : Nat} (hd : decode M.2.1 pc = .ok (.aload_n q, 1)) (hi : (q : Nat) = i) (j : Nat) (hj : ls[j]? = some (i, .ref x)) (k : AK l D aC Zs R M b mc ms Qc (pc + 1) ls (.ref x :: st) ws cells slots) : AK l D aC Zs R M b mc ms Qc pc ls st ws cells slots :=
  AK.lift k (fun p e s m args below meth c H locs la Z X hl kk => lv_aload_n X.1 X.2.1 hd hi (lv_at hl j hj) (kk la hl))
theorem ak_dup {v : Value} (hd : decode M.2.1 pc = .ok (.dup, 1)) (hv : v.category = 1) (k : AK l D aC Zs R M b mc ms Qc (pc + 1) ls (v :: v :: st) ws cells slots) : AK l D aC Zs R M b mc ms Qc pc ls (v :: st) ws cells slots :=
  AK.lift k (fun p e s m args below meth c H locs la Z X hl kk => lv_dup X.1 X.2.1 hd hv (kk la hl))
/-- Object's own constructor -/
theorem ak_obj {ix a : Nat} (hd : decode M.2.1 pc = .ok (.invokespecial ix, 3)) (hlk : Cond.methodLink M.1.cls ix Lib.objectInit ∈ aTB) (hin : Cond.instanceMethod Lib.objectInit ∈ aTB) (hco : Cond.code Lib.objectInit ⟨#[0xb1]⟩ 1 none ∈ aTB) (hf : 1 ≤ R.frames) (hro : (st.map fun v => v.category).sum + 12 ≤ R.locals) (k : AK l D aC Zs R M b mc ms Qc (pc + 3) ls st ws cells slots) : AK l D aC Zs R M b mc ms Qc pc ls (.ref a :: st) ws cells slots := by
  refine AK.lift k (fun p e s m args below meth c H locs la Z X hl kk => ?_)
  have hts := X.2.2.2.2.2.2.1
  exact W.objInit X.1 X.2.1 X.2.2.2.2.2.1 (hts _ hlk) (hts _ hin) (hts _ hco) rfl (hl.1.trans X.2.2.2.2.1.symm) rfl hd hf (by show 2 * 0 + _ + 12 ≤ _; omega) (kk la hl)
theorem cw_P1 {H H1 : Heap} {x : va_E} (hz : H.size = b + ws.length) (hP : va_P D acl (cw b ws) H) (ho : ∀ q : Nat, q < H.size → H1[q]? = H[q]?) (hx : va_at D acl (H.size, x) H1) : va_P D acl (cw b (ws ++ [x])) H1 := by
  rw [cw_app]
  refine (hP.kept (fun k y hy => ho y.1 ((hP k y hy).lt))).app (fun k y hy => ?_)
  have hk : k < 1 := by
    have := (List.getElem?_eq_some_iff.mp hy).1
    simpa [cw] using this
  rw [show k = 0 by omega] at hy
  cases hy
  rw [hz] at hx
  exact hx
/-- a new array -/
theorem ak_newa {atype : ArrayType} {ty : FieldType} {n : Int32} {N ti : Nat} {a0 : vp_A} (hd : decode M.2.1 pc = .ok (.newarray atype, 2)) (harr : Cond.arrayClass (newarray.typeOf atype) ∈ aTB) (hty : newarray.typeOf atype = ty) (hti : atl[ti]? = some ty) (hr : ∀ (U : State) (cA : ClassId), va_RA U cA ty → U.vm.findClass ("[" ++ ty.toString) = some cA) (ha : ∀ cA : ClassId, vp_cell cA a0 = arrV cA N (fun _ => defaultValue ty)) (hn : ¬ n < 0) (hN : n.toNatClampNeg = N) (hby : N * componentBytes ty ≤ 536870912) (hc : cells + 1 ≤ R.cells) (hs : slots + N ≤ R.slots)
    (k : AK l D aC Zs R M b mc ms Qc (pc + 2) ls (.ref (b + ws.length) :: st) (ws ++ [.inl (aC ty, a0)]) (cells + 1) (slots + N)) : AK l D aC Zs R M b mc ms Qc pc ls (.int n :: st) ws cells slots := by
  subst hty
  intro p e s m args below meth c H locs la X hi hz hP hS hZ hl
  have hts := X.2.2.2.2.2.2.1
  refine va_newaK X.1 X.2.1 (hts _ harr) rfl hd rfl hn hN hby hc hs rfl fun H1 cA e1 z1 o1 hAr hNm => ?_
  have hK := X.2.2.2.2.2.2.2
  have h2 : (atys GC aC)[ti]? = some (aC (newarray.typeOf atype), newarray.typeOf atype) := by
    show (atl.map (fun t => (aC t, t)))[ti]? = _
    rw [List.getElem?_map, hti]; rfl
  have h3 := hr s _ (hK.2 ti _ h2).2
  have hcA : cA = aC (newarray.typeOf atype) := Option.some.inj (hNm.symm.trans h3)
  subst hcA
  have hz1 : H1.size = b + (ws ++ [Sum.inl (aC (newarray.typeOf atype), a0)]).length ∧ H1.size = s.heap.size + (cells + 1) := ⟨by have := hz.1; simp; omega, by have := hz.2; omega⟩
  refine W.eq (g2 := F0 m (pc + 2) la (.ref (b + ws.length) :: st)) (by rw [hz.1]) (k p e s m args below meth c H1 locs la X hi hz1 (cw_P1 hz.1 hP o1 ?_) ⟨Nat.le_trans hS.1 (by omega), fun x h1 h2 => (o1 x (Nat.lt_of_lt_of_le h1 hS.1)).trans (hS.2.1 x h1 h2), hS.2.2⟩ hZ hl)
  show H1[H.size]? = some (vp_cell _ _)
  rw [ha]
  exact e1
/-- a new object -/
theorem ak_new {ix ci : Nat} {r : vw_C} {fs : List Value} (hd : decode M.2.1 pc = .ok (.new ix, 3)) (C : aCk GC ci r) (hcl : Cond.classLink M.1.cls ix r.1 ∈ aTB) (hin : Cond.instantiable r.1 r.2.2 ∈ aTB) (hini : Cond.initialized r.1 ∈ aTB) (hfs : ∀ j, j < r.2.2 → defaultValue (GC.2.1 ci j) = vp_V fs j) (hc : cells + 1 ≤ R.cells) (hs : slots + r.2.2 ≤ R.slots)
    (k : AK l D aC Zs R M b mc ms Qc (pc + 3) ls (.ref (b + ws.length) :: st) (ws ++ [.inr (ci, fs)]) (cells + 1) (slots + r.2.2)) : AK l D aC Zs R M b mc ms Qc pc ls st ws cells slots := by
  intro p e s m args below meth c H locs la X hi hz hP hS hZ hl
  have hts := X.2.2.2.2.2.2.1
  have hKn := X.2.2.2.2.2.2.2.1 ci _ C.1
  refine W.newcK X.1 X.2.1 X.2.2.2.2.2.1 (hts _ hcl) (hts _ hin) (hts _ hini) rfl hd hc hs hKn.2.1 rfl fun H1 kC hkC e1 z1 o1 => ?_
  have hz1 : H1.size = b + (ws ++ [Sum.inr (ci, fs)]).length ∧ H1.size = s.heap.size + (cells + 1) := ⟨by have := hz.1; simp; omega, by have := hz.2; omega⟩
  refine W.eq (g2 := F0 m (pc + 3) la (.ref (b + ws.length) :: st)) (by rw [hz.1]) (k p e s m args below meth c H1 locs la X hi hz1 (cw_P1 hz.1 hP o1 ⟨_, C.1, (u_born _ hts C.2.1 hKn hkC e1 C.2.2.1).to hfs⟩) ⟨Nat.le_trans hS.1 (by omega), fun x h1 h2 => (o1 x (Nat.lt_of_lt_of_le h1 hS.1)).trans (hS.2.1 x h1 h2), hS.2.2⟩ hZ hl)
theorem ak_putF {q0 k ix ci : Nat} {fs : List Value} {r : vw_C} {v : Value} (hd : decode M.2.1 pc = .ok (.putfield ix, 3)) (he : ws[q0]? = some (.inr (ci, fs))) (C : aCk GC ci r) (L : aFL r M.1.cls ix k) (hfin : (r.2.1 k).2.2.2 = true) (hdecl : (r.2.1 k).1 = M.1.cls) (hn : narrow (GC.2.1 ci k) v = v) (hfit : fits (GC.2.1 ci k) v = true) (hl : k < fs.length) (kk : AK l D aC Zs R M b mc ms Qc (pc + 3) ls st (ws.set q0 (.inr (ci, fs.set k v))) cells slots) : AK l D aC Zs R M b mc ms Qc pc ls (v :: .ref (b + q0) :: st) ws cells slots := by
  obtain ⟨c1, c2, c3⟩ := r
  intro p e s m args below meth c H locs la X hi hz hP hS0 hZ hla
  have hts := X.2.2.2.2.2.2.1
  have hK := X.2.2.2.2.2.2.2
  have hown := X.2.2.2.2.2.1
  have he' := cw_at (b := b) he
  have hD := cw_D b ws
  have hap := va_apart (own := M.1.cls) hts C.2.1 (GC.2.1 ci) C.2.2.1 C.2.2.2 hK C.1
  obtain ⟨r, h1, cell, q1, q2, q3, q4⟩ := hP q0 _ he'
  have hr : r = (c1, c2, c3) := Option.some.inj (h1.symm.trans C.1)
  subst hr
  obtain ⟨hS, hfc, kC, hkC, hkind⟩ := hK.1 ci _ C.1
  obtain ⟨cf, kf, fi, f, hi', hsl⟩ := hS k L.1
  have hlay := hts _ (C.2.1 _ (u_in_lay L.1))
  unfold u_lay at hlay
  rw [if_pos hfin] at hlay
  have hst := (u_facts hfc hkC (u_lays hts C.2.1 L.1) hi').1
  have hcf : m.cls = cf := by
    obtain ⟨_, _, c', _, _, _, -, -, hf', -, -, -, hown2, -⟩ := Cond.laysFinal_spec hlay
    have e1 : c' = cf := by have := hi'.symm.trans hf'; simp at this; exact this.1.symm
    rw [hdecl] at hown2
    rw [← e1]; exact Option.some.inj (hown.symm.trans hown2)
  have h6 := u_fits hfc hkC hkind (Or.inr hlay) hi' (C.2.2.1 k L.1) hn hfit
  refine W.putFinK X.1 X.2.1 hown (hts _ L.2) hi' hst hcf hi (by rw [q2]; exact h6) q1 q3 (by rw [hsl]; exact k2_hasslot (q4 k L.1)) rfl rfl hd fun H' e1 e2 e3 => ?_
  rw [hsl] at e1 ⊢
  have hP1 : va_P D acl ((cw b ws).set q0 (b + q0, .inr (ci, fs.set k v))) H' := hP.set hD he' ⟨_, C.1, t_OB.to (V := updV (vp_V fs) k v) ⟨_, e1, q2, q3, t_set q4 hap L.1 v⟩ (fun j _ => vp_updV_set hl v j)⟩ e3
  rw [cw_set] at hP1
  exact kk p e s m args below meth c H' _ la X hi ⟨by rw [e2, hz.1, List.length_set], by rw [e2]; exact hz.2⟩ hP1 (hS0.put e2 e3 (hD.2 q0 _ he')) hZ hla
theorem ak_putN {q0 k ix ci : Nat} {fs : List Value} {r : vw_C} {v : Value} (hd : decode M.2.1 pc = .ok (.putfield ix, 3)) (he : ws[q0]? = some (.inr (ci, fs))) (C : aCk GC ci r) (L : aFL r M.1.cls ix k) (hfin : (r.2.1 k).2.2.2 = false) (hn : narrow (GC.2.1 ci k) v = v) (hfit : fits (GC.2.1 ci k) v = true) (hl : k < fs.length) (kk : AK l D aC Zs R M b mc ms Qc (pc + 3) ls st (ws.set q0 (.inr (ci, fs.set k v))) cells slots) : AK l D aC Zs R M b mc ms Qc pc ls (v :: .ref (b + q0) :: st) ws cells slots := by
  obtain ⟨c1, c2, c3⟩ := r
  intro p e s m args below meth c H locs la X hi hz hP hS0 hZ hla
  have hts := X.2.2.2.2.2.2.1
  have hK := X.2.2.2.2.2.2.2
  have hown := X.2.2.2.2.2.1
  have he' := cw_at (b := b) he
  have hD := cw_D b ws
  have hap := va_apart (own := M.1.cls) hts C.2.1 (GC.2.1 ci) C.2.2.1 C.2.2.2 hK C.1
  obtain ⟨r, h1, cell, q1, q2, q3, q4⟩ := hP q0 _ he'
  have hr : r = (c1, c2, c3) := Option.some.inj (h1.symm.trans C.1)
  subst hr
  obtain ⟨hS, hfc, kC, hkC, hkind⟩ := hK.1 ci _ C.1
  obtain ⟨cf, kf, fi, f, hi', hsl⟩ := hS k L.1
  have hlay := hts _ (C.2.1 _ (u_in_lay L.1))
  unfold u_lay at hlay
  rw [if_neg (by rw [hfin]; decide)] at hlay
  have hst := (u_facts hfc hkC (u_lays hts C.2.1 L.1) hi').1
  have h6 := u_store hfc hkC hkind hlay hi' (C.2.2.1 k L.1) hn hfit
  refine W.putK X.1 X.2.1 (f := f) ⟨hown, hts _ L.2, ⟨_, _, _, hi'⟩, hst⟩ (by rw [q2]; exact h6) q1 q3 (by rw [hsl]; exact k2_hasslot (q4 k L.1)) rfl rfl hd fun H' e1 e2 e3 => ?_
  rw [hsl] at e1 ⊢
  have hP1 : va_P D acl ((cw b ws).set q0 (b + q0, .inr (ci, fs.set k v))) H' := hP.set hD he' ⟨_, C.1, t_OB.to (V := updV (vp_V fs) k v) ⟨_, e1, q2, q3, t_set q4 hap L.1 v⟩ (fun j _ => vp_updV_set hl v j)⟩ e3
  rw [cw_set] at hP1
  exact kk p e s m args below meth c H' _ la X hi ⟨by rw [e2, hz.1, List.length_set], by rw [e2]; exact hz.2⟩ hP1 (hS0.put e2 e3 (hD.2 q0 _ he')) hZ hla
theorem ak_get {q0 k ix ci : Nat} {fs : List Value} {r : vw_C} {v : Value} (hd : decode M.2.1 pc = .ok (.getfield ix, 3)) (he : ws[q0]? = some (.inr (ci, fs))) (C : aCk GC ci r) (L : aFL r M.1.cls ix k) (hv : fs[k]? = some v) (kk : AK l D aC Zs R M b mc ms Qc (pc + 3) ls (v :: st) ws cells slots) : AK l D aC Zs R M b mc ms Qc pc ls (.ref (b + q0) :: st) ws cells slots := by
  obtain ⟨c1, c2, c3⟩ := r
  intro p e s m args below meth c H locs la X hi hz hP hS0 hZ hla
  exact va_get X.1 X.2.1 X.2.2.2.2.2.2.1 C.2.1 X.2.2.2.2.2.1 X.2.2.2.2.2.2.2 hP q0 (cw_at he) C.1 k L.1 (X.2.2.2.2.2.2.1 _ L.2) (fun _ h9 => h9) hv hd (kk p e s m args below meth c H locs la X hi hz hP hS0 hZ hla)
theorem ak_vret (hd : decode M.2.1 pc = .ok (.return_, 1)) (hr : M.2.2.2 = none) : AK l D aC Zs R M b mc ms (QcK D b ws) pc ls [] ws mc ms := by
  intro p e s m args below meth c H locs la X hi hz hP hS0 hZ hla
  exact W.vret X.1 X.2.1 (X.2.2.1.trans hr) (fun t ht hW => ⟨rfl, by rw [ht]; exact hz.1, by rw [ht]; exact hP, hS0.F ht⟩) hS0.2.2 hd X.2.2.2.1
/-- a constructor's contract -/
theorem ak_met {As : List Value} {N : aM} {n : Nat} {ws0 : List va_E} (K : aMk N n) (hnm : N.1.name = "<init>") (hlen : (lg_sl (.ref b :: As)).length ≤ N.2.2.1) (k : AK l D aC Zs R N b mc ms Qc 0 (lv_args 0 (.ref b :: As)) [] ws0 0 0) : Met l N.1 (aws N) R (PcK D aC Zs b As ws0) Qc mc ms (fun q => b ≤ q) := by
  refine Met.ofW (cc := N.2.1) (maxL := N.2.2.1) (ret := N.2.2.2) K.1 rfl ?_
  intro p e s m args below meth c s₁ B hml hv
  obtain ⟨rfl, hz, hP, hK, hZ⟩ := hv
  have hts := atoms_spec (ws := aws N) B.pre
  rw [lg_entry_eq]
  exact k p e s m (Value.ref b :: As).toArray below meth c s.heap [] _ ⟨B.exec, B.bytes, B.returns, B.notSynchronized, hml, findClass_of_methodNamed B.named, fun w hw => hts w (List.mem_cons_of_mem _ hw), hK⟩ ((name_of_methodNamed B.named B.method).1.trans hnm) ⟨hz, rfl⟩ hP va_S.rf hZ (lv_entry (.ref b :: As) hlen)
/-- a link to a constructor: plain, or of a nest mate -/
def kLk (Zs : State → Prop) (own : String) (ix : Nat) (y : MethodName) : Prop := Cond.methodLink own ix y ∈ aTB ∨ ∃ host, ∀ s, Zs s → va_Nw (.methodLinkNest own ix y host) s
/-- a call of a constructor, for the object made last -/
theorem ak_call {ix n mc' ms' : Nat} {N : aM} {As : List Value} {rm : Room} {pre ws0 ws1 : List va_E} (hd : decode M.2.1 pc = .ok (.invokespecial ix, 3)) (K : aMk N n) (hn : As.length = n) (hnm : N.1.name = "<init>") (hret : N.2.2.2 = none) (hlk : kLk Zs M.1.cls ix N.1) (hin : Cond.instanceMethod N.1 ∈ aTB) (hst : kSt b Zs) (hrc : rm.cells = mc') (hrs : rm.slots = ms') (hmc : ws0.length + mc' = ws1.length) (hro : (st.map fun v => v.category).sum ≤ 8) (hfr : rm.frames + 1 ≤ R.frames ∧ 8 + (N.2.2.1 + 11) + rm.locals ≤ R.locals) (hf : cells + mc' ≤ R.cells ∧ slots + ms' ≤ R.slots)
    (hM : Met l N.1 (aws N) rm (PcK D aC Zs (b + pre.length) As ws0) (QcK D (b + pre.length) ws1) mc' ms' (fun q => b + pre.length ≤ q)) {st0 : List Value} (hst0 : st0 = As.reverse ++ .ref (b + pre.length) :: st)
    (kk : AK l D aC Zs R M b mc ms Qc (pc + 3) ls st (pre ++ ws1) (cells + mc') (slots + ms')) : AK l D aC Zs R M b mc ms Qc pc ls st0 (pre ++ ws0) cells slots := by
  intro p e s m args below meth c H locs la X hi hz hP hS hZ hla
  have hts := X.2.2.2.2.2.2.1
  rw [cw_app] at hP
  have hP0 : va_P D acl (cw (b + pre.length) ws0) H := fun k q hq => hP ((cw b pre).length + k) q (by rw [List.getElem?_append_right (Nat.le_add_right _ _), Nat.add_sub_cancel_left]; exact hq)
  have hPp : va_P D acl (cw b pre) H := fun k q hq => hP k q (by rw [List.getElem?_append_left (List.getElem?_eq_some_iff.mp hq).1]; exact hq)
  have hzp : H.size = b + pre.length + ws0.length := by rw [hz.1, List.length_append]; omega
  have bl : FrameBlind (PcK D aC Zs (b + pre.length) As ws0) := by
    intro a U g mk q
    obtain ⟨q1, q2, q3, q4, q5⟩ := q
    exact ⟨q1, q2, q3, va_K.moved (u := U) (U := U.calling g mk a) (Vm.Alike.refl U.vm) q4, hst U (U.calling g mk a) q5 (State.WarmedH.refl U) (Nat.le_refl _) (fun _ _ _ => rfl)⟩
  have hpS : PreS s H (PcK D aC Zs (b + pre.length) As ws0) (.ref (b + pre.length) :: As) := ⟨bl, fun U hU hW => ⟨rfl, by rw [hU]; exact hzp, by rw [hU]; exact hP0, va_K.moved hW.alike X.2.2.2.2.2.2.2, hst s U hZ hW (by rw [hU]; exact hS.1) (fun q h1 h2 => by rw [hU]; exact hS.2.1 q h1 h2)⟩⟩
  have run : va_Run p l e R s m args below meth c H locs cells slots mc' ms' (F0 m pc la st0) st (QcK D (b + pre.length) ws1 ((Value.ref (b + pre.length) :: As).toArray)) (fun q => b + pre.length ≤ q) := by
    rcases hlk with hlk | ⟨host, hlk⟩
    · have hcb : CallB R s args M.1.cls ix N.1 N.2.1 N.2.2.1 none (aws N) rm mc' ms' n := callB_of (ws' := aTB) n hts (aws_good K) (by unfold aws; rw [hret]) hrc hrs (hts _ K.2.2.1) (hts _ hlk) K.2.2.2.1 hfr
      exact va_runI (As := As) (rest := st) (b := b + pre.length) (g := F0 m pc la st0) ⟨X.1, X.2.1, X.2.2.2.2.1, X.2.2.2.2.2.1, hts⟩ hM ⟨hcb, hnm, hts _ hin⟩ hpS rfl hn hla.1 hst0 (lv_room hro) hd hf
    · have hcb : va_CN R s args M.1.cls ix N.1 host N.2.1 N.2.2.1 none (aws N) rm mc' ms' n := va_cnB (ws' := aTB) n hts (aws_good K) (by unfold aws; rw [hret]) hrc hrs (hlk s hZ) (hts _ K.2.2.1) K.2.2.2.1 hfr
      exact va_runIN (As := As) (rest := st) (b := b + pre.length) (g := F0 m pc la st0) ⟨X.1, X.2.1, X.2.2.2.2.1, X.2.2.2.2.2.1, hts⟩ hM ⟨hcb, hnm, hts _ hin⟩ hpS rfl hn hla.1 hst0 (lv_room hro) hd hf
  intro T hT XT
  obtain ⟨v, st₀, t, T', L, h0, X', hL, e1, e2, ⟨hv, hz1, hP1, hz2, hk⟩, stp⟩ := run T hT XT
  cases hv
  rw [h0] at hz2 hk
  have hsz : T'.heap.size = b + (pre ++ ws1).length ∧ T'.heap.size = s.heap.size + (cells + mc') := ⟨by rw [e1, hz1, List.length_append]; omega, by have := hz.2; rw [e1, hz1]; omega⟩
  have hPn : va_P D acl (cw b (pre ++ ws1)) T'.heap := by
    rw [cw_app]
    refine va_P.app (hPp.kept (fun k y hy => ?_)) (by rw [e1]; exact hP1)
    have hy2 := (cw_inv hy).2
    have hkl : k < pre.length := by
      have := (List.getElem?_eq_some_iff.mp (cw_inv hy).1).1
      exact this
    rw [e1]
    exact hk y.1 (by omega) (by omega)
  have hS1 : va_S (fun q => b ≤ q) s.heap T'.heap (locs ++ L) := by
    refine ⟨Nat.le_trans hS.1 (by rw [e1]; exact hz2), fun q h1 h2 => ?_, fun q hq => ?_⟩
    · rw [e1, hk q (Nat.lt_of_lt_of_le h1 hS.1) (fun c => h2 (Nat.le_trans (Nat.le_add_right _ _) c))]
      exact hS.2.1 q h1 h2
    · rcases List.mem_append.mp hq with h | h
      · exact hS.2.2 q h
      · exact Nat.le_trans (Nat.le_add_right _ _) (hL q h)
  obtain ⟨t2, a1, b1⟩ := kk p e s m args below meth c T'.heap (locs ++ L) la X hi hsz hPn hS1 hZ hla T' rfl X'
  exact ⟨t2, stp t2 a1, b1⟩
end AKR
