/-! ===== making objects: more rules ===== -/
theorem vr_n {f : Nat → Value} {n j : Nat} (h : j < n) : f j = vp_V ((List.range n).map f) j := by
  unfold vp_V
  rw [List.getD, List.getElem?_map, List.getElem?_range h]
  rfl
section AKS
variable {l : Launch} {D : va_G} {aC : FieldType → ClassId} {Zs : State → Prop} {R : Room} {M : aM} {b mc ms : Nat} {Qc : Array Value → State → Outcome → State → Prop} {pc : Nat} {ls : List (Nat × Value)} {st : List Value} {ws : List va_E} {cells slots : Nat}
theorem AK.lift2 {pc1 pc2 : Nat} {st1 st2 : List Value} {C1 C2 : Prop} (k1 : C1 → AK l D aC Zs R M b mc ms Qc pc1 ls st1 ws cells slots) (k2 : C2 → AK l D aC Zs R M b mc ms Qc pc2 ls st2 ws cells slots)
    (f : ∀ (p : Program) (e : Env) (s : State) (m : MethodId) (args : Array Value) (below : List Frame) (meth : Method) (c : Code) (H : Heap) (locs : List Loc) (la : Array Slot) (Z : State → Prop), aX GC M p s m args meth c D aC → lv_has la M.2.2.1 ls → (C1 → W p l e R s m args below meth c H locs cells slots Z (F0 m pc1 la st1)) → (C2 → W p l e R s m args below meth c H locs cells slots Z (F0 m pc2 la st2)) → W p l e R s m args below meth c H locs cells slots Z (F0 m pc la st)) : AK l D aC Zs R M b mc ms Qc pc ls st ws cells slots :=
  fun p e s m args below meth c H locs la X hi hz hP hS hZ hl => f p e s m args below meth c H locs la _ X hl (fun q => k1 q p e s m args below meth c H locs la X hi hz hP hS hZ hl) (fun q => k2 q p e s m args below meth c H locs la X hi hz hP hS hZ hl)
theorem ak_istore_n {q : Fin 4} {i : Nat} {x : Int32} {ls' : List (Nat × Value)} (hd : decode M.2.1 pc = .ok (.istore_n q, 1)) (hi : (q : Nat) = i) (hn : i < M.2.2.1) (hs : (i, Value.int x) :: ls.filter (fun q => !(q.1 == i) && !(q.1 + 1 == i && q.2.category == 2)) = ls') (k : AK l D aC Zs R M b mc ms Qc (pc + 1) ls' st ws cells slots) : AK l D aC Zs R M b mc ms Qc pc ls (.int x :: st) ws cells slots :=
  AK.lift k (fun p e s m args below meth c H locs la Z X hl kk => lv_istore_n X.1 X.2.1 hd hi hl hn hs kk)
theorem ak_iload_n {q : Fin 4} {i : Nat} {x : Int32} (hd : decode M.2.1 pc = .ok (.iload_n q, 1)) (hi : (q : Nat) = i) (j : Nat) (hj : ls[j]? = some (i, .int x)) (k : AK l D aC Zs R M b mc ms Qc (pc + 1) ls (.int x :: st) ws cells slots) : AK l D aC Zs R M b mc ms Qc pc ls st ws cells slots :=
  AK.lift k (fun p e s m args below meth c H locs la Z X hl kk => lv_iload_n X.1 X.2.1 hd hi (lv_at hl j hj) (kk la hl))
theorem ak_iinc {i j : Nat} {n : Int} {x v : Int32} {ls' : List (Nat × Value)} (hd : decode M.2.1 pc = .ok (.iinc i n, 3)) (hj : ls[j]? = some (i, .int x)) (hv : x + Int32.ofInt n = v) (hn : i < M.2.2.1) (hs : (i, Value.int v) :: ls.filter (fun q => !(q.1 == i) && !(q.1 + 1 == i && q.2.category == 2)) = ls') (k : AK l D aC Zs R M b mc ms Qc (pc + 3) ls' st ws cells slots) : AK l D aC Zs R M b mc ms Qc pc ls st ws cells slots :=
  AK.lift k (fun p e s m args below meth c H locs la Z X hl kk => lv_iinc X.1 X.2.1 hd hl hj hv hn hs kk)
theorem ak_icmp_ge {x y : Int32} {off : Int} {tgt : Nat} (hd : decode M.2.1 pc = .ok (.if_icmp .ge off, 3)) (ht : (pc : Int) + off = (tgt : Int)) (kt : y ≤ x → AK l D aC Zs R M b mc ms Qc tgt ls st ws cells slots) (kf : ¬ y ≤ x → AK l D aC Zs R M b mc ms Qc (pc + 3) ls st ws cells slots) : AK l D aC Zs R M b mc ms Qc pc ls (.int y :: .int x :: st) ws cells slots :=
  AK.lift2 kt kf (fun p e s m args below meth c H locs la Z X hl k1 k2 => lv_icmp_ge X.1 X.2.1 hd ht k1 k2)
theorem ak_goto {off : Int} {tgt : Nat} (hd : decode M.2.1 pc = .ok (.goto off, 3)) (ht : (pc : Int) + off = (tgt : Int)) (k : AK l D aC Zs R M b mc ms Qc tgt ls st ws cells slots) : AK l D aC Zs R M b mc ms Qc pc ls st ws cells slots :=
  AK.lift k (fun p e s m args below meth c H locs la Z X hl kk => lv_goto X.1 X.2.1 hd ht (kk la hl))
/-- fewer locals -/
theorem ak_ls {ls' : List (Nat × Value)} (ks : List Nat) (hk : lv_pick ls ks = ls') (k : AK l D aC Zs R M b mc ms Qc pc ls' st ws cells slots) : AK l D aC Zs R M b mc ms Qc pc ls st ws cells slots :=
  fun p e s m args below meth c H locs la X hi hz hP hS hZ hl => k p e s m args below meth c H locs la X hi hz hP hS hZ (lv_sub hl ks hk)
theorem ak_eq {pc' : Nat} {ls' : List (Nat × Value)} {st' : List Value} {ws' : List va_E} {cells' slots' : Nat} (k : AK l D aC Zs R M b mc ms Qc pc' ls' st' ws' cells' slots') (h1 : pc' = pc) (h2 : ls' = ls) (h3 : st' = st) (h4 : ws' = ws) (h5 : cells' = cells) (h6 : slots' = slots) : AK l D aC Zs R M b mc ms Qc pc ls st ws cells slots := by
  subst h1 h2 h3 h4 h5 h6; exact k
/-- a number is pushed -/
def kPu (cc : ByteArray) (pc pc' : Nat) (v : Int32) : Prop := (∃ n, decode cc pc = .ok (.iconst n, 1) ∧ Int32.ofInt n = v ∧ pc' = pc + 1) ∨ (∃ n, decode cc pc = .ok (.bipush n, 2) ∧ (Int8.ofInt n).toInt32 = v ∧ pc' = pc + 2) ∨ ∃ n, decode cc pc = .ok (.sipush n, 3) ∧ (Int16.ofInt n).toInt32 = v ∧ pc' = pc + 3
theorem ak_push {pc' : Nat} {v : Int32} (hp : kPu M.2.1 pc pc' v) (k : AK l D aC Zs R M b mc ms Qc pc' ls (.int v :: st) ws cells slots) : AK l D aC Zs R M b mc ms Qc pc ls st ws cells slots := by
  rcases hp with ⟨n, h1, h2, rfl⟩ | ⟨n, h1, h2, rfl⟩ | ⟨n, h1, h2, rfl⟩
  · exact ak_iconst h1 h2 k
  · exact ak_bipush h1 h2 k
  · exact ak_sipush h1 h2 k
/-- the kinds of arrays that are made -/
def kT (ty : FieldType) (ti : Nat) (N : Nat) (a0 : vp_A) : Prop := atl[ti]? = some ty ∧ (∀ (U : State) (cA : ClassId), va_RA U cA ty → U.vm.findClass ("[" ++ ty.toString) = some cA) ∧ (∀ cA : ClassId, vp_cell cA a0 = arrV cA N (fun _ => defaultValue ty)) ∧ Cond.arrayClass ty ∈ aTB ∧ N * componentBytes ty ≤ 536870912
abbrev aI0 (n : Nat) : vp_A := (n, .inl (fun _ => 0))
abbrev aJ0 (n : Nat) : vp_A := (n, .inr (.inl (fun _ => 0)))
theorem kT_I {n : Nat} (h : n ≤ 6000) : kT .int 0 n (aI0 n) := ⟨rfl, fun _ _ h => h, fun _ => rfl, aTB_t 116 (by decide +kernel) (by decide +kernel), by show n * 4 ≤ _; omega⟩
theorem kT_J {n : Nat} (h : n ≤ 6000) : kT .long 1 n (aJ0 n) := ⟨rfl, fun _ _ h => h, fun _ => rfl, aTB_t 142 (by decide +kernel) (by decide +kernel), by show n * 8 ≤ _; omega⟩
theorem kT_Z {n : Nat} (h : n ≤ 6000) : kT .boolean 2 n (aI0 n) := ⟨rfl, fun _ _ h => h, fun _ => rfl, aTB_t 413 (by decide +kernel) (by decide +kernel), by show n * 1 ≤ _; omega⟩
/-- this.field = new type[n] -/
theorem ak_fa {p1 p2 p3 : Nat} {atype : ArrayType} {ty : FieldType} {n : Int32} {N ti : Nat} {a0 : vp_A} {ix k ci : Nat} {fs : List Value} {rest : List va_E} {r : vw_C} (h0 : decode M.2.1 pc = .ok (.aload_n 0, 1)) (hls : ls[0]? = some (0, .ref b)) (e1 : p1 = pc + 1) (hp : kPu M.2.1 p1 p2 n) (hna : decode M.2.1 p2 = .ok (.newarray atype, 2)) (hty : newarray.typeOf atype = ty) (hT : kT ty ti N a0) (hn : ¬ n < 0) (hN : n.toNatClampNeg = N) (e3 : p3 = p2 + 2) (hd : decode M.2.1 p3 = .ok (.putfield ix, 3)) (C : aCk GC ci r) (L : aFL r M.1.cls ix k) (hfin : (r.2.1 k).2.2.2 = true) (hdecl : (r.2.1 k).1 = M.1.cls) (hft : GC.2.1 ci k = .array ty) (hl : k < fs.length) (hc : cells + 1 ≤ R.cells) (hs : slots + N ≤ R.slots)
    (kk : AK l D aC Zs R M b mc ms Qc (p3 + 3) ls st (.inr (ci, fs.set k (.ref (b + (rest.length + 1)))) :: (rest ++ [.inl (aC ty, a0)])) (cells + 1) (slots + N)) : AK l D aC Zs R M b mc ms Qc pc ls st (.inr (ci, fs) :: rest) cells slots := by
  subst e1 e3 hty
  refine ak_aload_n h0 rfl 0 hls (ak_push hp ?_)
  refine ak_newa hna hT.2.2.2.1 rfl hT.1 hT.2.1 hT.2.2.1 hn hN hT.2.2.2.2 hc hs ?_
  refine ak_putF (q0 := 0) (k := k) (ci := ci) (fs := fs) (r := r) hd rfl C L hfin hdecl ?_ ?_ hl kk
  · rw [hft]; rfl
  · rw [hft]; rfl
/-- this.field = new Class(), the class's constructor taking nothing -/
theorem ak_fo {p1 p2 p3 p4 mc' ms' len : Nat} {rm : Room} {N : aM} {ci' ix ix' ix2 k ci : Nat} {fs : List Value} {rest ws1 : List va_E} {r r' : vw_C} (h0 : decode M.2.1 pc = .ok (.aload_n 0, 1)) (hls : ls[0]? = some (0, .ref b)) (e1 : p1 = pc + 1) (hnw : decode M.2.1 p1 = .ok (.new ix', 3)) (C' : aCk GC ci' r') (hcl : Cond.classLink M.1.cls ix' r'.1 ∈ aTB) (hin : Cond.instantiable r'.1 r'.2.2 ∈ aTB) (hini : Cond.initialized r'.1 ∈ aTB)
    (e2 : p2 = p1 + 3) (hdup : decode M.2.1 p2 = .ok (.dup, 1)) (e3 : p3 = p2 + 1) (hiv : decode M.2.1 p3 = .ok (.invokespecial ix2, 3)) (K : aMk N 0) (hnm : N.1.name = "<init>") (hret : N.2.2.2 = none) (hlk : kLk Zs M.1.cls ix2 N.1) (him : Cond.instanceMethod N.1 ∈ aTB) (hst : kSt b Zs) (hrc : rm.cells = mc') (hrs : rm.slots = ms') (hmc : 1 + mc' = ws1.length) (hro : (st.map fun v => v.category).sum ≤ 6) (hfr : rm.frames + 1 ≤ R.frames ∧ 8 + (N.2.2.1 + 11) + rm.locals ≤ R.locals) (hf : cells + 1 + mc' ≤ R.cells ∧ slots + r'.2.2 + ms' ≤ R.slots)
    (hlen : rest.length + 1 = len) (hM : Met l N.1 (aws N) rm (PcK D aC Zs (b + len) [] [.inr (ci', (List.range r'.2.2).map (fun j => defaultValue (GC.2.1 ci' j)))]) (QcK D (b + len) ws1) mc' ms' (fun q => b + len ≤ q))
    (e4 : p4 = p3 + 3) (hd : decode M.2.1 p4 = .ok (.putfield ix, 3)) (C : aCk GC ci r) (L : aFL r M.1.cls ix k) (hfin : (r.2.1 k).2.2.2 = true ∧ (r.2.1 k).1 = M.1.cls ∨ (r.2.1 k).2.2.2 = false) {cn : String} (hft : GC.2.1 ci k = .object cn) (hl : k < fs.length)
    (kk : AK l D aC Zs R M b mc ms Qc (p4 + 3) ls st (.inr (ci, fs.set k (.ref (b + len))) :: (rest ++ ws1)) (cells + 1 + mc') (slots + r'.2.2 + ms')) : AK l D aC Zs R M b mc ms Qc pc ls st (.inr (ci, fs) :: rest) cells slots := by
  subst e1 e2 e3 e4 hlen
  refine ak_aload_n h0 rfl 0 hls (ak_new (fs := (List.range r'.2.2).map (fun j => defaultValue (GC.2.1 ci' j))) hnw C' hcl hin hini (fun j hj => vr_n (f := fun j => defaultValue (GC.2.1 ci' j)) hj) (by omega) (by omega) (ak_dup hdup rfl ?_))
  refine ak_call (pre := .inr (ci, fs) :: rest) (ws0 := [.inr (ci', (List.range r'.2.2).map (fun j => defaultValue (GC.2.1 ci' j)))]) (ws1 := ws1) (st := .ref (b + (rest.length + 1)) :: .ref b :: st) hiv K rfl hnm hret hlk him hst hrc hrs (show 1 + mc' = ws1.length from hmc) ?_ hfr hf hM rfl ?_
  · rw [List.map_cons, List.map_cons, List.sum_cons, List.sum_cons]
    exact Nat.le_trans (Nat.add_le_add_left (Nat.add_le_add_left hro 1) 1) (by decide)
  · rcases hfin with ⟨h1, h2⟩ | h1
    · refine ak_putF (q0 := 0) (k := k) (ci := ci) (fs := fs) (r := r) hd rfl C L h1 h2 ?_ ?_ hl kk
      · rw [hft]; rfl
      · rw [hft]; rfl
    · refine ak_putN (q0 := 0) (k := k) (ci := ci) (fs := fs) (r := r) hd rfl C L h1 ?_ ?_ hl kk
      · rw [hft]; rfl
      · rw [hft]; rfl
end AKS
