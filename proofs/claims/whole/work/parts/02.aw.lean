/-! ===== an own logic over the kit's rows: a method's frame over a picture of the whole heap of one side (class or reference), cells by numbers ===== -/
def aTB : List Cond := lw_tbl.filter goodWord
theorem aTB_t {w : Cond} (i : Nat) (h : tables_1[i]? = some w) (hg : goodWord w = true) : w ∈ aTB := List.mem_filter.mpr ⟨List.mem_append_right _ (List.mem_of_getElem? h), hg⟩
theorem aTB_s {w : Cond} (i : Nat) (h : (k2_sels lw_privs)[i]? = some w) (hg : goodWord w = true) : w ∈ aTB := List.mem_filter.mpr ⟨List.mem_append_left _ (List.mem_of_getElem? h), hg⟩
/-- a method: its name, bytes, places of locals, what it returns -/
abbrev aM : Type := MethodName × ByteArray × Nat × Option FieldType
def aws (M : aM) : List Cond := .code M.1 M.2.1 M.2.2.1 M.2.2.2 :: aTB
def aR (d : Nat) : Room := { frames := d, cells := 0, slots := 0, locals := 64 * d }
/-- what a cell is: an object of the class of that number, or an array (of what, how long) -/
abbrev aE : Type := Nat ⊕ (FieldType × Nat)
/-- what the cells hold: ints (booleans), longs, and, where it isn't wired for good, the number of the cell referred to -/
abbrev aH : Type := (Nat → Nat → Int32) × (Nat → Nat → Int64) × (Nat → Nat → Nat)
/-- a side: its classes, the types of their fields, what is wired for good, its cells, the kinds of its arrays -/
abbrev aG : Type := List vw_C × (Nat → Nat → FieldType) × (Nat → Nat → Nat → Option Nat) × List aE × List FieldType × ((Nat → Prop) → State → Prop)
def afv (G : aG) (ad : Nat → Nat) (h : aH) (c ci k : Nat) : Value := match G.2.1 ci k with
  | .object _ => .ref (ad ((G.2.2.1 ci c k).getD (h.2.2 c k)))
  | .array _ => .ref (ad ((G.2.2.1 ci c k).getD (h.2.2 c k)))
  | .long => .long (h.2.1 c k)
  | _ => .int (h.1 c k)
def afs (G : aG) (ad : Nat → Nat) (h : aH) (c ci : Nat) : List Value := (List.range ((G.1[ci]?).elim 0 (fun r => r.2.2))).map (afv G ad h c ci)
def ael (G : aG) (ad : Nat → Nat) (aC : FieldType → ClassId) (h : aH) (c : Nat) (x : aE) : va_E := match x with
  | .inl ci => .inr (ci, afs G ad h c ci)
  | .inr (.long, n) => .inl (aC .long, n, .inr (.inl (h.2.1 c)))
  | .inr (.object C, n) => .inl (aC (.object C), n, .inr (.inr (.inr (.inr (fun j => some (ad (h.2.2 c j)))))))
  | .inr (t, n) => .inl (aC t, n, .inl (h.1 c))
def awl (G : aG) (ad : Nat → Nat) (aC : FieldType → ClassId) (h : aH) : va_W := (List.range G.2.2.2.1.length).map (fun c => (ad c, ael G ad aC h c (G.2.2.2.1.getD c (.inl 0))))
def atys (G : aG) (aC : FieldType → ClassId) : List (ClassId × FieldType) := G.2.2.2.2.1.map (fun t => (aC t, t))
theorem awl_get {G : aG} {ad : Nat → Nat} {aC : FieldType → ClassId} {h : aH} {c : Nat} {x : aE} (hx : G.2.2.2.1[c]? = some x) : (awl G ad aC h)[c]? = some (ad c, ael G ad aC h c x) := by
  have hl : c < G.2.2.2.1.length := (List.getElem?_eq_some_iff.mp hx).1
  unfold awl
  rw [List.getElem?_map, List.getElem?_range hl]
  simp [List.getD, hx]
theorem awl_inv {G : aG} {ad : Nat → Nat} {aC : FieldType → ClassId} {h : aH} {c : Nat} {q : Nat × va_E} (hq : (awl G ad aC h)[c]? = some q) : ∃ x, G.2.2.2.1[c]? = some x ∧ q = (ad c, ael G ad aC h c x) := by
  have hl : c < G.2.2.2.1.length := by
    have := (List.getElem?_eq_some_iff.mp hq).1
    unfold awl at this
    simpa using this
  refine ⟨G.2.2.2.1[c], List.getElem?_eq_getElem hl, ?_⟩
  rw [awl_get (List.getElem?_eq_getElem hl)] at hq
  exact (Option.some.inj hq).symm
theorem awl_len {G : aG} {ad : Nat → Nat} {aC : FieldType → ClassId} {h : aH} : (awl G ad aC h).length = G.2.2.2.1.length := by
  unfold awl; simp
/-- a change of one cell -/
theorem awl_set {G : aG} {ad : Nat → Nat} {aC : FieldType → ClassId} {h h' : aH} {c : Nat} {x : aE} {X : va_E} (hx : G.2.2.2.1[c]? = some x) (ho : ∀ c', c' ≠ c → ∀ y, ael G ad aC h' c' y = ael G ad aC h c' y) (he : ael G ad aC h' c x = X) : (awl G ad aC h).set c (ad c, X) = awl G ad aC h' := by
  apply List.ext_getElem?
  intro i
  by_cases hi : i = c
  · subst hi
    rw [awl_get hx, List.getElem?_set_self (by rw [awl_len]; exact (List.getElem?_eq_some_iff.mp hx).1), he]
  · rw [List.getElem?_set_ne (fun e => hi e.symm)]
    unfold awl
    rw [List.getElem?_map, List.getElem?_map]
    by_cases hl : i < G.2.2.2.1.length
    · rw [List.getElem?_range hl]
      simp [ho i hi]
    · rw [List.getElem?_eq_none (by simpa using hl)]
      rfl
/-- cells that are apart for one picture are so for each -/
theorem awl_D {G : aG} {ad : Nat → Nat} {aC : FieldType → ClassId} {h h' : aH} {A : Nat → Prop} (hD : va_D A (awl G ad aC h)) : va_D A (awl G ad aC h') := by
  refine ⟨fun i j p q hi hj hpq => ?_, fun k q hk => ?_⟩
  · obtain ⟨x, hx, rfl⟩ := awl_inv hi
    obtain ⟨y, hy, rfl⟩ := awl_inv hj
    exact hD.1 i j _ _ (awl_get hx) (awl_get hy) hpq
  · obtain ⟨x, hx, rfl⟩ := awl_inv hk
    have h9 := hD.2 k _ (awl_get (ad := ad) (aC := aC) (h := h) hx)
    exact h9
def sI (h : aH) (c k : Nat) (v : Int32) : aH := (fun c' k' => if c' = c ∧ k' = k then v else h.1 c' k', h.2)
def sJ (h : aH) (c k : Nat) (v : Int64) : aH := (h.1, fun c' k' => if c' = c ∧ k' = k then v else h.2.1 c' k', h.2.2)
def sR (h : aH) (c k : Nat) (v : Nat) : aH := (h.1, h.2.1, fun c' k' => if c' = c ∧ k' = k then v else h.2.2 c' k')
/-- what stands still in a method's walk -/
def aX (G : aG) (M : aM) (p : Program) (s : State) (m : MethodId) (args : Array Value) (meth : Method) (c : Code) (D : va_G) (aC : FieldType → ClassId) : Prop :=
  p.tables.exec = Jvm.exec ∧ c.code = M.2.1 ∧ meth.sig.returnType = M.2.2.2 ∧ meth.locks = false ∧ c.maxLocals = M.2.2.1 ∧ s.vm.findClass M.1.cls = some m.cls ∧ (∀ w ∈ aTB, w.before args s = true) ∧ va_K D G.1 (atys G aC) s
/-- what else a side stands on lasts over what the walk does -/
def aSt (G : aG) : Prop := ∀ (A : Nat → Prop) (s U : State), G.2.2.2.2.2 A s → s.WarmedH U.vm → s.heap.size ≤ U.heap.size → (∀ q : Nat, q < s.heap.size → ¬ A q → U.heap[q]? = s.heap[q]?) → G.2.2.2.2.2 A U
def aQ (G : aG) (ad : Nat → Nat) (D : va_G) (aC : FieldType → ClassId) (A : Nat → Prop) (Q : Option Value → aH → Prop) : Array Value → State → Outcome → State → Prop := fun _ st o t =>
  (∃ (r : Option Value) (h' : aH), o = .returned r ∧ Q r h' ∧ va_P D G.1 (awl G ad aC h') t.heap) ∧ va_F A st t
/-- from this frame of M over this picture the method comes to its end, with Q of what it returns and of the picture then -/
def AW (G : aG) (l : Launch) (ad : Nat → Nat) (d : Nat) (M : aM) (pc : Nat) (ls : List (Nat × Value)) (st : List Value) (h : aH) (Q : Option Value → aH → Prop) : Prop :=
  ∀ (p : Program) (e : Env) (s : State) (m : MethodId) (args : Array Value) (below : List Frame) (meth : Method) (c : Code) (H : Heap) (locs : List Loc) (A : Nat → Prop) (D : va_G) (aC : FieldType → ClassId) (la : Array Slot),
    aX G M p s m args meth c D aC → va_P D G.1 (awl G ad aC h) H → va_D A (awl G ad aC h) → va_S A s.heap H locs → G.2.2.2.2.2 A s → lv_has la M.2.2.1 ls →
    W p l e (aR d) s m args below meth c H locs 0 0 (MQ below (aQ G ad D aC A Q) args s 0 0 A) (F0 m pc la st)
section AWR
variable {G : aG} {l : Launch} {ad : Nat → Nat} {d : Nat} {M : aM} {pc : Nat} {ls : List (Nat × Value)} {st : List Value} {h : aH} {Q : Option Value → aH → Prop}
theorem AW.lift {pc' : Nat} {ls' : List (Nat × Value)} {st' : List Value} (k : AW G l ad d M pc' ls' st' h Q)
    (f : ∀ (p : Program) (e : Env) (s : State) (m : MethodId) (args : Array Value) (below : List Frame) (meth : Method) (c : Code) (H : Heap) (locs : List Loc) (D : va_G) (aC : FieldType → ClassId) (la : Array Slot) (Z : State → Prop), aX G M p s m args meth c D aC → lv_has la M.2.2.1 ls → (∀ la', lv_has la' M.2.2.1 ls' → W p l e (aR d) s m args below meth c H locs 0 0 Z (F0 m pc' la' st')) → W p l e (aR d) s m args below meth c H locs 0 0 Z (F0 m pc la st)) : AW G l ad d M pc ls st h Q :=
  fun p e s m args below meth c H locs A D aC la X hP hD hS hZ hl => f p e s m args below meth c H locs D aC la _ X hl (fun la' hl' => k p e s m args below meth c H locs A D aC la' X hP hD hS hZ hl')
theorem AW.lift2 {pc1 pc2 : Nat} {st1 st2 : List Value} {C1 C2 : Prop} (k1 : C1 → AW G l ad d M pc1 ls st1 h Q) (k2 : C2 → AW G l ad d M pc2 ls st2 h Q)
    (f : ∀ (p : Program) (e : Env) (s : State) (m : MethodId) (args : Array Value) (below : List Frame) (meth : Method) (c : Code) (H : Heap) (locs : List Loc) (D : va_G) (aC : FieldType → ClassId) (la : Array Slot) (Z : State → Prop), aX G M p s m args meth c D aC → lv_has la M.2.2.1 ls → (C1 → W p l e (aR d) s m args below meth c H locs 0 0 Z (F0 m pc1 la st1)) → (C2 → W p l e (aR d) s m args below meth c H locs 0 0 Z (F0 m pc2 la st2)) → W p l e (aR d) s m args below meth c H locs 0 0 Z (F0 m pc la st)) : AW G l ad d M pc ls st h Q :=
  fun p e s m args below meth c H locs A D aC la X hP hD hS hZ hl => f p e s m args below meth c H locs D aC la _ X hl (fun q => k1 q p e s m args below meth c H locs A D aC la X hP hD hS hZ hl) (fun q => k2 q p e s m args below meth c H locs A D aC la X hP hD hS hZ hl)
/-- fewer locals, in another order -/
theorem aw_ls {ls' : List (Nat × Value)} (ks : List Nat) (hk : lv_pick ls ks = ls') (k : AW G l ad d M pc ls' st h Q) : AW G l ad d M pc ls st h Q :=
  fun p e s m args below meth c H locs A D aC la X hP hD hS hZ hl => k p e s m args below meth c H locs A D aC la X hP hD hS hZ (lv_sub hl ks hk)
theorem aw_mono {Q' : Option Value → aH → Prop} (k : AW G l ad d M pc ls st h Q) (hq : ∀ r h', Q r h' → Q' r h') : AW G l ad d M pc ls st h Q' := by
  intro p e s m args below meth c H locs A D aC la X hP hD hS hZ hl T hT S
  obtain ⟨t, h1, o, h2, h3, ⟨⟨r, h', e1, e2, e3⟩, h4⟩, h5⟩ := k p e s m args below meth c H locs A D aC la X hP hD hS hZ hl T hT S
  exact ⟨t, h1, o, h2, h3, ⟨⟨r, h', e1, hq r h' e2, e3⟩, h4⟩, h5⟩
theorem aw_iconst {n : Int} {v : Int32} (hd : decode M.2.1 pc = .ok (.iconst n, 1)) (hv : Int32.ofInt n = v) (k : AW G l ad d M (pc + 1) ls (.int v :: st) h Q) : AW G l ad d M pc ls (st) h Q :=
  AW.lift k (fun p e s m args below meth c H locs D aC la Z X hl kk => lv_iconst X.1 X.2.1 hd hv (kk la hl))
theorem aw_bipush {n : Int} {v : Int32} (hd : decode M.2.1 pc = .ok (.bipush n, 2)) (hv : (Int8.ofInt n).toInt32 = v) (k : AW G l ad d M (pc + 2) ls (.int v :: st) h Q) : AW G l ad d M pc ls (st) h Q :=
  AW.lift k (fun p e s m args below meth c H locs D aC la Z X hl kk => lv_bipush X.1 X.2.1 hd hv (kk la hl))
theorem aw_sipush {n : Int} {v : Int32} (hd : decode M.2.1 pc = .ok (.sipush n, 3)) (hv : (Int16.ofInt n).toInt32 = v) (k : AW G l ad d M (pc + 3) ls (.int v :: st) h Q) : AW G l ad d M pc ls (st) h Q :=
  AW.lift k (fun p e s m args below meth c H locs D aC la Z X hl kk => lv_sipush X.1 X.2.1 hd hv (kk la hl))
theorem aw_lconst {n : Fin 2} {v : Int64} (hd : decode M.2.1 pc = .ok (.lconst n, 1)) (hv : Int64.ofNat (n : Nat) = v) (k : AW G l ad d M (pc + 1) ls (.long v :: st) h Q) : AW G l ad d M pc ls (st) h Q :=
  AW.lift k (fun p e s m args below meth c H locs D aC la Z X hl kk => lv_lconst X.1 X.2.1 hd hv (kk la hl))
theorem aw_iload_n {q : Fin 4} {i : Nat} {x : Int32} (hd : decode M.2.1 pc = .ok (.iload_n q, 1)) (hi : (q : Nat) = i) (j : Nat) (hj : ls[j]? = some (i, .int x)) (k : AW G l ad d M (pc + 1) ls (.int x :: st) h Q) : AW G l ad d M pc ls (st) h Q :=
  AW.lift k (fun p e s m args below meth c H locs D aC la Z X hl kk => lv_iload_n X.1 X.2.1 hd hi (lv_at hl j hj) (kk la hl))
theorem aw_iload {i : Nat} {x : Int32} (hd : decode M.2.1 pc = .ok (.iload i, 2)) (j : Nat) (hj : ls[j]? = some (i, .int x)) (k : AW G l ad d M (pc + 2) ls (.int x :: st) h Q) : AW G l ad d M pc ls (st) h Q :=
  AW.lift k (fun p e s m args below meth c H locs D aC la Z X hl kk => lv_iload X.1 X.2.1 hd (lv_at hl j hj) (kk la hl))
theorem aw_lload_n {q : Fin 4} {i : Nat} {x : Int64} (hd : decode M.2.1 pc = .ok (.lload_n q, 1)) (hi : (q : Nat) = i) (j : Nat) (hj : ls[j]? = some (i, .long x)) (k : AW G l ad d M (pc + 1) ls (.long x :: st) h Q) : AW G l ad d M pc ls (st) h Q :=
  AW.lift k (fun p e s m args below meth c H locs D aC la Z X hl kk => lv_lload_n X.1 X.2.1 hd hi (lv_at hl j hj) (kk la hl))
theorem aw_lload {i : Nat} {x : Int64} (hd : decode M.2.1 pc = .ok (.lload i, 2)) (j : Nat) (hj : ls[j]? = some (i, .long x)) (k : AW G l ad d M (pc + 2) ls (.long x :: st) h Q) : AW G l ad d M pc ls (st) h Q :=
  AW.lift k (fun p e s m args below meth c H locs D aC la Z X hl kk => lv_lload X.1 X.2.1 hd (lv_at hl j hj) (kk la hl))
theorem aw_aload_n {q : Fin 4} {i : Nat} {x : Nat} (hd : decode M.2.1 pc = .ok (.aload_n q, 1)) (hi : (q : Nat) = i) (j : Nat) (hj : ls[j]? = some (i, .ref x)) (k : AW G l ad d M (pc + 1) ls (.ref x :: st) h Q) : AW G l ad d M pc ls (st) h Q :=
  AW.lift k (fun p e s m args below meth c H locs D aC la Z X hl kk => lv_aload_n X.1 X.2.1 hd hi (lv_at hl j hj) (kk la hl))
theorem aw_aload {i : Nat} {x : Nat} (hd : decode M.2.1 pc = .ok (.aload i, 2)) (j : Nat) (hj : ls[j]? = some (i, .ref x)) (k : AW G l ad d M (pc + 2) ls (.ref x :: st) h Q) : AW G l ad d M pc ls (st) h Q :=
  AW.lift k (fun p e s m args below meth c H locs D aC la Z X hl kk => lv_aload X.1 X.2.1 hd (lv_at hl j hj) (kk la hl))
theorem aw_iadd {x y : Int32} (hd : decode M.2.1 pc = .ok (.iadd, 1))  (k : AW G l ad d M (pc + 1) ls (.int (x + y) :: st) h Q) : AW G l ad d M pc ls (.int y :: .int x :: st) h Q :=
  AW.lift k (fun p e s m args below meth c H locs D aC la Z X hl kk => lv_iadd X.1 X.2.1 hd (kk la hl))
theorem aw_isub {x y : Int32} (hd : decode M.2.1 pc = .ok (.isub, 1))  (k : AW G l ad d M (pc + 1) ls (.int (x - y) :: st) h Q) : AW G l ad d M pc ls (.int y :: .int x :: st) h Q :=
  AW.lift k (fun p e s m args below meth c H locs D aC la Z X hl kk => lv_isub X.1 X.2.1 hd (kk la hl))
theorem aw_imul {x y : Int32} (hd : decode M.2.1 pc = .ok (.imul, 1))  (k : AW G l ad d M (pc + 1) ls (.int (x * y) :: st) h Q) : AW G l ad d M pc ls (.int y :: .int x :: st) h Q :=
  AW.lift k (fun p e s m args below meth c H locs D aC la Z X hl kk => lv_imul X.1 X.2.1 hd (kk la hl))
theorem aw_iand {x y : Int32} (hd : decode M.2.1 pc = .ok (.iand, 1))  (k : AW G l ad d M (pc + 1) ls (.int (x &&& y) :: st) h Q) : AW G l ad d M pc ls (.int y :: .int x :: st) h Q :=
  AW.lift k (fun p e s m args below meth c H locs D aC la Z X hl kk => lv_iand X.1 X.2.1 hd (kk la hl))
theorem aw_ior {x y : Int32} (hd : decode M.2.1 pc = .ok (.ior, 1))  (k : AW G l ad d M (pc + 1) ls (.int (x ||| y) :: st) h Q) : AW G l ad d M pc ls (.int y :: .int x :: st) h Q :=
  AW.lift k (fun p e s m args below meth c H locs D aC la Z X hl kk => lv_ior X.1 X.2.1 hd (kk la hl))
theorem aw_ixor {x y : Int32} (hd : decode M.2.1 pc = .ok (.ixor, 1))  (k : AW G l ad d M (pc + 1) ls (.int (x ^^^ y) :: st) h Q) : AW G l ad d M pc ls (.int y :: .int x :: st) h Q :=
  AW.lift k (fun p e s m args below meth c H locs D aC la Z X hl kk => lv_ixor X.1 X.2.1 hd (kk la hl))
theorem aw_ishl {x y : Int32} (hd : decode M.2.1 pc = .ok (.ishl, 1))  (k : AW G l ad d M (pc + 1) ls (.int (x <<< (y &&& 31)) :: st) h Q) : AW G l ad d M pc ls (.int y :: .int x :: st) h Q :=
  AW.lift k (fun p e s m args below meth c H locs D aC la Z X hl kk => lv_ishl X.1 X.2.1 hd (kk la hl))
theorem aw_ishr {x y : Int32} (hd : decode M.2.1 pc = .ok (.ishr, 1))  (k : AW G l ad d M (pc + 1) ls (.int (x >>> (y &&& 31)) :: st) h Q) : AW G l ad d M pc ls (.int y :: .int x :: st) h Q :=
  AW.lift k (fun p e s m args below meth c H locs D aC la Z X hl kk => lv_ishr X.1 X.2.1 hd (kk la hl))
theorem aw_iushr {x y v : Int32} (hd : decode M.2.1 pc = .ok (.iushr, 1)) (hv : (x.toUInt32 >>> (y.toUInt32 &&& Int32.toUInt32 31)).toInt32 = v) (k : AW G l ad d M (pc + 1) ls (.int v :: st) h Q) : AW G l ad d M pc ls (.int y :: .int x :: st) h Q :=
  AW.lift k (fun p e s m args below meth c H locs D aC la Z X hl kk => lv_iushr X.1 X.2.1 hd hv (kk la hl))
theorem aw_idiv {x y : Int32} (hd : decode M.2.1 pc = .ok (.idiv, 1)) (hne : ¬ y = 0) (k : AW G l ad d M (pc + 1) ls (.int (x / y) :: st) h Q) : AW G l ad d M pc ls (.int y :: .int x :: st) h Q :=
  AW.lift k (fun p e s m args below meth c H locs D aC la Z X hl kk => lv_idiv X.1 X.2.1 hd hne (kk la hl))
theorem aw_irem {x y : Int32} (hd : decode M.2.1 pc = .ok (.irem, 1)) (hne : ¬ y = 0) (k : AW G l ad d M (pc + 1) ls (.int (x - x / y * y) :: st) h Q) : AW G l ad d M pc ls (.int y :: .int x :: st) h Q :=
  AW.lift k (fun p e s m args below meth c H locs D aC la Z X hl kk => lv_irem X.1 X.2.1 hd hne (kk la hl))
theorem aw_ineg {x : Int32} (hd : decode M.2.1 pc = .ok (.ineg, 1))  (k : AW G l ad d M (pc + 1) ls (.int (-x) :: st) h Q) : AW G l ad d M pc ls (.int x :: st) h Q :=
  AW.lift k (fun p e s m args below meth c H locs D aC la Z X hl kk => lv_ineg X.1 X.2.1 hd (kk la hl))
theorem aw_ladd {x y : Int64} (hd : decode M.2.1 pc = .ok (.ladd, 1))  (k : AW G l ad d M (pc + 1) ls (.long (x + y) :: st) h Q) : AW G l ad d M pc ls (.long y :: .long x :: st) h Q :=
  AW.lift k (fun p e s m args below meth c H locs D aC la Z X hl kk => lv_ladd X.1 X.2.1 hd (kk la hl))
theorem aw_lsub {x y : Int64} (hd : decode M.2.1 pc = .ok (.lsub, 1))  (k : AW G l ad d M (pc + 1) ls (.long (x - y) :: st) h Q) : AW G l ad d M pc ls (.long y :: .long x :: st) h Q :=
  AW.lift k (fun p e s m args below meth c H locs D aC la Z X hl kk => lv_lsub X.1 X.2.1 hd (kk la hl))
theorem aw_lmul {x y : Int64} (hd : decode M.2.1 pc = .ok (.lmul, 1))  (k : AW G l ad d M (pc + 1) ls (.long (x * y) :: st) h Q) : AW G l ad d M pc ls (.long y :: .long x :: st) h Q :=
  AW.lift k (fun p e s m args below meth c H locs D aC la Z X hl kk => lv_lmul X.1 X.2.1 hd (kk la hl))
theorem aw_land {x y : Int64} (hd : decode M.2.1 pc = .ok (.land, 1))  (k : AW G l ad d M (pc + 1) ls (.long (x &&& y) :: st) h Q) : AW G l ad d M pc ls (.long y :: .long x :: st) h Q :=
  AW.lift k (fun p e s m args below meth c H locs D aC la Z X hl kk => lv_land X.1 X.2.1 hd (kk la hl))
theorem aw_ldiv {x y : Int64} (hd : decode M.2.1 pc = .ok (.ldiv, 1)) (hne : ¬ y = 0) (k : AW G l ad d M (pc + 1) ls (.long (x / y) :: st) h Q) : AW G l ad d M pc ls (.long y :: .long x :: st) h Q :=
  AW.lift k (fun p e s m args below meth c H locs D aC la Z X hl kk => lv_ldiv X.1 X.2.1 hd hne (kk la hl))
theorem aw_lrem {x y : Int64} (hd : decode M.2.1 pc = .ok (.lrem, 1)) (hne : ¬ y = 0) (k : AW G l ad d M (pc + 1) ls (.long (x - x / y * y) :: st) h Q) : AW G l ad d M pc ls (.long y :: .long x :: st) h Q :=
  AW.lift k (fun p e s m args below meth c H locs D aC la Z X hl kk => lv_lrem X.1 X.2.1 hd hne (kk la hl))
theorem aw_lneg {x : Int64} (hd : decode M.2.1 pc = .ok (.lneg, 1))  (k : AW G l ad d M (pc + 1) ls (.long (-x) :: st) h Q) : AW G l ad d M pc ls (.long x :: st) h Q :=
  AW.lift k (fun p e s m args below meth c H locs D aC la Z X hl kk => lv_lneg X.1 X.2.1 hd (kk la hl))
theorem aw_lcmp {x y : Int64} (hd : decode M.2.1 pc = .ok (.lcmp, 1))  (k : AW G l ad d M (pc + 1) ls (.int (lg_cmp x y) :: st) h Q) : AW G l ad d M pc ls (.long y :: .long x :: st) h Q :=
  AW.lift k (fun p e s m args below meth c H locs D aC la Z X hl kk => W.lcmp X.1 X.2.1 hd (kk la hl))
theorem aw_i2l {x : Int32} (hd : decode M.2.1 pc = .ok (.i2l, 1))  (k : AW G l ad d M (pc + 1) ls (.long x.toInt64 :: st) h Q) : AW G l ad d M pc ls (.int x :: st) h Q :=
  AW.lift k (fun p e s m args below meth c H locs D aC la Z X hl kk => lv_i2l X.1 X.2.1 hd rfl (kk la hl))
theorem aw_l2i {x : Int64} (hd : decode M.2.1 pc = .ok (.l2i, 1))  (k : AW G l ad d M (pc + 1) ls (.int x.toInt32 :: st) h Q) : AW G l ad d M pc ls (.long x :: st) h Q :=
  AW.lift k (fun p e s m args below meth c H locs D aC la Z X hl kk => lv_l2i X.1 X.2.1 hd rfl (kk la hl))
theorem aw_dup {v : Value} (hd : decode M.2.1 pc = .ok (.dup, 1)) (hv : v.category = 1) (k : AW G l ad d M (pc + 1) ls (v :: v :: st) h Q) : AW G l ad d M pc ls (v :: st) h Q :=
  AW.lift k (fun p e s m args below meth c H locs D aC la Z X hl kk => lv_dup X.1 X.2.1 hd hv (kk la hl))
theorem aw_dup2 {v w : Value} (hd : decode M.2.1 pc = .ok (.dup2, 1)) (hv : v.category = 1) (hw : w.category = 1) (k : AW G l ad d M (pc + 1) ls (v :: w :: v :: w :: st) h Q) : AW G l ad d M pc ls (v :: w :: st) h Q :=
  AW.lift k (fun p e s m args below meth c H locs D aC la Z X hl kk => lv_dup2_11 X.1 X.2.1 hd hv hw (kk la hl))
theorem aw_pop {v : Value} (hd : decode M.2.1 pc = .ok (.pop, 1)) (hv : v.category = 1) (k : AW G l ad d M (pc + 1) ls (st) h Q) : AW G l ad d M pc ls (v :: st) h Q :=
  AW.lift k (fun p e s m args below meth c H locs D aC la Z X hl kk => lv_pop X.1 X.2.1 hd hv (kk la hl))
theorem aw_ldc {i : Nat} {v : Int32} (hd : decode M.2.1 pc = .ok (.ldc i, 2)) (hc : Cond.constant M.1.cls i v ∈ aTB) (k : AW G l ad d M (pc + 2) ls (.int v :: st) h Q) : AW G l ad d M pc ls (st) h Q :=
  AW.lift k (fun p e s m args below meth c H locs D aC la Z X hl kk => lv_ldc X.1 X.2.1 X.2.2.2.2.2.1 (X.2.2.2.2.2.2.1 _ hc) hd (kk la hl))
theorem aw_ldcw {i : Nat} {v : Int32} (hd : decode M.2.1 pc = .ok (.ldc_w i, 3)) (hc : Cond.constant M.1.cls i v ∈ aTB) (k : AW G l ad d M (pc + 3) ls (.int v :: st) h Q) : AW G l ad d M pc ls (st) h Q :=
  AW.lift k (fun p e s m args below meth c H locs D aC la Z X hl kk => lv_ldcw X.1 X.2.1 X.2.2.2.2.2.1 (X.2.2.2.2.2.2.1 _ hc) hd (kk la hl))
theorem aw_ldc2 {i : Nat} {v : Int64} (hd : decode M.2.1 pc = .ok (.ldc2_w i, 3)) (hc : Cond.constantLong M.1.cls i v ∈ aTB) (k : AW G l ad d M (pc + 3) ls (.long v :: st) h Q) : AW G l ad d M pc ls (st) h Q :=
  AW.lift k (fun p e s m args below meth c H locs D aC la Z X hl kk => lv_ldc2 X.1 X.2.1 X.2.2.2.2.2.1 (X.2.2.2.2.2.2.1 _ hc) hd (kk la hl))
theorem aw_istore_n {q : Fin 4} {i : Nat} {x : Int32} {ls' : List (Nat × Value)} (hd : decode M.2.1 pc = .ok (.istore_n q, 1)) (hi : (q : Nat) = i) (hn : i < M.2.2.1) (hs : (i, Value.int x) :: ls.filter (fun q => !(q.1 == i) && !(q.1 + 1 == i && q.2.category == 2)) = ls') (k : AW G l ad d M (pc + 1) ls' st h Q) : AW G l ad d M pc ls (.int x :: st) h Q :=
  AW.lift k (fun p e s m args below meth c H locs D aC la Z X hl kk => lv_istore_n X.1 X.2.1 hd hi hl hn hs kk)
theorem aw_istore {i : Nat} {x : Int32} {ls' : List (Nat × Value)} (hd : decode M.2.1 pc = .ok (.istore i, 2)) (hn : i < M.2.2.1) (hs : (i, Value.int x) :: ls.filter (fun q => !(q.1 == i) && !(q.1 + 1 == i && q.2.category == 2)) = ls') (k : AW G l ad d M (pc + 2) ls' st h Q) : AW G l ad d M pc ls (.int x :: st) h Q :=
  AW.lift k (fun p e s m args below meth c H locs D aC la Z X hl kk => lv_istore X.1 X.2.1 hd hl hn hs kk)
theorem aw_lstore_n {q : Fin 4} {i : Nat} {x : Int64} {ls' : List (Nat × Value)} (hd : decode M.2.1 pc = .ok (.lstore_n q, 1)) (hi : (q : Nat) = i) (hn : i + 1 < M.2.2.1) (hs : (i, Value.long x) :: ls.filter (fun q => !(q.1 == i) && (!(q.1 == i + 1) && !(q.1 + 1 == i && q.2.category == 2))) = ls') (k : AW G l ad d M (pc + 1) ls' st h Q) : AW G l ad d M pc ls (.long x :: st) h Q :=
  AW.lift k (fun p e s m args below meth c H locs D aC la Z X hl kk => lv_lstore_n X.1 X.2.1 hd hi hl hn hs kk)
theorem aw_lstore {i : Nat} {x : Int64} {ls' : List (Nat × Value)} (hd : decode M.2.1 pc = .ok (.lstore i, 2)) (hn : i + 1 < M.2.2.1) (hs : (i, Value.long x) :: ls.filter (fun q => !(q.1 == i) && (!(q.1 == i + 1) && !(q.1 + 1 == i && q.2.category == 2))) = ls') (k : AW G l ad d M (pc + 2) ls' st h Q) : AW G l ad d M pc ls (.long x :: st) h Q :=
  AW.lift k (fun p e s m args below meth c H locs D aC la Z X hl kk => lv_lstore X.1 X.2.1 hd hl hn hs kk)
theorem aw_astore_n {q : Fin 4} {i : Nat} {x : Nat} {ls' : List (Nat × Value)} (hd : decode M.2.1 pc = .ok (.astore_n q, 1)) (hi : (q : Nat) = i) (hn : i < M.2.2.1) (hs : (i, Value.ref x) :: ls.filter (fun q => !(q.1 == i) && !(q.1 + 1 == i && q.2.category == 2)) = ls') (k : AW G l ad d M (pc + 1) ls' st h Q) : AW G l ad d M pc ls (.ref x :: st) h Q :=
  AW.lift k (fun p e s m args below meth c H locs D aC la Z X hl kk => lv_astore_n X.1 X.2.1 hd hi hl hn hs kk)
theorem aw_astore {i : Nat} {x : Nat} {ls' : List (Nat × Value)} (hd : decode M.2.1 pc = .ok (.astore i, 2)) (hn : i < M.2.2.1) (hs : (i, Value.ref x) :: ls.filter (fun q => !(q.1 == i) && !(q.1 + 1 == i && q.2.category == 2)) = ls') (k : AW G l ad d M (pc + 2) ls' st h Q) : AW G l ad d M pc ls (.ref x :: st) h Q :=
  AW.lift k (fun p e s m args below meth c H locs D aC la Z X hl kk => lv_astore X.1 X.2.1 hd hl hn hs kk)
theorem aw_iinc {i j : Nat} {n : Int} {x v : Int32} {ls' : List (Nat × Value)} (hd : decode M.2.1 pc = .ok (.iinc i n, 3)) (hj : ls[j]? = some (i, .int x)) (hv : x + Int32.ofInt n = v) (hn : i < M.2.2.1) (hs : (i, Value.int v) :: ls.filter (fun q => !(q.1 == i) && !(q.1 + 1 == i && q.2.category == 2)) = ls') (k : AW G l ad d M (pc + 3) ls' st h Q) : AW G l ad d M pc ls st h Q :=
  AW.lift k (fun p e s m args below meth c H locs D aC la Z X hl kk => lv_iinc X.1 X.2.1 hd hl hj hv hn hs kk)
theorem aw_if_eq {x : Int32} {off : Int} {tgt : Nat} (hd : decode M.2.1 pc = .ok (.ifCond .eq off, 3)) (ht : (pc : Int) + off = (tgt : Int)) (kt : x = 0 → AW G l ad d M tgt ls st h Q) (kf : ¬ x = 0 → AW G l ad d M (pc + 3) ls st h Q) : AW G l ad d M pc ls (.int x :: st) h Q :=
  AW.lift2 kt kf (fun p e s m args below meth c H locs D aC la Z X hl k1 k2 => lv_if_eq X.1 X.2.1 hd ht k1 k2)
theorem aw_icmp_eq {x y : Int32} {off : Int} {tgt : Nat} (hd : decode M.2.1 pc = .ok (.if_icmp .eq off, 3)) (ht : (pc : Int) + off = (tgt : Int)) (kt : x = y → AW G l ad d M tgt ls st h Q) (kf : ¬ x = y → AW G l ad d M (pc + 3) ls st h Q) : AW G l ad d M pc ls (.int y :: .int x :: st) h Q :=
  AW.lift2 kt kf (fun p e s m args below meth c H locs D aC la Z X hl k1 k2 => lv_icmp_eq X.1 X.2.1 hd ht k1 k2)
theorem aw_if_ne {x : Int32} {off : Int} {tgt : Nat} (hd : decode M.2.1 pc = .ok (.ifCond .ne off, 3)) (ht : (pc : Int) + off = (tgt : Int)) (kt : ¬ x = 0 → AW G l ad d M tgt ls st h Q) (kf : x = 0 → AW G l ad d M (pc + 3) ls st h Q) : AW G l ad d M pc ls (.int x :: st) h Q :=
  AW.lift2 kt kf (fun p e s m args below meth c H locs D aC la Z X hl k1 k2 => lv_if_ne X.1 X.2.1 hd ht k1 k2)
theorem aw_icmp_ne {x y : Int32} {off : Int} {tgt : Nat} (hd : decode M.2.1 pc = .ok (.if_icmp .ne off, 3)) (ht : (pc : Int) + off = (tgt : Int)) (kt : ¬ x = y → AW G l ad d M tgt ls st h Q) (kf : x = y → AW G l ad d M (pc + 3) ls st h Q) : AW G l ad d M pc ls (.int y :: .int x :: st) h Q :=
  AW.lift2 kt kf (fun p e s m args below meth c H locs D aC la Z X hl k1 k2 => lv_icmp_ne X.1 X.2.1 hd ht k1 k2)
theorem aw_if_lt {x : Int32} {off : Int} {tgt : Nat} (hd : decode M.2.1 pc = .ok (.ifCond .lt off, 3)) (ht : (pc : Int) + off = (tgt : Int)) (kt : x < 0 → AW G l ad d M tgt ls st h Q) (kf : ¬ x < 0 → AW G l ad d M (pc + 3) ls st h Q) : AW G l ad d M pc ls (.int x :: st) h Q :=
  AW.lift2 kt kf (fun p e s m args below meth c H locs D aC la Z X hl k1 k2 => lv_if_lt X.1 X.2.1 hd ht k1 k2)
theorem aw_icmp_lt {x y : Int32} {off : Int} {tgt : Nat} (hd : decode M.2.1 pc = .ok (.if_icmp .lt off, 3)) (ht : (pc : Int) + off = (tgt : Int)) (kt : x < y → AW G l ad d M tgt ls st h Q) (kf : ¬ x < y → AW G l ad d M (pc + 3) ls st h Q) : AW G l ad d M pc ls (.int y :: .int x :: st) h Q :=
  AW.lift2 kt kf (fun p e s m args below meth c H locs D aC la Z X hl k1 k2 => lv_icmp_lt X.1 X.2.1 hd ht k1 k2)
theorem aw_if_ge {x : Int32} {off : Int} {tgt : Nat} (hd : decode M.2.1 pc = .ok (.ifCond .ge off, 3)) (ht : (pc : Int) + off = (tgt : Int)) (kt : 0 ≤ x → AW G l ad d M tgt ls st h Q) (kf : ¬ 0 ≤ x → AW G l ad d M (pc + 3) ls st h Q) : AW G l ad d M pc ls (.int x :: st) h Q :=
  AW.lift2 kt kf (fun p e s m args below meth c H locs D aC la Z X hl k1 k2 => lv_if_ge X.1 X.2.1 hd ht k1 k2)
theorem aw_icmp_ge {x y : Int32} {off : Int} {tgt : Nat} (hd : decode M.2.1 pc = .ok (.if_icmp .ge off, 3)) (ht : (pc : Int) + off = (tgt : Int)) (kt : y ≤ x → AW G l ad d M tgt ls st h Q) (kf : ¬ y ≤ x → AW G l ad d M (pc + 3) ls st h Q) : AW G l ad d M pc ls (.int y :: .int x :: st) h Q :=
  AW.lift2 kt kf (fun p e s m args below meth c H locs D aC la Z X hl k1 k2 => lv_icmp_ge X.1 X.2.1 hd ht k1 k2)
theorem aw_if_gt {x : Int32} {off : Int} {tgt : Nat} (hd : decode M.2.1 pc = .ok (.ifCond .gt off, 3)) (ht : (pc : Int) + off = (tgt : Int)) (kt : 0 < x → AW G l ad d M tgt ls st h Q) (kf : ¬ 0 < x → AW G l ad d M (pc + 3) ls st h Q) : AW G l ad d M pc ls (.int x :: st) h Q :=
  AW.lift2 kt kf (fun p e s m args below meth c H locs D aC la Z X hl k1 k2 => lv_if_gt X.1 X.2.1 hd ht k1 k2)
theorem aw_icmp_gt {x y : Int32} {off : Int} {tgt : Nat} (hd : decode M.2.1 pc = .ok (.if_icmp .gt off, 3)) (ht : (pc : Int) + off = (tgt : Int)) (kt : y < x → AW G l ad d M tgt ls st h Q) (kf : ¬ y < x → AW G l ad d M (pc + 3) ls st h Q) : AW G l ad d M pc ls (.int y :: .int x :: st) h Q :=
  AW.lift2 kt kf (fun p e s m args below meth c H locs D aC la Z X hl k1 k2 => lv_icmp_gt X.1 X.2.1 hd ht k1 k2)
theorem aw_if_le {x : Int32} {off : Int} {tgt : Nat} (hd : decode M.2.1 pc = .ok (.ifCond .le off, 3)) (ht : (pc : Int) + off = (tgt : Int)) (kt : x ≤ 0 → AW G l ad d M tgt ls st h Q) (kf : ¬ x ≤ 0 → AW G l ad d M (pc + 3) ls st h Q) : AW G l ad d M pc ls (.int x :: st) h Q :=
  AW.lift2 kt kf (fun p e s m args below meth c H locs D aC la Z X hl k1 k2 => lv_if_le X.1 X.2.1 hd ht k1 k2)
theorem aw_icmp_le {x y : Int32} {off : Int} {tgt : Nat} (hd : decode M.2.1 pc = .ok (.if_icmp .le off, 3)) (ht : (pc : Int) + off = (tgt : Int)) (kt : x ≤ y → AW G l ad d M tgt ls st h Q) (kf : ¬ x ≤ y → AW G l ad d M (pc + 3) ls st h Q) : AW G l ad d M pc ls (.int y :: .int x :: st) h Q :=
  AW.lift2 kt kf (fun p e s m args below meth c H locs D aC la Z X hl k1 k2 => lv_icmp_le X.1 X.2.1 hd ht k1 k2)
theorem aw_goto {off : Int} {tgt : Nat} (hd : decode M.2.1 pc = .ok (.goto off, 3)) (ht : (pc : Int) + off = (tgt : Int)) (k : AW G l ad d M tgt ls st h Q) : AW G l ad d M pc ls st h Q :=
  AW.lift k (fun p e s m args below meth c H locs D aC la Z X hl kk => lv_goto X.1 X.2.1 hd ht (kk la hl))
theorem aw_tableOut {dflt lo hi : Int} {offs : Array Int} {len : Nat} {x : Int32} {tgt : Nat} (hd : decode M.2.1 pc = .ok (.tableswitch dflt lo hi offs, len)) (hx : x.toInt < lo ∨ hi < x.toInt) (ht : (pc : Int) + dflt = (tgt : Int)) (k : AW G l ad d M tgt ls st h Q) : AW G l ad d M pc ls (.int x :: st) h Q :=
  AW.lift k (fun p e s m args below meth c H locs D aC la Z X hl kk => lv_tableOut X.1 X.2.1 hd hx ht (kk la hl))
theorem aw_tableIn {dflt lo hi : Int} {offs : Array Int} {len : Nat} {x : Int32} {off : Int} {tgt : Nat} (hd : decode M.2.1 pc = .ok (.tableswitch dflt lo hi offs, len)) (h1 : ¬ x.toInt < lo) (h2 : ¬ hi < x.toInt) (ho : offs[(x.toInt - lo).toNat]? = some off) (ht : (pc : Int) + off = (tgt : Int)) (k : AW G l ad d M tgt ls st h Q) : AW G l ad d M pc ls (.int x :: st) h Q :=
  AW.lift k (fun p e s m args below meth c H locs D aC la Z X hl kk => lv_tableIn X.1 X.2.1 hd h1 h2 ho ht (kk la hl))
theorem aw_lookup {dflt : Int} {ps : Array (Int × Int)} {len : Nat} {x : Int32} {off : Int} {tgt : Nat} (hd : decode M.2.1 pc = .ok (.lookupswitch dflt ps, len)) (hp : (ps.toList.zip (ps.toList.drop 1)).all (fun (a, next) => a.1 < next.1) = true) (ho : Op.lookupswitch.offset ps.toList dflt x.toInt = off) (ht : (pc : Int) + off = (tgt : Int)) (k : AW G l ad d M tgt ls st h Q) : AW G l ad d M pc ls (.int x :: st) h Q :=
  AW.lift k (fun p e s m args below meth c H locs D aC la Z X hl kk => lv_lookup X.1 X.2.1 hd hp ho ht (kk la hl))
/-- a class of a side: its words, the types and names of its fields -/
def aCk (G : aG) (ci : Nat) (r : vw_C) : Prop := G.1[ci]? = some r ∧ (∀ w ∈ u_ws r.1 r.2.1 r.2.2, w ∈ aTB) ∧ (∀ k, k < r.2.2 → parseFieldDescriptor (r.2.1 k).2.2.1 = some (G.2.1 ci k)) ∧ ∀ a, a < r.2.2 → ∀ b, b < r.2.2 → a ≠ b → (r.2.1 a).2.1 ≠ (r.2.1 b).2.1
/-- a field's link in a class's pool -/
def aFL (r : vw_C) (own : String) (ix k : Nat) : Prop := k < r.2.2 ∧ Cond.fieldLink own ix (r.2.1 k).1 (r.2.1 k).2.1 (r.2.1 k).2.2.1 ∈ aTB
theorem afs_get {c ci k : Nat} {r : vw_C} (hc : G.1[ci]? = some r) (hk : k < r.2.2) : (afs G ad h c ci)[k]? = some (afv G ad h c ci k) := by
  unfold afs
  rw [hc, List.getElem?_map]
  show Option.map _ (List.range r.2.2)[k]? = _
  rw [List.getElem?_range hk]
  rfl
theorem afs_len {c ci : Nat} {r : vw_C} (hc : G.1[ci]? = some r) : (afs G ad h c ci).length = r.2.2 := by
  unfold afs
  rw [hc]
  show ((List.range r.2.2).map _).length = _
  simp
theorem aw_get {c ci k ix : Nat} {r : vw_C} {v : Value} (hd : decode M.2.1 pc = .ok (.getfield ix, 3)) (hs : G.2.2.2.1[c]? = some (.inl ci)) (C : aCk G ci r) (L : aFL r M.1.cls ix k) (hv : afv G ad h c ci k = v) (kk : AW G l ad d M (pc + 3) ls (v :: st) h Q) : AW G l ad d M pc ls (.ref (ad c) :: st) h Q := by
  intro p e s m args below meth c0 H locs A D aC la X hP hD hS hZ hl
  obtain ⟨r1, r2, r3⟩ := r
  exact va_get X.1 X.2.1 X.2.2.2.2.2.2.1 C.2.1 X.2.2.2.2.2.1 X.2.2.2.2.2.2.2 hP c (awl_get hs) C.1 k L.1 (X.2.2.2.2.2.2.1 _ L.2) (fun _ h9 => h9) (hv ▸ afs_get C.1 L.1) hd (kk p e s m args below meth c0 H locs A D aC la X hP hD hS hZ hl)
theorem ael_off {h h' : aH} {aC : FieldType → ClassId} {c' : Nat} (h1 : h'.1 c' = h.1 c') (h2 : h'.2.1 c' = h.2.1 c') (h3 : h'.2.2 c' = h.2.2 c') (y : aE) : ael G ad aC h' c' y = ael G ad aC h c' y := by
  have e : ∀ ci, afs G ad h' c' ci = afs G ad h c' ci := by
    intro ci
    unfold afs
    congr 1
    funext k
    unfold afv
    rw [h1, h2, h3]
  unfold ael
  rw [h1, h2, h3]
  split <;> first | rw [e] | rfl
theorem sI_off {c k c' : Nat} {v : Int32} (hc : c' ≠ c) : (sI h c k v).1 c' = h.1 c' := by
  funext j
  simp [sI, hc]
theorem sJ_off {c k c' : Nat} {v : Int64} (hc : c' ≠ c) : (sJ h c k v).2.1 c' = h.2.1 c' := by
  funext j
  simp [sJ, hc]
theorem sR_off {c k c' v : Nat} (hc : c' ≠ c) : (sR h c k v).2.2 c' = h.2.2 c' := by
  funext j
  simp [sR, hc]
theorem ael_offI {aC : FieldType → ClassId} {c k c' : Nat} {v : Int32} (hc : c' ≠ c) (y : aE) : ael G ad aC (sI h c k v) c' y = ael G ad aC h c' y := ael_off (h := h) (h' := sI h c k v) (sI_off hc) rfl rfl y
theorem ael_offJ {aC : FieldType → ClassId} {c k c' : Nat} {v : Int64} (hc : c' ≠ c) (y : aE) : ael G ad aC (sJ h c k v) c' y = ael G ad aC h c' y := ael_off (h := h) (h' := sJ h c k v) rfl (sJ_off hc) rfl y
theorem ael_offR {aC : FieldType → ClassId} {c k c' v : Nat} (hc : c' ≠ c) (y : aE) : ael G ad aC (sR h c k v) c' y = ael G ad aC h c' y := ael_off (h := h) (h' := sR h c k v) rfl rfl (sR_off hc) y
theorem sI_on {c k : Nat} {v : Int32} : (sI h c k v).1 c = upd (h.1 c) k v := by
  funext j
  simp [sI, upd]
theorem sJ_on {c k : Nat} {v : Int64} : (sJ h c k v).2.1 c = vp_updL (h.2.1 c) k v := by
  funext j
  simp [sJ, vp_updL]
theorem afs_setI {c ci k : Nat} {v : Int32} (hI : ∀ h, afv G ad h c ci k = .int (h.1 c k)) : afs G ad (sI h c k v) c ci = (afs G ad h c ci).set k (.int v) := by
  apply List.ext_getElem?
  intro j
  unfold afs
  generalize (G.1[ci]?).elim 0 (fun r => r.2.2) = n
  rw [List.getElem?_set, List.getElem?_map, List.getElem?_map, List.length_map, List.length_range]
  by_cases hj : j < n
  · rw [List.getElem?_range hj]
    by_cases hk : k = j
    · subst hk
      simp [hI, sI, hj]
    · rw [if_neg hk]
      show some (afv G ad (sI h c k v) c ci j) = some (afv G ad h c ci j)
      have e : (sI h c k v).1 c j = h.1 c j := by simp [sI, Ne.symm hk]
      unfold afv
      rw [e]
      rfl
  · rw [List.getElem?_eq_none (by simpa using hj)]
    by_cases hk : k = j
    · subst hk
      simp [hj]
    · simp [hk]
theorem afs_setR {c ci k c' : Nat} (hI : ∀ h, afv G ad h c ci k = .ref (ad (h.2.2 c k))) : afs G ad (sR h c k c') c ci = (afs G ad h c ci).set k (.ref (ad c')) := by
  apply List.ext_getElem?
  intro j
  unfold afs
  generalize (G.1[ci]?).elim 0 (fun r => r.2.2) = n
  rw [List.getElem?_set, List.getElem?_map, List.getElem?_map, List.length_map, List.length_range]
  by_cases hj : j < n
  · rw [List.getElem?_range hj]
    by_cases hk : k = j
    · subst hk
      simp [hI, sR, hj]
    · rw [if_neg hk]
      show some (afv G ad (sR h c k c') c ci j) = some (afv G ad h c ci j)
      have e : (sR h c k c').2.2 c j = h.2.2 c j := by simp [sR, Ne.symm hk]
      unfold afv
      rw [e]
      rfl
  · rw [List.getElem?_eq_none (by simpa using hj)]
    by_cases hk : k = j
    · subst hk
      simp [hj]
    · simp [hk]
theorem aw_putI {c ci k ix : Nat} {r : vw_C} {v : Int32} (hd : decode M.2.1 pc = .ok (.putfield ix, 3)) (hs : G.2.2.2.1[c]? = some (.inl ci)) (C : aCk G ci r) (L : aFL r M.1.cls ix k) (hf : (r.2.1 k).2.2.2 = false) (hI : ∀ h, afv G ad h c ci k = .int (h.1 c k)) (hn : narrow (G.2.1 ci k) (.int v) = .int v) (hfi : fits (G.2.1 ci k) (.int v) = true) (kk : AW G l ad d M (pc + 3) ls st (sI h c k v) Q) : AW G l ad d M pc ls (.int v :: .ref (ad c) :: st) h Q := by
  intro p e s m args below meth c0 H locs A D aC la X hP hD hS hZ hl
  obtain ⟨r1, r2, r3⟩ := r
  refine va_put X.1 X.2.1 X.2.2.2.2.2.2.1 C.2.1 (G.2.1 ci) C.2.2.1 C.2.2.2 X.2.2.2.2.2.1 X.2.2.2.2.2.2.2 hP hD hS c (awl_get hs) C.1 k L.1 (X.2.2.2.2.2.2.1 _ L.2) (fun _ h9 => h9) hf (C.2.2.1 k L.1) hn hfi (by rw [afs_len C.1]; exact L.1) hd (fun H1 locs1 hP1 _ hS1 => ?_)
  have e1 := awl_set (ad := ad) (aC := aC) (h := h) (h' := sI h c k v) (X := .inr (ci, (afs G ad h c ci).set k (.int v))) hs (fun c' hc y => ael_offI hc y) (by show Sum.inr (ci, afs G ad (sI h c k v) c ci) = _; rw [afs_setI hI])
  rw [e1] at hP1
  exact kk p e s m args below meth c0 H1 locs1 A D aC la X hP1 (awl_D hD) hS1 hZ hl
theorem aw_putR {c ci k ix c' : Nat} {r : vw_C} (hd : decode M.2.1 pc = .ok (.putfield ix, 3)) (hs : G.2.2.2.1[c]? = some (.inl ci)) (C : aCk G ci r) (L : aFL r M.1.cls ix k) (hf : (r.2.1 k).2.2.2 = false) (hI : ∀ h, afv G ad h c ci k = .ref (ad (h.2.2 c k))) (hn : narrow (G.2.1 ci k) (.ref (ad c')) = .ref (ad c')) (hfi : fits (G.2.1 ci k) (.ref (ad c')) = true) (kk : AW G l ad d M (pc + 3) ls st (sR h c k c') Q) : AW G l ad d M pc ls (.ref (ad c') :: .ref (ad c) :: st) h Q := by
  intro p e s m args below meth c0 H locs A D aC la X hP hD hS hZ hl
  obtain ⟨r1, r2, r3⟩ := r
  refine va_put X.1 X.2.1 X.2.2.2.2.2.2.1 C.2.1 (G.2.1 ci) C.2.2.1 C.2.2.2 X.2.2.2.2.2.1 X.2.2.2.2.2.2.2 hP hD hS c (awl_get hs) C.1 k L.1 (X.2.2.2.2.2.2.1 _ L.2) (fun _ h9 => h9) hf (C.2.2.1 k L.1) hn hfi (by rw [afs_len C.1]; exact L.1) hd (fun H1 locs1 hP1 _ hS1 => ?_)
  have e1 := awl_set (ad := ad) (aC := aC) (h := h) (h' := sR h c k c') (X := .inr (ci, (afs G ad h c ci).set k (.ref (ad c')))) hs (fun c9 hc y => ael_offR hc y) (by show Sum.inr (ci, afs G ad (sR h c k c') c ci) = _; rw [afs_setR hI])
  rw [e1] at hP1
  exact kk p e s m args below meth c0 H1 locs1 A D aC la X hP1 (awl_D hD) hS1 hZ hl
theorem atys_get {aC : FieldType → ClassId} {t0 : Nat} {ty : FieldType} (ht : G.2.2.2.2.1[t0]? = some ty) : (atys G aC)[t0]? = some (aC ty, ty) := by
  unfold atys
  rw [List.getElem?_map, ht]
  rfl
theorem aw_iald {c n t0 : Nat} {i : Int32} (hd : decode M.2.1 pc = .ok (.iaload, 1)) (hs : G.2.2.2.1[c]? = some (.inr (.int, n))) (ht : G.2.2.2.2.1[t0]? = some .int) (hin : vp_in i n) (kk : AW G l ad d M (pc + 1) ls (.int (h.1 c i.toNatClampNeg) :: st) h Q) : AW G l ad d M pc ls (.int i :: .ref (ad c) :: st) h Q :=
  fun p e s m args below meth c0 H locs A D aC la X hP hD hS hZ hl => va_iald X.1 X.2.1 X.2.2.2.2.2.2.2 hP c t0 (awl_get hs) (atys_get ht) hin hd (kk p e s m args below meth c0 H locs A D aC la X hP hD hS hZ hl)
theorem aw_zald {c n t0 : Nat} {i : Int32} (hd : decode M.2.1 pc = .ok (.baload, 1)) (hs : G.2.2.2.1[c]? = some (.inr (.boolean, n))) (ht : G.2.2.2.2.1[t0]? = some .boolean) (hin : vp_in i n) (kk : AW G l ad d M (pc + 1) ls (.int (h.1 c i.toNatClampNeg) :: st) h Q) : AW G l ad d M pc ls (.int i :: .ref (ad c) :: st) h Q :=
  fun p e s m args below meth c0 H locs A D aC la X hP hD hS hZ hl => va_zald X.1 X.2.1 X.2.2.2.2.2.2.2 hP c t0 (awl_get hs) (atys_get ht) hin hd (kk p e s m args below meth c0 H locs A D aC la X hP hD hS hZ hl)
theorem aw_lald {c n t0 : Nat} {i : Int32} (hd : decode M.2.1 pc = .ok (.laload, 1)) (hs : G.2.2.2.1[c]? = some (.inr (.long, n))) (ht : G.2.2.2.2.1[t0]? = some .long) (hin : vp_in i n) (kk : AW G l ad d M (pc + 1) ls (.long (h.2.1 c i.toNatClampNeg) :: st) h Q) : AW G l ad d M pc ls (.int i :: .ref (ad c) :: st) h Q :=
  fun p e s m args below meth c0 H locs A D aC la X hP hD hS hZ hl => va_lald X.1 X.2.1 X.2.2.2.2.2.2.2 hP c t0 (awl_get hs) (atys_get ht) hin hd (kk p e s m args below meth c0 H locs A D aC la X hP hD hS hZ hl)
theorem aw_aald {c n t0 : Nat} {C : String} {i : Int32} (hd : decode M.2.1 pc = .ok (.aaload, 1)) (hs : G.2.2.2.1[c]? = some (.inr (.object C, n))) (ht : G.2.2.2.2.1[t0]? = some (.object C)) (hin : vp_in i n) (kk : AW G l ad d M (pc + 1) ls (.ref (ad (h.2.2 c i.toNatClampNeg)) :: st) h Q) : AW G l ad d M pc ls (.int i :: .ref (ad c) :: st) h Q :=
  fun p e s m args below meth c0 H locs A D aC la X hP hD hS hZ hl => va_aldq X.1 X.2.1 X.2.2.2.2.2.2.2 hP c t0 (awl_get hs) (atys_get ht) hin hd (kk p e s m args below meth c0 H locs A D aC la X hP hD hS hZ hl)
theorem aw_iast {c n t0 : Nat} {i x : Int32} (hd : decode M.2.1 pc = .ok (.iastore, 1)) (hs : G.2.2.2.1[c]? = some (.inr (.int, n))) (ht : G.2.2.2.2.1[t0]? = some .int) (hin : vp_in i n) (kk : AW G l ad d M (pc + 1) ls st (sI h c i.toNatClampNeg x) Q) : AW G l ad d M pc ls (.int x :: .int i :: .ref (ad c) :: st) h Q := by
  intro p e s m args below meth c0 H locs A D aC la X hP hD hS hZ hl
  refine va_iast X.1 X.2.1 X.2.2.2.2.2.2.2 hP hD hS c t0 (awl_get hs) (atys_get ht) hin hd (fun H1 locs1 hP1 _ hS1 => ?_)
  have e1 := awl_set (ad := ad) (aC := aC) (h := h) (h' := sI h c i.toNatClampNeg x) (X := .inl (aC .int, n, .inl (upd (h.1 c) i.toNatClampNeg x))) hs (fun c' hc y => ael_offI hc y) (by unfold ael; rw [sI_on])
  rw [e1] at hP1
  exact kk p e s m args below meth c0 H1 locs1 A D aC la X hP1 (awl_D hD) hS1 hZ hl
theorem aw_zast {c n t0 : Nat} {i x : Int32} (hd : decode M.2.1 pc = .ok (.bastore, 1)) (hs : G.2.2.2.1[c]? = some (.inr (.boolean, n))) (ht : G.2.2.2.2.1[t0]? = some .boolean) (hin : vp_in i n) (kk : AW G l ad d M (pc + 1) ls st (sI h c i.toNatClampNeg (vp_nar .boolean x)) Q) : AW G l ad d M pc ls (.int x :: .int i :: .ref (ad c) :: st) h Q := by
  intro p e s m args below meth c0 H locs A D aC la X hP hD hS hZ hl
  refine va_zast X.1 X.2.1 X.2.2.2.2.2.2.2 hP hD hS c t0 (awl_get hs) (atys_get ht) hin hd (fun H1 locs1 hP1 _ hS1 => ?_)
  have e1 := awl_set (ad := ad) (aC := aC) (h := h) (h' := sI h c i.toNatClampNeg (vp_nar .boolean x)) (X := .inl (aC .boolean, n, .inl (upd (h.1 c) i.toNatClampNeg (vp_nar .boolean x)))) hs (fun c' hc y => ael_offI hc y) (by unfold ael; rw [sI_on])
  rw [e1] at hP1
  exact kk p e s m args below meth c0 H1 locs1 A D aC la X hP1 (awl_D hD) hS1 hZ hl
theorem aw_last {c n t0 : Nat} {i : Int32} {x : Int64} (hd : decode M.2.1 pc = .ok (.lastore, 1)) (hs : G.2.2.2.1[c]? = some (.inr (.long, n))) (ht : G.2.2.2.2.1[t0]? = some .long) (hin : vp_in i n) (kk : AW G l ad d M (pc + 1) ls st (sJ h c i.toNatClampNeg x) Q) : AW G l ad d M pc ls (.long x :: .int i :: .ref (ad c) :: st) h Q := by
  intro p e s m args below meth c0 H locs A D aC la X hP hD hS hZ hl
  refine va_last X.1 X.2.1 X.2.2.2.2.2.2.2 hP hD hS c t0 (awl_get hs) (atys_get ht) hin hd (fun H1 locs1 hP1 _ hS1 => ?_)
  have e1 := awl_set (ad := ad) (aC := aC) (h := h) (h' := sJ h c i.toNatClampNeg x) (X := .inl (aC .long, n, .inr (.inl (vp_updL (h.2.1 c) i.toNatClampNeg x)))) hs (fun c' hc y => ael_offJ hc y) (by unfold ael; rw [sJ_on])
  rw [e1] at hP1
  exact kk p e s m args below meth c0 H1 locs1 A D aC la X hP1 (awl_D hD) hS1 hZ hl
theorem aw_aast {c n t0 c' ci : Nat} {r : vw_C} {i : Int32} (hd : decode M.2.1 pc = .ok (.aastore, 1)) (hs : G.2.2.2.1[c]? = some (.inr (.object r.1, n))) (ht : G.2.2.2.2.1[t0]? = some (.object r.1)) (hs' : G.2.2.2.1[c']? = some (.inl ci)) (hc : G.1[ci]? = some r) (hin : vp_in i n) (kk : AW G l ad d M (pc + 1) ls st (sR h c i.toNatClampNeg c') Q) : AW G l ad d M pc ls (.ref (ad c') :: .int i :: .ref (ad c) :: st) h Q := by
  intro p e s m args below meth c0 H locs A D aC la X hP hD hS hZ hl
  refine va_astq X.1 X.2.1 X.2.2.2.2.2.2.2 hP hD hS c t0 c' ci (awl_get hs) (atys_get ht) (awl_get hs') hc hin hd (fun H1 locs1 hP1 _ hS1 => ?_)
  have e1 := awl_set (ad := ad) (aC := aC) (h := h) (h' := sR h c i.toNatClampNeg c') (X := .inl (aC (.object r.1), n, .inr (.inr (.inr (.inr (va_up (fun j => some (ad (h.2.2 c j))) i.toNatClampNeg (some (ad c')))))))) hs (fun c9 hc y => ael_offR hc y) (by
    unfold ael
    dsimp only
    congr 7
    funext j
    by_cases hj : j = i.toNatClampNeg <;> simp [sR, va_up, hj])
  rw [e1] at hP1
  exact kk p e s m args below meth c0 H1 locs1 A D aC la X hP1 (awl_D hD) hS1 hZ hl
theorem aw_alen {c n t0 : Nat} {t : FieldType} (hd : decode M.2.1 pc = .ok (.arraylength, 1)) (hs : G.2.2.2.1[c]? = some (.inr (t, n))) (ht : G.2.2.2.2.1[t0]? = some t) (kk : AW G l ad d M (pc + 1) ls (.int (Int32.ofNat n) :: st) h Q) : AW G l ad d M pc ls (.ref (ad c) :: st) h Q := by
  intro p e s m args below meth c0 H locs A D aC la X hP hD hS hZ hl
  have k9 := kk p e s m args below meth c0 H locs A D aC la X hP hD hS hZ hl
  have h0 := awl_get (ad := ad) (aC := aC) (h := h) hs
  unfold ael at h0
  cases t <;> exact va_alen X.1 X.2.1 X.2.2.2.2.2.2.2 hP c t0 h0 (atys_get ht) rfl hd k9
theorem aw_iret {v : Int32} (hd : decode M.2.1 pc = .ok (.ireturn, 1)) (hr : M.2.2.2 = some .int) (hq : Q (some (.int v)) h) : AW G l ad d M pc ls [.int v] h Q := by
  intro p e s m args below meth c0 H locs A D aC la X hP hD hS hZ hl
  exact W.iret (v := v) X.1 X.2.1 (X.2.2.1.trans hr) (fun t ht hW => ⟨⟨_, h, rfl, hq, by rw [ht]; exact hP⟩, hS.F ht⟩) hS.2.2 hd X.2.2.2.1
theorem aw_zret {v : Int32} (hd : decode M.2.1 pc = .ok (.ireturn, 1)) (hr : M.2.2.2 = some .boolean) (hn : narrow .boolean (.int v) = .int v) (hq : Q (some (.int v)) h) : AW G l ad d M pc ls [.int v] h Q := by
  intro p e s m args below meth c0 H locs A D aC la X hP hD hS hZ hl
  exact W.zret (v := v) X.1 X.2.1 (X.2.2.1.trans hr) hn (fun t ht hW => ⟨⟨_, h, rfl, hq, by rw [ht]; exact hP⟩, hS.F ht⟩) hS.2.2 hd X.2.2.2.1
theorem aw_lret {v : Int64} (hd : decode M.2.1 pc = .ok (.lreturn, 1)) (hr : M.2.2.2 = some .long) (hq : Q (some (.long v)) h) : AW G l ad d M pc ls [.long v] h Q := by
  intro p e s m args below meth c0 H locs A D aC la X hP hD hS hZ hl
  exact W.lret (v := v) X.1 X.2.1 (X.2.2.1.trans hr) (fun t ht hW => ⟨⟨_, h, rfl, hq, by rw [ht]; exact hP⟩, hS.F ht⟩) hS.2.2 hd X.2.2.2.1
theorem aw_vret (hd : decode M.2.1 pc = .ok (.return_, 1)) (hr : M.2.2.2 = none) (hq : Q none h) : AW G l ad d M pc ls [] h Q := by
  intro p e s m args below meth c0 H locs A D aC la X hP hD hS hZ hl
  exact W.vret X.1 X.2.1 (X.2.2.1.trans hr) (fun t ht hW => ⟨⟨_, h, rfl, hq, by rw [ht]; exact hP⟩, hS.F ht⟩) hS.2.2 hd X.2.2.2.1
theorem aw_aret {a : Nat} {C : String} (hd : decode M.2.1 pc = .ok (.areturn, 1)) (hr : M.2.2.2 = some (.object C)) (hq : Q (some (.ref a)) h) : AW G l ad d M pc ls [.ref a] h Q := by
  intro p e s m args below meth c0 H locs A D aC la X hP hD hS hZ hl
  exact W.aret (v := .ref a) X.1 X.2.1 (X.2.2.1.trans hr) (Or.inl ⟨C, rfl⟩) (Or.inr ⟨a, rfl⟩) (fun t ht hW => ⟨⟨_, h, rfl, hq, by rw [ht]; exact hP⟩, hS.F ht⟩) hS.2.2 hd X.2.2.2.1
/-! ===== calls ===== -/
/-- a method that may be called: its words -/
def aMk (M : aM) (n : Nat) : Prop := plainName M.1.cls = true ∧ Cond.code M.1 M.2.1 M.2.2.1 M.2.2.2 ∈ aTB ∧ Cond.initialized M.1.cls ∈ aTB ∧ (M.1.cls ≠ "java/lang/invoke/MethodHandle" ∧ M.1.cls ≠ "java/lang/invoke/VarHandle" ∧ (parseMethodDescriptor M.1.desc).map (fun d => d.parameters.length) = some n) ∧ M.2.2.1 ≤ 40
theorem aTB_good : ∀ w ∈ aTB, (w.onTables && w.keeps) = true ∨ ∃ ty, w = .arrayClass ty := fun _ hw => good_of_word (List.mem_filter.mp hw).2
theorem aws_good {M : aM} {n : Nat} (K : aMk M n) : GoodIn aTB (aws M) := fun w hw => by
  rcases List.mem_cons.mp hw with rfl | hw
  · exact ⟨K.2.1, aTB_good _ K.2.1⟩
  · exact ⟨hw, aTB_good _ hw⟩
/-- a callee's contract: its walk from its start -/
theorem aw_met {As : List Value} {N : aM} {n : Nat} {h : aH} {R : Option Value → aH → Prop} (K : aMk N n) (hlen : (lg_sl As).length ≤ N.2.2.1) (k : AW G l ad d N 0 (lv_args 0 As) [] h R) (A : Nat → Prop) (D : va_G) (aC : FieldType → ClassId) :
    Met l N.1 (aws N) (aR d) (fun v U => v = As.toArray ∧ va_P D G.1 (awl G ad aC h) U.heap ∧ va_K D G.1 (atys G aC) U ∧ va_D A (awl G ad aC h) ∧ G.2.2.2.2.2 A U) (aQ G ad D aC A R) 0 0 A := by
  refine Met.ofW (cc := N.2.1) (maxL := N.2.2.1) (ret := N.2.2.2) K.1 rfl ?_
  intro p e s m args below meth c s₁ B hml hv
  obtain ⟨rfl, hP, hK, hD, hZ⟩ := hv
  have hts := atoms_spec (ws := aws N) B.pre
  rw [lg_entry_eq]
  exact k p e s m As.toArray below meth c s.heap [] A D aC _ ⟨B.exec, B.bytes, B.returns, B.notSynchronized, hml, findClass_of_methodNamed B.named, fun w hw => hts w (List.mem_cons_of_mem _ hw), hK⟩ hP hD va_S.rf hZ (lv_entry As hlen)
/-- behind a call -/
theorem aw_run {p : Program} {e : Env} {s : State} {m : MethodId} {args : Array Value} {below : List Frame} {meth : Method} {c : Code} {H : Heap} {locs : List Loc} {A : Nat → Prop} {D : va_G} {aC : FieldType → ClassId} {la : Array Slot} {Z : State → Prop} {st0 rest : List Value} {a : Array Value} {R : Option Value → aH → Prop}
    (hr : va_Run p l e (aR d) s m args below meth c H locs 0 0 0 0 (F0 m pc la st0) rest (aQ G ad D aC A R a) A) (hS : va_S A s.heap H locs)
    (kk : ∀ (r : Option Value) (h1 : aH) (H1 : Heap) (locs1 : List Loc), R r h1 → va_P D G.1 (awl G ad aC h1) H1 → va_S A s.heap H1 locs1 → W p l e (aR d) s m args below meth c H1 locs1 0 0 Z (F0 m (pc + 3) la (r.toList ++ rest))) : W p l e (aR d) s m args below meth c H locs 0 0 Z (F0 m pc la st0) := by
  intro T hT X
  obtain ⟨v, st₀, t, T', L, h0, X', hL, e1, e2, ⟨⟨r, h1, hv, hR, hP⟩, hz, hk⟩, st⟩ := hr T hT X
  cases hv
  rw [h0] at hz hk
  obtain ⟨t2, a1, b1⟩ := kk v h1 T'.heap (locs ++ L) hR (by rw [e1]; exact hP)
    ⟨Nat.le_trans hS.1 (by rw [e1]; exact hz), fun q h1 h2 => by rw [e1, hk q (Nat.lt_of_lt_of_le h1 hS.1) h2]; exact hS.2.1 q h1 h2, fun q hq => by
      rcases List.mem_append.mp hq with h | h
      · exact hS.2.2 q h
      · exact hL q h⟩ T' rfl X'
  exact ⟨t2, st t2 a1, b1⟩
theorem aw_blind {A : Nat → Prop} {D : va_G} {aC : FieldType → ClassId} {As : List Value} (hst : aSt G) : FrameBlind (fun (v : Array Value) (U : State) => v = As.toArray ∧ va_P D G.1 (awl G ad aC h) U.heap ∧ va_K D G.1 (atys G aC) U ∧ va_D A (awl G ad aC h) ∧ G.2.2.2.2.2 A U) := by
  intro a U g mk q
  obtain ⟨q1, q2, q3, q4, q5⟩ := q
  exact ⟨q1, q2, va_K.moved (u := U) (U := U.calling g mk a) (Vm.Alike.refl U.vm) q3, q4, hst A U (U.calling g mk a) q5 (State.WarmedH.refl U) (Nat.le_refl _) (fun _ _ _ => rfl)⟩
theorem aw_pre {p : Program} {s : State} {m : MethodId} {args : Array Value} {meth : Method} {c : Code} {H : Heap} {locs : List Loc} {A : Nat → Prop} {D : va_G} {aC : FieldType → ClassId} {As : List Value} (hst : aSt G) (X : aX G M p s m args meth c D aC) (hP : va_P D G.1 (awl G ad aC h) H) (hD : va_D A (awl G ad aC h)) (hS : va_S A s.heap H locs) (hZ : G.2.2.2.2.2 A s) :
    ∀ U : State, U.heap = H → s.WarmedH U.vm → (As.toArray = As.toArray ∧ va_P D G.1 (awl G ad aC h) U.heap ∧ va_K D G.1 (atys G aC) U ∧ va_D A (awl G ad aC h) ∧ G.2.2.2.2.2 A U) :=
  fun U hU hW => ⟨rfl, by rw [hU]; exact hP, va_K.moved hW.alike X.2.2.2.2.2.2.2, hD, hst A s U hZ hW (by rw [hU]; exact hS.1) (fun q h1 h2 => by rw [hU]; exact hS.2.1 q h1 h2)⟩
theorem aw_room {N : aM} {n : Nat} (K : aMk N n) : (aR d).frames + 1 ≤ (aR (d + 1)).frames ∧ 8 + (N.2.2.1 + 11) + (aR d).locals ≤ (aR (d + 1)).locals := ⟨Nat.le_refl _, by have := K.2.2.2.2; show 8 + (N.2.2.1 + 11) + 64 * d ≤ 64 * (d + 1); omega⟩
/-- a call of a method of an object -/
theorem aw_callV {c n ix ci : Nat} {r : vw_C} {As : List Value} {N : aM} {R : Option Value → aH → Prop} (hd : decode M.2.1 pc = .ok (.invokevirtual ix, 3)) (hst : aSt G) (K : aMk N n) (hn : As.length = n) (hlk : Cond.methodLink M.1.cls ix N.1 ∈ aTB) (hin : Cond.instanceMethod N.1 ∈ aTB) (hse : Cond.selects N.1.cls N.1 N.1 ∈ aTB) (hs : G.2.2.2.1[c]? = some (.inl ci)) (hc : G.1[ci]? = some r) (hy : N.1.cls = r.1) (hlen : (lg_sl (.ref (ad c) :: As)).length ≤ N.2.2.1) (hro : (st.map fun v => v.category).sum ≤ 8) {st0 : List Value} (hst0 : st0 = As.reverse ++ .ref (ad c) :: st)
    (k : AW G l ad d N 0 (lv_args 0 (.ref (ad c) :: As)) [] h R) (kk : ∀ r h1, R r h1 → AW G l ad (d + 1) M (pc + 3) ls (r.toList ++ st) h1 Q) : AW G l ad (d + 1) M pc ls st0 h Q := by
  intro p e s m args below meth c0 H locs A D aC la X hP hD hS hZ hl
  have hM := aw_met (As := .ref (ad c) :: As) K hlen k A D aC
  have hts := X.2.2.2.2.2.2.1
  have hcb : CallB (aR (d + 1)) s args M.1.cls ix N.1 N.2.1 N.2.2.1 N.2.2.2 (aws N) (aR d) 0 0 n := callB_of n hts (aws_good K) rfl rfl rfl (hts _ K.2.2.1) (hts _ hlk) K.2.2.2.1 (aw_room K)
  have hrec := va_recv (a := ad c) X.2.2.2.2.2.2.2 hP hc (awl_get hs)
  refine aw_run (rest := st) (va_runV (C := N.1.cls) (As := As) (rest := st) ⟨X.1, X.2.1, X.2.2.2.2.1, X.2.2.2.2.2.1, hts⟩ hM ⟨hcb, hts _ hin, hts _ hse⟩ ⟨aw_blind hst, by rw [hy]; exact hrec, aw_pre hst X hP hD hS hZ⟩ rfl hn hl.1 hst0 (lv_room hro) hd ⟨Nat.le_refl _, Nat.le_refl _⟩) hS (fun r h1 H1 locs1 hR hP1 hS1 => ?_)
  exact kk r h1 hR p e s m args below meth c0 H1 locs1 A D aC la X hP1 (awl_D hD) hS1 hZ hl
/-- a call of a static method -/
theorem aw_callS {n ix : Nat} {As : List Value} {N : aM} {R : Option Value → aH → Prop} (hd : decode M.2.1 pc = .ok (.invokestatic ix, 3)) (hst : aSt G) (K : aMk N n) (hn : As.length = n) (hlk : Cond.methodLink M.1.cls ix N.1 ∈ aTB) (hin : Cond.static N.1 ∈ aTB) (hlen : (lg_sl As).length ≤ N.2.2.1) (hro : (st.map fun v => v.category).sum ≤ 8) {st0 : List Value} (hst0 : st0 = As.reverse ++ st)
    (k : AW G l ad d N 0 (lv_args 0 As) [] h R) (kk : ∀ r h1, R r h1 → AW G l ad (d + 1) M (pc + 3) ls (r.toList ++ st) h1 Q) : AW G l ad (d + 1) M pc ls st0 h Q := by
  intro p e s m args below meth c0 H locs A D aC la X hP hD hS hZ hl
  have hM := aw_met (As := As) K hlen k A D aC
  have hts := X.2.2.2.2.2.2.1
  have hcb : CallB (aR (d + 1)) s args M.1.cls ix N.1 N.2.1 N.2.2.1 N.2.2.2 (aws N) (aR d) 0 0 n := callB_of n hts (aws_good K) rfl rfl rfl (hts _ K.2.2.1) (hts _ hlk) K.2.2.2.1 (aw_room K)
  refine aw_run (rest := st) (va_runS (As := As) (rest := st) ⟨X.1, X.2.1, X.2.2.2.2.1, X.2.2.2.2.2.1, hts⟩ hM ⟨hcb, hts _ hin⟩ ⟨aw_blind hst, aw_pre hst X hP hD hS hZ⟩ rfl hn hl.1 hst0 (lv_room hro) hd ⟨Nat.le_refl _, Nat.le_refl _⟩) hS (fun r h1 H1 locs1 hR hP1 hS1 => ?_)
  exact kk r h1 hR p e s m args below meth c0 H1 locs1 A D aC la X hP1 (awl_D hD) hS1 hZ hl
/-- a call of a nest mate's private static method -/
theorem aw_callSN {n ix : Nat} {host : String} {As : List Value} {N : aM} {R : Option Value → aH → Prop} (hd : decode M.2.1 pc = .ok (.invokestatic ix, 3)) (hst : aSt G) (K : aMk N n) (hn : As.length = n) (hlk : ∀ A s, G.2.2.2.2.2 A s → va_Nw (.methodLinkNest M.1.cls ix N.1 host) s) (hin : Cond.static N.1 ∈ aTB) (hlen : (lg_sl As).length ≤ N.2.2.1) (hro : (st.map fun v => v.category).sum ≤ 8) {st0 : List Value} (hst0 : st0 = As.reverse ++ st)
    (k : AW G l ad d N 0 (lv_args 0 As) [] h R) (kk : ∀ r h1, R r h1 → AW G l ad (d + 1) M (pc + 3) ls (r.toList ++ st) h1 Q) : AW G l ad (d + 1) M pc ls st0 h Q := by
  intro p e s m args below meth c0 H locs A D aC la X hP hD hS hZ hl
  have hM := aw_met (As := As) K hlen k A D aC
  have hts := X.2.2.2.2.2.2.1
  have hcb : va_CN (aR (d + 1)) s args M.1.cls ix N.1 host N.2.1 N.2.2.1 N.2.2.2 (aws N) (aR d) 0 0 n := va_cnB n hts (aws_good K) rfl rfl rfl (hlk A s hZ) (hts _ K.2.2.1) K.2.2.2.1 (aw_room K)
  refine aw_run (rest := st) (va_runSN (As := As) (rest := st) ⟨X.1, X.2.1, X.2.2.2.2.1, X.2.2.2.2.2.1, hts⟩ hM ⟨hcb, hts _ hin, trivial⟩ ⟨aw_blind hst, aw_pre hst X hP hD hS hZ⟩ rfl hn hl.1 hst0 (lv_room hro) hd ⟨Nat.le_refl _, Nat.le_refl _⟩) hS (fun r h1 H1 locs1 hR hP1 hS1 => ?_)
  exact kk r h1 hR p e s m args below meth c0 H1 locs1 A D aC la X hP1 (awl_D hD) hS1 hZ hl
end AWR
