/-! ===== debt: the class's side ===== -/
section DBC
variable {l : Launch} {ad : Nat → Nat} {D : va_G} {aC : FieldType → ClassId} {hC : aH} {N : Nat} {x y : Int32}
/-- reading a field of a cell, nothing written -/
theorem rd_get {p : Program} {e : Env} {R : Room} {s : State} {m : MethodId} {args : Array Value} {below : List Frame} {meth : Method} {c : Code} {locs : List Loc} {cells slots : Nat} {la : Array Slot} {Z : State → Prop} {M : aM} {H : Heap} {q ci ix k pc : Nat} {r : vw_C} {v : Value} {st : List Value} (X : aX GC M p s m args meth c D aC) (hP : va_P D acl (awl GC ad aC hC) H) (hd : decode M.2.1 pc = .ok (.getfield ix, 3)) (hs : GC.2.2.2.1[q]? = some (.inl ci)) (C : aCk GC ci r) (L : aFL r M.1.cls ix k) (hv : (afs GC ad hC q ci)[k]? = some v) (kk : W p l e R s m args below meth c H locs cells slots Z (F0 m (pc + 3) la (v :: st))) : W p l e R s m args below meth c H locs cells slots Z (F0 m pc la (.ref (ad q) :: st)) := by
  obtain ⟨c1, c2, c3⟩ := r
  exact va_get X.1 X.2.1 X.2.2.2.2.2.2.1 C.2.1 X.2.2.2.2.2.1 X.2.2.2.2.2.2.2 hP q (awl_get hs) C.1 k L.1 (X.2.2.2.2.2.2.1 _ L.2) (fun _ h9 => h9) hv hd kk
def PcI (D : va_G) (aC : FieldType → ClassId) (ad : Nat → Nat) (hC : aH) (As : List Value) : Array Value → State → Prop := fun v U => v = (Value.ref (ad 0) :: As).toArray ∧ va_P D acl (awl GC ad aC hC) U.heap ∧ va_K D acl (atys GC aC) U
theorem db_isDebt (hN : hC.1 66 11 = nI N) : Met l mX9_isDebt.1 (aws mX9_isDebt) (aR 0) (PcI D aC ad hC [.int x]) (fun _ st o t => o = .returned (some (.int (if isIn x N then 1 else 0))) ∧ t.heap = st.heap) 0 0 (fun _ => False) := by
  refine Met.ofW (cc := cX9_isDebt) (maxL := 2) (ret := some .boolean) mkX9_isDebt.1 rfl ?_
  intro p e s m args below meth c s₁ B hml hv
  obtain ⟨rfl, hP, hK⟩ := hv
  have hts := atoms_spec (ws := aws mX9_isDebt) B.pre
  have X : aX GC mX9_isDebt p s m _ meth c D aC := ⟨B.exec, B.bytes, B.returns, B.notSynchronized, hml, findClass_of_methodNamed B.named, fun w hw => hts w (List.mem_cons_of_mem _ hw), hK⟩
  have hl := lv_entry (.ref (ad 0) :: [.int x]) (n := 2) (Nat.le_of_ble_eq_true rfl)
  rw [lg_entry_eq]
  generalize (lg_sl (.ref (ad 0) :: [.int x]) ++ List.replicate (2 - (lg_sl (.ref (ad 0) :: [.int x])).length) Slot.unset).toArray = la at hl ⊢
  have hl : lv_has la 2 [(0, .ref (ad 0)), (1, .int x)] := hl
  have fin : ∀ v : Int32, (v = 0 ∨ v = 1) → v = (if isIn x N then 1 else 0) → W p l e (aR 0) s m (Value.ref (ad 0) :: [.int x]).toArray below meth c s.heap [] 0 0 (MQ below (fun _ st o t => o = .returned (some (.int (if isIn x N then 1 else 0))) ∧ t.heap = st.heap) (Value.ref (ad 0) :: [.int x]).toArray s 0 0 (fun _ => False)) (F0 m 20 la [.int v]) := fun v h01 hv => W.zret X.1 X.2.1 X.2.2.1 (aw_nb h01) (fun t ht _ => ⟨by rw [hv], ht⟩) (fun q hq => by cases hq) dX9_isDebt_20 X.2.2.2.1
  refine lv_iload_n X.1 X.2.1 dX9_isDebt_0 rfl (lv_at hl 1 rfl) ?_
  refine lv_if_lt (tgt := 19) X.1 X.2.1 dX9_isDebt_1 (by decide) (fun h1 => ?_) (fun h1 => ?_)
  · refine lv_iconst (v := 0) X.1 X.2.1 dX9_isDebt_19 (by decide) (fin 0 (Or.inl rfl) ?_)
    unfold isIn
    rw [decide_eq_false (fun q => q h1)]; rfl
  · refine lv_iload_n X.1 X.2.1 dX9_isDebt_4 rfl (lv_at hl 1 rfl) (lv_aload_n X.1 X.2.1 dX9_isDebt_5 rfl (lv_at hl 0 rfl) ?_)
    refine rd_get (hC := hC) (M := mX9_isDebt) (v := .ref (ad 66)) X hP dX9_isDebt_6 shC0 ckX9 flX9_32 rfl ?_
    refine rd_get (hC := hC) (M := mX9_isDebt) (v := .int (hC.1 66 11)) X hP dX9_isDebt_9 isW_66.1 ckX8 flX9_212 rfl ?_
    rw [hN]
    refine lv_icmp_ge (tgt := 19) X.1 X.2.1 dX9_isDebt_12 (by decide) (fun h2 => ?_) (fun h2 => ?_)
    · refine lv_iconst (v := 0) X.1 X.2.1 dX9_isDebt_19 (by decide) (fin 0 (Or.inl rfl) ?_)
      unfold isIn
      rw [decide_eq_true h1, decide_eq_false (fun q => q h2)]; rfl
    · refine lv_iconst (v := 1) X.1 X.2.1 dX9_isDebt_15 (by decide) (lv_goto (tgt := 20) X.1 X.2.1 dX9_isDebt_16 (by decide) (fin 1 (Or.inr rfl) ?_))
      unfold isIn
      rw [decide_eq_true h1, decide_eq_true h2]; rfl
end DBC
