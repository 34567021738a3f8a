/-! ===== the law from its entry, but for debt ===== -/
section LEN
variable {p : Program} {l : Launch} {e : Env} {s : State} {m : MethodId} {below : List Frame} {meth : Method} {c : Code} {b L : Nat} {xs : Nat → Int32} {D : va_G} {aC : FieldType → ClassId}
theorem cnL_8 : Cond.classLink R_law 8 RX9 ∈ aTB := aTB_t 24 (by decide +kernel) (by decide +kernel)
theorem lw_mk {N : aM} {ci ix1 ix2 mc' ms' cells slots pc : Nat} {rm : Room} {r : vw_C} {Zs : State → Prop} {Qc : Array Value → State → Outcome → State → Prop} {H : Heap} {locs : List Loc} {la : Array Slot} {ls : List (Nat × Value)} {st : List Value} {Z : State → Prop} (C0 : lw_At p s m meth c b L xs) (hK : va_K D acl (atys GC aC) s) (hS : va_S (fun q => s.heap.size ≤ q) s.heap H locs) (hl : lv_has la 7 ls) (d0 : decode code pc = .ok (.new ix1, 3)) (d1 : decode code (pc + 3) = .ok (.dup, 1)) (d2 : decode code (pc + 3 + 1) = .ok (.invokespecial ix2, 3)) (C : aCk GC ci r) (hcl : Cond.classLink R_law ix1 r.1 ∈ aTB) (hin : Cond.instantiable r.1 r.2.2 ∈ aTB) (hini : Cond.initialized r.1 ∈ aTB) (K : aMk N 0) (hnm : N.1.name = "<init>") (hret : N.2.2.2 = none) (hlk : Cond.methodLink R_law ix2 N.1 ∈ aTB) (him : Cond.instanceMethod N.1 ∈ aTB) (hst : kSt H.size Zs) (hZ : Zs s) (hrc : rm.cells = mc') (hrs : rm.slots = ms') (hro : (st.map fun v => v.category).sum ≤ 6) (hfr : rm.frames + 1 ≤ 2048 ∧ 8 + (N.2.2.1 + 11) + rm.locals ≤ 84000) (hf : cells + 1 + mc' ≤ 601024 ∧ slots + r.2.2 + ms' ≤ 7293033)
    (hM : Met l N.1 (aws N) rm (PcK D aC Zs H.size [] [.inr (ci, kDf ci r.2.2)]) Qc mc' ms' (fun q => H.size ≤ q))
    (kk : ∀ (v : Option Value) (st₀ t : State) (locs1 : List Loc), Qc #[.ref H.size] st₀ (.returned v) t → st₀.heap.size = H.size + 1 → (∀ q : Nat, q < H.size → st₀.heap[q]? = H[q]?) → (∀ q ∈ locs1, s.heap.size ≤ q.base) → W p l e room_1 s m #[Value.ref b] below meth c t.heap locs1 (cells + 1 + mc') (slots + r.2.2 + ms') Z (F0 m (pc + 3 + 1 + 3) la (v.toList ++ .ref H.size :: st))) : W p l e room_1 s m #[Value.ref b] below meth c H locs cells slots Z (F0 m pc la st) := by
  obtain ⟨hx, hb, hr, hml, hown, hts0, hX, hbl, hlocks, hgv⟩ := C0
  have hts : ∀ w ∈ aTB, w.before #[Value.ref b] s = true := fun w hw => hts0 w (List.mem_filter.mp hw).1
  have hKn := hK.1 ci _ C.1
  refine W.newcK hx hb hown (hts _ hcl) (hts _ hin) (hts _ hini) rfl d0 (by show cells + 1 ≤ 601024; omega) (by show slots + r.2.2 ≤ 7293033; omega) hKn.2.1 rfl fun H1 kC hkC e1 z1 o1 => ?_
  refine lv_dup hx hb d1 rfl ?_
  have hcb : CallB room_1 s #[Value.ref b] R_law ix2 N.1 N.2.1 N.2.2.1 none (aws N) rm mc' ms' 0 := callB_of (ws' := aTB) 0 hts (aws_good K) (by unfold aws; rw [hret]) hrc hrs (hts _ K.2.2.1) (hts _ hlk) K.2.2.2.1 hfr
  have hP0 : va_P D acl (cw H.size [.inr (ci, kDf ci r.2.2)]) H1 := by
    intro k q hq
    have hk : k < 1 := by
      have := (List.getElem?_eq_some_iff.mp hq).1
      simpa [cw] using this
    rw [show k = 0 by omega] at hq
    cases hq
    exact ⟨_, C.1, (u_born _ hts C.2.1 hKn hkC e1 C.2.2.1).to (fun j hj => vr_n (f := fun j => defaultValue (GC.2.1 ci j)) hj)⟩
  have bl : FrameBlind (PcK D aC Zs H.size [] [.inr (ci, kDf ci r.2.2)]) := by
    intro a U g mk q
    obtain ⟨q1, q2, q3, q4, q5⟩ := q
    exact ⟨q1, q2, q3, va_K.moved (u := U) (U := U.calling g mk a) (Vm.Alike.refl U.vm) q4, hst U (U.calling g mk a) q5 (State.WarmedH.refl U) (Nat.le_refl _) (fun _ _ _ => rfl)⟩
  have run := va_runI (meth := meth) (below := below) (e := e) (H := H1) (locs := locs) (cells := cells + 1) (slots := slots + r.2.2) (g := F0 m (pc + 3 + 1) la (.ref H.size :: .ref H.size :: st)) (b := H.size) (As := []) (rest := .ref H.size :: st) ⟨hx, hb, hml, hown, hts⟩ hM ⟨hcb, hnm, hts _ him⟩ ⟨bl, fun U hU hW => ⟨rfl, by rw [hU]; exact z1, by rw [hU]; exact hP0, va_K.moved hW.alike hK, hst s U hZ hW (by rw [hU, z1]; exact Nat.le_trans hS.1 (Nat.le_add_right _ _)) (fun q h1 h2 => by
    rw [hU, o1 q (Nat.not_le.mp h2)]
    by_cases h3 : s.heap.size ≤ q
    · exact absurd h1 (Nat.not_lt.mpr h3)
    · exact hS.2.1 q h1 h3)⟩⟩ rfl rfl hl.1 rfl (lv_room (by rw [List.map_cons, List.sum_cons]; show 1 + _ ≤ 8; exact Nat.le_trans (Nat.add_le_add_left hro 1) (by decide))) d2 hf
  intro T hT XT
  obtain ⟨v, st₀, t, T', L', h0, X', hL, e2, e3, hQ, stp⟩ := run T hT XT
  obtain ⟨t2, a1, b1⟩ := kk v st₀ t (locs ++ L') hQ (by rw [h0]; exact z1) (fun q hq => by rw [h0]; exact o1 q hq) (fun q hq => by
    rcases List.mem_append.mp hq with h | h
    · exact hS.2.2 q h
    · exact Nat.le_trans hS.1 (hL q h)) T' e2 X'
  exact ⟨t2, stp t2 a1, b1⟩
end LEN
