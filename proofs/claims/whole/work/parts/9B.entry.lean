/-! ===== the law from its entry, but for debt ===== -/
section LEN
variable {p : Program} {l : Launch} {e : Env} {s : State} {m : MethodId} {below : List Frame} {meth : Method} {c : Code} {b L : Nat} {xs : Nat → Int32} {D : va_G} {aC : FieldType → ClassId}
theorem cnL_8 : Cond.classLink R_law 8 RX9 ∈ aTB := aTB_t 24 (by decide +kernel) (by decide +kernel)
theorem lw_mk {N : aM} {ci ix1 ix2 mc' ms' cells slots pc : Nat} {rm : Room} {r : vw_C} {Zs : State → Prop} {Qc : Array Value → State → Outcome → State → Prop} {H : Heap} {locs : List Loc} {la : Array Slot} {ls : List (Nat × Value)} {st : List Value} {Z : State → Prop} (C0 : lw_At p s m meth c b L xs) (hK : va_K D acl (atys GC aC) s) (hS : va_S (fun q => s.heap.size ≤ q) s.heap H locs) (hl : lv_has la 7 ls) (d0 : decode code pc = .ok (.new ix1, 3)) (d1 : decode code (pc + 3) = .ok (.dup, 1)) (d2 : decode code (pc + 3 + 1) = .ok (.invokespecial ix2, 3)) (C : aCk GC ci r) (hcl : Cond.classLink R_law ix1 r.1 ∈ aTB) (hin : Cond.instantiable r.1 r.2.2 ∈ aTB) (hini : Cond.initialized r.1 ∈ aTB) (K : aMk N 0) (hnm : N.1.name = "<init>") (hret : N.2.2.2 = none) (hlk : Cond.methodLink R_law ix2 N.1 ∈ aTB) (him : Cond.instanceMethod N.1 ∈ aTB) (hst : kSt H.size Zs) (hZ : Zs s) (hrc : rm.cells = mc') (hrs : rm.slots = ms') (hro : (st.map fun v => v.category).sum ≤ 6) (hfr : rm.frames + 1 ≤ 2048 ∧ 8 + (N.2.2.1 + 11) + rm.locals ≤ 84000) (hf : cells + 1 + mc' ≤ 601024 ∧ slots + r.2.2 + ms' ≤ 7293033)
    (hM : Met l N.1 (aws N) rm (PcK D aC Zs H.size [] [.inr (ci, kDf ci r.2.2)]) Qc mc' ms' (fun q => H.size ≤ q))
    (kk : ∀ (v : Option Value) (st₀ t : State) (locs1 : List Loc), Qc #[.ref H.size] st₀ (.returned v) t → st₀.heap.size = H.size + 1 → (∀ q : Nat, q < H.size → st₀.heap[q]? = H[q]?) → (∀ q ∈ locs1, s.heap.size ≤ q.base) → W p l e room_1 s m #[Value.ref b] below meth c t.heap locs1 (cells + 1 + mc') (slots + r.2.2 + ms') Z (F0 m (pc + 3 + 1 + 3) la (v.toList ++ .ref H.size :: st))) : W p l e room_1 s m #[Value.ref b] below meth c H locs cells slots Z (F0 m pc la st) := by
  obtain ⟨hx, hb, hr, hml, hown, hts0, hX, hbl, hlocks, hgv⟩ := C0
  have hts : ∀ w ∈ aTB, w.before #[Value.ref b] s = true := fun w hw => hts0 w (List.mem_filter.mp hw).1
  have hKn := hK.1 ci _ C.1
  refine W.newcK hx hb hown (hts _ hcl) (hts _ hin) (hts _ hini) rfl d0 (by show cells + 1 ≤ 601024; omega) (by show slots + r.2.2 ≤ 7293033; omega) hKn.2.1 rfl fun H1 kC hkC e1 z1 o1 => ?_
  refine lv_dup hx hb d1 rfl ?_
  have hcb : CallB room_1 s #[Value.ref b] R_law ix2 N.1 N.2.1 N.2.2.1 none (aws N) rm mc' ms' 0 := callB_of (ws' := aTB) 0 hts (aws_good K) (by unfold aws; rw [hret]) hrc hrs (hts _ K.2.2.1) (hts _ hlk) K.2.2.2.1 hfr
  have hP0 : va_P D acl (cw H.size [.inr (ci, kDf ci r.2.2)]) H1 := by
    intro k q hq
    have hk : k < 1 := by
      have := (List.getElem?_eq_some_iff.mp hq).1
      simpa [cw] using this
    rw [show k = 0 by omega] at hq
    cases hq
    exact ⟨_, C.1, (u_born _ hts C.2.1 hKn hkC e1 C.2.2.1).to (fun j hj => vr_n (f := fun j => defaultValue (GC.2.1 ci j)) hj)⟩
  have bl : FrameBlind (PcK D aC Zs H.size [] [.inr (ci, kDf ci r.2.2)]) := by
    intro a U g mk q
    obtain ⟨q1, q2, q3, q4, q5⟩ := q
    exact ⟨q1, q2, q3, va_K.moved (u := U) (U := U.calling g mk a) (Vm.Alike.refl U.vm) q4, hst U (U.calling g mk a) q5 (State.WarmedH.refl U) (Nat.le_refl _) (fun _ _ _ => rfl)⟩
  have run := va_runI (meth := meth) (below := below) (e := e) (H := H1) (locs := locs) (cells := cells + 1) (slots := slots + r.2.2) (g := F0 m (pc + 3 + 1) la (.ref H.size :: .ref H.size :: st)) (b := H.size) (As := []) (rest := .ref H.size :: st) ⟨hx, hb, hml, hown, hts⟩ hM ⟨hcb, hnm, hts _ him⟩ ⟨bl, fun U hU hW => ⟨rfl, by rw [hU]; exact z1, by rw [hU]; exact hP0, va_K.moved hW.alike hK, hst s U hZ hW (by rw [hU, z1]; exact Nat.le_trans hS.1 (Nat.le_add_right _ _)) (fun q h1 h2 => by
    rw [hU, o1 q (Nat.not_le.mp h2)]
    by_cases h3 : s.heap.size ≤ q
    · exact absurd h1 (Nat.not_lt.mpr h3)
    · exact hS.2.1 q h1 h3)⟩⟩ rfl rfl hl.1 rfl (lv_room (by rw [List.map_cons, List.sum_cons]; show 1 + _ ≤ 8; exact Nat.le_trans (Nat.add_le_add_left hro 1) (by decide))) d2 hf
  intro T hT XT
  obtain ⟨v, st₀, t, T', L', h0, X', hL, e2, e3, hQ, stp⟩ := run T hT XT
  obtain ⟨t2, a1, b1⟩ := kk v st₀ t (locs ++ L') hQ (by rw [h0]; exact z1) (fun q hq => by rw [h0]; exact o1 q hq) (fun q hq => by
    rcases List.mem_append.mp hq with h | h
    · exact hS.2.2 q h
    · exact Nat.le_trans hS.1 (hL q h)) T' e2 X'
  exact ⟨t2, stp t2 a1, b1⟩
theorem cnL_18 : Cond.classLink R_law 18 RX10 ∈ aTB := aTB_t 1243 (by decide +kernel) (by decide +kernel)
theorem whole_from (l : Launch) (hL : L ≤ 3072) (C0 : lw_At p s m meth c b L xs) (h4 : ∀ (D : va_G) (aC : FieldType → ClassId) (adK adV : Nat → Nat), LC p s m meth c b L xs D aC adK adV → DbOk p l e s m below meth c b L D aC adK adV) : W p l e room_1 s m #[Value.ref b] below meth c s.heap [] 0 0 (lw_Z below #[Value.ref b] s) (entryFrame m ([Value.ref b] : List Value).toArray 7) := by
  obtain ⟨hx, hb, hr, hml, hown, hts0, hX, hbl, hlocks, hgv⟩ := id C0
  obtain ⟨D, aC, hK⟩ := ev_K C0
  obtain ⟨adT, adU, hT⟩ := ev_T C0
  obtain ⟨adK, adV, hE⟩ := ev_M C0
  have X : LC p s m meth c b L xs D aC adK adV := ⟨C0, hL, hK, ev_C C0, hE⟩
  have hZ := Zc_at C0 hT hE
  have hl := lv_entry ([.ref b]) (n := 7) (Nat.le_of_ble_eq_true rfl)
  rw [lg_entry_eq]
  generalize (lg_sl ([.ref b]) ++ List.replicate (7 - (lg_sl ([.ref b])).length) Slot.unset).toArray = la at hl ⊢
  have hl : lv_has la 7 [(0, .ref b)] := hl
  have hts : ∀ w ∈ aTB, w.before #[Value.ref b] s = true := fun w hw => hts0 w (List.mem_filter.mp hw).1
  -- the class
  refine lw_mk (N := mX9_init) (rm := kR 7 372 6824) (ci := 9) (r := (RX9, TX9, 12)) (Zs := Zc s.heap.size adT adU adK adV) (Qc := QcK D s.heap.size (kbX9 aC s.heap.size)) (st := []) C0 hK va_S.rf hl dL_law_0 dL_law_3 dL_law_4 ckX9 cnL_8 itX9 inX9 mkX9_init rfl rfl lkL_17 miX9_init (Zc_st (Nat.le_refl _)) hZ rfl rfl (by decide) (by decide) (by decide) (mtX9 Zc_N Zc_E (Nat.le_refl _)) (fun v1 u1 t1 locs1 hQ1 hz1 ho1 hL1 => ?_)
  obtain ⟨hv1, zt1, hP1, -, hk1⟩ := hQ1
  cases hv1
  have hPC := fresh_C hP1
  have zs1 : t1.heap.size = s.heap.size + 373 := by rw [zt1, kbX9_len]
  have hS1 : va_S (fun q => s.heap.size ≤ q) s.heap t1.heap locs1 := ⟨by omega, fun q h1 h2 => by rw [hk1 q (by omega) h2]; exact ho1 q h1, hL1⟩
  refine lv_astore_n (lv' := [(1, .ref s.heap.size), (0, .ref b)]) hx hb dL_law_7 rfl hl (by decide) rfl (fun la hl => ?_)
  -- the reference
  refine lw_mk (N := mX10_init) (rm := kR 2 45 3255) (ci := 10) (r := (RX10, TX10, 69)) (Zs := Zc s.heap.size adT adU adK adV) (Qc := QcM D aC adK adV t1.heap.size (fun h' => GR hC0 h')) (st := []) C0 hK hS1 hl dL_law_8 dL_law_11 dL_law_12 ckX10C cnL_18 itX10 inX10 mkX10_init rfl rfl lkL_20 miX10_init (Zc_st (by omega)) hZ rfl rfl (by decide) (by decide) (by decide) (mtX10 (Zc_st (by omega)) (Zc_M (by omega)) (fun ad => m_begin0)) (fun v2 u2 t2 locs2 hQ2 hz2 ho2 hL2 => ?_)
  obtain ⟨hv2, zt2, ⟨hM, g, hPM⟩, -, hk2⟩ := hQ2
  cases hv2
  rw [zs1] at zt2 hPM hk2 ho2 hz2 ⊢
  have k2 : ∀ q : Nat, q < s.heap.size + 373 → t2.heap[q]? = t1.heap[q]? := fun q hq => by
    rw [hk2 q (by omega) (Nat.not_le.mpr hq)]
    exact ho2 q hq
  have hPC2 : va_P D acl (awl GC (fun q => s.heap.size + q) aC hC0) t2.heap := hPC.kept (fun k y hy => k2 y.1 (by rw [← zs1]; exact (hPC k y hy).lt))
  have hS2 : va_S (fun q => s.heap.size ≤ q) s.heap t2.heap locs2 := ⟨by omega, fun q h1 h2 => by rw [k2 q (by omega)]; exact hS1.2.1 q h1 h2, hL2⟩
  refine lv_astore_n (lv' := [(2, .ref (s.heap.size + 373)), (1, .ref s.heap.size), (0, .ref b)]) hx hb dL_law_15 rfl hl (by decide) rfl (fun la hl => ?_)
  -- the long[1]
  refine lv_iconst (v := 1) hx hb dL_law_16 (by decide) ?_
  refine va_newaK (atype := .long) (N := 1) hx hb (hts _ (kT_J (n := 1) (by decide)).2.2.2.1) rfl dL_law_17 rfl (by decide) (by decide) (by decide) (by decide) (by decide) rfl fun H3 cA e3 z3 o3 hAr hNm => ?_
  have hcA : cA = aC .long := Option.some.inj (hNm.symm.trans (hK.2 1 (aC .long, .long) rfl).2)
  subst hcA
  have zs3 : t2.heap.size = s.heap.size + 419 := by omega
  rw [zs3] at e3
  have hPC3 := hPC2.kept (fun k y hy => o3 y.1 ((hPC2 k y hy).lt))
  have hPM3 := hPM.kept (fun k y hy => o3 y.1 ((hPM k y hy).lt))
  have hS3 : va_S (fun q => s.heap.size ≤ q) s.heap H3 locs2 := ⟨by omega, fun q h1 h2 => by rw [o3 q (by omega)]; exact hS2.2.1 q h1 h2, hL2⟩
  refine W.eq (g2 := F0 m 19 la [.ref (s.heap.size + 419)]) (by rw [zs3]) ?_
  refine lv_astore_n (x := s.heap.size + 419) (lv' := [(3, .ref (s.heap.size + 419)), (2, .ref (s.heap.size + 373)), (1, .ref s.heap.size), (0, .ref b)]) hx hb dL_law_19 rfl hl (by decide) rfl (fun la hl => ?_)
  refine lv_iconst (v := 0) hx hb dL_law_20 (by decide) ?_
  refine lv_istore (lv' := [(4, .int 0), (3, .ref (s.heap.size + 419)), (2, .ref (s.heap.size + 373)), (1, .ref s.heap.size), (0, .ref b)]) hx hb dL_law_21 hl (by decide) rfl (fun la hl => ?_)
  exact law_loop X (h4 D aC adK adV X) (L + 1) 0 hC0 hM 0 (by omega) (by omega) g H3 locs2 la hPC3 hPM3 e3 hS3 (lv_sub hl [4, 3, 2, 1, 0] rfl)
end LEN
