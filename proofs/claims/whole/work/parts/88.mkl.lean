/-! ===== making objects: arrays in loops, a call that makes nothing ===== -/
section AKT
variable {l : Launch} {D : va_G} {aC : FieldType → ClassId} {Zs : State → Prop} {R : Room} {M : aM} {b mc ms : Nat} {Qc : Array Value → State → Outcome → State → Prop} {pc : Nat} {ls : List (Nat × Value)} {st : List Value} {ws : List va_E} {cells slots : Nat}
theorem ak_alen {q0 t0 : Nat} {ty : FieldType} {x : vp_A} {v : Int32} (hd : decode M.2.1 pc = .ok (.arraylength, 1)) (he : ws[q0]? = some (.inl (aC ty, x))) (ht : atl[t0]? = some ty) (hv : Int32.ofNat x.1 = v) (kk : AK l D aC Zs R M b mc ms Qc (pc + 1) ls (.int v :: st) ws cells slots) : AK l D aC Zs R M b mc ms Qc pc ls (.ref (b + q0) :: st) ws cells slots := by
  intro p e s m args below meth c H locs la X hi hz hP hS0 hZ hla
  exact va_alen X.1 X.2.1 X.2.2.2.2.2.2.2 hP q0 t0 (cw_at he) (atys_get (G := GC) ht) hv hd (kk p e s m args below meth c H locs la X hi hz hP hS0 hZ hla)
theorem ak_iast {q0 n : Nat} {f : Nat → Int32} {i x : Int32} (hd : decode M.2.1 pc = .ok (.iastore, 1)) (he : ws[q0]? = some (.inl (aC .int, n, .inl f))) (hin : vp_in i n) (kk : AK l D aC Zs R M b mc ms Qc (pc + 1) ls st (ws.set q0 (.inl (aC .int, n, .inl (upd f i.toNatClampNeg x)))) cells slots) : AK l D aC Zs R M b mc ms Qc pc ls (.int x :: .int i :: .ref (b + q0) :: st) ws cells slots := by
  intro p e s m args below meth c H locs la X hi hz hP hS hZ hla
  have he' := cw_at (b := b) he
  have hD := cw_D b ws
  have hK := X.2.2.2.2.2.2.2
  have ht : (atys GC aC)[0]? = some (aC .int, .int) := atys_get (G := GC) rfl
  refine W.iast X.1 X.2.1 (hP q0 _ he') ((hK.2 0 _ ht).1 n (fun j => .int (f j))) (fun q => by cases q) (by show ¬ (i < 0 ∨ (arrV _ _ _).slots.size ≤ _); rw [arrV_size]; exact hin) rfl rfl hd fun H1 e1 z oq => ?_
  have hP1 : va_P D acl ((cw b ws).set q0 (b + q0, .inl (aC .int, n, .inl (upd f i.toNatClampNeg x)))) H1 := by
    refine hP.set hD he' ?_ oq
    show H1[b + q0]? = some (vp_cell _ _)
    rw [e1]
    rw [vp_cell_i, vp_cell_i, arrV_store]
    congr 2
    funext q
    by_cases hq : q = i.toNatClampNeg
    · subst hq
      simp [updV, upd]
    · simp [updV, upd, hq]
  rw [cw_set] at hP1
  exact kk p e s m args below meth c H1 _ la X hi ⟨by rw [z, hz.1, List.length_set], by rw [z]; exact hz.2⟩ hP1 (hS.put z oq (hD.2 q0 _ he')) hZ hla
theorem ak_aast {q0 qk ci n t0 v : Nat} {r : vw_C} {vs : List Value} {f : Nat → Option Nat} {i : Int32} (hd : decode M.2.1 pc = .ok (.aastore, 1)) (he : ws[q0]? = some (.inl (aC (.object r.1), n, .inr (.inr (.inr (.inr f)))))) (ht0 : atl[t0]? = some (.object r.1)) (hv : ws[qk]? = some (.inr (ci, vs))) (hvv : v = b + qk) (hc : acl[ci]? = some r) (hin : vp_in i n) (kk : AK l D aC Zs R M b mc ms Qc (pc + 1) ls st (ws.set q0 (.inl (aC (.object r.1), n, .inr (.inr (.inr (.inr (va_up f i.toNatClampNeg (some v)))))))) cells slots) : AK l D aC Zs R M b mc ms Qc pc ls (.ref v :: .int i :: .ref (b + q0) :: st) ws cells slots := by
  subst hvv
  intro p e s m args below meth c H locs la X hi hz hP hS hZ hla
  have ha := cw_at (b := b) he
  have hv' := cw_at (b := b) hv
  have hD := cw_D b ws
  have hK := X.2.2.2.2.2.2.2
  have ht : (atys GC aC)[t0]? = some (aC (.object r.1), .object r.1) := atys_get (G := GC) ht0
  have hlt : i.toNatClampNeg < n := Nat.not_le.mp fun q => hin (Or.inr q)
  have h0 : ¬ i < 0 := fun q => hin (Or.inl q)
  obtain ⟨r', hr', cellV, g1, g2, g3, -⟩ := hP qk _ hv'
  have hcls := (hK.1 ci r hc).2
  obtain ⟨kA, comp, k1, k2, k3, -⟩ := (hK.2 t0 _ ht).2
  have hcomp : comp = D.1 ci := Option.some.inj (k3.symm.trans hcls.1)
  subst hcomp
  obtain ⟨kC, hkC, -⟩ := hcls.2
  refine W.aast X.1 X.2.1 (hP q0 _ ha) (fun q h => by cases h) (fun h => by cases h) k1 k2 rfl hkC ⟨h0, by show _ < (arrV _ _ _).slots.size; rw [arrV_size]; exact hlt⟩ g1 (fun q h => by rw [g3] at h; cases h) (by rw [g2]; exact hkC) (by rw [g2]; exact va_assign hcls) rfl rfl hd fun H1 e1 z oq => ?_
  have hP1 : va_P D acl ((cw b ws).set q0 (b + q0, .inl (aC (.object r.1), n, .inr (.inr (.inr (.inr (va_up f i.toNatClampNeg (some (b + qk))))))))) H1 := by
    refine hP.set hD ha ?_ oq
    show H1[b + q0]? = some (vp_cell _ _)
    rw [e1]
    rw [vp_cell_q, vp_cell_q, arrV_store]
    congr 2
    funext q
    by_cases hq : q = i.toNatClampNeg
    · subst hq
      simp [updV, va_up, va_rf]
    · simp [updV, va_up, hq]
  rw [cw_set] at hP1
  exact kk p e s m args below meth c H1 _ la X hi ⟨by rw [z, hz.1, List.length_set], by rw [z]; exact hz.2⟩ hP1 (hS.put z oq (hD.2 q0 _ ha)) hZ hla
/-- a new array of references -/
theorem ak_anew {ix N t0 : Nat} {C : String} {n : Int32} (hd : decode M.2.1 pc = .ok (.anewarray ix, 3)) (hcl : Cond.classLink M.1.cls ix C ∈ aTB) (hao : ∀ s, Zs s → va_AO C s) (ht0 : atl[t0]? = some (.object C)) (hn : ¬ n < 0) (hN : n.toNatClampNeg = N) (hby : N * 4 ≤ 536870912) (hc : cells + 1 ≤ R.cells) (hs : slots + N ≤ R.slots)
    (k : AK l D aC Zs R M b mc ms Qc (pc + 3) ls (.ref (b + ws.length) :: st) (ws ++ [.inl (aC (.object C), N, .inr (.inr (.inr (.inr (fun _ => none)))))]) (cells + 1) (slots + N)) : AK l D aC Zs R M b mc ms Qc pc ls (.int n :: st) ws cells slots := by
  subst hN
  intro p e s m args below meth c H locs la X hi hz hP hS hZ hl
  have hts := X.2.2.2.2.2.2.1
  have hK := X.2.2.2.2.2.2.2
  refine W.anew X.1 X.2.1 X.2.2.2.2.2.1 (hts _ hcl) (va_AO.use (hao s hZ)) rfl hd rfl hn hby hc hs fun cA kA comp f1 f2 f3 f4 => ?_
  generalize hH1 : H.push ({ cls := cA, slots := Array.replicate n.toNatClampNeg .null, vm := .none } : Cell) = H1
  have z1 : H1.size = H.size + 1 := by rw [← hH1, Array.size_push]
  have e1 : H1[H.size]? = some (arrV cA n.toNatClampNeg (fun _ => .null)) := by rw [← hH1, Array.getElem?_push_size, ← arrV_new]
  have o1 : ∀ q : Nat, q < H.size → H1[q]? = H[q]? := fun q hq => by rw [← hH1, Array.getElem?_push, if_neg (Nat.ne_of_lt hq)]
  have ht : (atys GC aC)[t0]? = some (aC (.object C), .object C) := atys_get (G := GC) ht0
  obtain ⟨kA', comp', k1, k2, k3, k4⟩ := (hK.2 t0 _ ht).2
  have hcA : cA = aC (.object C) := Option.some.inj (f1.symm.trans k4)
  subst hcA
  have hz1 : H1.size = b + (ws ++ [Sum.inl (aC (.object C), n.toNatClampNeg, Sum.inr (Sum.inr (Sum.inr (Sum.inr (fun _ => none)))))]).length ∧ H1.size = s.heap.size + (cells + 1) := ⟨by have := hz.1; simp; omega, by have := hz.2; omega⟩
  refine W.eq (g2 := F0 m (pc + 3) la (.ref (b + ws.length) :: st)) (by rw [hz.1]) (k p e s m args below meth c H1 locs la X hi hz1 (cw_P1 hz.1 hP o1 ?_) ⟨Nat.le_trans hS.1 (by omega), fun x h1 h2 => (o1 x (Nat.lt_of_lt_of_le h1 hS.1)).trans (hS.2.1 x h1 h2), hS.2.2⟩ hZ hl)
  show H1[H.size]? = some (vp_cell _ _)
  exact e1
/-- a call of a static method that makes nothing and needs no cell -/
theorem ak_aw {G : aG} {n ix d : Nat} {ad : Nat → Nat} {h : aH} {As : List Value} {N : aM} {Q1 : Option Value → aH → Prop} (hG1 : G.1 = acl) (hG2 : ∀ aC, atys G aC = atys GC aC) (hG3 : G.2.2.2.1 = []) (hGZ : ∀ s, Zs s → G.2.2.2.2.2 (fun _ => False) s) (hd : decode M.2.1 pc = .ok (.invokestatic ix, 3)) (hst : aSt G) (K : aMk N n) (hn : As.length = n) (hlk : Cond.methodLink M.1.cls ix N.1 ∈ aTB) (hin : Cond.static N.1 ∈ aTB) (hlen : (lg_sl As).length ≤ N.2.2.1) (hro : (st.map fun v => v.category).sum ≤ 8) {st0 : List Value} (hst0 : st0 = As.reverse ++ st) (hfr : (aR d).frames + 1 ≤ R.frames ∧ 8 + (N.2.2.1 + 11) + (aR d).locals ≤ R.locals) (hf : cells ≤ R.cells ∧ slots ≤ R.slots) (hkS : kSt b Zs)
    (k : AW G l ad d N 0 (lv_args 0 As) [] h Q1) (kk : ∀ r h1, Q1 r h1 → AK l D aC Zs R M b mc ms Qc (pc + 3) ls (r.toList ++ st) ws cells slots) : AK l D aC Zs R M b mc ms Qc pc ls st0 ws cells slots := by
  intro p e s m args below meth c H locs la X hi hz hP hS hZ hla
  have hM := aw_met (As := As) K hlen k (fun _ => False) D aC
  have hts := X.2.2.2.2.2.2.1
  have hcb : CallB R s args M.1.cls ix N.1 N.2.1 N.2.2.1 N.2.2.2 (aws N) (aR d) 0 0 n := callB_of n hts (aws_good K) rfl rfl rfl (hts _ K.2.2.1) (hts _ hlk) K.2.2.2.1 hfr
  have hnil : awl G ad aC h = [] := by unfold awl; rw [hG3]; rfl
  have run := va_runS (meth := meth) (below := below) (e := e) (H := H) (locs := locs) (cells := cells) (slots := slots) (g := F0 m pc la st0) (As := As) (rest := st) ⟨X.1, X.2.1, X.2.2.2.2.1, X.2.2.2.2.2.1, hts⟩ hM ⟨hcb, hts _ hin⟩ ⟨aw_blind hst, fun U hU hW => ⟨rfl, by rw [hnil]; exact fun k q h => (by cases h), by rw [hG1, hG2]; exact va_K.moved hW.alike X.2.2.2.2.2.2.2, by rw [hnil]; exact ⟨fun i j p q h => (by cases h), fun k q h => (by cases h)⟩, hGZ U (hkS s U hZ hW (by rw [hU]; exact hS.1) (fun q h1 h2 => by rw [hU]; exact hS.2.1 q h1 h2))⟩⟩ rfl hn hla.1 hst0 (lv_room hro) hd hf
  intro T hT XT
  obtain ⟨v, st₀, t, T', L, h0, X', hL, e1, e2, ⟨⟨r, h1, hv, hR, -⟩, hz2, hk⟩, stp⟩ := run T hT XT
  cases hv
  rw [h0] at hz2 hk
  have hs1 : T'.heap.size = H.size := by
    have h9 := X'.heapSize
    have h8 := hz.2
    rw [← e1] at hz2
    omega
  have hsm : ∀ q : Nat, q < H.size → T'.heap[q]? = H[q]? := fun q hq => by rw [e1]; exact hk q hq (fun h => h)
  have hPn : va_P D acl (cw b ws) T'.heap := hP.kept (fun k y hy => hsm y.1 ((hP k y hy).lt))
  have hS1 : va_S (fun q => b ≤ q) s.heap T'.heap (locs ++ L) := by
    refine ⟨by rw [hs1]; exact hS.1, fun q h1 h2 => ?_, fun q hq => ?_⟩
    · rw [hsm q (Nat.lt_of_lt_of_le h1 hS.1)]
      exact hS.2.1 q h1 h2
    · rcases List.mem_append.mp hq with h | h
      · exact hS.2.2 q h
      · exact absurd (hL q h) (fun c => c)
  obtain ⟨t2, a1, b1⟩ := kk v h1 hR p e s m args below meth c T'.heap (locs ++ L) la X hi ⟨by rw [hs1]; exact hz.1, by rw [hs1]; exact hz.2⟩ hPn hS1 hZ hla T' rfl X'
  exact ⟨t2, stp t2 a1, b1⟩
end AKT
