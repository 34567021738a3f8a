/-! THE CLAIM OUT OF ONE WALK OF THE LAW'S BODY. Your part is whole_start (and what it stands on); all else here is the same for every law, but numbers. -/
def R_law : String := "TuskLedgerLaw"
def lw_P (b : Addr) (xs : List Int32) (args : Array Value) (s : State) : Prop := args = #[.ref b] ∧ s.IntsAt b xs ∧ xs.length ≤ 3072 ∧ (Jvm.Cond.and given_1 narrow_1).before args s = true
def lw_Q (_ : Array Value) (s : State) (o : Outcome) (t : State) : Prop := o = .returned (some (.int 1)) ∧ Framed s o t [] 601024 7293033
def lw_Z (below : List Frame) (a : Array Value) (s : State) : State → Prop := fun t => ∃ o, t.status = .running ∧ Ended t below o ∧ lw_Q a s o t
/-- the law's own end, with 1 on the stack, nothing written that was there before, its room as the claim has it -/
theorem lw_ret {p : Program} {l : Launch} {e : Env} {s : State} {m : MethodId} {below : List Frame} {meth : Method} {c : Code} {b : Nat} (hx : p.tables.exec = Jvm.exec) (hb : c.code = code) (hr : meth.sig.returnType = ret) (hlocks : meth.locks = false) {pc : Nat} {H : Heap} {ls : Array Slot} (hdg : decode code pc = .ok (.ireturn, 1)) : W p l e room_1 s m #[Value.ref b] below meth c H [] 601024 7293033 (lw_Z below #[Value.ref b] s) (F0 m pc ls [.int 1]) := by
  intro T hT X
  obtain ⟨fs, hret, hrun, hended, hW, hframe⟩ := X.leave (v := some (.int 1)) (hlocks := hlocks) (fun h => by rw [hr] at h; cases h)
  have hmeth' : T.vm.method? m = some meth := X.method'
  refine ⟨T.setFrames fs, ?_, .returned (some (.int 1)), hrun, hended, rfl, ⟨_, rfl⟩, hW, hframe⟩
  jvm_step X.here [X.here.top, hx, hb, hdg, hmeth', hr, ret, narrow_b1]
  (try refine ⟨rfl, ?_⟩); (try refine ⟨rfl, ?_⟩)
  first | (intro acts; rw [hret _ acts rfl rfl rfl]) | rw [hret _ _ rfl rfl rfl]
  exact Steps.refl _
/-- what holds at the law's entry: the machine, the code, the tables' words (any of lw_tbl by 'hts w (by decide +kernel)'), the script of L ints xs at the cell b, what the Statement gives of the start (any of its parts by flat_of_before) -/
def lw_At (p : Program) (s : State) (m : MethodId) (meth : Method) (c : Code) (b L : Nat) (xs : Nat → Int32) : Prop :=
  p.tables.exec = Jvm.exec ∧ c.code = code ∧ meth.sig.returnType = ret ∧ c.maxLocals = 7 ∧ s.vm.findClass R_law = some m.cls ∧ (∀ w ∈ lw_tbl, w.before #[Value.ref b] s = true) ∧ va_X b L xs s s.heap ∧ b < s.heap.size ∧ meth.locks = false ∧ (Jvm.Cond.and given_1 narrow_1).before #[Value.ref b] s = true
/-! ===== the law's frame over the two pictures ===== -/
def aIn (lo hi : Nat) : Nat → Prop := fun q => lo ≤ q ∧ q < hi
/-- what stands still in the law -/
def LC (p : Program) (s : State) (m : MethodId) (meth : Method) (c : Code) (b L : Nat) (xs : Nat → Int32) (D : va_G) (aC : FieldType → ClassId) (adK adV : Nat → Nat) : Prop :=
  lw_At p s m meth c b L xs ∧ L ≤ 3072 ∧ va_K D acl (atys GC aC) s ∧ (∀ A, aEC A s) ∧ aEM adK adV (fun q => s.heap.size ≤ q) s
def AL (p : Program) (l : Launch) (e : Env) (s : State) (m : MethodId) (below : List Frame) (meth : Method) (c : Code) (b : Nat) (D : va_G) (aC : FieldType → ClassId) (adK adV : Nat → Nat) (pc : Nat) (ls : List (Nat × Value)) (st : List Value) (hC hM : aH) (J : Int64) (cells slots : Nat) : Prop :=
  ∀ (H : Heap) (locs : List Loc) (la : Array Slot), va_P D acl (awl GC (fun q => s.heap.size + q) aC hC) H → va_P D acl (awl (GM adK adV) (fun q => s.heap.size + 373 + q) aC hM) H → H[s.heap.size + 419]? = some (vp_cell (aC .long) (1, .inr (.inl (fun _ => J)))) → va_S (fun q => s.heap.size ≤ q) s.heap H locs → lv_has la 7 ls →
    W p l e room_1 s m #[Value.ref b] below meth c H locs cells slots (lw_Z below #[Value.ref b] s) (F0 m pc la st)
section ALR
variable {p : Program} {l : Launch} {e : Env} {s : State} {m : MethodId} {below : List Frame} {meth : Method} {c : Code} {b L : Nat} {xs : Nat → Int32} {D : va_G} {aC : FieldType → ClassId} {adK adV : Nat → Nat} {pc : Nat} {ls : List (Nat × Value)} {st : List Value} {hC hM : aH} {J : Int64} {cells slots : Nat}
theorem aEM.narrow {A B : Nat → Prop} {s : State} (h : aEM adK adV A s) (hAB : ∀ q, B q → A q) : aEM adK adV B s := ⟨h.1.narrow hAB, h.2.1, va_Z.narrow h.2.2.1 hAB, va_Zq.narrow h.2.2.2 hAB⟩
theorem AL.lift {pc' : Nat} {ls' : List (Nat × Value)} {st' : List Value} (k : AL p l e s m below meth c b D aC adK adV pc' ls' st' hC hM J cells slots)
    (f : ∀ (H : Heap) (locs : List Loc) (la : Array Slot) (Z : State → Prop), va_S (fun q => s.heap.size ≤ q) s.heap H locs → lv_has la 7 ls → (∀ la', lv_has la' 7 ls' → W p l e room_1 s m #[Value.ref b] below meth c H locs cells slots Z (F0 m pc' la' st')) → W p l e room_1 s m #[Value.ref b] below meth c H locs cells slots Z (F0 m pc la st)) : AL p l e s m below meth c b D aC adK adV pc ls st hC hM J cells slots :=
  fun H locs la h1 h2 h3 hS hl => f H locs la _ hS hl (fun la' hl' => k H locs la' h1 h2 h3 hS hl')
theorem al_aload_n {q : Fin 4} {i x : Nat} (X : LC p s m meth c b L xs D aC adK adV) (hd : decode code pc = .ok (.aload_n q, 1)) (hi : (q : Nat) = i) (j : Nat) (hj : ls[j]? = some (i, .ref x)) (k : AL p l e s m below meth c b D aC adK adV (pc + 1) ls (.ref x :: st) hC hM J cells slots) : AL p l e s m below meth c b D aC adK adV pc ls st hC hM J cells slots :=
  AL.lift k (fun H locs la Z hS hl kk => lv_aload_n X.1.1 X.1.2.1 hd hi (lv_at hl j hj) (kk la hl))
theorem al_iload {i : Nat} {x : Int32} (X : LC p s m meth c b L xs D aC adK adV) (hd : decode code pc = .ok (.iload i, 2)) (j : Nat) (hj : ls[j]? = some (i, .int x)) (k : AL p l e s m below meth c b D aC adK adV (pc + 2) ls (.int x :: st) hC hM J cells slots) : AL p l e s m below meth c b D aC adK adV pc ls st hC hM J cells slots :=
  AL.lift k (fun H locs la Z hS hl kk => lv_iload X.1.1 X.1.2.1 hd (lv_at hl j hj) (kk la hl))
theorem al_iconst {n : Int} {v : Int32} (X : LC p s m meth c b L xs D aC adK adV) (hd : decode code pc = .ok (.iconst n, 1)) (hv : Int32.ofInt n = v) (k : AL p l e s m below meth c b D aC adK adV (pc + 1) ls (.int v :: st) hC hM J cells slots) : AL p l e s m below meth c b D aC adK adV pc ls st hC hM J cells slots :=
  AL.lift k (fun H locs la Z hS hl kk => lv_iconst X.1.1 X.1.2.1 hd hv (kk la hl))
theorem al_bipush {n : Int} {v : Int32} (X : LC p s m meth c b L xs D aC adK adV) (hd : decode code pc = .ok (.bipush n, 2)) (hv : (Int8.ofInt n).toInt32 = v) (k : AL p l e s m below meth c b D aC adK adV (pc + 2) ls (.int v :: st) hC hM J cells slots) : AL p l e s m below meth c b D aC adK adV pc ls st hC hM J cells slots :=
  AL.lift k (fun H locs la Z hS hl kk => lv_bipush X.1.1 X.1.2.1 hd hv (kk la hl))
theorem al_iadd {x y : Int32} (X : LC p s m meth c b L xs D aC adK adV) (hd : decode code pc = .ok (.iadd, 1)) (k : AL p l e s m below meth c b D aC adK adV (pc + 1) ls (.int (x + y) :: st) hC hM J cells slots) : AL p l e s m below meth c b D aC adK adV pc ls (.int y :: .int x :: st) hC hM J cells slots :=
  AL.lift k (fun H locs la Z hS hl kk => lv_iadd X.1.1 X.1.2.1 hd (kk la hl))
theorem al_isub {x y : Int32} (X : LC p s m meth c b L xs D aC adK adV) (hd : decode code pc = .ok (.isub, 1)) (k : AL p l e s m below meth c b D aC adK adV (pc + 1) ls (.int (x - y) :: st) hC hM J cells slots) : AL p l e s m below meth c b D aC adK adV pc ls (.int y :: .int x :: st) hC hM J cells slots :=
  AL.lift k (fun H locs la Z hS hl kk => lv_isub X.1.1 X.1.2.1 hd (kk la hl))
theorem al_iand {x y : Int32} (X : LC p s m meth c b L xs D aC adK adV) (hd : decode code pc = .ok (.iand, 1)) (k : AL p l e s m below meth c b D aC adK adV (pc + 1) ls (.int (x &&& y) :: st) hC hM J cells slots) : AL p l e s m below meth c b D aC adK adV pc ls (.int y :: .int x :: st) hC hM J cells slots :=
  AL.lift k (fun H locs la Z hS hl kk => lv_iand X.1.1 X.1.2.1 hd (kk la hl))
theorem al_goto {off : Int} {tgt : Nat} (X : LC p s m meth c b L xs D aC adK adV) (hd : decode code pc = .ok (.goto off, 3)) (ht : (pc : Int) + off = (tgt : Int)) (k : AL p l e s m below meth c b D aC adK adV tgt ls st hC hM J cells slots) : AL p l e s m below meth c b D aC adK adV pc ls st hC hM J cells slots :=
  AL.lift k (fun H locs la Z hS hl kk => lv_goto X.1.1 X.1.2.1 hd ht (kk la hl))
theorem al_iinc {i j : Nat} {n : Int} {x v : Int32} {ls' : List (Nat × Value)} (X : LC p s m meth c b L xs D aC adK adV) (hd : decode code pc = .ok (.iinc i n, 3)) (hj : ls[j]? = some (i, .int x)) (hv : x + Int32.ofInt n = v) (hn : i < 7) (hs : (i, Value.int v) :: ls.filter (fun q => !(q.1 == i) && !(q.1 + 1 == i && q.2.category == 2)) = ls') (k : AL p l e s m below meth c b D aC adK adV (pc + 3) ls' st hC hM J cells slots) : AL p l e s m below meth c b D aC adK adV pc ls st hC hM J cells slots :=
  AL.lift k (fun H locs la Z hS hl kk => lv_iinc X.1.1 X.1.2.1 hd hl hj hv hn hs kk)
theorem al_ls {ls' : List (Nat × Value)} (ks : List Nat) (hk : lv_pick ls ks = ls') (k : AL p l e s m below meth c b D aC adK adV pc ls' st hC hM J cells slots) : AL p l e s m below meth c b D aC adK adV pc ls st hC hM J cells slots :=
  fun H locs la h1 h2 h3 hS hl => k H locs la h1 h2 h3 hS (lv_sub hl ks hk)
theorem al_icmp_eq {x : Int32} {off : Int} {tgt : Nat} (X : LC p s m meth c b L xs D aC adK adV) (hd : decode code pc = .ok (.if_icmp .eq off, 3)) (ht : (pc : Int) + off = (tgt : Int)) (k : AL p l e s m below meth c b D aC adK adV tgt ls st hC hM J cells slots) : AL p l e s m below meth c b D aC adK adV pc ls (.int x :: .int x :: st) hC hM J cells slots :=
  AL.lift k (fun H locs la Z hS hl kk => lv_icmp_eq X.1.1 X.1.2.1 hd ht (fun _ => kk la hl) (fun h => absurd rfl h))
theorem al_lcmp_eq {x : Int64} {off : Int} {tgt : Nat} (X : LC p s m meth c b L xs D aC adK adV) (hd : decode code pc = .ok (.lcmp, 1)) (hd2 : decode code (pc + 1) = .ok (.ifCond .eq off, 3)) (ht : ((pc + 1 : Nat) : Int) + off = (tgt : Int)) (k : AL p l e s m below meth c b D aC adK adV tgt ls st hC hM J cells slots) : AL p l e s m below meth c b D aC adK adV pc ls (.long x :: .long x :: st) hC hM J cells slots :=
  AL.lift k (fun H locs la Z hS hl kk => W.lcmp X.1.1 X.1.2.1 hd (lv_if_eq X.1.1 X.1.2.1 hd2 ht (fun _ => kk la hl) (fun h => absurd ((lgc_eq x x).mpr rfl) h)))
theorem al_sld {i : Int32} {j : Nat} {v : Int32} (X : LC p s m meth c b L xs D aC adK adV) (hd : decode code pc = .ok (.iaload, 1)) (hi : i = nI j) (hj : j < L) (hv : xs j = v) (k : AL p l e s m below meth c b D aC adK adV (pc + 1) ls (.int v :: st) hC hM J cells slots) : AL p l e s m below meth c b D aC adK adV pc ls (.int i :: .ref b :: st) hC hM J cells slots := by
  subst hi hv
  obtain ⟨hx, hb, hr, hml, hown, hts, hX, hbl, hlocks, hgv⟩ := X.1
  have hL := X.2.1
  refine AL.lift k (fun H locs la Z hS hl kk => ?_)
  refine va_sld hx hb hX hbl (Nat.not_le.mpr hbl) hS (vp_in_nI hj (by omega)) hd ?_
  rw [nI_clamp (by omega)]
  exact kk la hl
theorem al_slen (X : LC p s m meth c b L xs D aC adK adV) (hd : decode code pc = .ok (.arraylength, 1)) (k : AL p l e s m below meth c b D aC adK adV (pc + 1) ls (.int (nI L) :: st) hC hM J cells slots) : AL p l e s m below meth c b D aC adK adV pc ls (.ref b :: st) hC hM J cells slots := by
  obtain ⟨hx, hb, hr, hml, hown, hts, hX, hbl, hlocks, hgv⟩ := X.1
  exact AL.lift k (fun H locs la Z hS hl kk => va_slen hx hb hX hbl (Nat.not_le.mpr hbl) hS hd (kk la hl))
/-- the locals of the law, i ints read -/
abbrev lsL (s : State) (b i : Nat) : List (Nat × Value) := [(0, .ref b), (1, .ref s.heap.size), (2, .ref (s.heap.size + 373)), (3, .ref (s.heap.size + 419)), (4, .int (nI i))]
/-- an int of the script -/
theorem al_arg {i k p1 p2 p3 p4 : Nat} {n : Int} (X : LC p s m meth c b L xs D aC adK adV) (hi : i + 6 ≤ L) (d0 : decode code pc = .ok (.aload_n 0, 1)) (e1 : p1 = pc + 1) (d1 : decode code p1 = .ok (.iload 4, 2)) (e2 : p2 = p1 + 2) (d2 : decode code p2 = .ok (.iconst n, 1)) (hn : n = k) (hk : k < 6) (e3 : p3 = p2 + 1) (d3 : decode code p3 = .ok (.iadd, 1)) (e4 : p4 = p3 + 1) (d4 : decode code p4 = .ok (.iaload, 1)) (kk : AL p l e s m below meth c b D aC adK adV (p4 + 1) (lsL s b i) (.int (xs (i + k)) :: st) hC hM J cells slots) : AL p l e s m below meth c b D aC adK adV pc (lsL s b i) st hC hM J cells slots := by
  subst e1 e2 e3 e4 hn
  refine al_aload_n X d0 rfl 0 rfl (al_iload X d1 4 rfl (al_iconst (v := nI k) X d2 rfl (al_iadd X d3 (al_sld (j := i + k) X d4 ?_ (by omega) rfl kk))))
  show Int32.ofNat i + Int32.ofNat k = Int32.ofNat (i + k)
  rw [← Int32.ofNat_add]
/-- a call of one side -/
theorem al_go {G : aG} {ad : Nat → Nat} {A : Nat → Prop} {h : aH} {N : aM} {n ix d ci : Nat} {r : vw_C} {As st0 : List Value} {R : Option Value → aH → Prop} {H : Heap} {locs : List Loc} {la : Array Slot} {Z : State → Prop} (C0 : lw_At p s m meth c b L xs) (hK : va_K D G.1 (atys G aC) s) (hst : aSt G) (hE : G.2.2.2.2.2 A s) (hP : va_P D G.1 (awl G ad aC h) H) (hD : va_D A (awl G ad aC h)) (hA : ∀ q, A q → s.heap.size ≤ q) (hS : va_S (fun q => s.heap.size ≤ q) s.heap H locs) (hEk : ∀ U : State, s.WarmedH U.vm → U.heap = H → G.2.2.2.2.2 A U) (hs0 : G.2.2.2.1[0]? = some (.inl ci)) (hc : G.1[ci]? = some r) (hy : N.1.cls = r.1) (hd : decode code pc = .ok (.invokevirtual ix, 3)) (K : aMk N n) (hn : As.length = n) (hlk : Cond.methodLink R_law ix N.1 ∈ aTB) (hin : Cond.instanceMethod N.1 ∈ aTB) (hse : Cond.selects N.1.cls N.1 N.1 ∈ aTB) (hlen : (lg_sl (.ref (ad 0) :: As)).length ≤ N.2.2.1) (hro : (st.map fun v => v.category).sum ≤ 8) (hst0 : st0 = As.reverse ++ .ref (ad 0) :: st) (hdd : d ≤ 1000) (hcl : cells ≤ 601024 ∧ slots ≤ 7293033) (hl : lv_has la 7 ls)
    (k : AW G l ad d N 0 (lv_args 0 (.ref (ad 0) :: As)) [] h R) (kk : ∀ (r : Option Value) (h1 : aH) (H1 : Heap) (locs1 : List Loc), R r h1 → va_P D G.1 (awl G ad aC h1) H1 → (∀ q : Nat, q < H.size → ¬ A q → H1[q]? = H[q]?) → va_S (fun q => s.heap.size ≤ q) s.heap H1 locs1 → W p l e room_1 s m #[Value.ref b] below meth c H1 locs1 cells slots Z (F0 m (pc + 3) la (r.toList ++ st))) : W p l e room_1 s m #[Value.ref b] below meth c H locs cells slots Z (F0 m pc la st0) := by
  obtain ⟨hx, hb, hr, hml, hown, hts0, hX, hbl, hlocks, hgv⟩ := C0
  have hts : ∀ w ∈ aTB, w.before #[Value.ref b] s = true := fun w hw => hts0 w (List.mem_filter.mp hw).1
  have hM := aw_met (As := .ref (ad 0) :: As) K hlen k A D aC
  have hcb : CallB room_1 s #[Value.ref b] R_law ix N.1 N.2.1 N.2.2.1 N.2.2.2 (aws N) (aR d) 0 0 n := callB_of n hts (aws_good K) rfl rfl rfl (hts _ K.2.2.1) (hts _ hlk) K.2.2.2.1 ⟨by show d + 1 ≤ 2048; omega, by have := K.2.2.2.2; show 8 + (N.2.2.1 + 11) + 64 * d ≤ 84000; omega⟩
  have hrec := va_recv (a := ad 0) hK hP hc (awl_get hs0)
  have run := va_runV (meth := meth) (below := below) (e := e) (H := H) (locs := locs) (cells := cells) (slots := slots) (g := F0 m pc la st0) (C := N.1.cls) (b := ad 0) (As := As) (rest := st) ⟨hx, hb, hml, hown, hts⟩ hM ⟨hcb, hts _ hin, hts _ hse⟩ ⟨aw_blind hst, by rw [hy]; exact hrec, fun U hU hW => ⟨rfl, by rw [hU]; exact hP, va_K.moved hW.alike hK, hD, hEk U hW hU⟩⟩ rfl hn hl.1 hst0 (lv_room hro) hd hcl
  intro T hT XT
  obtain ⟨v, st₀, t, T', L', h0, X', hL, e1, e2, ⟨⟨r9, h1, hv, hR, hP1⟩, hz, hk⟩, stp⟩ := run T hT XT
  cases hv
  rw [h0] at hz hk
  obtain ⟨t2, a1, b1⟩ := kk v h1 T'.heap (locs ++ L') hR (by rw [e1]; exact hP1) (fun q h1 h2 => by rw [e1]; exact hk q h1 h2)
    ⟨Nat.le_trans hS.1 (by rw [e1]; exact hz), fun q h1 h2 => by rw [e1, hk q (Nat.lt_of_lt_of_le h1 hS.1) (fun c => h2 (hA q c))]; exact hS.2.1 q h1 h2, fun q hq => by
      rcases List.mem_append.mp hq with h | h
      · exact hS.2.2 q h
      · exact hA _ (hL q h)⟩ T' rfl X'
  exact ⟨t2, stp t2 a1, b1⟩
/-- a call of the class -/
theorem al_callC {N : aM} {n ix d : Nat} {As st0 : List Value} {R : Option Value → aH → Prop} (X : LC p s m meth c b L xs D aC adK adV) (hd : decode code pc = .ok (.invokevirtual ix, 3)) (K : aMk N n) (hn : As.length = n) (hlk : Cond.methodLink R_law ix N.1 ∈ aTB) (hin : Cond.instanceMethod N.1 ∈ aTB) (hse : Cond.selects N.1.cls N.1 N.1 ∈ aTB) (hy : N.1.cls = RX9) (hlen : (lg_sl (.ref s.heap.size :: As)).length ≤ N.2.2.1) (hro : (st.map fun v => v.category).sum ≤ 8) (hst0 : st0 = As.reverse ++ .ref s.heap.size :: st) (hdd : d ≤ 1000) (hcl : cells ≤ 601024 ∧ slots ≤ 7293033)
    (k : AW GC l (fun q => s.heap.size + q) d N 0 (lv_args 0 (.ref s.heap.size :: As)) [] hC R) (kk : ∀ r h1, R r h1 → AL p l e s m below meth c b D aC adK adV (pc + 3) ls (r.toList ++ st) h1 hM J cells slots) : AL p l e s m below meth c b D aC adK adV pc ls st0 hC hM J cells slots := by
  intro H locs la hP1 hP2 hJ hS hl
  refine al_go (G := GC) (ad := fun q => s.heap.size + q) (A := aIn s.heap.size (s.heap.size + 373)) (ci := 9) (r := (RX9, TX9, 12)) X.1 X.2.2.1 stC (X.2.2.2.1 (aIn s.heap.size (s.heap.size + 373))) hP1 (fresh_D (fun q h1 h2 => ⟨h1, h2⟩)) (fun q h => h.1) hS (fun U hW hU => stC (fun _ => True) s U (X.2.2.2.1 (fun _ => True)) hW (by rw [hU]; exact hS.1) (fun q _ h => absurd trivial h)) (show aSHC[0]? = _ by decide +kernel) rfl hy hd K hn hlk hin hse hlen hro hst0 hdd hcl hl k (fun r h1 H1 locs1 hR hPn hk hSn => ?_)
  refine kk r h1 hR H1 locs1 la hPn (hP2.kept (fun k y hy => hk y.1 ((hP2 k y hy).lt) ?_)) ?_ hSn hl
  · obtain ⟨x, hx, rfl⟩ := awl_inv hy
    intro hq
    have := hq.2
    have h9 : s.heap.size + 373 + k < s.heap.size + 373 := this
    omega
  · rw [hk _ (Array.getElem?_eq_some_iff.mp hJ).1 (fun h => by have := h.2; omega)]
    exact hJ
/-- a call of the reference -/
theorem al_callM {N : aM} {n ix d : Nat} {As st0 : List Value} {R : Option Value → aH → Prop} (X : LC p s m meth c b L xs D aC adK adV) (hd : decode code pc = .ok (.invokevirtual ix, 3)) (K : aMk N n) (hn : As.length = n) (hlk : Cond.methodLink R_law ix N.1 ∈ aTB) (hin : Cond.instanceMethod N.1 ∈ aTB) (hse : Cond.selects N.1.cls N.1 N.1 ∈ aTB) (hy : N.1.cls = RX10) (hlen : (lg_sl (.ref (s.heap.size + 373) :: As)).length ≤ N.2.2.1) (hro : (st.map fun v => v.category).sum ≤ 8) (hst0 : st0 = As.reverse ++ .ref (s.heap.size + 373) :: st) (hdd : d ≤ 1000) (hcl : cells ≤ 601024 ∧ slots ≤ 7293033)
    (k : AW (GM adK adV) l (fun q => s.heap.size + 373 + q) d N 0 (lv_args 0 (.ref (s.heap.size + 373) :: As)) [] hM R) (kk : ∀ r h1, R r h1 → AL p l e s m below meth c b D aC adK adV (pc + 3) ls (r.toList ++ st) hC h1 J cells slots) : AL p l e s m below meth c b D aC adK adV pc ls st0 hC hM J cells slots := by
  intro H locs la hP1 hP2 hJ hS hl
  have hsz : s.heap.size + 419 < H.size := (Array.getElem?_eq_some_iff.mp hJ).1
  have hE0 := X.2.2.2.2
  have hE1 : aEM adK adV (aIn (s.heap.size + 373) (s.heap.size + 419)) s := aEM.narrow hE0 (fun q h => Nat.le_trans (Nat.le_add_right _ _) h.1)
  refine al_go (G := GM adK adV) (ad := fun q => s.heap.size + 373 + q) (A := aIn (s.heap.size + 373) (s.heap.size + 419)) (ci := 10) (r := (RX10, TX10, 69)) X.1 X.2.2.1 (stM adK adV) hE1 hP2 (fresh_DM (fun q h1 h2 => ⟨h1, by omega⟩)) (fun q h => Nat.le_trans (Nat.le_add_right _ _) h.1) hS (fun U hW hU => aEM.narrow (stM adK adV (fun q => s.heap.size ≤ q) s U hE0 hW (by rw [hU]; exact hS.1) (fun q h1 h2 => by rw [hU]; exact hS.2.1 q h1 h2)) (fun q h => Nat.le_trans (Nat.le_add_right _ _) h.1)) (show aSHM[0]? = _ by decide +kernel) rfl hy hd K hn hlk hin hse hlen hro hst0 hdd hcl hl k (fun r h1 H1 locs1 hR hPn hk hSn => ?_)
  refine kk r h1 hR H1 locs1 la (hP1.kept (fun k y hy => hk y.1 ((hP1 k y hy).lt) ?_)) hPn ?_ hSn hl
  · obtain ⟨x, hx, rfl⟩ := awl_inv hy
    intro hq
    have h8 : k < 373 := by
      have := (List.getElem?_eq_some_iff.mp hx).1
      have h9 : GC.2.2.2.1.length = 373 := aSHC_len
      omega
    have h9 : s.heap.size + 373 ≤ s.heap.size + k := hq.1
    omega
  · rw [hk _ hsz (fun h => by have := h.2; omega)]
    exact hJ
end ALR
