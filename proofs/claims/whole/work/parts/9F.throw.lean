/-! ===== debt of the class: it answers, or it throws ===== -/
section DBT
variable {l : Launch} {ad : Nat → Nat} {D : va_G} {aC : FieldType → ClassId} {hC : aH} {N : Nat} {x y : Int32}
def QD (hC : aH) (N : Nat) (x y : Int32) : Array Value → State → Outcome → State → Prop := fun _ st o t =>
  st.WarmedH t.vm ∧ st.sameButNew ({ t with vm := st.vm } : State) [] 1 6 ∧ ((dbr N x y = 0 ∧ o = .returned (some (.int (dbv hC x y)))) ∨ ∃ (a : Addr) (cls : String) (ce : Cell), o = .threw a ∧ t.heap[a]? = some ce ∧ ce.vm = .none ∧ st.vm.findClass cls = some ce.cls ∧ (dbr N x y = 1 ∧ cls = exI ∨ dbr N x y = 2 ∧ cls = exN))
def ZD (hC : aH) (N : Nat) (x y : Int32) (below : List Frame) (a : Array Value) (s : State) : State → Prop := fun t => ∃ o, t.status = .running ∧ Ended t below o ∧ QD hC N x y a s o t
theorem inXI : Cond.initialized exI ∈ aTB := aTB_t 21 (by decide +kernel) (by decide +kernel)
theorem inXN : Cond.initialized exN ∈ aTB := aTB_t 22 (by decide +kernel) (by decide +kernel)
theorem itXI : Cond.instantiable exI 6 ∈ aTB := aTB_t 1167 (by decide +kernel) (by decide +kernel)
theorem itXN : Cond.instantiable exN 6 ∈ aTB := aTB_t 1229 (by decide +kernel) (by decide +kernel)
theorem clXI : Cond.classLink RX9 134 exI ∈ aTB := aTB_t 1166 (by decide +kernel) (by decide +kernel)
theorem clXN : Cond.classLink RX9 161 exN ∈ aTB := aTB_t 1228 (by decide +kernel) (by decide +kernel)
/-- new exception, its constructor, athrow -/
theorem db_throw {p : Program} {e : Env} {s : State} {m : MethodId} {args : Array Value} {below : List Frame} {meth : Method} {c : Code} {la : Array Slot} {cls : String} {ic ix pc : Nat} (X : aX GC mX9_debt p s m args meth c D aC) (hla : la.size = 3) (hl : l.stackTraces = false) (hnh : c.exceptionTable.isEmpty = true) (d0 : decode cX9_debt pc = .ok (.new ix, 3)) (d1 : decode cX9_debt (pc + 3) = .ok (.dup, 1)) (d2 : decode cX9_debt (pc + 3 + 1) = .ok (.invokespecial ic, 3)) (d3 : decode cX9_debt (pc + 3 + 1 + 3) = .ok (.athrow, 1)) (hcl : Cond.classLink RX9 ix cls ∈ aTB) (hin : Cond.instantiable cls 6 ∈ aTB) (hini : Cond.initialized cls ∈ aTB) (hfit : Bundle.fit cls = true) (hw : ∀ a ∈ Bundle.ownAtoms0 RX9 ic cls exU, a.before args s = true) (hr : dbr N x y = 1 ∧ cls = exI ∨ dbr N x y = 2 ∧ cls = exN) : W p l e (kR 8 1 6) s m args below meth c s.heap [] 0 0 (ZD hC N x y below args s) (F0 m pc la []) := by
  have hts := X.2.2.2.2.2.2.1
  obtain ⟨cX, kX0, hfX, -⟩ := Cond.instantiable_spec (show (Cond.instantiable cls 6).holds args s none s [] = true from hts _ hin)
  refine W.newcK X.1 X.2.1 X.2.2.2.2.2.1 (hts _ hcl) (hts _ hin) (hts _ hini) rfl d0 (by decide) (by decide) hfX rfl fun H1 kC hkC e1 z1 o1 => ?_
  refine lv_dup X.1 X.2.1 d1 rfl ?_
  intro T hT XT
  have htr : e.platform.stackTraces = false := by rw [show e.platform.stackTraces = l.stackTraces from by rw [XT.admits.platform]]; exact hl
  obtain ⟨U, hsteps, hrun, hend, hW, hsame, ce, hce, K⟩ := XT.ctorThrow0 X.1 htr (own := RX9) (cls := cls) (names := exU) (ic := ic) X.2.2.2.2.2.1 hfit (by decide +kernel) hw (fun y hy => by cases hy) hfX hkC (a := s.heap.size) (by rw [hT]; exact e1) (Nat.le_refl _) (g := F0 m (pc + 3 + 1) la [.ref s.heap.size, .ref s.heap.size]) rfl (hla.trans X.2.2.2.2.1.symm) rfl rfl (rest := []) rfl (by rw [X.2.1]; exact d2) (by rw [X.2.1]; exact d3) (covers_of_empty hnh _) (by decide) (Nat.le_of_ble_eq_true rfl) X.2.2.2.1
  exact ⟨U, hsteps, .threw s.heap.size, hrun, hend, hW, hsame, Or.inr ⟨s.heap.size, cls, ce, rfl, hce, K.vm, K.cls, hr⟩⟩
def PcD (s0 : State) (D : va_G) (aC : FieldType → ClassId) (ad : Nat → Nat) (hC : aH) (x y : Int32) : Array Value → State → Prop := fun v U => PcI D aC ad hC [.int x, .int y] v U ∧ TE s0 U
theorem db_ret {p : Program} {e : Env} {s : State} {m : MethodId} {args : Array Value} {below : List Frame} {meth : Method} {c : Code} {la : Array Slot} {pc : Nat} (X : aX GC mX9_debt p s m args meth c D aC) (hr : dbr N x y = 0) (hd : decode cX9_debt pc = .ok (.ireturn, 1)) : W p l e (kR 8 1 6) s m args below meth c s.heap [] 0 0 (ZD hC N x y below args s) (F0 m pc la [.int (dbv hC x y)]) := by
  have h1 : W p l e (kR 8 1 6) s m args below meth c s.heap [] 1 6 (MQ below (fun _ _ o _ => o = .returned (some (.int (dbv hC x y)))) args s 1 6 (fun _ => False)) (F0 m pc la [.int (dbv hC x y)]) := W.iret X.1 X.2.1 X.2.2.1 (fun t ht hW => rfl) (fun q hq => by cases hq) hd X.2.2.2.1
  refine W.widen (k := 1) (n := 6) (by decide) (by decide) ?_
  intro T hT XT
  obtain ⟨t, a1, o, b1, b2, b3, L, ⟨-, hW, hS⟩, hf⟩ := h1 T hT XT
  have hL : L = [] := List.eq_nil_iff_forall_not_mem.mpr (fun q hq => hf q hq)
  subst hL
  exact ⟨t, a1, o, b1, b2, hW, hS, Or.inl ⟨hr, b3⟩⟩
theorem db_met {s0 : State} {A0 : Array Value} (hl : l.stackTraces = false) (X0 : XW s0 A0) (hN : hC.1 66 11 = nI N) (hN8 : N ≤ 8) : MetFree l mX9_debt.1 (headSpec (aws mX9_debt) (kR 8 1 6)) (PcD s0 D aC ad hC x y) (fun _ _ _ _ _ => True) (QD hC N x y) := by
  refine MetFree.of_bodyS (code := cX9_debt) (maxLocals := 3) (ret := some .int) mkX9_debt.1 ?_ ?_
  · intro args s m h hn
    obtain ⟨meth, c, h1, h2, h3, h4, h5, h6, -, -⟩ := Cond.code_spec hn (atoms_spec (ws := aws mX9_debt) h _ List.mem_cons_self)
    exact ⟨meth, c, h1, h2, h3, h4, h5, h6⟩
  · intro p e s m args below meth c s₁ B hml hPc _
    obtain ⟨⟨rfl, hP, hK⟩, hTE⟩ := hPc
    have hh0 : s₁.heap = s.heap := by rw [B.state]; rfl
    have hts := atoms_spec (ws := aws mX9_debt) B.pre
    have X : aX GC mX9_debt p s m _ meth c D aC := ⟨B.exec, B.bytes, B.returns, B.notSynchronized, hml, findClass_of_methodNamed B.named, fun w hw => hts w (List.mem_cons_of_mem _ hw), hK⟩
    have hnh := B.noHandlers (hts _ List.mem_cons_self)
    have hwI := ownI X0 hTE X.2.2.2.2.2.2.1
    have hwN := ownN X0 hTE X.2.2.2.2.2.2.1
    have hl0 := lv_entry (.ref (ad 0) :: [.int x, .int y]) (n := 3) (Nat.le_of_ble_eq_true rfl)
    have body : W p l e (kR 8 1 6) s m (Value.ref (ad 0) :: [.int x, .int y]).toArray below meth c s.heap [] 0 0 (ZD hC N x y below (Value.ref (ad 0) :: [.int x, .int y]).toArray s) (entryFrame m (Value.ref (ad 0) :: [.int x, .int y]).toArray 3) := by
      rw [lg_entry_eq]
      generalize (lg_sl (.ref (ad 0) :: [.int x, .int y]) ++ List.replicate (3 - (lg_sl (.ref (ad 0) :: [.int x, .int y])).length) Slot.unset).toArray = la at hl0 ⊢
      have hla : lv_has la 3 [(0, .ref (ad 0)), (1, .int x), (2, .int y)] := hl0
      refine lv_aload_n X.1 X.2.1 dX9_debt_0 rfl (lv_at hla 0 rfl) (lv_iload_n X.1 X.2.1 dX9_debt_1 rfl (lv_at hla 1 rfl) ?_)
      have htb := X.2.2.2.2.2.2.1
      have hcb : CallB (kR 8 1 6) s (Value.ref (ad 0) :: [.int x, .int y]).toArray RX9 130 yX9_isDebt cX9_isDebt 2 (some .boolean) (aws mX9_isDebt) (aR 0) 0 0 1 := callB_of 1 htb (aws_good mkX9_isDebt) rfl rfl rfl (htb _ mkX9_isDebt.2.2.1) (htb _ mlX9_130) mkX9_isDebt.2.2.2.1 (by decide)
      have hrec := va_recv (a := ad 0) (ci := 9) hK hP ckX9.1 (awl_get shC0)
      have run := va_runV (meth := meth) (below := below) (e := e) (H := s.heap) (locs := []) (cells := 0) (slots := 0) (g := F0 m 2 la [.int x, .ref (ad 0)]) (C := RX9) (b := ad 0) (As := [.int x]) (rest := []) ⟨X.1, X.2.1, X.2.2.2.2.1, X.2.2.2.2.2.1, htb⟩ (db_isDebt (l := l) (x := x) hN) ⟨hcb, htb _ miX9_isDebt, htb _ mvX9_isDebt⟩ ⟨fun a U g mk q => ⟨q.1, q.2.1, va_K.moved (u := U) (U := U.calling g mk a) (Vm.Alike.refl U.vm) q.2.2⟩, hrec, fun U hU hW => ⟨rfl, by rw [hU]; exact hP, va_K.moved hW.alike hK⟩⟩ rfl rfl hla.1 rfl (lv_room (Nat.le_of_ble_eq_true rfl)) dX9_debt_2 ⟨by decide, by decide⟩
      -- behind isDebt
      have rest : ∀ v : Int32, v = (if isIn x N then 1 else 0) → W p l e (kR 8 1 6) s m (Value.ref (ad 0) :: [.int x, .int y]).toArray below meth c s.heap [] 0 0 (ZD hC N x y below (Value.ref (ad 0) :: [.int x, .int y]).toArray s) (F0 m 5 la [.int v]) := by
        intro v hv
        refine lv_if_ne (tgt := 16) X.1 X.2.1 dX9_debt_5 (by decide) (fun h1 => ?_) (fun h1 => ?_)
        · have hin : isIn x N = true := by
            cases hq : isIn x N with
            | true => rfl
            | false => rw [hq] at hv; exact absurd hv h1
          obtain ⟨q, hq, eq⟩ := isIn_of (by omega) hin
          have hcl : x.toNatClampNeg = q := by rw [eq]; exact nI_clamp (by omega)
          have bad : dbr N x y = 2 → W p l e (kR 8 1 6) s m (Value.ref (ad 0) :: [.int x, .int y]).toArray below meth c s.heap [] 0 0 (ZD hC N x y below (Value.ref (ad 0) :: [.int x, .int y]).toArray s) (F0 m 144 la []) := fun h2 => db_throw X hla.1 hl hnh dX9_debt_144 dX9_debt_147 dX9_debt_148 dX9_debt_151 clXN itXN inXN (by decide +kernel) hwN (Or.inr ⟨h2, rfl⟩)
          have e0 : (0 : Int32).toInt = 0 := by decide
          have e7 : (7 : Int32).toInt = 7 := by decide
          refine lv_iload_n X.1 X.2.1 dX9_debt_16 rfl (lv_at hla 2 rfl) ?_
          by_cases hy : y.toInt < 0 ∨ 7 < y.toInt
          · refine lv_tableOut (tgt := 144) X.1 X.2.1 dX9_debt_17 hy (by decide) (bad ?_)
            unfold dbr
            rw [if_pos hin]
            by_cases h2 : y < 0
            · rw [if_pos h2]
            · rw [if_neg h2, if_neg (fun h3 => by
                rw [Int32.lt_iff_toInt_lt, e0] at h2
                rw [Int32.le_iff_toInt_le, e7] at h3
                omega)]
          · have y1 : ¬ y.toInt < 0 := fun h => hy (Or.inl h)
            have y2 : ¬ 7 < y.toInt := fun h => hy (Or.inr h)
            have hr : dbr N x y = 0 := by
              unfold dbr
              rw [if_pos hin, if_neg (fun h => by rw [Int32.lt_iff_toInt_lt, e0] at h; exact y1 h), if_pos (by rw [Int32.le_iff_toInt_le, e7]; omega)]
            have sw : ∀ (k : Nat) (off : Int) (t : Nat), y.toInt = (k : Int) → (#[47, 57, 67, 77, 87, 97, 107, 117] : Array Int)[k]? = some off → (17 : Int) + off = (t : Int) → W p l e (kR 8 1 6) s m (Value.ref (ad 0) :: [.int x, .int y]).toArray below meth c s.heap [] 0 0 (ZD hC N x y below (Value.ref (ad 0) :: [.int x, .int y]).toArray s) (F0 m t la []) → W p l e (kR 8 1 6) s m (Value.ref (ad 0) :: [.int x, .int y]).toArray below meth c s.heap [] 0 0 (ZD hC N x y below (Value.ref (ad 0) :: [.int x, .int y]).toArray s) (F0 m 17 la [.int y]) := by
              intro k off t e1 e2 e3 kt
              exact lv_tableIn X.1 X.2.1 dX9_debt_17 y1 y2 (by rw [e1]; exact e2) e3 kt
            have rdv : ∀ (j k pc ix : Nat) (hj : 1 ≤ j ∧ j - 1 < 11) (h8' : 8 ≤ awN (j - 1)) (h15 : awN (j - 1) < 20) (hk : k = j - 1) (d0 : decode cX9_debt pc = .ok (.aload_n 0, 1)) (d1 : decode cX9_debt (pc + 1) = .ok (.getfield 32, 3)) (d2 : decode cX9_debt (pc + 1 + 3) = .ok (.getfield ix, 3)) (d3 : decode cX9_debt (pc + 1 + 3 + 3) = .ok (.iload_n 1, 1)) (d4 : decode cX9_debt (pc + 1 + 3 + 3 + 1) = .ok (.iaload, 1)) (d5 : decode cX9_debt (pc + 1 + 3 + 3 + 1 + 1) = .ok (.ireturn, 1)) (L : aFL (RX8, TX8, 15) RX9 ix k) (hv2 : (afs GC ad hC 66 8)[k]? = some (.ref (ad (66 + j)))) (hw : dbw y = 66 + j), W p l e (kR 8 1 6) s m (Value.ref (ad 0) :: [.int x, .int y]).toArray below meth c s.heap [] 0 0 (ZD hC N x y below (Value.ref (ad 0) :: [.int x, .int y]).toArray s) (F0 m pc la []) := by
              intro j k pc ix hj h8' h15 hk d0 d1 d2 d3 d4 d5 L hv2 hw
              refine lv_aload_n X.1 X.2.1 d0 rfl (lv_at hla 0 rfl) ?_
              refine rd_get (hC := hC) (M := mX9_debt) (v := .ref (ad 66)) X hP d1 shC0 ckX9 flX9_32 rfl ?_
              refine rd_get (hC := hC) (M := mX9_debt) (v := .ref (ad (66 + j))) X hP d2 isW_66.1 ckX8 L hv2 ?_
              refine lv_iload_n X.1 X.2.1 d3 rfl (lv_at hla 1 rfl) ?_
              subst hk
              have hs := isW_66.2 (j - 1) hj.2
              rw [show 66 + (j - 1 + 1) = 66 + j by have := hj.1; omega] at hs
              have hget := awl_get (ad := ad) (aC := aC) (h := hC) hs
              have hin2 : vp_in x (awN (j - 1)) := by
                have h8 : 8 ≤ awN (j - 1) := h8'
                rw [eq]; exact vp_in_nI (Nat.lt_of_lt_of_le hq (Nat.le_trans hN8 h8)) (Nat.lt_trans h15 (by decide))
              refine va_iald (f := hC.1 (66 + j)) X.1 X.2.1 X.2.2.2.2.2.2.2 hP (66 + j) 0 hget (atys_get (G := GC) rfl) hin2 d4 ?_
              have e5 : hC.1 (66 + j) x.toNatClampNeg = dbv hC x y := by unfold dbv; rw [hw]
              rw [e5]
              exact db_ret X hr d5
            obtain ⟨k, hk1⟩ : ∃ k : Nat, y.toInt = (k : Int) := ⟨y.toInt.toNat, by omega⟩
            have hk2 : k < 8 := by omega
            match k, hk1, hk2 with
            | 0, e1, _ => exact sw 0 47 64 e1 (by decide +kernel) (by decide) (rdv 3 2 64 137 (by decide) (by decide) (by decide) rfl dX9_debt_64 dX9_debt_65 dX9_debt_68 dX9_debt_71 dX9_debt_72 dX9_debt_73 flX9_137 rfl (by unfold dbw; rw [show y = 0 from Int32.toInt_inj.mp (by rw [e1]; decide)]; decide))
            | 1, e1, _ => exact sw 1 57 74 e1 (by decide +kernel) (by decide) (rdv 4 3 74 140 (by decide) (by decide) (by decide) rfl dX9_debt_74 dX9_debt_75 dX9_debt_78 dX9_debt_81 dX9_debt_82 dX9_debt_83 flX9_140 rfl (by unfold dbw; rw [show y = 1 from Int32.toInt_inj.mp (by rw [e1]; decide)]; decide))
            | 2, e1, _ => exact sw 2 67 84 e1 (by decide +kernel) (by decide) (rdv 5 4 84 143 (by decide) (by decide) (by decide) rfl dX9_debt_84 dX9_debt_85 dX9_debt_88 dX9_debt_91 dX9_debt_92 dX9_debt_93 flX9_143 rfl (by unfold dbw; rw [show y = 2 from Int32.toInt_inj.mp (by rw [e1]; decide)]; decide))
            | 3, e1, _ => exact sw 3 77 94 e1 (by decide +kernel) (by decide) (rdv 6 5 94 146 (by decide) (by decide) (by decide) rfl dX9_debt_94 dX9_debt_95 dX9_debt_98 dX9_debt_101 dX9_debt_102 dX9_debt_103 flX9_146 rfl (by unfold dbw; rw [show y = 3 from Int32.toInt_inj.mp (by rw [e1]; decide)]; decide))
            | 4, e1, _ => exact sw 4 87 104 e1 (by decide +kernel) (by decide) (rdv 7 6 104 149 (by decide) (by decide) (by decide) rfl dX9_debt_104 dX9_debt_105 dX9_debt_108 dX9_debt_111 dX9_debt_112 dX9_debt_113 flX9_149 rfl (by unfold dbw; rw [show y = 4 from Int32.toInt_inj.mp (by rw [e1]; decide)]; decide))
            | 5, e1, _ => exact sw 5 97 114 e1 (by decide +kernel) (by decide) (rdv 8 7 114 152 (by decide) (by decide) (by decide) rfl dX9_debt_114 dX9_debt_115 dX9_debt_118 dX9_debt_121 dX9_debt_122 dX9_debt_123 flX9_152 rfl (by unfold dbw; rw [show y = 5 from Int32.toInt_inj.mp (by rw [e1]; decide)]; decide))
            | 6, e1, _ => exact sw 6 107 124 e1 (by decide +kernel) (by decide) (rdv 9 8 124 155 (by decide) (by decide) (by decide) rfl dX9_debt_124 dX9_debt_125 dX9_debt_128 dX9_debt_131 dX9_debt_132 dX9_debt_133 flX9_155 rfl (by unfold dbw; rw [show y = 6 from Int32.toInt_inj.mp (by rw [e1]; decide)]; decide))
            | 7, e1, _ => exact sw 7 117 134 e1 (by decide +kernel) (by decide) (rdv 11 10 134 158 (by decide) (by decide) (by decide) rfl dX9_debt_134 dX9_debt_135 dX9_debt_138 dX9_debt_141 dX9_debt_142 dX9_debt_143 flX9_158 rfl (by unfold dbw; rw [show y = 7 from Int32.toInt_inj.mp (by rw [e1]; decide)]; decide))
            | k + 8, _, h9 => exact absurd h9 (by omega)
        · have hin : isIn x N = false := by
            cases hq : isIn x N with
            | false => rfl
            | true => rw [hq] at hv; exact absurd (h1 : v = 0) (by rw [hv]; decide)
          exact db_throw X hla.1 hl hnh dX9_debt_8 dX9_debt_11 dX9_debt_12 dX9_debt_15 clXI itXI inXI (by decide +kernel) hwI (Or.inl ⟨by unfold dbr; rw [hin]; rfl, rfl⟩)
      intro T hT XT
      obtain ⟨v, st₀, t, T', L', h0, X', hL, e1, e2, ⟨hv, hh⟩, stp⟩ := run T hT XT
      cases hv
      have hL0 : L' = [] := List.eq_nil_iff_forall_not_mem.mpr (fun q hq => hL q hq)
      subst hL0
      obtain ⟨t2, a1, b1⟩ := rest _ rfl T' (by rw [e1, hh, h0]) X'
      exact ⟨t2, stp t2 a1, b1⟩
    obtain ⟨t, a1, o, b1, b2, b3⟩ := body s₁ hh0 (Stand.of_body B)
    exact ⟨t, o, a1, b1, b2, b3⟩
end DBT
