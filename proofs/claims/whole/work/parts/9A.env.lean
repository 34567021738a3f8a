/-! ===== what the law stands on at its entry ===== -/
section ENV
variable {p : Program} {s : State} {m : MethodId} {meth : Method} {c : Code} {b L : Nat} {xs : Nat → Int32}
theorem lw_w (C0 : lw_At p s m meth c b L xs) {w : Cond} (i : Nat) (h : tables_1[i]? = some w) : w.before #[Value.ref b] s = true := C0.2.2.2.2.2.1 w (List.mem_append_right _ (List.mem_of_getElem? h))
theorem lw_g (C0 : lw_At p s m meth c b L xs) {w : Cond} (i : Nat) (h : (flatC (Jvm.Cond.and given_1 narrow_1))[i]? = some w) : w.before #[Value.ref b] s = true := flat_of_before _ C0.2.2.2.2.2.2.2.2.2 w (List.mem_of_getElem? h)
theorem ev_Z (C0 : lw_At p s m meth c b L xs) : aZs (fun q => s.heap.size ≤ q) s := by
  refine ⟨va_Zof (lw_w C0 57 (by decide +kernel)) (lw_w C0 4 (by decide +kernel)) (va_eqt (lw_g C0 4 (by decide +kernel))) (fun a h => Nat.not_le.mpr h), va_Zqof (lw_w C0 73 (by decide +kernel)) (lw_w C0 6 (by decide +kernel)) (lw_g C0 5 (by decide +kernel)) (fun a h => Nat.not_le.mpr h)⟩

theorem ev_T_el : ∀ j, j < 126 → (flatC (Jvm.Cond.and given_1 narrow_1))[39 + j]? = some (Cond.eq (.elem (.field (.string "TuskLedger$Tokens" 28) "java/lang/String" "value" "[B") (.int (Int32.ofNat j))) (.int (aCb.getD j 0))) := by decide +kernel
theorem ev_T (C0 : lw_At p s m meth c b L xs) : ∃ adK adV : Nat → Nat, aET adK adV (fun q => s.heap.size ≤ q) s := by
  have one : ∀ {P : Nat → Prop}, P 0 → ∀ i, i < 1 → P i := fun {P} h i hi => by
    obtain rfl : i = 0 := by omega
    exact h
  obtain ⟨adK, adV, h1, h2⟩ := vk_Sof (args := #[Value.ref b]) (s := s) (N := 1) (tm := fun _ => .string "TuskLedger$Tokens" 28) (len := [126]) (byt := [aCb]) (A := fun q => s.heap.size ≤ q) (one (by decide)) (fun _ _ => lw_g C0 35 (by decide +kernel)) (fun _ _ => lw_g C0 36 (by decide +kernel)) (fun _ _ => lw_g C0 37 (by decide +kernel)) (one (lw_g C0 38 (by decide +kernel))) (one (fun j hj => lw_g C0 (39 + j) (ev_T_el j hj))) (fun i j hi hj hij => absurd (by omega) hij) (fun a h => Nat.not_le.mpr h)
  exact ⟨adK, adV, h1, vk_R.of (lw_w C0 47 (by decide +kernel)) (h2 0 (by decide)), ev_Z C0⟩
theorem ev_M_el : ∀ j, j < 97 → (flatC (Jvm.Cond.and given_1 narrow_1))[169 + j]? = some (Cond.eq (.elem (.field (.string "TuskLedgerModel" 203) "java/lang/String" "value" "[B") (.int (Int32.ofNat j))) (.int (aMb.getD j 0))) := by decide +kernel
theorem ev_M (C0 : lw_At p s m meth c b L xs) : ∃ adK adV : Nat → Nat, aEM adK adV (fun q => s.heap.size ≤ q) s := by
  have one : ∀ {P : Nat → Prop}, P 0 → ∀ i, i < 1 → P i := fun {P} h i hi => by
    obtain rfl : i = 0 := by omega
    exact h
  obtain ⟨adK, adV, h1, h2⟩ := vk_Sof (args := #[Value.ref b]) (s := s) (N := 1) (tm := fun _ => .string "TuskLedgerModel" 203) (len := [97]) (byt := [aMb]) (A := fun q => s.heap.size ≤ q) (one (by decide)) (fun _ _ => lw_g C0 165 (by decide +kernel)) (fun _ _ => lw_g C0 166 (by decide +kernel)) (fun _ _ => lw_g C0 167 (by decide +kernel)) (one (lw_g C0 168 (by decide +kernel))) (one (fun j hj => lw_g C0 (169 + j) (ev_M_el j hj))) (fun i j hi hj hij => absurd (by omega) hij) (fun a h => Nat.not_le.mpr h)
  exact ⟨adK, adV, h1, vk_R.of (lw_w C0 1496 (by decide +kernel)) (h2 0 (by decide)), ev_Z C0⟩
theorem ev_n9_17 (C0 : lw_At p s m meth c b L xs) : va_Nw (.methodLinkNest RX9 17 yX3_init RX9) s := va_Nw.of (A := #[Value.ref b]) rfl (lw_w C0 34 (by decide +kernel))
theorem ev_n9_24 (C0 : lw_At p s m meth c b L xs) : va_Nw (.methodLinkNest RX9 24 yX6_init RX9) s := va_Nw.of (A := #[Value.ref b]) rfl (lw_w C0 341 (by decide +kernel))
theorem ev_n9_31 (C0 : lw_At p s m meth c b L xs) : va_Nw (.methodLinkNest RX9 31 yX8_init RX9) s := va_Nw.of (A := #[Value.ref b]) rfl (lw_w C0 343 (by decide +kernel))
theorem ev_n9_60 (C0 : lw_At p s m meth c b L xs) : va_Nw (.methodLinkNest RX9 60 yX5_init RX9) s := va_Nw.of (A := #[Value.ref b]) rfl (lw_w C0 385 (by decide +kernel))
theorem ev_n9_67 (C0 : lw_At p s m meth c b L xs) : va_Nw (.methodLinkNest RX9 67 yX4_init RX9) s := va_Nw.of (A := #[Value.ref b]) rfl (lw_w C0 416 (by decide +kernel))
theorem ev_n2_17 (C0 : lw_At p s m meth c b L xs) : va_Nw (.methodLinkNest RX2 17 yX8_init RX9) s := va_Nw.of (A := #[Value.ref b]) rfl (lw_w C0 352 (by decide +kernel))
theorem ev_n3_20 (C0 : lw_At p s m meth c b L xs) : va_Nw (.methodLinkNest RX3 20 yX6_init RX9) s := va_Nw.of (A := #[Value.ref b]) rfl (lw_w C0 120 (by decide +kernel))
theorem ev_n3_199 (C0 : lw_At p s m meth c b L xs) : va_Nw (.methodLinkNest RX3 199 yX9_indexOf RX9) s := va_Nw.of (A := #[Value.ref b]) rfl (lw_w C0 593 (by decide +kernel))
theorem ev_n4_29 (C0 : lw_At p s m meth c b L xs) : va_Nw (.methodLinkNest RX4 29 yX8_init RX9) s := va_Nw.of (A := #[Value.ref b]) rfl (lw_w C0 421 (by decide +kernel))
theorem ev_n6_35 (C0 : lw_At p s m meth c b L xs) : va_Nw (.methodLinkNest RX6 35 yX1_init RX9) s := va_Nw.of (A := #[Value.ref b]) rfl (lw_w C0 126 (by decide +kernel))
theorem ev_n6_48 (C0 : lw_At p s m meth c b L xs) : va_Nw (.methodLinkNest RX6 48 yX8_init RX9) s := va_Nw.of (A := #[Value.ref b]) rfl (lw_w C0 145 (by decide +kernel))
theorem ev_n7_65 (C0 : lw_At p s m meth c b L xs) : va_Nw (.methodLinkNest RX7 65 yX9_indexOf RX9) s := va_Nw.of (A := #[Value.ref b]) rfl (lw_w C0 529 (by decide +kernel))
theorem ev_C (C0 : lw_At p s m meth c b L xs) (A : Nat → Prop) : aEC A s := ⟨ev_n7_65 C0, ev_n3_199 C0⟩
/-- what the constructors stand on, from b0 on -/
def Zc (b0 : Nat) (adK adV adK' adV' : Nat → Nat) : State → Prop := fun s => aET adK adV (fun q => b0 ≤ q) s ∧ aEM adK' adV' (fun q => b0 ≤ q) s ∧ va_AO "TuskLedger$World" s ∧ va_Nw (.methodLinkNest RX9 17 yX3_init RX9) s ∧ va_Nw (.methodLinkNest RX9 24 yX6_init RX9) s ∧ va_Nw (.methodLinkNest RX9 31 yX8_init RX9) s ∧ va_Nw (.methodLinkNest RX9 60 yX5_init RX9) s ∧ va_Nw (.methodLinkNest RX9 67 yX4_init RX9) s ∧ va_Nw (.methodLinkNest RX2 17 yX8_init RX9) s ∧ va_Nw (.methodLinkNest RX3 20 yX6_init RX9) s ∧ va_Nw (.methodLinkNest RX4 29 yX8_init RX9) s ∧ va_Nw (.methodLinkNest RX6 35 yX1_init RX9) s ∧ va_Nw (.methodLinkNest RX6 48 yX8_init RX9) s
theorem Zc_at (C0 : lw_At p s m meth c b L xs) {adK adV adK' adV' : Nat → Nat} (hT : aET adK adV (fun q => s.heap.size ≤ q) s) (hM : aEM adK' adV' (fun q => s.heap.size ≤ q) s) : Zc s.heap.size adK adV adK' adV' s := ⟨hT, hM, va_AO.of (A := #[Value.ref b]) (lw_w C0 351 (by decide +kernel)), ev_n9_17 C0, ev_n9_24 C0, ev_n9_31 C0, ev_n9_60 C0, ev_n9_67 C0, ev_n2_17 C0, ev_n3_20 C0, ev_n4_29 C0, ev_n6_35 C0, ev_n6_48 C0⟩
theorem aET.narrow {adK adV : Nat → Nat} {A B : Nat → Prop} {s : State} (h : aET adK adV A s) (hAB : ∀ q, B q → A q) : aET adK adV B s := ⟨h.1.narrow hAB, h.2.1, va_Z.narrow h.2.2.1 hAB, va_Zq.narrow h.2.2.2 hAB⟩
theorem Zc_st {b0 b : Nat} {adK adV adK' adV' : Nat → Nat} (hb : b0 ≤ b) : kSt b (Zc b0 adK adV adK' adV') := by
  intro s U h hW hz hk
  have hk' : ∀ q : Nat, q < s.heap.size → ¬ b0 ≤ q → U.heap[q]? = s.heap[q]? := fun q h1 h2 => hk q h1 (fun h3 => h2 (Nat.le_trans hb h3))
  obtain ⟨h1, h2, h3, n0, n1, n2, n3, n4, n5, n6, n7, n8, n9⟩ := h
  exact ⟨stT adK adV _ s U h1 hW hz hk', stM adK' adV' _ s U h2 hW hz hk', h3.moved hW.alike, va_Nw.warmM hW n0, va_Nw.warmM hW n1, va_Nw.warmM hW n2, va_Nw.warmM hW n3, va_Nw.warmM hW n4, va_Nw.warmM hW n5, va_Nw.warmM hW n6, va_Nw.warmM hW n7, va_Nw.warmM hW n8, va_Nw.warmM hW n9⟩
theorem Zc_N {b0 : Nat} {adK adV adK' adV' : Nat → Nat} : kN b0 (Zc b0 adK adV adK' adV') := ⟨fun b hb => Zc_st hb, fun s h => h.2.2.2.1, fun s h => h.2.2.2.2.1, fun s h => h.2.2.2.2.2.1, fun s h => h.2.2.2.2.2.2.1, fun s h => h.2.2.2.2.2.2.2.1, fun s h => h.2.2.2.2.2.2.2.2.1, fun s h => h.2.2.2.2.2.2.2.2.2.1, fun s h => h.2.2.2.2.2.2.2.2.2.2.1, fun s h => h.2.2.2.2.2.2.2.2.2.2.2.1, fun s h => h.2.2.2.2.2.2.2.2.2.2.2.2⟩
theorem Zc_E {b0 : Nat} {adK adV adK' adV' : Nat → Nat} : kE adK adV (Zc b0 adK adV adK' adV') := ⟨fun s h => aET.narrow h.1 (fun q hq => absurd hq (fun c => c)), fun s h => h.2.2.1⟩
theorem Zc_M {b0 b : Nat} {adK adV adK' adV' : Nat → Nat} (hb : b0 ≤ b) : ∀ s, Zc b0 adK adV adK' adV' s → aEM adK' adV' (fun q => b ≤ q) s := fun s h => aEM.narrow h.2.1 (fun q hq => Nat.le_trans hb hq)
theorem ev_K (C0 : lw_At p s m meth c b L xs) : ∃ (D : va_G) (aC : FieldType → ClassId), va_K D acl (atys GC aC) s := by
  obtain ⟨c0, i0, k0⟩ := u_known (C := RX0) (T := TX0) (N := 5) (n := 5) (ws := aTB) (args := #[Value.ref b]) (s := s) (fun w hw => C0.2.2.2.2.2.1 w (List.mem_filter.mp hw).1) wiX0 (C0.2.2.2.2.2.1 _ (List.mem_filter.mp itX0).1)
  obtain ⟨c1, i1, k1⟩ := u_known (C := RX1) (T := TX1) (N := 3) (n := 3) (ws := aTB) (args := #[Value.ref b]) (s := s) (fun w hw => C0.2.2.2.2.2.1 w (List.mem_filter.mp hw).1) wiX1 (C0.2.2.2.2.2.1 _ (List.mem_filter.mp itX1).1)
  obtain ⟨c2, i2, k2⟩ := u_known (C := RX2) (T := TX2) (N := 2) (n := 2) (ws := aTB) (args := #[Value.ref b]) (s := s) (fun w hw => C0.2.2.2.2.2.1 w (List.mem_filter.mp hw).1) wiX2 (C0.2.2.2.2.2.1 _ (List.mem_filter.mp itX2).1)
  obtain ⟨c3, i3, k3⟩ := u_known (C := RX3) (T := TX3) (N := 5) (n := 5) (ws := aTB) (args := #[Value.ref b]) (s := s) (fun w hw => C0.2.2.2.2.2.1 w (List.mem_filter.mp hw).1) wiX3 (C0.2.2.2.2.2.1 _ (List.mem_filter.mp itX3).1)
  obtain ⟨c4, i4, k4⟩ := u_known (C := RX4) (T := TX4) (N := 11) (n := 11) (ws := aTB) (args := #[Value.ref b]) (s := s) (fun w hw => C0.2.2.2.2.2.1 w (List.mem_filter.mp hw).1) wiX4 (C0.2.2.2.2.2.1 _ (List.mem_filter.mp itX4).1)
  obtain ⟨c5, i5, k5⟩ := u_known (C := RX5) (T := TX5) (N := 7) (n := 7) (ws := aTB) (args := #[Value.ref b]) (s := s) (fun w hw => C0.2.2.2.2.2.1 w (List.mem_filter.mp hw).1) wiX5 (C0.2.2.2.2.2.1 _ (List.mem_filter.mp itX5).1)
  obtain ⟨c6, i6, k6⟩ := u_known (C := RX6) (T := TX6) (N := 19) (n := 19) (ws := aTB) (args := #[Value.ref b]) (s := s) (fun w hw => C0.2.2.2.2.2.1 w (List.mem_filter.mp hw).1) wiX6 (C0.2.2.2.2.2.1 _ (List.mem_filter.mp itX6).1)
  obtain ⟨c7, i7, k7⟩ := u_known (C := RX7) (T := TX7) (N := 5) (n := 5) (ws := aTB) (args := #[Value.ref b]) (s := s) (fun w hw => C0.2.2.2.2.2.1 w (List.mem_filter.mp hw).1) wiX7 (C0.2.2.2.2.2.1 _ (List.mem_filter.mp itX7).1)
  obtain ⟨c8, i8, k8⟩ := u_known (C := RX8) (T := TX8) (N := 15) (n := 15) (ws := aTB) (args := #[Value.ref b]) (s := s) (fun w hw => C0.2.2.2.2.2.1 w (List.mem_filter.mp hw).1) wiX8 (C0.2.2.2.2.2.1 _ (List.mem_filter.mp itX8).1)
  obtain ⟨c9, i9, k9⟩ := u_known (C := RX9) (T := TX9) (N := 12) (n := 12) (ws := aTB) (args := #[Value.ref b]) (s := s) (fun w hw => C0.2.2.2.2.2.1 w (List.mem_filter.mp hw).1) wiX9 (C0.2.2.2.2.2.1 _ (List.mem_filter.mp itX9).1)
  obtain ⟨c10, i10, k10⟩ := u_known (C := RX10) (T := TX10) (N := 69) (n := 69) (ws := aTB) (args := #[Value.ref b]) (s := s) (fun w hw => C0.2.2.2.2.2.1 w (List.mem_filter.mp hw).1) wiX10 (C0.2.2.2.2.2.1 _ (List.mem_filter.mp itX10).1)
  obtain ⟨a0, A0, p0, q1, q2, q3⟩ := Cond.arrayClass_spec (show (Cond.arrayClass .int).holds #[Value.ref b] s none s [] = true from lw_w C0 116 (by decide +kernel))
  obtain ⟨a1, A1, p1, r1, r2, r3⟩ := Cond.arrayClass_spec (show (Cond.arrayClass .long).holds #[Value.ref b] s none s [] = true from lw_w C0 142 (by decide +kernel))
  obtain ⟨a2, A2, p2, s1, s2, s3⟩ := Cond.arrayClass_spec (show (Cond.arrayClass .boolean).holds #[Value.ref b] s none s [] = true from lw_w C0 413 (by decide +kernel))
  obtain ⟨p3, a3, A3, t0, t1, t2, t3, t4⟩ := Cond.arrayOver_spec (show (Cond.arrayOver (.object "TuskLedger$World")).holds #[Value.ref b] s none s [] = true from lw_w C0 351 (by decide +kernel))
  refine ⟨(fun k => if k = 0 then c0 else if k = 1 then c1 else if k = 2 then c2 else if k = 3 then c3 else if k = 4 then c4 else if k = 5 then c5 else if k = 6 then c6 else if k = 7 then c7 else if k = 8 then c8 else if k = 9 then c9 else c10, fun k => if k = 0 then i0 else if k = 1 then i1 else if k = 2 then i2 else if k = 3 then i3 else if k = 4 then i4 else if k = 5 then i5 else if k = 6 then i6 else if k = 7 then i7 else if k = 8 then i8 else if k = 9 then i9 else i10), fun t => match t with
    | .int => a0
    | .long => a1
    | .boolean => a2
    | _ => a3, ?_, ?_⟩
  · intro k q hq
    match k, hq with
    | 0, hq => cases hq; exact k0
    | 1, hq => cases hq; exact k1
    | 2, hq => cases hq; exact k2
    | 3, hq => cases hq; exact k3
    | 4, hq => cases hq; exact k4
    | 5, hq => cases hq; exact k5
    | 6, hq => cases hq; exact k6
    | 7, hq => cases hq; exact k7
    | 8, hq => cases hq; exact k8
    | 9, hq => cases hq; exact k9
    | 10, hq => cases hq; exact k10
    | k + 11, hq => simp [acl] at hq
  · intro k q hq
    match k, hq with
    | 0, hq => cases hq; exact ⟨fun N z => ⟨(fun k h => by cases h), A0, q2, p0, q3⟩, q1⟩
    | 1, hq => cases hq; exact ⟨fun N z => ⟨(fun k h => by cases h), A1, r2, p1, r3⟩, r1⟩
    | 2, hq => cases hq; exact ⟨fun N z => ⟨(fun k h => by cases h), A2, s2, p2, s3⟩, s1⟩
    | 3, hq => cases hq; exact ⟨fun N z => ⟨(fun k h => by cases h), A3, t2, p3, t3⟩, A3, p3, t2, t3, t0, t4⟩
    | k + 4, hq => simp [atys, GC, atl] at hq
end ENV
