set_option maxRecDepth 8000 in
set_option maxHeartbeats 1000000 in
theorem bX0_follow_0 {l : Launch} {ad : Nat → Nat} {d : Nat} {R : aH → Prop} (v1 : Nat) (v2 : Nat) (hv1 : isS GC v1) (hv2 : isW GC v2) (x3 : Int32) (x4 : Int32)  (h : aH)
    (H : R (sI (sI (sR (sR h 344 1 v1) 344 2 v2) 344 3 x3) 344 4 x4)) : AW GC l ad d mX0_follow 0 [(0, .ref (ad 344)), (1, .ref (ad v1)), (2, .ref (ad v2)), (3, .int x3), (4, .int x4)] [] h (qv R) := by
  refine aw_aload_n dX0_follow_0 rfl 0 rfl ?_
  refine aw_aload_n dX0_follow_1 rfl 1 rfl ?_
  refine aw_putR dX0_follow_2 shC344 ckX0 flX0_15 rfl (fun _ => rfl) rfl rfl ?_
  refine aw_aload_n dX0_follow_5 rfl 0 rfl ?_
  refine aw_aload_n dX0_follow_6 rfl 2 rfl ?_
  refine aw_putR dX0_follow_7 shC344 ckX0 flX0_19 rfl (fun _ => rfl) rfl rfl ?_
  refine aw_aload_n dX0_follow_10 rfl 0 rfl ?_
  refine aw_iload_n dX0_follow_11 rfl 3 rfl ?_
  refine aw_putI dX0_follow_12 shC344 ckX0 flX0_23 rfl (fun _ => rfl) rfl rfl ?_
  refine aw_aload_n dX0_follow_15 rfl 0 rfl ?_
  refine aw_iload dX0_follow_16 4 rfl ?_
  refine aw_putI dX0_follow_18 shC344 ckX0 flX0_27 rfl (fun _ => rfl) rfl rfl ?_
  exact aw_vret dX0_follow_21 rfl ⟨rfl, H⟩
set_option maxRecDepth 8000 in
set_option maxHeartbeats 1000000 in
theorem bX0_run_0 {l : Launch} {ad : Nat → Nat} {d : Nat} {R : aH → Prop}   (x1 : Int32)  (h : aH)
    (H : AW GC l ad (d + 1) mX0_run 2 [(0, .ref (ad 344)), (1, .int x1), (2, .int (0 : Int32))] [] h (qv R)) : AW GC l ad (d + 1) mX0_run 0 [(0, .ref (ad 344)), (1, .int x1)] [] h (qv R) := by
  refine aw_iconst (v := 0) dX0_run_0 (by decide) ?_
  refine aw_istore_n (ls' := [(2, .int (0 : Int32)), (0, .ref (ad 344)), (1, .int x1)]) dX0_run_1 rfl (by decide) rfl ?_
  exact aw_ls [1, 2, 0] rfl H
set_option maxRecDepth 8000 in
set_option maxHeartbeats 1000000 in
theorem bX0_run_2 {l : Launch} {ad : Nat → Nat} {d : Nat} {R : aH → Prop}   (x1 : Int32) (x2 : Int32)  (h : aH)
    (H : (x1 ≤ x2 → (R h)) ∧ (¬ x1 ≤ x2 → (AW GC l ad d mX0_oneDay 0 [(0, .ref (ad 344))] [] h (qv fun h1 => AW GC l ad (d + 1) mX0_run 2 [(0, .ref (ad 344)), (1, .int x1), (2, .int (x2 + (1 : Int32)))] [] h1 (qv R))))) : AW GC l ad (d + 1) mX0_run 2 [(0, .ref (ad 344)), (1, .int x1), (2, .int x2)] [] h (qv R) := by
  refine aw_iload_n dX0_run_2 rfl 2 rfl ?_
  refine aw_iload_n dX0_run_3 rfl 1 rfl ?_
  refine aw_icmp_ge (tgt := 17) dX0_run_4 (by decide) (fun hc3 => ?_) (fun hc3 => ?_)
  · replace H := H.1 hc3
    exact aw_vret dX0_run_17 rfl ⟨rfl, H⟩
  · replace H := H.2 hc3
    refine aw_aload_n dX0_run_7 rfl 0 rfl ?_
    refine cvX0_oneDay dX0_run_8 mlX0_30 shC344 (Nat.le_of_ble_eq_true rfl) H (fun h1 H => ?_)
    refine aw_inc (mm := (1)) (ls' := [(2, .int (x2 + (1 : Int32))), (0, .ref (ad 344)), (1, .int x1)]) dX0_run_11 (by decide) (j := 2) rfl (by decide) rfl ?_
    refine aw_goto (tgt := 2) dX0_run_14 (by decide) ?_
    exact aw_ls [1, 2, 0] rfl H
set_option maxRecDepth 8000 in
set_option maxHeartbeats 1000000 in
theorem bX0_oneDay_0 {l : Launch} {ad : Nat → Nat} {d : Nat} {R : aH → Prop}     (h : aH)
    (H : AW GC l ad d mX0_lendDue 0 [(0, .ref (ad 344))] [] h (qv fun h1 => ((h1.1 344 3) = (3 : Int32) → (AW GC l ad (d + 1) mX0_oneDay 16 [(0, .ref (ad 344))] [] h1 (qv R))) ∧ (¬ (h1.1 344 3) = (3 : Int32) → (AW GC l ad d mX0_leanAll 0 [(0, .ref (ad 344))] [] h1 (qv fun h3 => AW GC l ad (d + 1) mX0_oneDay 16 [(0, .ref (ad 344))] [] h3 (qv R)))))) : AW GC l ad (d + 1) mX0_oneDay 0 [(0, .ref (ad 344))] [] h (qv R) := by
  refine aw_aload_n dX0_oneDay_0 rfl 0 rfl ?_
  refine cvX0_lendDue dX0_oneDay_1 mlX0_33 shC344 (Nat.le_of_ble_eq_true rfl) H (fun h1 H => ?_)
  refine aw_aload_n dX0_oneDay_4 rfl 0 rfl ?_
  refine aw_get dX0_oneDay_5 shC344 ckX0 flX0_23 (v := .int (h1.1 344 3)) rfl ?_
  refine aw_iconst (v := 3) dX0_oneDay_8 (by decide) ?_
  refine aw_icmp_eq (tgt := 16) dX0_oneDay_9 (by decide) (fun hc5 => ?_) (fun hc5 => ?_)
  · replace H := H.1 hc5
    exact aw_ls [0] rfl H
  · replace H := H.2 hc5
    refine aw_aload_n dX0_oneDay_12 rfl 0 rfl ?_
    refine cvX0_leanAll dX0_oneDay_13 mlX0_36 shC344 (Nat.le_of_ble_eq_true rfl) H (fun h3 H => ?_)
    exact aw_ls [0] rfl H
set_option maxRecDepth 8000 in
set_option maxHeartbeats 1000000 in
theorem bX0_oneDay_16 {l : Launch} {ad : Nat → Nat} {d : Nat} {R : aH → Prop}     (h : aH)
    (H : ((h.1 344 3) = (1 : Int32) → (AW GC l ad (d + 1) mX0_oneDay 28 [(0, .ref (ad 344))] [] h (qv R))) ∧ (¬ (h.1 344 3) = (1 : Int32) → (AW GC l ad d mX0_dieAsTold 0 [(0, .ref (ad 344))] [] h (qv fun h1 => AW GC l ad (d + 1) mX0_oneDay 28 [(0, .ref (ad 344))] [] h1 (qv R))))) : AW GC l ad (d + 1) mX0_oneDay 16 [(0, .ref (ad 344))] [] h (qv R) := by
  refine aw_aload_n dX0_oneDay_16 rfl 0 rfl ?_
  refine aw_get dX0_oneDay_17 shC344 ckX0 flX0_23 (v := .int (h.1 344 3)) rfl ?_
  refine aw_iconst (v := 1) dX0_oneDay_20 (by decide) ?_
  refine aw_icmp_eq (tgt := 28) dX0_oneDay_21 (by decide) (fun hc3 => ?_) (fun hc3 => ?_)
  · replace H := H.1 hc3
    exact aw_ls [0] rfl H
  · replace H := H.2 hc3
    refine aw_aload_n dX0_oneDay_24 rfl 0 rfl ?_
    refine cvX0_dieAsTold dX0_oneDay_25 mlX0_39 shC344 (Nat.le_of_ble_eq_true rfl) H (fun h1 H => ?_)
    exact aw_ls [0] rfl H
set_option maxRecDepth 8000 in
set_option maxHeartbeats 1000000 in
theorem bX0_oneDay_28 {l : Launch} {ad : Nat → Nat} {d : Nat} {R : aH → Prop}     (h : aH)
    (H : ((h.1 344 3) = (4 : Int32) → (AW GC l ad (d + 1) mX0_oneDay 40 [(0, .ref (ad 344))] [] h (qv R))) ∧ (¬ (h.1 344 3) = (4 : Int32) → (AW GC l ad d mX0_payAll 0 [(0, .ref (ad 344))] [] h (qv fun h1 => AW GC l ad (d + 1) mX0_oneDay 40 [(0, .ref (ad 344))] [] h1 (qv R))))) : AW GC l ad (d + 1) mX0_oneDay 28 [(0, .ref (ad 344))] [] h (qv R) := by
  refine aw_aload_n dX0_oneDay_28 rfl 0 rfl ?_
  refine aw_get dX0_oneDay_29 shC344 ckX0 flX0_23 (v := .int (h.1 344 3)) rfl ?_
  refine aw_iconst (v := 4) dX0_oneDay_32 (by decide) ?_
  refine aw_icmp_eq (tgt := 40) dX0_oneDay_33 (by decide) (fun hc3 => ?_) (fun hc3 => ?_)
  · replace H := H.1 hc3
    exact aw_ls [0] rfl H
  · replace H := H.2 hc3
    refine aw_aload_n dX0_oneDay_36 rfl 0 rfl ?_
    refine cvX0_payAll dX0_oneDay_37 mlX0_42 shC344 (Nat.le_of_ble_eq_true rfl) H (fun h1 H => ?_)
    exact aw_ls [0] rfl H
set_option maxRecDepth 8000 in
set_option maxHeartbeats 1000000 in
theorem bX0_oneDay_40 {l : Launch} {ad : Nat → Nat} {d : Nat} {R : aH → Prop}     (h : aH)
    (H : ∀ w1 : Nat, w1 = h.2.2 344 2 → isW GC w1 ∧ ((¬ ((h.1 w1 13) - (h.1 w1 13) / (10 : Int32) * (10 : Int32)) = (9 : Int32) → (AW GC l ad (d + 1) mX0_oneDay 63 [(0, .ref (ad 344))] [] h (qv R))) ∧ (((h.1 w1 13) - (h.1 w1 13) / (10 : Int32) * (10 : Int32)) = (9 : Int32) → (AW GC l ad d mX0_addInterest 0 [(0, .ref (ad 344))] [] h (qv fun h2 => AW GC l ad d mX0_growOlder 0 [(0, .ref (ad 344))] [] h2 (qv fun h4 => AW GC l ad (d + 1) mX0_oneDay 63 [(0, .ref (ad 344))] [] h4 (qv R))))))) : AW GC l ad (d + 1) mX0_oneDay 40 [(0, .ref (ad 344))] [] h (qv R) := by
  refine aw_aload_n dX0_oneDay_40 rfl 0 rfl ?_
  obtain ⟨w1, ew1⟩ : ∃ z, z = h.2.2 344 2 := ⟨_, rfl⟩
  obtain ⟨hw1, H⟩ := H w1 ew1
  refine aw_get dX0_oneDay_41 shC344 ckX0 flX0_19 (v := .ref (ad w1)) (by rw [ew1]; rfl) ?_
  refine aw_get dX0_oneDay_44 hw1.1 ckX8 flX0_45 (v := .int (h.1 w1 13)) rfl ?_
  refine aw_bipush (v := 10) dX0_oneDay_47 (by decide) ?_
  refine aw_irem dX0_oneDay_49 (by decide) ?_
  refine aw_bipush (v := 9) dX0_oneDay_50 (by decide) ?_
  refine aw_icmp_ne (tgt := 63) dX0_oneDay_52 (by decide) (fun hc6 => ?_) (fun hc6 => ?_)
  · replace H := H.1 hc6
    exact aw_ls [0] rfl H
  · replace H := H.2 hc6
    refine aw_aload_n dX0_oneDay_55 rfl 0 rfl ?_
    refine cvX0_addInterest dX0_oneDay_56 mlX0_50 shC344 (Nat.le_of_ble_eq_true rfl) H (fun h2 H => ?_)
    refine aw_aload_n dX0_oneDay_59 rfl 0 rfl ?_
    refine cvX0_growOlder dX0_oneDay_60 mlX0_53 shC344 (Nat.le_of_ble_eq_true rfl) H (fun h4 H => ?_)
    exact aw_ls [0] rfl H
set_option maxRecDepth 8000 in
set_option maxHeartbeats 1000000 in
theorem bX0_oneDay_63 {l : Launch} {ad : Nat → Nat} {d : Nat} {R : aH → Prop}     (h : aH)
    (H : AW GC l ad d mX0_forgive 0 [(0, .ref (ad 344))] [] h (qv fun h1 => ∀ w3 : Nat, w3 = h1.2.2 344 2 → isW GC w3 ∧ (R (sI h1 w3 13 ((h1.1 w3 13) + (1 : Int32)))))) : AW GC l ad (d + 1) mX0_oneDay 63 [(0, .ref (ad 344))] [] h (qv R) := by
  refine aw_aload_n dX0_oneDay_63 rfl 0 rfl ?_
  refine cvX0_forgive dX0_oneDay_64 mlX0_56 shC344 (Nat.le_of_ble_eq_true rfl) H (fun h1 H => ?_)
  refine aw_aload_n dX0_oneDay_67 rfl 0 rfl ?_
  obtain ⟨w3, ew3⟩ : ∃ z, z = h1.2.2 344 2 := ⟨_, rfl⟩
  obtain ⟨hw3, H⟩ := H w3 ew3
  refine aw_get dX0_oneDay_68 shC344 ckX0 flX0_19 (v := .ref (ad w3)) (by rw [ew3]; rfl) ?_
  refine aw_dup dX0_oneDay_71 rfl ?_
  refine aw_get dX0_oneDay_72 hw3.1 ckX8 flX0_45 (v := .int (h1.1 w3 13)) rfl ?_
  refine aw_iconst (v := 1) dX0_oneDay_75 (by decide) ?_
  refine aw_iadd dX0_oneDay_76 ?_
  refine aw_putI dX0_oneDay_77 hw3.1 ckX8 flX0_45 rfl (fun _ => rfl) rfl rfl ?_
  exact aw_vret dX0_oneDay_80 rfl ⟨rfl, H⟩
set_option maxRecDepth 8000 in
set_option maxHeartbeats 1000000 in
theorem bX0_lendDue_0 {l : Launch} {ad : Nat → Nat} {d : Nat} {R : aH → Prop}     (h : aH)
    (H : AW GC l ad (d + 1) mX0_lendDue 2 [(0, .ref (ad 344)), (1, .int (0 : Int32))] [] h (qv R)) : AW GC l ad (d + 1) mX0_lendDue 0 [(0, .ref (ad 344))] [] h (qv R) := by
  refine aw_iconst (v := 0) dX0_lendDue_0 (by decide) ?_
  refine aw_istore_n (ls' := [(1, .int (0 : Int32)), (0, .ref (ad 344))]) dX0_lendDue_1 rfl (by decide) rfl ?_
  exact aw_ls [1, 0] rfl H
set_option maxRecDepth 8000 in
set_option maxHeartbeats 1000000 in
theorem bX0_lendDue_2 {l : Launch} {ad : Nat → Nat} {d : Nat} {R : aH → Prop}   (x1 : Int32)  (h : aH)
    (H : ∀ w1 : Nat, w1 = h.2.2 344 2 → isW GC w1 ∧ (((h.1 w1 11) ≤ x1 → (R h)) ∧ (¬ (h.1 w1 11) ≤ x1 → (vp_in x1 8 ∧ ((¬ (h.1 (w1 + 8) x1.toNatClampNeg) = 0 → (AW GC l ad (d + 1) mX0_lendDue 2 [(0, .ref (ad 344)), (1, .int (x1 + (1 : Int32)))] [] h (qv R))) ∧ ((h.1 (w1 + 8) x1.toNatClampNeg) = 0 → ((¬ (h.1 (w1 + 7) x1.toNatClampNeg) = (h.1 w1 13) → (AW GC l ad (d + 1) mX0_lendDue 2 [(0, .ref (ad 344)), (1, .int (x1 + (1 : Int32)))] [] h (qv R))) ∧ ((h.1 (w1 + 7) x1.toNatClampNeg) = (h.1 w1 13) → (∀ y3 : Nat, y3 = h.2.2 344 1 → isS GC y3 ∧ (AW GC l ad d mX6_bunsOf 0 [(0, .ref (ad y3)), (1, .int (h.1 (w1 + 6) x1.toNatClampNeg))] [] h (qi fun z5 h4 => ∀ w6 : Nat, w6 = h4.2.2 344 2 → isW GC w6 ∧ (AW GC l ad d mX8_isAlive 0 [(0, .ref (ad w6)), (1, .int (h4.1 (w6 + 6) x1.toNatClampNeg))] [] h4 (qi fun z8 h7 => (z8 = 0 → (AW GC l ad (d + 1) mX0_lendDue 128 [(0, .ref (ad 344)), (1, .int x1)] [] h7 (qv R))) ∧ (¬ z8 = 0 → (∀ w9 : Nat, w9 = h7.2.2 344 2 → isW GC w9 ∧ (AW GC l ad d mX8_purseOf 0 [(0, .ref (ad w9)), (1, .int (h7.1 (w9 + 3) x1.toNatClampNeg))] [] h7 (qi fun z11 h10 => (z11 < ((h4.1 (w6 + 5) x1.toNatClampNeg) + z5) → (AW GC l ad (d + 1) mX0_lendDue 128 [(0, .ref (ad 344)), (1, .int x1)] [] h10 (qv R))) ∧ (¬ z11 < ((h4.1 (w6 + 5) x1.toNatClampNeg) + z5) → (∀ w12 : Nat, w12 = h10.2.2 344 2 → isW GC w12 ∧ (AW GC l ad d mX8_open 0 [(0, .ref (ad w12)), (1, .int x1), (2, .int z5), (3, .int (h10.1 344 4))] [] h10 (qv fun h13 => AW GC l ad (d + 1) mX0_lendDue 2 [(0, .ref (ad 344)), (1, .int (x1 + (1 : Int32)))] [] h13 (qv R)))))))))))))))))))))) : AW GC l ad (d + 1) mX0_lendDue 2 [(0, .ref (ad 344)), (1, .int x1)] [] h (qv R) := by
  refine aw_iload_n dX0_lendDue_2 rfl 1 rfl ?_
  refine aw_aload_n dX0_lendDue_3 rfl 0 rfl ?_
  obtain ⟨w1, ew1⟩ : ∃ z, z = h.2.2 344 2 := ⟨_, rfl⟩
  obtain ⟨hw1, H⟩ := H w1 ew1
  refine aw_get dX0_lendDue_4 shC344 ckX0 flX0_19 (v := .ref (ad w1)) (by rw [ew1]; rfl) ?_
  refine aw_get dX0_lendDue_7 hw1.1 ckX8 flX0_59 (v := .int (h.1 w1 11)) rfl ?_
  refine aw_icmp_ge (tgt := 143) dX0_lendDue_10 (by decide) (fun hc19 => ?_) (fun hc19 => ?_)
  · replace H := H.1 hc19
    exact aw_vret dX0_lendDue_143 rfl ⟨rfl, H⟩
  · replace H := H.2 hc19
    refine aw_aload_n dX0_lendDue_13 rfl 0 rfl ?_
    refine aw_get dX0_lendDue_14 shC344 ckX0 flX0_19 (v := .ref (ad w1)) (by rw [ew1]; rfl) ?_
    refine aw_get dX0_lendDue_17 hw1.1 ckX8 flX0_62 (v := .ref (ad (w1 + 8))) rfl ?_
    refine aw_iload_n dX0_lendDue_20 rfl 1 rfl ?_
    obtain ⟨hi2, H⟩ := H
    refine aw_ialdK (t0 := 0) (j := x1.toNatClampNeg) dX0_lendDue_21 (hw1.2 7 (by decide)) rfl rfl hi2 ?_
    refine aw_if_ne (tgt := 137) dX0_lendDue_22 (by decide) (fun hc18 => ?_) (fun hc18 => ?_)
    · replace H := H.1 hc18
      refine aw_inc (mm := (1)) (ls' := [(1, .int (x1 + (1 : Int32))), (0, .ref (ad 344))]) dX0_lendDue_137 (by decide) (j := 1) rfl (by decide) rfl ?_
      refine aw_goto (tgt := 2) dX0_lendDue_140 (by decide) ?_
      exact aw_ls [1, 0] rfl H
    · replace H := H.2 hc18
      refine aw_aload_n dX0_lendDue_25 rfl 0 rfl ?_
      refine aw_get dX0_lendDue_26 shC344 ckX0 flX0_19 (v := .ref (ad w1)) (by rw [ew1]; rfl) ?_
      refine aw_get dX0_lendDue_29 hw1.1 ckX8 flX0_66 (v := .ref (ad (w1 + 7))) rfl ?_
      refine aw_iload_n dX0_lendDue_32 rfl 1 rfl ?_
      refine aw_ialdK (t0 := 0) (j := x1.toNatClampNeg) dX0_lendDue_33 (hw1.2 6 (by decide)) rfl rfl hi2 ?_
      refine aw_aload_n dX0_lendDue_34 rfl 0 rfl ?_
      refine aw_get dX0_lendDue_35 shC344 ckX0 flX0_19 (v := .ref (ad w1)) (by rw [ew1]; rfl) ?_
      refine aw_get dX0_lendDue_38 hw1.1 ckX8 flX0_45 (v := .int (h.1 w1 13)) rfl ?_
      refine aw_icmp_ne (tgt := 137) dX0_lendDue_41 (by decide) (fun hc17 => ?_) (fun hc17 => ?_)
      · replace H := H.1 hc17
        refine aw_inc (mm := (1)) (ls' := [(1, .int (x1 + (1 : Int32))), (0, .ref (ad 344))]) dX0_lendDue_137 (by decide) (j := 1) rfl (by decide) rfl ?_
        refine aw_goto (tgt := 2) dX0_lendDue_140 (by decide) ?_
        exact aw_ls [1, 0] rfl H
      · replace H := H.2 hc17
        refine aw_aload_n dX0_lendDue_44 rfl 0 rfl ?_
        obtain ⟨y3, ey3⟩ : ∃ z, z = h.2.2 344 1 := ⟨_, rfl⟩
        obtain ⟨hy3, H⟩ := H y3 ey3
        refine aw_get dX0_lendDue_45 shC344 ckX0 flX0_15 (v := .ref (ad y3)) (by rw [ey3]; rfl) ?_
        refine aw_aload_n dX0_lendDue_48 rfl 0 rfl ?_
        refine aw_get dX0_lendDue_49 shC344 ckX0 flX0_19 (v := .ref (ad w1)) (by rw [ew1]; rfl) ?_
        refine aw_get dX0_lendDue_52 hw1.1 ckX8 flX0_69 (v := .ref (ad (w1 + 6))) rfl ?_
        refine aw_iload_n dX0_lendDue_55 rfl 1 rfl ?_
        refine aw_ialdK (t0 := 0) (j := x1.toNatClampNeg) dX0_lendDue_56 (hw1.2 5 (by decide)) rfl rfl hi2 ?_
        refine cvX6_bunsOf dX0_lendDue_57 mlX0_72 hy3.1 (Nat.le_of_ble_eq_true rfl) H (fun z5 h4 H => ?_)
        refine aw_istore_n (ls' := [(2, .int z5), (0, .ref (ad 344)), (1, .int x1)]) dX0_lendDue_60 rfl (by decide) rfl ?_
        refine aw_aload_n dX0_lendDue_61 rfl 1 rfl ?_
        obtain ⟨w6, ew6⟩ : ∃ z, z = h4.2.2 344 2 := ⟨_, rfl⟩
        obtain ⟨hw6, H⟩ := H w6 ew6
        refine aw_get dX0_lendDue_62 shC344 ckX0 flX0_19 (v := .ref (ad w6)) (by rw [ew6]; rfl) ?_
        refine aw_get dX0_lendDue_65 hw6.1 ckX8 flX0_78 (v := .ref (ad (w6 + 5))) rfl ?_
        refine aw_iload_n dX0_lendDue_68 rfl 2 rfl ?_
        refine aw_ialdK (t0 := 0) (j := x1.toNatClampNeg) dX0_lendDue_69 (hw6.2 4 (by decide)) rfl rfl hi2 ?_
        refine aw_iload_n dX0_lendDue_70 rfl 0 rfl ?_
        refine aw_iadd dX0_lendDue_71 ?_
        refine aw_istore_n (ls' := [(3, .int ((h4.1 (w6 + 5) x1.toNatClampNeg) + z5)), (2, .int z5), (0, .ref (ad 344)), (1, .int x1)]) dX0_lendDue_72 rfl (by decide) rfl ?_
        refine aw_aload_n dX0_lendDue_73 rfl 2 rfl ?_
        refine aw_get dX0_lendDue_74 shC344 ckX0 flX0_19 (v := .ref (ad w6)) (by rw [ew6]; rfl) ?_
        refine aw_aload_n dX0_lendDue_77 rfl 2 rfl ?_
        refine aw_get dX0_lendDue_78 shC344 ckX0 flX0_19 (v := .ref (ad w6)) (by rw [ew6]; rfl) ?_
        refine aw_get dX0_lendDue_81 hw6.1 ckX8 flX0_69 (v := .ref (ad (w6 + 6))) rfl ?_
        refine aw_iload_n dX0_lendDue_84 rfl 3 rfl ?_
        refine aw_ialdK (t0 := 0) (j := x1.toNatClampNeg) dX0_lendDue_85 (hw6.2 5 (by decide)) rfl rfl hi2 ?_
        refine cvX8_isAlive dX0_lendDue_86 mlX0_81 hw6.1 (Nat.le_of_ble_eq_true rfl) H (fun z8 h7 H => ?_)
        refine aw_if_eq (tgt := 128) dX0_lendDue_89 (by decide) (fun hc16 => ?_) (fun hc16 => ?_)
        · replace H := H.1 hc16
          exact aw_ls [2, 3] rfl H
        · replace H := H.2 hc16
          refine aw_aload_n dX0_lendDue_92 rfl 2 rfl ?_
          obtain ⟨w9, ew9⟩ : ∃ z, z = h7.2.2 344 2 := ⟨_, rfl⟩
          obtain ⟨hw9, H⟩ := H w9 ew9
          refine aw_get dX0_lendDue_93 shC344 ckX0 flX0_19 (v := .ref (ad w9)) (by rw [ew9]; rfl) ?_
          refine aw_aload_n dX0_lendDue_96 rfl 2 rfl ?_
          refine aw_get dX0_lendDue_97 shC344 ckX0 flX0_19 (v := .ref (ad w9)) (by rw [ew9]; rfl) ?_
          refine aw_get dX0_lendDue_100 hw9.1 ckX8 flX0_85 (v := .ref (ad (w9 + 3))) rfl ?_
          refine aw_iload_n dX0_lendDue_103 rfl 3 rfl ?_
          refine aw_ialdK (t0 := 0) (j := x1.toNatClampNeg) dX0_lendDue_104 (hw9.2 2 (by decide)) rfl rfl hi2 ?_
          refine cvX8_purseOf dX0_lendDue_105 mlX0_88 hw9.1 (Nat.le_of_ble_eq_true rfl) H (fun z11 h10 H => ?_)
          refine aw_iload_n dX0_lendDue_108 rfl 0 rfl ?_
          refine aw_icmp_lt (tgt := 128) dX0_lendDue_109 (by decide) (fun hc15 => ?_) (fun hc15 => ?_)
          · replace H := H.1 hc15
            exact aw_ls [2, 3] rfl H
          · replace H := H.2 hc15
            refine aw_aload_n dX0_lendDue_112 rfl 2 rfl ?_
            obtain ⟨w12, ew12⟩ : ∃ z, z = h10.2.2 344 2 := ⟨_, rfl⟩
            obtain ⟨hw12, H⟩ := H w12 ew12
            refine aw_get dX0_lendDue_113 shC344 ckX0 flX0_19 (v := .ref (ad w12)) (by rw [ew12]; rfl) ?_
            refine aw_iload_n dX0_lendDue_116 rfl 3 rfl ?_
            refine aw_iload_n dX0_lendDue_117 rfl 1 rfl ?_
            refine aw_aload_n dX0_lendDue_118 rfl 2 rfl ?_
            refine aw_get dX0_lendDue_119 shC344 ckX0 flX0_27 (v := .int (h10.1 344 4)) rfl ?_
            refine cvX8_open dX0_lendDue_122 mlX0_91 hw12.1 (Nat.le_of_ble_eq_true rfl) H (fun h13 H => ?_)
            refine aw_goto (tgt := 137) dX0_lendDue_125 (by decide) ?_
            refine aw_inc (mm := (1)) (ls' := [(1, .int (x1 + (1 : Int32))), (3, .int ((h4.1 (w6 + 5) x1.toNatClampNeg) + z5)), (2, .int z5), (0, .ref (ad 344))]) dX0_lendDue_137 (by decide) (j := 3) rfl (by decide) rfl ?_
            refine aw_goto (tgt := 2) dX0_lendDue_140 (by decide) ?_
            exact aw_ls [3, 0] rfl H
set_option maxRecDepth 8000 in
set_option maxHeartbeats 1000000 in
theorem bX0_lendDue_128 {l : Launch} {ad : Nat → Nat} {d : Nat} {R : aH → Prop}   (x1 : Int32)  (h : aH)
    (H : ∀ w1 : Nat, w1 = h.2.2 344 2 → isW GC w1 ∧ (AW GC l ad d mX8_end 0 [(0, .ref (ad w1)), (1, .int x1), (2, .int (4 : Int32))] [] h (qv fun h2 => AW GC l ad (d + 1) mX0_lendDue 2 [(0, .ref (ad 344)), (1, .int (x1 + (1 : Int32)))] [] h2 (qv R)))) : AW GC l ad (d + 1) mX0_lendDue 128 [(0, .ref (ad 344)), (1, .int x1)] [] h (qv R) := by
  refine aw_aload_n dX0_lendDue_128 rfl 0 rfl ?_
  obtain ⟨w1, ew1⟩ : ∃ z, z = h.2.2 344 2 := ⟨_, rfl⟩
  obtain ⟨hw1, H⟩ := H w1 ew1
  refine aw_get dX0_lendDue_129 shC344 ckX0 flX0_19 (v := .ref (ad w1)) (by rw [ew1]; rfl) ?_
  refine aw_iload_n dX0_lendDue_132 rfl 1 rfl ?_
  refine aw_iconst (v := 4) dX0_lendDue_133 (by decide) ?_
  refine cvX8_end dX0_lendDue_134 mlX0_95 hw1.1 (Nat.le_of_ble_eq_true rfl) H (fun h2 H => ?_)
  refine aw_inc (mm := (1)) (ls' := [(1, .int (x1 + (1 : Int32))), (0, .ref (ad 344))]) dX0_lendDue_137 (by decide) (j := 1) rfl (by decide) rfl ?_
  refine aw_goto (tgt := 2) dX0_lendDue_140 (by decide) ?_
  exact aw_ls [1, 0] rfl H
set_option maxRecDepth 8000 in
set_option maxHeartbeats 1000000 in
theorem bX0_leanAll_0 {l : Launch} {ad : Nat → Nat} {d : Nat} {R : aH → Prop}     (h : aH)
    (H : AW GC l ad (d + 1) mX0_leanAll 2 [(0, .ref (ad 344)), (1, .int (0 : Int32))] [] h (qv R)) : AW GC l ad (d + 1) mX0_leanAll 0 [(0, .ref (ad 344))] [] h (qv R) := by
  refine aw_iconst (v := 0) dX0_leanAll_0 (by decide) ?_
  refine aw_istore_n (ls' := [(1, .int (0 : Int32)), (0, .ref (ad 344))]) dX0_leanAll_1 rfl (by decide) rfl ?_
  exact aw_ls [1, 0] rfl H
set_option maxRecDepth 8000 in
set_option maxHeartbeats 1000000 in
theorem bX0_leanAll_2 {l : Launch} {ad : Nat → Nat} {d : Nat} {R : aH → Prop}   (x1 : Int32)  (h : aH)
    (H : ∀ y1 : Nat, y1 = h.2.2 344 1 → isS GC y1 ∧ (((h.1 y1 13) ≤ x1 → (R h)) ∧ (¬ (h.1 y1 13) ≤ x1 → (((10 : Int32) ≤ x1 → (R h)) ∧ (¬ (10 : Int32) ≤ x1 → (vp_in x1 10 ∧ (∀ w3 : Nat, w3 = h.2.2 344 2 → isW GC w3 ∧ ((¬ (h.1 (y1 + 7) x1.toNatClampNeg) = (h.1 w3 13) → (AW GC l ad (d + 1) mX0_leanAll 2 [(0, .ref (ad 344)), (1, .int (x1 + (1 : Int32)))] [] h (qv R))) ∧ ((h.1 (y1 + 7) x1.toNatClampNeg) = (h.1 w3 13) → (AW GC l ad d mX8_isAlive 0 [(0, .ref (ad w3)), (1, .int (h.1 (y1 + 5) x1.toNatClampNeg))] [] h (qi fun z5 h4 => (z5 = 0 → (AW GC l ad (d + 1) mX0_leanAll 2 [(0, .ref (ad 344)), (1, .int (x1 + (1 : Int32)))] [] h4 (qv R))) ∧ (¬ z5 = 0 → (∀ w6 : Nat, w6 = h4.2.2 344 2 → isW GC w6 ∧ (AW GC l ad d mX8_isAlive 0 [(0, .ref (ad w6)), (1, .int (h.1 (y1 + 6) x1.toNatClampNeg))] [] h4 (qi fun z8 h7 => (z8 = 0 → (AW GC l ad (d + 1) mX0_leanAll 2 [(0, .ref (ad 344)), (1, .int (x1 + (1 : Int32)))] [] h7 (qv R))) ∧ (¬ z8 = 0 → (AW GC l ad d mX0_passOn 0 [(0, .ref (ad 344)), (1, .int (h.1 (y1 + 5) x1.toNatClampNeg)), (2, .int (h.1 (y1 + 6) x1.toNatClampNeg))] [] h7 (qi fun z10 h9 => AW GC l ad d mX0_passRumours 0 [(0, .ref (ad 344)), (1, .int (h.1 (y1 + 5) x1.toNatClampNeg)), (2, .int (h.1 (y1 + 6) x1.toNatClampNeg))] [] h9 (qv fun h11 => AW GC l ad (d + 1) mX0_leanAll 2 [(0, .ref (ad 344)), (1, .int (x1 + (1 : Int32)))] [] h11 (qv R)))))))))))))))))))) : AW GC l ad (d + 1) mX0_leanAll 2 [(0, .ref (ad 344)), (1, .int x1)] [] h (qv R) := by
  refine aw_iload_n dX0_leanAll_2 rfl 1 rfl ?_
  refine aw_aload_n dX0_leanAll_3 rfl 0 rfl ?_
  obtain ⟨y1, ey1⟩ : ∃ z, z = h.2.2 344 1 := ⟨_, rfl⟩
  obtain ⟨hy1, H⟩ := H y1 ey1
  refine aw_get dX0_leanAll_4 shC344 ckX0 flX0_15 (v := .ref (ad y1)) (by rw [ey1]; rfl) ?_
  refine aw_get dX0_leanAll_7 hy1.1 ckX6 flX0_99 (v := .int (h.1 y1 13)) rfl ?_
  refine aw_icmp_ge (tgt := 99) dX0_leanAll_10 (by decide) (fun hc17 => ?_) (fun hc17 => ?_)
  · replace H := H.1 hc17
    exact aw_vret dX0_leanAll_99 rfl ⟨rfl, H⟩
  · replace H := H.2 hc17
    refine aw_iload_n dX0_leanAll_13 rfl 1 rfl ?_
    refine aw_bipush (v := 10) dX0_leanAll_14 (by decide) ?_
    refine aw_icmp_ge (tgt := 99) dX0_leanAll_16 (by decide) (fun hc16 => ?_) (fun hc16 => ?_)
    · replace H := H.1 hc16
      exact aw_vret dX0_leanAll_99 rfl ⟨rfl, H⟩
    · replace H := H.2 hc16
      refine aw_aload_n dX0_leanAll_19 rfl 0 rfl ?_
      refine aw_get dX0_leanAll_20 shC344 ckX0 flX0_15 (v := .ref (ad y1)) (by rw [ey1]; rfl) ?_
      refine aw_get dX0_leanAll_23 hy1.1 ckX6 flX0_102 (v := .ref (ad (y1 + 5))) rfl ?_
      refine aw_iload_n dX0_leanAll_26 rfl 1 rfl ?_
      obtain ⟨hi2, H⟩ := H
      refine aw_ialdK (t0 := 0) (j := x1.toNatClampNeg) dX0_leanAll_27 (hy1.2.1 4 (by decide)) rfl rfl hi2 ?_
      refine aw_istore_n (ls' := [(2, .int (h.1 (y1 + 5) x1.toNatClampNeg)), (0, .ref (ad 344)), (1, .int x1)]) dX0_leanAll_28 rfl (by decide) rfl ?_
      refine aw_aload_n dX0_leanAll_29 rfl 1 rfl ?_
      refine aw_get dX0_leanAll_30 shC344 ckX0 flX0_15 (v := .ref (ad y1)) (by rw [ey1]; rfl) ?_
      refine aw_get dX0_leanAll_33 hy1.1 ckX6 flX0_105 (v := .ref (ad (y1 + 6))) rfl ?_
      refine aw_iload_n dX0_leanAll_36 rfl 2 rfl ?_
      refine aw_ialdK (t0 := 0) (j := x1.toNatClampNeg) dX0_leanAll_37 (hy1.2.1 5 (by decide)) rfl rfl hi2 ?_
      refine aw_istore_n (ls' := [(3, .int (h.1 (y1 + 6) x1.toNatClampNeg)), (2, .int (h.1 (y1 + 5) x1.toNatClampNeg)), (0, .ref (ad 344)), (1, .int x1)]) dX0_leanAll_38 rfl (by decide) rfl ?_
      refine aw_aload_n dX0_leanAll_39 rfl 2 rfl ?_
      refine aw_get dX0_leanAll_40 shC344 ckX0 flX0_15 (v := .ref (ad y1)) (by rw [ey1]; rfl) ?_
      refine aw_get dX0_leanAll_43 hy1.1 ckX6 flX0_108 (v := .ref (ad (y1 + 7))) rfl ?_
      refine aw_iload_n dX0_leanAll_46 rfl 3 rfl ?_
      refine aw_ialdK (t0 := 0) (j := x1.toNatClampNeg) dX0_leanAll_47 (hy1.2.1 6 (by decide)) rfl rfl hi2 ?_
      refine aw_aload_n dX0_leanAll_48 rfl 2 rfl ?_
      obtain ⟨w3, ew3⟩ : ∃ z, z = h.2.2 344 2 := ⟨_, rfl⟩
      obtain ⟨hw3, H⟩ := H w3 ew3
      refine aw_get dX0_leanAll_49 shC344 ckX0 flX0_19 (v := .ref (ad w3)) (by rw [ew3]; rfl) ?_
      refine aw_get dX0_leanAll_52 hw3.1 ckX8 flX0_45 (v := .int (h.1 w3 13)) rfl ?_
      refine aw_icmp_ne (tgt := 93) dX0_leanAll_55 (by decide) (fun hc15 => ?_) (fun hc15 => ?_)
      · replace H := H.1 hc15
        refine aw_inc (mm := (1)) (ls' := [(1, .int (x1 + (1 : Int32))), (3, .int (h.1 (y1 + 6) x1.toNatClampNeg)), (2, .int (h.1 (y1 + 5) x1.toNatClampNeg)), (0, .ref (ad 344))]) dX0_leanAll_93 (by decide) (j := 3) rfl (by decide) rfl ?_
        refine aw_goto (tgt := 2) dX0_leanAll_96 (by decide) ?_
        exact aw_ls [3, 0] rfl H
      · replace H := H.2 hc15
        refine aw_aload_n dX0_leanAll_58 rfl 2 rfl ?_
        refine aw_get dX0_leanAll_59 shC344 ckX0 flX0_19 (v := .ref (ad w3)) (by rw [ew3]; rfl) ?_
        refine aw_iload_n dX0_leanAll_62 rfl 1 rfl ?_
        refine cvX8_isAlive dX0_leanAll_63 mlX0_81 hw3.1 (Nat.le_of_ble_eq_true rfl) H (fun z5 h4 H => ?_)
        refine aw_if_eq (tgt := 93) dX0_leanAll_66 (by decide) (fun hc14 => ?_) (fun hc14 => ?_)
        · replace H := H.1 hc14
          refine aw_inc (mm := (1)) (ls' := [(1, .int (x1 + (1 : Int32))), (3, .int (h.1 (y1 + 6) x1.toNatClampNeg)), (2, .int (h.1 (y1 + 5) x1.toNatClampNeg)), (0, .ref (ad 344))]) dX0_leanAll_93 (by decide) (j := 3) rfl (by decide) rfl ?_
          refine aw_goto (tgt := 2) dX0_leanAll_96 (by decide) ?_
          exact aw_ls [3, 0] rfl H
        · replace H := H.2 hc14
          refine aw_aload_n dX0_leanAll_69 rfl 2 rfl ?_
          obtain ⟨w6, ew6⟩ : ∃ z, z = h4.2.2 344 2 := ⟨_, rfl⟩
          obtain ⟨hw6, H⟩ := H w6 ew6
          refine aw_get dX0_leanAll_70 shC344 ckX0 flX0_19 (v := .ref (ad w6)) (by rw [ew6]; rfl) ?_
          refine aw_iload_n dX0_leanAll_73 rfl 0 rfl ?_
          refine cvX8_isAlive dX0_leanAll_74 mlX0_81 hw6.1 (Nat.le_of_ble_eq_true rfl) H (fun z8 h7 H => ?_)
          refine aw_if_eq (tgt := 93) dX0_leanAll_77 (by decide) (fun hc13 => ?_) (fun hc13 => ?_)
          · replace H := H.1 hc13
            refine aw_inc (mm := (1)) (ls' := [(1, .int (x1 + (1 : Int32))), (3, .int (h.1 (y1 + 6) x1.toNatClampNeg)), (2, .int (h.1 (y1 + 5) x1.toNatClampNeg)), (0, .ref (ad 344))]) dX0_leanAll_93 (by decide) (j := 3) rfl (by decide) rfl ?_
            refine aw_goto (tgt := 2) dX0_leanAll_96 (by decide) ?_
            exact aw_ls [3, 0] rfl H
          · replace H := H.2 hc13
            refine aw_aload_n dX0_leanAll_80 rfl 2 rfl ?_
            refine aw_iload_n dX0_leanAll_81 rfl 1 rfl ?_
            refine aw_iload_n dX0_leanAll_82 rfl 0 rfl ?_
            refine cvX0_passOn dX0_leanAll_83 mlX0_111 shC344 (Nat.le_of_ble_eq_true rfl) H (fun z10 h9 H => ?_)
            refine aw_pop dX0_leanAll_86 rfl ?_
            refine aw_aload_n dX0_leanAll_87 rfl 2 rfl ?_
            refine aw_iload_n dX0_leanAll_88 rfl 1 rfl ?_
            refine aw_iload_n dX0_leanAll_89 rfl 0 rfl ?_
            refine cvX0_passRumours dX0_leanAll_90 mlX0_115 shC344 (Nat.le_of_ble_eq_true rfl) H (fun h11 H => ?_)
            refine aw_inc (mm := (1)) (ls' := [(1, .int (x1 + (1 : Int32))), (3, .int (h.1 (y1 + 6) x1.toNatClampNeg)), (2, .int (h.1 (y1 + 5) x1.toNatClampNeg)), (0, .ref (ad 344))]) dX0_leanAll_93 (by decide) (j := 3) rfl (by decide) rfl ?_
            refine aw_goto (tgt := 2) dX0_leanAll_96 (by decide) ?_
            exact aw_ls [3, 0] rfl H
set_option maxRecDepth 8000 in
set_option maxHeartbeats 1000000 in
theorem bX0_passOn_0 {l : Launch} {ad : Nat → Nat} {d : Nat} {R : Int32 → aH → Prop}   (x1 : Int32) (x2 : Int32)  (h : aH)
    (H : ∀ t1 : Int32, t1 = (((1 : Int32) <<< (x2 &&& 31)) &&& ((h.1 344 4) ^^^ (-1 : Int32))) → (AW GC l ad (d + 1) mX0_passOn 17 [(0, .ref (ad 344)), (1, .int x1), (3, .int (0 : Int32)), (4, .int t1), (5, .int (0 : Int32))] [] h (qi R))) : AW GC l ad (d + 1) mX0_passOn 0 [(0, .ref (ad 344)), (1, .int x1), (2, .int x2)] [] h (qi R) := by
  refine aw_iconst (v := 0) dX0_passOn_0 (by decide) ?_
  refine aw_istore_n (ls' := [(3, .int (0 : Int32)), (0, .ref (ad 344)), (1, .int x1), (2, .int x2)]) dX0_passOn_1 rfl (by decide) rfl ?_
  refine aw_iconst (v := 1) dX0_passOn_2 (by decide) ?_
  refine aw_iload_n dX0_passOn_3 rfl 3 rfl ?_
  refine aw_ishl dX0_passOn_4 ?_
  refine aw_aload_n dX0_passOn_5 rfl 1 rfl ?_
  refine aw_get dX0_passOn_6 shC344 ckX0 flX0_27 (v := .int (h.1 344 4)) rfl ?_
  refine aw_iconst (v := (-1)) dX0_passOn_9 (by decide) ?_
  refine aw_ixor dX0_passOn_10 ?_
  refine aw_iand dX0_passOn_11 ?_
  refine aw_topi (fun t1 et1 => ?_)
  replace H := H t1 et1
  refine aw_istore (ls' := [(4, .int t1), (3, .int (0 : Int32)), (0, .ref (ad 344)), (1, .int x1), (2, .int x2)]) dX0_passOn_12 (by decide) rfl ?_
  refine aw_iconst (v := 0) dX0_passOn_14 (by decide) ?_
  refine aw_istore (ls' := [(5, .int (0 : Int32)), (4, .int t1), (3, .int (0 : Int32)), (0, .ref (ad 344)), (1, .int x1), (2, .int x2)]) dX0_passOn_15 (by decide) rfl ?_
  exact aw_ls [3, 4, 2, 1, 0] rfl H
set_option maxRecDepth 8000 in
set_option maxHeartbeats 1000000 in
theorem bX0_passOn_17 {l : Launch} {ad : Nat → Nat} {d : Nat} {R : Int32 → aH → Prop}   (x1 : Int32) (x3 : Int32) (x4 : Int32) (x5 : Int32)  (h : aH)
    (H : ∀ w1 : Nat, w1 = h.2.2 344 2 → isW GC w1 ∧ (((h.1 w1 11) ≤ x5 → (R x3 h)) ∧ (¬ (h.1 w1 11) ≤ x5 → (vp_in x5 14 ∧ (((((h.1 (w1 + 11) x5.toNatClampNeg) >>> (x1 &&& 31)) &&& (1 : Int32)) = 0 → (AW GC l ad (d + 1) mX0_passOn 67 [(0, .ref (ad 344)), (1, .int x1), (3, .int x3), (4, .int x4), (5, .int x5)] [] h (qi R))) ∧ (¬ (((h.1 (w1 + 11) x5.toNatClampNeg) >>> (x1 &&& 31)) &&& (1 : Int32)) = 0 → ((¬ ((h.1 (w1 + 11) x5.toNatClampNeg) &&& x4) = 0 → (AW GC l ad (d + 1) mX0_passOn 67 [(0, .ref (ad 344)), (1, .int x1), (3, .int x3), (4, .int x4), (5, .int x5)] [] h (qi R))) ∧ (((h.1 (w1 + 11) x5.toNatClampNeg) &&& x4) = 0 → ((x4 = 0 → (AW GC l ad (d + 1) mX0_passOn 67 [(0, .ref (ad 344)), (1, .int x1), (3, .int x3), (4, .int x4), (5, .int x5)] [] h (qi R))) ∧ (¬ x4 = 0 → (AW GC l ad (d + 1) mX0_passOn 68 [(0, .ref (ad 344)), (1, .int x1), (3, .int x3), (4, .int x4), (5, .int x5)] [.int (1 : Int32)] h (qi R)))))))))))) : AW GC l ad (d + 1) mX0_passOn 17 [(0, .ref (ad 344)), (1, .int x1), (3, .int x3), (4, .int x4), (5, .int x5)] [] h (qi R) := by
  refine aw_iload dX0_passOn_17 4 rfl ?_
  refine aw_aload_n dX0_passOn_19 rfl 0 rfl ?_
  obtain ⟨w1, ew1⟩ : ∃ z, z = h.2.2 344 2 := ⟨_, rfl⟩
  obtain ⟨hw1, H⟩ := H w1 ew1
  refine aw_get dX0_passOn_20 shC344 ckX0 flX0_19 (v := .ref (ad w1)) (by rw [ew1]; rfl) ?_
  refine aw_get dX0_passOn_23 hw1.1 ckX8 flX0_59 (v := .int (h.1 w1 11)) rfl ?_
  refine aw_icmp_ge (tgt := 111) dX0_passOn_26 (by decide) (fun hc6 => ?_) (fun hc6 => ?_)
  · replace H := H.1 hc6
    refine aw_iload_n dX0_passOn_111 rfl 2 rfl ?_
    exact aw_iret dX0_passOn_112 rfl ⟨_, rfl, H⟩
  · replace H := H.2 hc6
    refine aw_aload_n dX0_passOn_29 rfl 0 rfl ?_
    refine aw_get dX0_passOn_30 shC344 ckX0 flX0_19 (v := .ref (ad w1)) (by rw [ew1]; rfl) ?_
    refine aw_get dX0_passOn_33 hw1.1 ckX8 flX0_118 (v := .ref (ad (w1 + 11))) rfl ?_
    refine aw_iload dX0_passOn_36 4 rfl ?_
    obtain ⟨hi2, H⟩ := H
    refine aw_ialdK (t0 := 0) (j := x5.toNatClampNeg) dX0_passOn_38 (hw1.2 10 (by decide)) rfl rfl hi2 ?_
    refine aw_istore (ls' := [(6, .int (h.1 (w1 + 11) x5.toNatClampNeg)), (0, .ref (ad 344)), (1, .int x1), (3, .int x3), (4, .int x4), (5, .int x5)]) dX0_passOn_39 (by decide) rfl ?_
    refine aw_iload dX0_passOn_41 0 rfl ?_
    refine aw_iload_n dX0_passOn_43 rfl 2 rfl ?_
    refine aw_ishr dX0_passOn_44 ?_
    refine aw_iconst (v := 1) dX0_passOn_45 (by decide) ?_
    refine aw_iand dX0_passOn_46 ?_
    refine aw_if_eq (tgt := 67) dX0_passOn_47 (by decide) (fun hc5 => ?_) (fun hc5 => ?_)
    · replace H := H.1 hc5
      exact aw_ls [1, 2, 3, 4, 5] rfl H
    · replace H := H.2 hc5
      refine aw_iload dX0_passOn_50 0 rfl ?_
      refine aw_iload dX0_passOn_52 4 rfl ?_
      refine aw_iand dX0_passOn_54 ?_
      refine aw_if_ne (tgt := 67) dX0_passOn_55 (by decide) (fun hc4 => ?_) (fun hc4 => ?_)
      · replace H := H.1 hc4
        exact aw_ls [1, 2, 3, 4, 5] rfl H
      · replace H := H.2 hc4
        refine aw_iload dX0_passOn_58 4 rfl ?_
        refine aw_if_eq (tgt := 67) dX0_passOn_60 (by decide) (fun hc3 => ?_) (fun hc3 => ?_)
        · replace H := H.1 hc3
          exact aw_ls [1, 2, 3, 4, 5] rfl H
        · replace H := H.2 hc3
          refine aw_iconst (v := 1) dX0_passOn_63 (by decide) ?_
          refine aw_goto (tgt := 68) dX0_passOn_64 (by decide) ?_
          exact aw_ls [1, 2, 3, 4, 5] rfl H
set_option maxRecDepth 8000 in
set_option maxHeartbeats 1000000 in
theorem bX0_passOn_67 {l : Launch} {ad : Nat → Nat} {d : Nat} {R : Int32 → aH → Prop}   (x1 : Int32) (x3 : Int32) (x4 : Int32) (x5 : Int32)  (h : aH)
    (H : AW GC l ad (d + 1) mX0_passOn 68 [(0, .ref (ad 344)), (1, .int x1), (3, .int x3), (4, .int x4), (5, .int x5)] [.int (0 : Int32)] h (qi R)) : AW GC l ad (d + 1) mX0_passOn 67 [(0, .ref (ad 344)), (1, .int x1), (3, .int x3), (4, .int x4), (5, .int x5)] [] h (qi R) := by
  refine aw_iconst (v := 0) dX0_passOn_67 (by decide) ?_
  exact aw_ls [0, 1, 2, 3, 4] rfl H
set_option maxRecDepth 8000 in
set_option maxHeartbeats 1000000 in
theorem bX0_passOn_68 {l : Launch} {ad : Nat → Nat} {d : Nat} {R : Int32 → aH → Prop}   (x1 : Int32) (x3 : Int32) (x4 : Int32) (x5 : Int32) (s0 : Int32)  (h : aH)
    (H : (s0 = 0 → (AW GC l ad (d + 1) mX0_passOn 17 [(0, .ref (ad 344)), (1, .int x1), (3, .int x3), (4, .int x4), (5, .int (x5 + (1 : Int32)))] [] h (qi R))) ∧ (¬ s0 = 0 → (AW GC l ad d mX0_passValue 0 [(0, .ref (ad 344)), (1, .int x5), (2, .int x1)] [] h (ql fun z2 h1 => (z2 = (0 : Int64) → (AW GC l ad (d + 1) mX0_passOn 17 [(0, .ref (ad 344)), (1, .int x1), (3, .int x3), (4, .int x4), (5, .int (x5 + (1 : Int32)))] [] h1 (qi R))) ∧ (¬ z2 = (0 : Int64) → (∀ w3 : Nat, w3 = h1.2.2 344 2 → isW GC w3 ∧ (vp_in x5 14 ∧ (AW GC l ad (d + 1) mX0_passOn 17 [(0, .ref (ad 344)), (1, .int x1), (3, .int (x3 + (1 : Int32))), (4, .int x4), (5, .int (x5 + (1 : Int32)))] [] (sI h1 (w3 + 11) x5.toNatClampNeg ((h1.1 (w3 + 11) x5.toNatClampNeg) ||| x4)) (qi R))))))))) : AW GC l ad (d + 1) mX0_passOn 68 [(0, .ref (ad 344)), (1, .int x1), (3, .int x3), (4, .int x4), (5, .int x5)] [.int s0] h (qi R) := by
  refine aw_istore (ls' := [(7, .int s0), (0, .ref (ad 344)), (1, .int x1), (3, .int x3), (4, .int x4), (5, .int x5)]) dX0_passOn_68 (by decide) rfl ?_
  refine aw_iload dX0_passOn_70 0 rfl ?_
  refine aw_if_eq (tgt := 105) dX0_passOn_72 (by decide) (fun hc6 => ?_) (fun hc6 => ?_)
  · replace H := H.1 hc6
    refine aw_inc (mm := (1)) (ls' := [(5, .int (x5 + (1 : Int32))), (7, .int s0), (0, .ref (ad 344)), (1, .int x1), (3, .int x3), (4, .int x4)]) dX0_passOn_105 (by decide) (j := 5) rfl (by decide) rfl ?_
    refine aw_goto (tgt := 17) dX0_passOn_108 (by decide) ?_
    exact aw_ls [2, 3, 4, 5, 0] rfl H
  · replace H := H.2 hc6
    refine aw_aload_n dX0_passOn_75 rfl 1 rfl ?_
    refine aw_iload dX0_passOn_76 5 rfl ?_
    refine aw_iload_n dX0_passOn_78 rfl 2 rfl ?_
    refine cvX0_passValue dX0_passOn_79 mlX0_121 shC344 (Nat.le_of_ble_eq_true rfl) H (fun z2 h1 H => ?_)
    refine aw_lconst (v := 0) dX0_passOn_82 (by decide) ?_
    refine aw_lif_eq (tgt := 105) dX0_passOn_83 dX0_passOn_84 (by decide) (fun hc5 => ?_) (fun hc5 => ?_)
    · replace H := H.1 hc5
      refine aw_inc (mm := (1)) (ls' := [(5, .int (x5 + (1 : Int32))), (7, .int s0), (0, .ref (ad 344)), (1, .int x1), (3, .int x3), (4, .int x4)]) dX0_passOn_105 (by decide) (j := 5) rfl (by decide) rfl ?_
      refine aw_goto (tgt := 17) dX0_passOn_108 (by decide) ?_
      exact aw_ls [2, 3, 4, 5, 0] rfl H
    · replace H := H.2 hc5
      refine aw_aload_n dX0_passOn_87 rfl 1 rfl ?_
      obtain ⟨w3, ew3⟩ : ∃ z, z = h1.2.2 344 2 := ⟨_, rfl⟩
      obtain ⟨hw3, H⟩ := H w3 ew3
      refine aw_get dX0_passOn_88 shC344 ckX0 flX0_19 (v := .ref (ad w3)) (by rw [ew3]; rfl) ?_
      refine aw_get dX0_passOn_91 hw3.1 ckX8 flX0_118 (v := .ref (ad (w3 + 11))) rfl ?_
      refine aw_iload dX0_passOn_94 5 rfl ?_
      refine aw_dup2 dX0_passOn_96 rfl rfl ?_
      obtain ⟨hi4, H⟩ := H
      refine aw_ialdK (t0 := 0) (j := x5.toNatClampNeg) dX0_passOn_97 (hw3.2 10 (by decide)) rfl rfl hi4 ?_
      refine aw_iload dX0_passOn_98 4 rfl ?_
      refine aw_ior dX0_passOn_100 ?_
      refine aw_iastK (t0 := 0) (j := x5.toNatClampNeg) dX0_passOn_101 (hw3.2 10 (by decide)) rfl rfl hi4 ?_
      refine aw_inc (mm := (1)) (ls' := [(3, .int (x3 + (1 : Int32))), (7, .int s0), (0, .ref (ad 344)), (1, .int x1), (4, .int x4), (5, .int x5)]) dX0_passOn_102 (by decide) (j := 3) rfl (by decide) rfl ?_
      refine aw_inc (mm := (1)) (ls' := [(5, .int (x5 + (1 : Int32))), (3, .int (x3 + (1 : Int32))), (7, .int s0), (0, .ref (ad 344)), (1, .int x1), (4, .int x4)]) dX0_passOn_105 (by decide) (j := 5) rfl (by decide) rfl ?_
      refine aw_goto (tgt := 17) dX0_passOn_108 (by decide) ?_
      exact aw_ls [3, 4, 1, 5, 0] rfl H
set_option maxRecDepth 8000 in
set_option maxHeartbeats 1000000 in
theorem bX0_passRumours_0 {l : Launch} {ad : Nat → Nat} {d : Nat} {R : aH → Prop}   (x1 : Int32) (x2 : Int32)  (h : aH)
    (H : AW GC l ad d mX0_passRumours 3 [(0, .ref (ad 344)), (1, .int x1), (2, .int x2), (3, .int (8 : Int32))] [] h (qv R)) : AW GC l ad d mX0_passRumours 0 [(0, .ref (ad 344)), (1, .int x1), (2, .int x2)] [] h (qv R) := by
  refine aw_bipush (v := 8) dX0_passRumours_0 (by decide) ?_
  refine aw_istore_n (ls' := [(3, .int (8 : Int32)), (0, .ref (ad 344)), (1, .int x1), (2, .int x2)]) dX0_passRumours_2 rfl (by decide) rfl ?_
  exact aw_ls [1, 2, 3, 0] rfl H
set_option maxRecDepth 8000 in
set_option maxHeartbeats 1000000 in
theorem bX0_passRumours_3 {l : Launch} {ad : Nat → Nat} {d : Nat} {R : aH → Prop}   (x1 : Int32) (x2 : Int32) (x3 : Int32)  (h : aH)
    (H : ∀ w1 : Nat, w1 = h.2.2 344 2 → isW GC w1 ∧ (((Int32.ofNat 14) ≤ x3 → (R h)) ∧ (¬ (Int32.ofNat 14) ≤ x3 → (vp_in x3 14 ∧ (((((h.1 (w1 + 11) x3.toNatClampNeg) >>> (x1 &&& 31)) &&& (1 : Int32)) = 0 → (AW GC l ad d mX0_passRumours 3 [(0, .ref (ad 344)), (1, .int x1), (2, .int x2), (3, .int (x3 + (1 : Int32)))] [] h (qv R))) ∧ (¬ (((h.1 (w1 + 11) x3.toNatClampNeg) >>> (x1 &&& 31)) &&& (1 : Int32)) = 0 → (AW GC l ad d mX0_passRumours 3 [(0, .ref (ad 344)), (1, .int x1), (2, .int x2), (3, .int (x3 + (1 : Int32)))] [] (sI h (w1 + 11) x3.toNatClampNeg ((h.1 (w1 + 11) x3.toNatClampNeg) ||| ((1 : Int32) <<< (x2 &&& 31)))) (qv R)))))))) : AW GC l ad d mX0_passRumours 3 [(0, .ref (ad 344)), (1, .int x1), (2, .int x2), (3, .int x3)] [] h (qv R) := by
  refine aw_iload_n dX0_passRumours_3 rfl 3 rfl ?_
  refine aw_aload_n dX0_passRumours_4 rfl 0 rfl ?_
  obtain ⟨w1, ew1⟩ : ∃ z, z = h.2.2 344 2 := ⟨_, rfl⟩
  obtain ⟨hw1, H⟩ := H w1 ew1
  refine aw_get dX0_passRumours_5 shC344 ckX0 flX0_19 (v := .ref (ad w1)) (by rw [ew1]; rfl) ?_
  refine aw_get dX0_passRumours_8 hw1.1 ckX8 flX0_118 (v := .ref (ad (w1 + 11))) rfl ?_
  refine aw_alen (t0 := 0) dX0_passRumours_11 (hw1.2 10 (by decide)) rfl ?_
  refine aw_icmp_ge (tgt := 52) dX0_passRumours_12 (by decide) (fun hc4 => ?_) (fun hc4 => ?_)
  · replace H := H.1 hc4
    exact aw_vret dX0_passRumours_52 rfl ⟨rfl, H⟩
  · replace H := H.2 hc4
    refine aw_aload_n dX0_passRumours_15 rfl 0 rfl ?_
    refine aw_get dX0_passRumours_16 shC344 ckX0 flX0_19 (v := .ref (ad w1)) (by rw [ew1]; rfl) ?_
    refine aw_get dX0_passRumours_19 hw1.1 ckX8 flX0_118 (v := .ref (ad (w1 + 11))) rfl ?_
    refine aw_iload_n dX0_passRumours_22 rfl 3 rfl ?_
    obtain ⟨hi2, H⟩ := H
    refine aw_ialdK (t0 := 0) (j := x3.toNatClampNeg) dX0_passRumours_23 (hw1.2 10 (by decide)) rfl rfl hi2 ?_
    refine aw_iload_n dX0_passRumours_24 rfl 1 rfl ?_
    refine aw_ishr dX0_passRumours_25 ?_
    refine aw_iconst (v := 1) dX0_passRumours_26 (by decide) ?_
    refine aw_iand dX0_passRumours_27 ?_
    refine aw_if_eq (tgt := 46) dX0_passRumours_28 (by decide) (fun hc3 => ?_) (fun hc3 => ?_)
    · replace H := H.1 hc3
      refine aw_inc (mm := (1)) (ls' := [(3, .int (x3 + (1 : Int32))), (0, .ref (ad 344)), (1, .int x1), (2, .int x2)]) dX0_passRumours_46 (by decide) (j := 3) rfl (by decide) rfl ?_
      refine aw_goto (tgt := 3) dX0_passRumours_49 (by decide) ?_
      exact aw_ls [1, 2, 3, 0] rfl H
    · replace H := H.2 hc3
      refine aw_aload_n dX0_passRumours_31 rfl 0 rfl ?_
      refine aw_get dX0_passRumours_32 shC344 ckX0 flX0_19 (v := .ref (ad w1)) (by rw [ew1]; rfl) ?_
      refine aw_get dX0_passRumours_35 hw1.1 ckX8 flX0_118 (v := .ref (ad (w1 + 11))) rfl ?_
      refine aw_iload_n dX0_passRumours_38 rfl 3 rfl ?_
      refine aw_dup2 dX0_passRumours_39 rfl rfl ?_
      refine aw_ialdK (t0 := 0) (j := x3.toNatClampNeg) dX0_passRumours_40 (hw1.2 10 (by decide)) rfl rfl hi2 ?_
      refine aw_iconst (v := 1) dX0_passRumours_41 (by decide) ?_
      refine aw_iload_n dX0_passRumours_42 rfl 2 rfl ?_
      refine aw_ishl dX0_passRumours_43 ?_
      refine aw_ior dX0_passRumours_44 ?_
      refine aw_iastK (t0 := 0) (j := x3.toNatClampNeg) dX0_passRumours_45 (hw1.2 10 (by decide)) rfl rfl hi2 ?_
      refine aw_inc (mm := (1)) (ls' := [(3, .int (x3 + (1 : Int32))), (0, .ref (ad 344)), (1, .int x1), (2, .int x2)]) dX0_passRumours_46 (by decide) (j := 3) rfl (by decide) rfl ?_
      refine aw_goto (tgt := 3) dX0_passRumours_49 (by decide) ?_
      exact aw_ls [1, 2, 3, 0] rfl H
set_option maxRecDepth 8000 in
set_option maxHeartbeats 1000000 in
theorem bX0_dieAsTold_0 {l : Launch} {ad : Nat → Nat} {d : Nat} {R : aH → Prop}     (h : aH)
    (H : AW GC l ad (d + 1) mX0_dieAsTold 2 [(0, .ref (ad 344)), (1, .int (0 : Int32))] [] h (qv R)) : AW GC l ad (d + 1) mX0_dieAsTold 0 [(0, .ref (ad 344))] [] h (qv R) := by
  refine aw_iconst (v := 0) dX0_dieAsTold_0 (by decide) ?_
  refine aw_istore_n (ls' := [(1, .int (0 : Int32)), (0, .ref (ad 344))]) dX0_dieAsTold_1 rfl (by decide) rfl ?_
  exact aw_ls [1, 0] rfl H
set_option maxRecDepth 8000 in
set_option maxHeartbeats 1000000 in
theorem bX0_dieAsTold_2 {l : Launch} {ad : Nat → Nat} {d : Nat} {R : aH → Prop}   (x1 : Int32)  (h : aH)
    (H : ∀ y1 : Nat, y1 = h.2.2 344 1 → isS GC y1 ∧ (((h.1 y1 12) ≤ x1 → (R h)) ∧ (¬ (h.1 y1 12) ≤ x1 → (((6 : Int32) ≤ x1 → (R h)) ∧ (¬ (6 : Int32) ≤ x1 → (vp_in x1 6 ∧ (∀ w3 : Nat, w3 = h.2.2 344 2 → isW GC w3 ∧ ((¬ (h.1 (y1 + 4) x1.toNatClampNeg) = (h.1 w3 13) → (AW GC l ad (d + 1) mX0_dieAsTold 2 [(0, .ref (ad 344)), (1, .int (x1 + (1 : Int32)))] [] h (qv R))) ∧ ((h.1 (y1 + 4) x1.toNatClampNeg) = (h.1 w3 13) → (AW GC l ad d mX8_bury 0 [(0, .ref (ad w3)), (1, .int x1)] [] h (qv fun h4 => AW GC l ad (d + 1) mX0_dieAsTold 2 [(0, .ref (ad 344)), (1, .int (x1 + (1 : Int32)))] [] h4 (qv R)))))))))))) : AW GC l ad (d + 1) mX0_dieAsTold 2 [(0, .ref (ad 344)), (1, .int x1)] [] h (qv R) := by
  refine aw_iload_n dX0_dieAsTold_2 rfl 1 rfl ?_
  refine aw_aload_n dX0_dieAsTold_3 rfl 0 rfl ?_
  obtain ⟨y1, ey1⟩ : ∃ z, z = h.2.2 344 1 := ⟨_, rfl⟩
  obtain ⟨hy1, H⟩ := H y1 ey1
  refine aw_get dX0_dieAsTold_4 shC344 ckX0 flX0_15 (v := .ref (ad y1)) (by rw [ey1]; rfl) ?_
  refine aw_get dX0_dieAsTold_7 hy1.1 ckX6 flX0_125 (v := .int (h.1 y1 12)) rfl ?_
  refine aw_icmp_ge (tgt := 52) dX0_dieAsTold_10 (by decide) (fun hc8 => ?_) (fun hc8 => ?_)
  · replace H := H.1 hc8
    exact aw_vret dX0_dieAsTold_52 rfl ⟨rfl, H⟩
  · replace H := H.2 hc8
    refine aw_iload_n dX0_dieAsTold_13 rfl 1 rfl ?_
    refine aw_bipush (v := 6) dX0_dieAsTold_14 (by decide) ?_
    refine aw_icmp_ge (tgt := 52) dX0_dieAsTold_16 (by decide) (fun hc7 => ?_) (fun hc7 => ?_)
    · replace H := H.1 hc7
      exact aw_vret dX0_dieAsTold_52 rfl ⟨rfl, H⟩
    · replace H := H.2 hc7
      refine aw_aload_n dX0_dieAsTold_19 rfl 0 rfl ?_
      refine aw_get dX0_dieAsTold_20 shC344 ckX0 flX0_15 (v := .ref (ad y1)) (by rw [ey1]; rfl) ?_
      refine aw_get dX0_dieAsTold_23 hy1.1 ckX6 flX0_128 (v := .ref (ad (y1 + 4))) rfl ?_
      refine aw_iload_n dX0_dieAsTold_26 rfl 1 rfl ?_
      obtain ⟨hi2, H⟩ := H
      refine aw_ialdK (t0 := 0) (j := x1.toNatClampNeg) dX0_dieAsTold_27 (hy1.2.1 3 (by decide)) rfl rfl hi2 ?_
      refine aw_aload_n dX0_dieAsTold_28 rfl 0 rfl ?_
      obtain ⟨w3, ew3⟩ : ∃ z, z = h.2.2 344 2 := ⟨_, rfl⟩
      obtain ⟨hw3, H⟩ := H w3 ew3
      refine aw_get dX0_dieAsTold_29 shC344 ckX0 flX0_19 (v := .ref (ad w3)) (by rw [ew3]; rfl) ?_
      refine aw_get dX0_dieAsTold_32 hw3.1 ckX8 flX0_45 (v := .int (h.1 w3 13)) rfl ?_
      refine aw_icmp_ne (tgt := 46) dX0_dieAsTold_35 (by decide) (fun hc6 => ?_) (fun hc6 => ?_)
      · replace H := H.1 hc6
        refine aw_inc (mm := (1)) (ls' := [(1, .int (x1 + (1 : Int32))), (0, .ref (ad 344))]) dX0_dieAsTold_46 (by decide) (j := 1) rfl (by decide) rfl ?_
        refine aw_goto (tgt := 2) dX0_dieAsTold_49 (by decide) ?_
        exact aw_ls [1, 0] rfl H
      · replace H := H.2 hc6
        refine aw_aload_n dX0_dieAsTold_38 rfl 0 rfl ?_
        refine aw_get dX0_dieAsTold_39 shC344 ckX0 flX0_19 (v := .ref (ad w3)) (by rw [ew3]; rfl) ?_
        refine aw_iload_n dX0_dieAsTold_42 rfl 1 rfl ?_
        refine cvX8_bury dX0_dieAsTold_43 mlX0_131 hw3.1 (Nat.le_of_ble_eq_true rfl) H (fun h4 H => ?_)
        refine aw_inc (mm := (1)) (ls' := [(1, .int (x1 + (1 : Int32))), (0, .ref (ad 344))]) dX0_dieAsTold_46 (by decide) (j := 1) rfl (by decide) rfl ?_
        refine aw_goto (tgt := 2) dX0_dieAsTold_49 (by decide) ?_
        exact aw_ls [1, 0] rfl H
set_option maxRecDepth 8000 in
set_option maxHeartbeats 1000000 in
theorem bX0_payAll_0 {l : Launch} {ad : Nat → Nat} {d : Nat} {R : aH → Prop}     (h : aH)
    (H : AW GC l ad (d + 1) mX0_payAll 2 [(0, .ref (ad 344)), (1, .int (0 : Int32))] [] h (qv R)) : AW GC l ad (d + 1) mX0_payAll 0 [(0, .ref (ad 344))] [] h (qv R) := by
  refine aw_iconst (v := 0) dX0_payAll_0 (by decide) ?_
  refine aw_istore_n (ls' := [(1, .int (0 : Int32)), (0, .ref (ad 344))]) dX0_payAll_1 rfl (by decide) rfl ?_
  exact aw_ls [1, 0] rfl H
set_option maxRecDepth 8000 in
set_option maxHeartbeats 1000000 in
theorem bX0_payAll_2 {l : Launch} {ad : Nat → Nat} {d : Nat} {R : aH → Prop}   (x1 : Int32)  (h : aH)
    (H : ∀ w1 : Nat, w1 = h.2.2 344 2 → isW GC w1 ∧ (((h.1 w1 11) ≤ x1 → (R h)) ∧ (¬ (h.1 w1 11) ≤ x1 → (vp_in x1 8 ∧ ((¬ (h.1 (w1 + 8) x1.toNatClampNeg) = (1 : Int32) → (AW GC l ad (d + 1) mX0_payAll 2 [(0, .ref (ad 344)), (1, .int (x1 + (1 : Int32)))] [] h (qv R))) ∧ ((h.1 (w1 + 8) x1.toNatClampNeg) = (1 : Int32) → (AW GC l ad d mX8_isInPurse 0 [(0, .ref (ad w1)), (1, .int x1)] [] h (qi fun z4 h3 => (z4 = 0 → (AW GC l ad (d + 1) mX0_payAll 2 [(0, .ref (ad 344)), (1, .int (x1 + (1 : Int32)))] [] h3 (qv R))) ∧ (¬ z4 = 0 → (AW GC l ad d mX0_isDue 0 [(0, .ref (ad 344)), (1, .int x1)] [] h3 (qi fun z6 h5 => (z6 = 0 → (AW GC l ad (d + 1) mX0_payAll 2 [(0, .ref (ad 344)), (1, .int (x1 + (1 : Int32)))] [] h5 (qv R))) ∧ (¬ z6 = 0 → (∀ w7 : Nat, w7 = h5.2.2 344 2 → isW GC w7 ∧ (AW GC l ad d mX8_settle 0 [(0, .ref (ad w7)), (1, .int x1)] [] h5 (qv fun h8 => AW GC l ad (d + 1) mX0_payAll 2 [(0, .ref (ad 344)), (1, .int (x1 + (1 : Int32)))] [] h8 (qv R)))))))))))))))) : AW GC l ad (d + 1) mX0_payAll 2 [(0, .ref (ad 344)), (1, .int x1)] [] h (qv R) := by
  refine aw_iload_n dX0_payAll_2 rfl 1 rfl ?_
  refine aw_aload_n dX0_payAll_3 rfl 0 rfl ?_
  obtain ⟨w1, ew1⟩ : ∃ z, z = h.2.2 344 2 := ⟨_, rfl⟩
  obtain ⟨hw1, H⟩ := H w1 ew1
  refine aw_get dX0_payAll_4 shC344 ckX0 flX0_19 (v := .ref (ad w1)) (by rw [ew1]; rfl) ?_
  refine aw_get dX0_payAll_7 hw1.1 ckX8 flX0_59 (v := .int (h.1 w1 11)) rfl ?_
  refine aw_icmp_ge (tgt := 59) dX0_payAll_10 (by decide) (fun hc13 => ?_) (fun hc13 => ?_)
  · replace H := H.1 hc13
    exact aw_vret dX0_payAll_59 rfl ⟨rfl, H⟩
  · replace H := H.2 hc13
    refine aw_aload_n dX0_payAll_13 rfl 0 rfl ?_
    refine aw_get dX0_payAll_14 shC344 ckX0 flX0_19 (v := .ref (ad w1)) (by rw [ew1]; rfl) ?_
    refine aw_get dX0_payAll_17 hw1.1 ckX8 flX0_62 (v := .ref (ad (w1 + 8))) rfl ?_
    refine aw_iload_n dX0_payAll_20 rfl 1 rfl ?_
    obtain ⟨hi2, H⟩ := H
    refine aw_ialdK (t0 := 0) (j := x1.toNatClampNeg) dX0_payAll_21 (hw1.2 7 (by decide)) rfl rfl hi2 ?_
    refine aw_iconst (v := 1) dX0_payAll_22 (by decide) ?_
    refine aw_icmp_ne (tgt := 53) dX0_payAll_23 (by decide) (fun hc12 => ?_) (fun hc12 => ?_)
    · replace H := H.1 hc12
      refine aw_inc (mm := (1)) (ls' := [(1, .int (x1 + (1 : Int32))), (0, .ref (ad 344))]) dX0_payAll_53 (by decide) (j := 1) rfl (by decide) rfl ?_
      refine aw_goto (tgt := 2) dX0_payAll_56 (by decide) ?_
      exact aw_ls [1, 0] rfl H
    · replace H := H.2 hc12
      refine aw_aload_n dX0_payAll_26 rfl 0 rfl ?_
      refine aw_get dX0_payAll_27 shC344 ckX0 flX0_19 (v := .ref (ad w1)) (by rw [ew1]; rfl) ?_
      refine aw_iload_n dX0_payAll_30 rfl 1 rfl ?_
      refine cvX8_isInPurse dX0_payAll_31 mlX0_135 hw1.1 (Nat.le_of_ble_eq_true rfl) H (fun z4 h3 H => ?_)
      refine aw_if_eq (tgt := 53) dX0_payAll_34 (by decide) (fun hc11 => ?_) (fun hc11 => ?_)
      · replace H := H.1 hc11
        refine aw_inc (mm := (1)) (ls' := [(1, .int (x1 + (1 : Int32))), (0, .ref (ad 344))]) dX0_payAll_53 (by decide) (j := 1) rfl (by decide) rfl ?_
        refine aw_goto (tgt := 2) dX0_payAll_56 (by decide) ?_
        exact aw_ls [1, 0] rfl H
      · replace H := H.2 hc11
        refine aw_aload_n dX0_payAll_37 rfl 0 rfl ?_
        refine aw_iload_n dX0_payAll_38 rfl 1 rfl ?_
        refine cvX0_isDue dX0_payAll_39 mlX0_138 shC344 (Nat.le_of_ble_eq_true rfl) H (fun z6 h5 H => ?_)
        refine aw_if_eq (tgt := 53) dX0_payAll_42 (by decide) (fun hc10 => ?_) (fun hc10 => ?_)
        · replace H := H.1 hc10
          refine aw_inc (mm := (1)) (ls' := [(1, .int (x1 + (1 : Int32))), (0, .ref (ad 344))]) dX0_payAll_53 (by decide) (j := 1) rfl (by decide) rfl ?_
          refine aw_goto (tgt := 2) dX0_payAll_56 (by decide) ?_
          exact aw_ls [1, 0] rfl H
        · replace H := H.2 hc10
          refine aw_aload_n dX0_payAll_45 rfl 0 rfl ?_
          obtain ⟨w7, ew7⟩ : ∃ z, z = h5.2.2 344 2 := ⟨_, rfl⟩
          obtain ⟨hw7, H⟩ := H w7 ew7
          refine aw_get dX0_payAll_46 shC344 ckX0 flX0_19 (v := .ref (ad w7)) (by rw [ew7]; rfl) ?_
          refine aw_iload_n dX0_payAll_49 rfl 1 rfl ?_
          refine cvX8_settle dX0_payAll_50 mlX0_141 hw7.1 (Nat.le_of_ble_eq_true rfl) H (fun h8 H => ?_)
          refine aw_inc (mm := (1)) (ls' := [(1, .int (x1 + (1 : Int32))), (0, .ref (ad 344))]) dX0_payAll_53 (by decide) (j := 1) rfl (by decide) rfl ?_
          refine aw_goto (tgt := 2) dX0_payAll_56 (by decide) ?_
          exact aw_ls [1, 0] rfl H
set_option maxRecDepth 8000 in
set_option maxHeartbeats 1000000 in
theorem bX0_isDue_0 {l : Launch} {ad : Nat → Nat} {d : Nat} {R : Int32 → aH → Prop}   (x1 : Int32)  (h : aH)
    (H : AW GC l ad d mX0_payValue 0 [(0, .ref (ad 344)), (1, .int x1)] [] h (ql fun z2 h1 => (¬ z2 = (-9223372036854775808 : Int64) → ((z2 = (0 : Int64) → (R (0 : Int32) h1)) ∧ (¬ z2 = (0 : Int64) → (R (1 : Int32) h1)))) ∧ (z2 = (-9223372036854775808 : Int64) → (∀ w4 : Nat, w4 = h1.2.2 344 2 → isW GC w4 ∧ (AW GC l ad d mX8_daysOpen 0 [(0, .ref (ad w4)), (1, .int x1)] [] h1 (qi fun z6 h5 => (z6 < (5 : Int32) → (R (0 : Int32) h5)) ∧ (¬ z6 < (5 : Int32) → (R (1 : Int32) h5)))))))) : AW GC l ad (d + 1) mX0_isDue 0 [(0, .ref (ad 344)), (1, .int x1)] [] h (qi R) := by
  refine aw_aload_n dX0_isDue_0 rfl 0 rfl ?_
  refine aw_iload_n dX0_isDue_1 rfl 1 rfl ?_
  refine cvX0_payValue dX0_isDue_2 mlX0_144 shC344 (Nat.le_of_ble_eq_true rfl) H (fun z2 h1 H => ?_)
  refine aw_lstore_n (ls' := [(2, .long z2), (0, .ref (ad 344)), (1, .int x1)]) dX0_isDue_5 rfl (by decide) rfl ?_
  refine aw_lload_n dX0_isDue_6 rfl 0 rfl ?_
  refine aw_ldc2 dX0_isDue_7 clX0_148 ?_
  refine aw_lif_ne (tgt := 34) dX0_isDue_10 dX0_isDue_11 (by decide) (fun hc8 => ?_) (fun hc8 => ?_)
  · replace H := H.1 hc8
    refine aw_lload_n dX0_isDue_34 rfl 0 rfl ?_
    refine aw_lconst (v := 0) dX0_isDue_35 (by decide) ?_
    refine aw_lif_eq (tgt := 44) dX0_isDue_36 dX0_isDue_37 (by decide) (fun hc3 => ?_) (fun hc3 => ?_)
    · replace H := H.1 hc3
      refine aw_iconst (v := 0) dX0_isDue_44 (by decide) ?_
      exact aw_zret dX0_isDue_45 rfl (by decide) ⟨_, rfl, H⟩
    · replace H := H.2 hc3
      refine aw_iconst (v := 1) dX0_isDue_40 (by decide) ?_
      refine aw_goto (tgt := 45) dX0_isDue_41 (by decide) ?_
      exact aw_zret dX0_isDue_45 rfl (by decide) ⟨_, rfl, H⟩
  · replace H := H.2 hc8
    refine aw_aload_n dX0_isDue_14 rfl 1 rfl ?_
    obtain ⟨w4, ew4⟩ : ∃ z, z = h1.2.2 344 2 := ⟨_, rfl⟩
    obtain ⟨hw4, H⟩ := H w4 ew4
    refine aw_get dX0_isDue_15 shC344 ckX0 flX0_19 (v := .ref (ad w4)) (by rw [ew4]; rfl) ?_
    refine aw_iload_n dX0_isDue_18 rfl 2 rfl ?_
    refine cvX8_daysOpen dX0_isDue_19 mlX0_150 hw4.1 (Nat.le_of_ble_eq_true rfl) H (fun z6 h5 H => ?_)
    refine aw_iconst (v := 5) dX0_isDue_22 (by decide) ?_
    refine aw_icmp_lt (tgt := 30) dX0_isDue_23 (by decide) (fun hc7 => ?_) (fun hc7 => ?_)
    · replace H := H.1 hc7
      refine aw_iconst (v := 0) dX0_isDue_30 (by decide) ?_
      refine aw_goto (tgt := 45) dX0_isDue_31 (by decide) ?_
      exact aw_zret dX0_isDue_45 rfl (by decide) ⟨_, rfl, H⟩
    · replace H := H.2 hc7
      refine aw_iconst (v := 1) dX0_isDue_26 (by decide) ?_
      refine aw_goto (tgt := 45) dX0_isDue_27 (by decide) ?_
      exact aw_zret dX0_isDue_45 rfl (by decide) ⟨_, rfl, H⟩
set_option maxRecDepth 8000 in
set_option maxHeartbeats 1000000 in
theorem bX0_addInterest_0 {l : Launch} {ad : Nat → Nat} {d : Nat} {R : aH → Prop}     (h : aH)
    (H : AW GC l ad (d + 1) mX0_addInterest 2 [(0, .ref (ad 344)), (1, .int (0 : Int32))] [] h (qv R)) : AW GC l ad (d + 1) mX0_addInterest 0 [(0, .ref (ad 344))] [] h (qv R) := by
  refine aw_iconst (v := 0) dX0_addInterest_0 (by decide) ?_
  refine aw_istore_n (ls' := [(1, .int (0 : Int32)), (0, .ref (ad 344))]) dX0_addInterest_1 rfl (by decide) rfl ?_
  exact aw_ls [1, 0] rfl H
set_option maxRecDepth 8000 in
set_option maxHeartbeats 1000000 in
theorem bX0_addInterest_2 {l : Launch} {ad : Nat → Nat} {d : Nat} {R : aH → Prop}   (x1 : Int32)  (h : aH)
    (H : ∀ w1 : Nat, w1 = h.2.2 344 2 → isW GC w1 ∧ (((h.1 w1 11) ≤ x1 → (R h)) ∧ (¬ (h.1 w1 11) ≤ x1 → (vp_in x1 8 ∧ ((¬ (h.1 (w1 + 8) x1.toNatClampNeg) = (1 : Int32) → (AW GC l ad (d + 1) mX0_addInterest 2 [(0, .ref (ad 344)), (1, .int (x1 + (1 : Int32)))] [] h (qv R))) ∧ ((h.1 (w1 + 8) x1.toNatClampNeg) = (1 : Int32) → (∀ y3 : Nat, y3 = h.2.2 344 1 → isS GC y3 ∧ (∀ h4 : aH, h4 = (sI h (w1 + 9) x1.toNatClampNeg (if ((h.1 (w1 + 9) x1.toNatClampNeg) + (((h.1 (w1 + 9) x1.toNatClampNeg) * (h.1 y3 14)) / (100 : Int32))) < (9999 : Int32) then ((h.1 (w1 + 9) x1.toNatClampNeg) + (((h.1 (w1 + 9) x1.toNatClampNeg) * (h.1 y3 14)) / (100 : Int32))) else (9999 : Int32))) → (AW GC l ad (d + 1) mX0_addInterest 2 [(0, .ref (ad 344)), (1, .int (x1 + (1 : Int32)))] [] h4 (qv R)))))))))) : AW GC l ad (d + 1) mX0_addInterest 2 [(0, .ref (ad 344)), (1, .int x1)] [] h (qv R) := by
  refine aw_iload_n dX0_addInterest_2 rfl 1 rfl ?_
  refine aw_aload_n dX0_addInterest_3 rfl 0 rfl ?_
  obtain ⟨w1, ew1⟩ : ∃ z, z = h.2.2 344 2 := ⟨_, rfl⟩
  obtain ⟨hw1, H⟩ := H w1 ew1
  refine aw_get dX0_addInterest_4 shC344 ckX0 flX0_19 (v := .ref (ad w1)) (by rw [ew1]; rfl) ?_
  refine aw_get dX0_addInterest_7 hw1.1 ckX8 flX0_59 (v := .int (h.1 w1 11)) rfl ?_
  refine aw_icmp_ge (tgt := 71) dX0_addInterest_10 (by decide) (fun hc6 => ?_) (fun hc6 => ?_)
  · replace H := H.1 hc6
    exact aw_vret dX0_addInterest_71 rfl ⟨rfl, H⟩
  · replace H := H.2 hc6
    refine aw_aload_n dX0_addInterest_13 rfl 0 rfl ?_
    refine aw_get dX0_addInterest_14 shC344 ckX0 flX0_19 (v := .ref (ad w1)) (by rw [ew1]; rfl) ?_
    refine aw_get dX0_addInterest_17 hw1.1 ckX8 flX0_62 (v := .ref (ad (w1 + 8))) rfl ?_
    refine aw_iload_n dX0_addInterest_20 rfl 1 rfl ?_
    obtain ⟨hi2, H⟩ := H
    refine aw_ialdK (t0 := 0) (j := x1.toNatClampNeg) dX0_addInterest_21 (hw1.2 7 (by decide)) rfl rfl hi2 ?_
    refine aw_iconst (v := 1) dX0_addInterest_22 (by decide) ?_
    refine aw_icmp_ne (tgt := 65) dX0_addInterest_23 (by decide) (fun hc5 => ?_) (fun hc5 => ?_)
    · replace H := H.1 hc5
      refine aw_inc (mm := (1)) (ls' := [(1, .int (x1 + (1 : Int32))), (0, .ref (ad 344))]) dX0_addInterest_65 (by decide) (j := 1) rfl (by decide) rfl ?_
      refine aw_goto (tgt := 2) dX0_addInterest_68 (by decide) ?_
      exact aw_ls [1, 0] rfl H
    · replace H := H.2 hc5
      refine aw_aload_n dX0_addInterest_26 rfl 0 rfl ?_
      refine aw_get dX0_addInterest_27 shC344 ckX0 flX0_19 (v := .ref (ad w1)) (by rw [ew1]; rfl) ?_
      refine aw_get dX0_addInterest_30 hw1.1 ckX8 flX0_153 (v := .ref (ad (w1 + 9))) rfl ?_
      refine aw_iload_n dX0_addInterest_33 rfl 1 rfl ?_
      refine aw_ialdK (t0 := 0) (j := x1.toNatClampNeg) dX0_addInterest_34 (hw1.2 8 (by decide)) rfl rfl hi2 ?_
      refine aw_istore_n (ls' := [(2, .int (h.1 (w1 + 9) x1.toNatClampNeg)), (0, .ref (ad 344)), (1, .int x1)]) dX0_addInterest_35 rfl (by decide) rfl ?_
      refine aw_aload_n dX0_addInterest_36 rfl 1 rfl ?_
      refine aw_get dX0_addInterest_37 shC344 ckX0 flX0_19 (v := .ref (ad w1)) (by rw [ew1]; rfl) ?_
      refine aw_get dX0_addInterest_40 hw1.1 ckX8 flX0_153 (v := .ref (ad (w1 + 9))) rfl ?_
      refine aw_iload_n dX0_addInterest_43 rfl 2 rfl ?_
      refine aw_sipush (v := 9999) dX0_addInterest_44 (by decide) ?_
      refine aw_iload_n dX0_addInterest_47 rfl 0 rfl ?_
      refine aw_iload_n dX0_addInterest_48 rfl 0 rfl ?_
      refine aw_aload_n dX0_addInterest_49 rfl 1 rfl ?_
      obtain ⟨y3, ey3⟩ : ∃ z, z = h.2.2 344 1 := ⟨_, rfl⟩
      obtain ⟨hy3, H⟩ := H y3 ey3
      refine aw_get dX0_addInterest_50 shC344 ckX0 flX0_15 (v := .ref (ad y3)) (by rw [ey3]; rfl) ?_
      refine aw_get dX0_addInterest_53 hy3.1 ckX6 flX0_156 (v := .int (h.1 y3 14)) rfl ?_
      refine aw_imul dX0_addInterest_56 ?_
      refine aw_bipush (v := 100) dX0_addInterest_57 (by decide) ?_
      refine aw_idiv dX0_addInterest_59 (by decide) ?_
      refine aw_iadd dX0_addInterest_60 ?_
      refine aw_mmin dX0_addInterest_61 mlX0_159 (Nat.le_of_ble_eq_true rfl) ?_
      refine aw_iastK (t0 := 0) (j := x1.toNatClampNeg) dX0_addInterest_64 (hw1.2 8 (by decide)) rfl rfl hi2 ?_
      refine aw_toph (fun h4 eh4 => ?_)
      replace H := H h4 eh4
      refine aw_inc (mm := (1)) (ls' := [(1, .int (x1 + (1 : Int32))), (2, .int (h.1 (w1 + 9) x1.toNatClampNeg)), (0, .ref (ad 344))]) dX0_addInterest_65 (by decide) (j := 2) rfl (by decide) rfl ?_
      refine aw_goto (tgt := 2) dX0_addInterest_68 (by decide) ?_
      exact aw_ls [2, 0] rfl H
set_option maxRecDepth 8000 in
set_option maxHeartbeats 1000000 in
theorem bX0_growOlder_0 {l : Launch} {ad : Nat → Nat} {d : Nat} {R : aH → Prop}     (h : aH)
    (H : AW GC l ad (d + 1) mX0_growOlder 2 [(0, .ref (ad 344)), (1, .int (0 : Int32))] [] h (qv R)) : AW GC l ad (d + 1) mX0_growOlder 0 [(0, .ref (ad 344))] [] h (qv R) := by
  refine aw_iconst (v := 0) dX0_growOlder_0 (by decide) ?_
  refine aw_istore_n (ls' := [(1, .int (0 : Int32)), (0, .ref (ad 344))]) dX0_growOlder_1 rfl (by decide) rfl ?_
  exact aw_ls [1, 0] rfl H
set_option maxRecDepth 8000 in
set_option maxHeartbeats 1000000 in
theorem bX0_growOlder_2 {l : Launch} {ad : Nat → Nat} {d : Nat} {R : aH → Prop}   (x1 : Int32)  (h : aH)
    (H : ∀ y1 : Nat, y1 = h.2.2 344 1 → isS GC y1 ∧ (((h.1 y1 12) ≤ x1 → (R h)) ∧ (¬ (h.1 y1 12) ≤ x1 → (((6 : Int32) ≤ x1 → (R h)) ∧ (¬ (6 : Int32) ≤ x1 → (∀ w2 : Nat, w2 = h.2.2 344 2 → isW GC w2 ∧ (AW GC l ad d mX8_isAlive 0 [(0, .ref (ad w2)), (1, .int x1)] [] h (qi fun z4 h3 => (z4 = 0 → (AW GC l ad (d + 1) mX0_growOlder 2 [(0, .ref (ad 344)), (1, .int (x1 + (1 : Int32)))] [] h3 (qv R))) ∧ (¬ z4 = 0 → (∀ w5 : Nat, w5 = h3.2.2 344 2 → isW GC w5 ∧ (vp_in x1 6 ∧ (∀ h7 : aH, h7 = (sI h3 (w5 + 2) x1.toNatClampNeg (if ((h3.1 (w5 + 2) x1.toNatClampNeg) + (1 : Int32)) < (99 : Int32) then ((h3.1 (w5 + 2) x1.toNatClampNeg) + (1 : Int32)) else (99 : Int32))) → (((h7.1 344 3) = (1 : Int32) → (AW GC l ad (d + 1) mX0_growOlder 2 [(0, .ref (ad 344)), (1, .int (x1 + (1 : Int32)))] [] h7 (qv R))) ∧ (¬ (h7.1 344 3) = (1 : Int32) → (AW GC l ad d mX0_oddsOf 0 [(0, .ref (ad 344)), (1, .int x1), (2, .int (h7.1 (w5 + 2) x1.toNatClampNeg))] [] h7 (qi fun z9 h8 => AW GC l ad d mX0_isFatal 0 [(0, .ref (ad 344)), (1, .int z9)] [] h8 (qi fun z11 h10 => (z11 = 0 → (AW GC l ad (d + 1) mX0_growOlder 2 [(0, .ref (ad 344)), (1, .int (x1 + (1 : Int32)))] [] h10 (qv R))) ∧ (¬ z11 = 0 → (∀ w12 : Nat, w12 = h10.2.2 344 2 → isW GC w12 ∧ (AW GC l ad d mX8_bury 0 [(0, .ref (ad w12)), (1, .int x1)] [] h10 (qv fun h13 => AW GC l ad (d + 1) mX0_growOlder 2 [(0, .ref (ad 344)), (1, .int (x1 + (1 : Int32)))] [] h13 (qv R)))))))))))))))))))))) : AW GC l ad (d + 1) mX0_growOlder 2 [(0, .ref (ad 344)), (1, .int x1)] [] h (qv R) := by
  refine aw_iload_n dX0_growOlder_2 rfl 1 rfl ?_
  refine aw_aload_n dX0_growOlder_3 rfl 0 rfl ?_
  obtain ⟨y1, ey1⟩ : ∃ z, z = h.2.2 344 1 := ⟨_, rfl⟩
  obtain ⟨hy1, H⟩ := H y1 ey1
  refine aw_get dX0_growOlder_4 shC344 ckX0 flX0_15 (v := .ref (ad y1)) (by rw [ey1]; rfl) ?_
  refine aw_get dX0_growOlder_7 hy1.1 ckX6 flX0_125 (v := .int (h.1 y1 12)) rfl ?_
  refine aw_icmp_ge (tgt := 98) dX0_growOlder_10 (by decide) (fun hc19 => ?_) (fun hc19 => ?_)
  · replace H := H.1 hc19
    exact aw_vret dX0_growOlder_98 rfl ⟨rfl, H⟩
  · replace H := H.2 hc19
    refine aw_iload_n dX0_growOlder_13 rfl 1 rfl ?_
    refine aw_bipush (v := 6) dX0_growOlder_14 (by decide) ?_
    refine aw_icmp_ge (tgt := 98) dX0_growOlder_16 (by decide) (fun hc18 => ?_) (fun hc18 => ?_)
    · replace H := H.1 hc18
      exact aw_vret dX0_growOlder_98 rfl ⟨rfl, H⟩
    · replace H := H.2 hc18
      refine aw_aload_n dX0_growOlder_19 rfl 0 rfl ?_
      obtain ⟨w2, ew2⟩ : ∃ z, z = h.2.2 344 2 := ⟨_, rfl⟩
      obtain ⟨hw2, H⟩ := H w2 ew2
      refine aw_get dX0_growOlder_20 shC344 ckX0 flX0_19 (v := .ref (ad w2)) (by rw [ew2]; rfl) ?_
      refine aw_iload_n dX0_growOlder_23 rfl 1 rfl ?_
      refine cvX8_isAlive dX0_growOlder_24 mlX0_81 hw2.1 (Nat.le_of_ble_eq_true rfl) H (fun z4 h3 H => ?_)
      refine aw_if_eq (tgt := 92) dX0_growOlder_27 (by decide) (fun hc17 => ?_) (fun hc17 => ?_)
      · replace H := H.1 hc17
        refine aw_inc (mm := (1)) (ls' := [(1, .int (x1 + (1 : Int32))), (0, .ref (ad 344))]) dX0_growOlder_92 (by decide) (j := 1) rfl (by decide) rfl ?_
        refine aw_goto (tgt := 2) dX0_growOlder_95 (by decide) ?_
        exact aw_ls [1, 0] rfl H
      · replace H := H.2 hc17
        refine aw_aload_n dX0_growOlder_30 rfl 0 rfl ?_
        obtain ⟨w5, ew5⟩ : ∃ z, z = h3.2.2 344 2 := ⟨_, rfl⟩
        obtain ⟨hw5, H⟩ := H w5 ew5
        refine aw_get dX0_growOlder_31 shC344 ckX0 flX0_19 (v := .ref (ad w5)) (by rw [ew5]; rfl) ?_
        refine aw_get dX0_growOlder_34 hw5.1 ckX8 flX0_164 (v := .ref (ad (w5 + 2))) rfl ?_
        refine aw_iload_n dX0_growOlder_37 rfl 1 rfl ?_
        refine aw_bipush (v := 99) dX0_growOlder_38 (by decide) ?_
        refine aw_aload_n dX0_growOlder_40 rfl 0 rfl ?_
        refine aw_get dX0_growOlder_41 shC344 ckX0 flX0_19 (v := .ref (ad w5)) (by rw [ew5]; rfl) ?_
        refine aw_get dX0_growOlder_44 hw5.1 ckX8 flX0_164 (v := .ref (ad (w5 + 2))) rfl ?_
        refine aw_iload_n dX0_growOlder_47 rfl 1 rfl ?_
        obtain ⟨hi6, H⟩ := H
        refine aw_ialdK (t0 := 0) (j := x1.toNatClampNeg) dX0_growOlder_48 (hw5.2 1 (by decide)) rfl rfl hi6 ?_
        refine aw_iconst (v := 1) dX0_growOlder_49 (by decide) ?_
        refine aw_iadd dX0_growOlder_50 ?_
        refine aw_mmin dX0_growOlder_51 mlX0_159 (Nat.le_of_ble_eq_true rfl) ?_
        refine aw_iastK (t0 := 0) (j := x1.toNatClampNeg) dX0_growOlder_54 (hw5.2 1 (by decide)) rfl rfl hi6 ?_
        refine aw_toph (fun h7 eh7 => ?_)
        replace H := H h7 eh7
        refine aw_aload_n dX0_growOlder_55 rfl 0 rfl ?_
        refine aw_get dX0_growOlder_56 shC344 ckX0 flX0_23 (v := .int (h7.1 344 3)) rfl ?_
        refine aw_iconst (v := 1) dX0_growOlder_59 (by decide) ?_
        refine aw_icmp_eq (tgt := 92) dX0_growOlder_60 (by decide) (fun hc16 => ?_) (fun hc16 => ?_)
        · replace H := H.1 hc16
          refine aw_inc (mm := (1)) (ls' := [(1, .int (x1 + (1 : Int32))), (0, .ref (ad 344))]) dX0_growOlder_92 (by decide) (j := 1) rfl (by decide) rfl ?_
          refine aw_goto (tgt := 2) dX0_growOlder_95 (by decide) ?_
          exact aw_ls [1, 0] rfl H
        · replace H := H.2 hc16
          refine aw_aload_n dX0_growOlder_63 rfl 0 rfl ?_
          refine aw_aload_n dX0_growOlder_64 rfl 0 rfl ?_
          refine aw_iload_n dX0_growOlder_65 rfl 1 rfl ?_
          refine aw_aload_n dX0_growOlder_66 rfl 0 rfl ?_
          refine aw_get dX0_growOlder_67 shC344 ckX0 flX0_19 (v := .ref (ad w5)) (by rw [ew5, eh7]; rfl) ?_
          refine aw_get dX0_growOlder_70 hw5.1 ckX8 flX0_164 (v := .ref (ad (w5 + 2))) rfl ?_
          refine aw_iload_n dX0_growOlder_73 rfl 1 rfl ?_
          refine aw_ialdK (t0 := 0) (j := x1.toNatClampNeg) dX0_growOlder_74 (hw5.2 1 (by decide)) rfl rfl hi6 ?_
          refine cvX0_oddsOf dX0_growOlder_75 mlX0_167 shC344 (Nat.le_of_ble_eq_true rfl) H (fun z9 h8 H => ?_)
          refine cvX0_isFatal dX0_growOlder_78 mlX0_170 shC344 (Nat.le_of_ble_eq_true rfl) H (fun z11 h10 H => ?_)
          refine aw_if_eq (tgt := 92) dX0_growOlder_81 (by decide) (fun hc15 => ?_) (fun hc15 => ?_)
          · replace H := H.1 hc15
            refine aw_inc (mm := (1)) (ls' := [(1, .int (x1 + (1 : Int32))), (0, .ref (ad 344))]) dX0_growOlder_92 (by decide) (j := 1) rfl (by decide) rfl ?_
            refine aw_goto (tgt := 2) dX0_growOlder_95 (by decide) ?_
            exact aw_ls [1, 0] rfl H
          · replace H := H.2 hc15
            refine aw_aload_n dX0_growOlder_84 rfl 0 rfl ?_
            obtain ⟨w12, ew12⟩ : ∃ z, z = h10.2.2 344 2 := ⟨_, rfl⟩
            obtain ⟨hw12, H⟩ := H w12 ew12
            refine aw_get dX0_growOlder_85 shC344 ckX0 flX0_19 (v := .ref (ad w12)) (by rw [ew12]; rfl) ?_
            refine aw_iload_n dX0_growOlder_88 rfl 1 rfl ?_
            refine cvX8_bury dX0_growOlder_89 mlX0_131 hw12.1 (Nat.le_of_ble_eq_true rfl) H (fun h13 H => ?_)
            refine aw_inc (mm := (1)) (ls' := [(1, .int (x1 + (1 : Int32))), (0, .ref (ad 344))]) dX0_growOlder_92 (by decide) (j := 1) rfl (by decide) rfl ?_
            refine aw_goto (tgt := 2) dX0_growOlder_95 (by decide) ?_
            exact aw_ls [1, 0] rfl H
set_option maxRecDepth 8000 in
set_option maxHeartbeats 1000000 in
theorem bX0_isFatal_0 {l : Launch} {ad : Nat → Nat} {d : Nat} {R : Int32 → aH → Prop}   (x1 : Int32)  (h : aH)
    (H : (¬ (h.1 344 3) = (-1 : Int32) → (AW GC l ad (d + 1) mX0_isFatal 38 [(0, .ref (ad 344)), (1, .int x1)] [] h (qi R))) ∧ ((h.1 344 3) = (-1 : Int32) → ((x1 ≤ 0 → (AW GC l ad (d + 1) mX0_isFatal 38 [(0, .ref (ad 344)), (1, .int x1)] [] h (qi R))) ∧ (¬ x1 ≤ 0 → (((100 : Int32) ≤ x1 → (AW GC l ad (d + 1) mX0_isFatal 38 [(0, .ref (ad 344)), (1, .int x1)] [] h (qi R))) ∧ (¬ (100 : Int32) ≤ x1 → (∀ w1 : Nat, w1 = h.2.2 344 2 → isW GC w1 ∧ (AW GC l ad d mX8_drawNumber 0 [(0, .ref (ad w1))] [] h (qi fun z3 h2 => (x1 ≤ (z3 - z3 / (100 : Int32) * (100 : Int32)) → (R (0 : Int32) h2)) ∧ (¬ x1 ≤ (z3 - z3 / (100 : Int32) * (100 : Int32)) → (R (1 : Int32) h2))))))))))) : AW GC l ad (d + 1) mX0_isFatal 0 [(0, .ref (ad 344)), (1, .int x1)] [] h (qi R) := by
  refine aw_aload_n dX0_isFatal_0 rfl 0 rfl ?_
  refine aw_get dX0_isFatal_1 shC344 ckX0 flX0_23 (v := .int (h.1 344 3)) rfl ?_
  refine aw_iconst (v := (-1)) dX0_isFatal_4 (by decide) ?_
  refine aw_icmp_ne (tgt := 38) dX0_isFatal_5 (by decide) (fun hc7 => ?_) (fun hc7 => ?_)
  · replace H := H.1 hc7
    exact aw_ls [0, 1] rfl H
  · replace H := H.2 hc7
    refine aw_iload_n dX0_isFatal_8 rfl 1 rfl ?_
    refine aw_if_le (tgt := 38) dX0_isFatal_9 (by decide) (fun hc6 => ?_) (fun hc6 => ?_)
    · replace H := H.1 hc6
      exact aw_ls [0, 1] rfl H
    · replace H := H.2 hc6
      refine aw_iload_n dX0_isFatal_12 rfl 1 rfl ?_
      refine aw_bipush (v := 100) dX0_isFatal_13 (by decide) ?_
      refine aw_icmp_ge (tgt := 38) dX0_isFatal_15 (by decide) (fun hc5 => ?_) (fun hc5 => ?_)
      · replace H := H.1 hc5
        exact aw_ls [0, 1] rfl H
      · replace H := H.2 hc5
        refine aw_aload_n dX0_isFatal_18 rfl 0 rfl ?_
        obtain ⟨w1, ew1⟩ : ∃ z, z = h.2.2 344 2 := ⟨_, rfl⟩
        obtain ⟨hw1, H⟩ := H w1 ew1
        refine aw_get dX0_isFatal_19 shC344 ckX0 flX0_19 (v := .ref (ad w1)) (by rw [ew1]; rfl) ?_
        refine cvX8_drawNumber dX0_isFatal_22 mlX0_173 hw1.1 (Nat.le_of_ble_eq_true rfl) H (fun z3 h2 H => ?_)
        refine aw_bipush (v := 100) dX0_isFatal_25 (by decide) ?_
        refine aw_irem dX0_isFatal_27 (by decide) ?_
        refine aw_iload_n dX0_isFatal_28 rfl 1 rfl ?_
        refine aw_icmp_ge (tgt := 36) dX0_isFatal_29 (by decide) (fun hc4 => ?_) (fun hc4 => ?_)
        · replace H := H.1 hc4
          refine aw_iconst (v := 0) dX0_isFatal_36 (by decide) ?_
          exact aw_zret dX0_isFatal_37 rfl (by decide) ⟨_, rfl, H⟩
        · replace H := H.2 hc4
          refine aw_iconst (v := 1) dX0_isFatal_32 (by decide) ?_
          refine aw_goto (tgt := 37) dX0_isFatal_33 (by decide) ?_
          exact aw_zret dX0_isFatal_37 rfl (by decide) ⟨_, rfl, H⟩
set_option maxRecDepth 8000 in
set_option maxHeartbeats 1000000 in
theorem bX0_isFatal_38 {l : Launch} {ad : Nat → Nat} {d : Nat} {R : Int32 → aH → Prop}   (x1 : Int32)  (h : aH)
    (H : (¬ (h.1 344 3) = (-1 : Int32) → ((x1 < (50 : Int32) → (R (0 : Int32) h)) ∧ (¬ x1 < (50 : Int32) → (R (1 : Int32) h)))) ∧ ((h.1 344 3) = (-1 : Int32) → ((¬ x1 = (100 : Int32) → (R (0 : Int32) h)) ∧ (x1 = (100 : Int32) → (R (1 : Int32) h))))) : AW GC l ad (d + 1) mX0_isFatal 38 [(0, .ref (ad 344)), (1, .int x1)] [] h (qi R) := by
  refine aw_aload_n dX0_isFatal_38 rfl 0 rfl ?_
  refine aw_get dX0_isFatal_39 shC344 ckX0 flX0_23 (v := .int (h.1 344 3)) rfl ?_
  refine aw_iconst (v := (-1)) dX0_isFatal_42 (by decide) ?_
  refine aw_icmp_ne (tgt := 60) dX0_isFatal_43 (by decide) (fun hc3 => ?_) (fun hc3 => ?_)
  · replace H := H.1 hc3
    refine aw_iload_n dX0_isFatal_60 rfl 1 rfl ?_
    refine aw_bipush (v := 50) dX0_isFatal_61 (by decide) ?_
    refine aw_icmp_lt (tgt := 70) dX0_isFatal_63 (by decide) (fun hc1 => ?_) (fun hc1 => ?_)
    · replace H := H.1 hc1
      refine aw_iconst (v := 0) dX0_isFatal_70 (by decide) ?_
      exact aw_zret dX0_isFatal_71 rfl (by decide) ⟨_, rfl, H⟩
    · replace H := H.2 hc1
      refine aw_iconst (v := 1) dX0_isFatal_66 (by decide) ?_
      refine aw_goto (tgt := 71) dX0_isFatal_67 (by decide) ?_
      exact aw_zret dX0_isFatal_71 rfl (by decide) ⟨_, rfl, H⟩
  · replace H := H.2 hc3
    refine aw_iload_n dX0_isFatal_46 rfl 1 rfl ?_
    refine aw_bipush (v := 100) dX0_isFatal_47 (by decide) ?_
    refine aw_icmp_ne (tgt := 56) dX0_isFatal_49 (by decide) (fun hc2 => ?_) (fun hc2 => ?_)
    · replace H := H.1 hc2
      refine aw_iconst (v := 0) dX0_isFatal_56 (by decide) ?_
      refine aw_goto (tgt := 71) dX0_isFatal_57 (by decide) ?_
      exact aw_zret dX0_isFatal_71 rfl (by decide) ⟨_, rfl, H⟩
    · replace H := H.2 hc2
      refine aw_iconst (v := 1) dX0_isFatal_52 (by decide) ?_
      refine aw_goto (tgt := 71) dX0_isFatal_53 (by decide) ?_
      exact aw_zret dX0_isFatal_71 rfl (by decide) ⟨_, rfl, H⟩
set_option maxRecDepth 8000 in
set_option maxHeartbeats 1000000 in
theorem bX0_forgive_0 {l : Launch} {ad : Nat → Nat} {d : Nat} {R : aH → Prop}     (h : aH)
    (H : AW GC l ad (d + 1) mX0_forgive 2 [(0, .ref (ad 344)), (1, .int (0 : Int32))] [] h (qv R)) : AW GC l ad (d + 1) mX0_forgive 0 [(0, .ref (ad 344))] [] h (qv R) := by
  refine aw_iconst (v := 0) dX0_forgive_0 (by decide) ?_
  refine aw_istore_n (ls' := [(1, .int (0 : Int32)), (0, .ref (ad 344))]) dX0_forgive_1 rfl (by decide) rfl ?_
  exact aw_ls [1, 0] rfl H
set_option maxRecDepth 8000 in
set_option maxHeartbeats 1000000 in
theorem bX0_forgive_2 {l : Launch} {ad : Nat → Nat} {d : Nat} {R : aH → Prop}   (x1 : Int32)  (h : aH)
    (H : ∀ w1 : Nat, w1 = h.2.2 344 2 → isW GC w1 ∧ (((h.1 w1 11) ≤ x1 → (R h)) ∧ (¬ (h.1 w1 11) ≤ x1 → (vp_in x1 8 ∧ ((¬ (h.1 (w1 + 8) x1.toNatClampNeg) = (1 : Int32) → (AW GC l ad (d + 1) mX0_forgive 2 [(0, .ref (ad 344)), (1, .int (x1 + (1 : Int32)))] [] h (qv R))) ∧ ((h.1 (w1 + 8) x1.toNatClampNeg) = (1 : Int32) → (vp_in x1 14 ∧ ((¬ (h.1 (w1 + 11) x1.toNatClampNeg) = 0 → (AW GC l ad (d + 1) mX0_forgive 2 [(0, .ref (ad 344)), (1, .int (x1 + (1 : Int32)))] [] h (qv R))) ∧ ((h.1 (w1 + 11) x1.toNatClampNeg) = 0 → (AW GC l ad d mX8_end 0 [(0, .ref (ad w1)), (1, .int x1), (2, .int (3 : Int32))] [] h (qv fun h4 => AW GC l ad (d + 1) mX0_forgive 2 [(0, .ref (ad 344)), (1, .int (x1 + (1 : Int32)))] [] h4 (qv R)))))))))))) : AW GC l ad (d + 1) mX0_forgive 2 [(0, .ref (ad 344)), (1, .int x1)] [] h (qv R) := by
  refine aw_iload_n dX0_forgive_2 rfl 1 rfl ?_
  refine aw_aload_n dX0_forgive_3 rfl 0 rfl ?_
  obtain ⟨w1, ew1⟩ : ∃ z, z = h.2.2 344 2 := ⟨_, rfl⟩
  obtain ⟨hw1, H⟩ := H w1 ew1
  refine aw_get dX0_forgive_4 shC344 ckX0 flX0_19 (v := .ref (ad w1)) (by rw [ew1]; rfl) ?_
  refine aw_get dX0_forgive_7 hw1.1 ckX8 flX0_59 (v := .int (h.1 w1 11)) rfl ?_
  refine aw_icmp_ge (tgt := 53) dX0_forgive_10 (by decide) (fun hc8 => ?_) (fun hc8 => ?_)
  · replace H := H.1 hc8
    exact aw_vret dX0_forgive_53 rfl ⟨rfl, H⟩
  · replace H := H.2 hc8
    refine aw_aload_n dX0_forgive_13 rfl 0 rfl ?_
    refine aw_get dX0_forgive_14 shC344 ckX0 flX0_19 (v := .ref (ad w1)) (by rw [ew1]; rfl) ?_
    refine aw_get dX0_forgive_17 hw1.1 ckX8 flX0_62 (v := .ref (ad (w1 + 8))) rfl ?_
    refine aw_iload_n dX0_forgive_20 rfl 1 rfl ?_
    obtain ⟨hi2, H⟩ := H
    refine aw_ialdK (t0 := 0) (j := x1.toNatClampNeg) dX0_forgive_21 (hw1.2 7 (by decide)) rfl rfl hi2 ?_
    refine aw_iconst (v := 1) dX0_forgive_22 (by decide) ?_
    refine aw_icmp_ne (tgt := 47) dX0_forgive_23 (by decide) (fun hc7 => ?_) (fun hc7 => ?_)
    · replace H := H.1 hc7
      refine aw_inc (mm := (1)) (ls' := [(1, .int (x1 + (1 : Int32))), (0, .ref (ad 344))]) dX0_forgive_47 (by decide) (j := 1) rfl (by decide) rfl ?_
      refine aw_goto (tgt := 2) dX0_forgive_50 (by decide) ?_
      exact aw_ls [1, 0] rfl H
    · replace H := H.2 hc7
      refine aw_aload_n dX0_forgive_26 rfl 0 rfl ?_
      refine aw_get dX0_forgive_27 shC344 ckX0 flX0_19 (v := .ref (ad w1)) (by rw [ew1]; rfl) ?_
      refine aw_get dX0_forgive_30 hw1.1 ckX8 flX0_118 (v := .ref (ad (w1 + 11))) rfl ?_
      refine aw_iload_n dX0_forgive_33 rfl 1 rfl ?_
      obtain ⟨hi3, H⟩ := H
      refine aw_ialdK (t0 := 0) (j := x1.toNatClampNeg) dX0_forgive_34 (hw1.2 10 (by decide)) rfl rfl hi3 ?_
      refine aw_if_ne (tgt := 47) dX0_forgive_35 (by decide) (fun hc6 => ?_) (fun hc6 => ?_)
      · replace H := H.1 hc6
        refine aw_inc (mm := (1)) (ls' := [(1, .int (x1 + (1 : Int32))), (0, .ref (ad 344))]) dX0_forgive_47 (by decide) (j := 1) rfl (by decide) rfl ?_
        refine aw_goto (tgt := 2) dX0_forgive_50 (by decide) ?_
        exact aw_ls [1, 0] rfl H
      · replace H := H.2 hc6
        refine aw_aload_n dX0_forgive_38 rfl 0 rfl ?_
        refine aw_get dX0_forgive_39 shC344 ckX0 flX0_19 (v := .ref (ad w1)) (by rw [ew1]; rfl) ?_
        refine aw_iload_n dX0_forgive_42 rfl 1 rfl ?_
        refine aw_iconst (v := 3) dX0_forgive_43 (by decide) ?_
        refine cvX8_end dX0_forgive_44 mlX0_95 hw1.1 (Nat.le_of_ble_eq_true rfl) H (fun h4 H => ?_)
        refine aw_inc (mm := (1)) (ls' := [(1, .int (x1 + (1 : Int32))), (0, .ref (ad 344))]) dX0_forgive_47 (by decide) (j := 1) rfl (by decide) rfl ?_
        refine aw_goto (tgt := 2) dX0_forgive_50 (by decide) ?_
        exact aw_ls [1, 0] rfl H
set_option maxRecDepth 8000 in
set_option maxHeartbeats 1000000 in
theorem bX0_oddsOf_0 {l : Launch} {ad : Nat → Nat} {d : Nat} {R : Int32 → aH → Prop}   (x1 : Int32) (x2 : Int32)  (h : aH)
    (H : AW GC l ad d mX0_dieValue 0 [(0, .ref (ad 344)), (1, .int x1), (2, .int x2)] [] h (ql fun z2 h1 => (¬ z2 = (-9223372036854775808 : Int64) → (R (if (if z2 < (100 : Int64) then z2 else (100 : Int64)) < (0 : Int64) then (0 : Int64) else (if z2 < (100 : Int64) then z2 else (100 : Int64))).toInt32 h1)) ∧ (z2 = (-9223372036854775808 : Int64) → (R (if (0 : Int32) < (x2 - (60 : Int32)) then (x2 - (60 : Int32)) else (0 : Int32)) h1)))) : AW GC l ad (d + 1) mX0_oddsOf 0 [(0, .ref (ad 344)), (1, .int x1), (2, .int x2)] [] h (qi R) := by
  refine aw_aload_n dX0_oddsOf_0 rfl 0 rfl ?_
  refine aw_iload_n dX0_oddsOf_1 rfl 1 rfl ?_
  refine aw_iload_n dX0_oddsOf_2 rfl 2 rfl ?_
  refine cvX0_dieValue dX0_oddsOf_3 mlX0_177 shC344 (Nat.le_of_ble_eq_true rfl) H (fun z2 h1 H => ?_)
  refine aw_lstore_n (ls' := [(3, .long z2), (0, .ref (ad 344)), (1, .int x1), (2, .int x2)]) dX0_oddsOf_6 rfl (by decide) rfl ?_
  refine aw_lload_n dX0_oddsOf_7 rfl 0 rfl ?_
  refine aw_ldc2 dX0_oddsOf_8 clX0_148 ?_
  refine aw_lif_ne (tgt := 24) dX0_oddsOf_11 dX0_oddsOf_12 (by decide) (fun hc3 => ?_) (fun hc3 => ?_)
  · replace H := H.1 hc3
    refine aw_lconst (v := 0) dX0_oddsOf_24 (by decide) ?_
    refine aw_ldc2 dX0_oddsOf_25 clX0_183 ?_
    refine aw_lload_n dX0_oddsOf_28 rfl 0 rfl ?_
    refine aw_mminl dX0_oddsOf_29 mlX0_185 (Nat.le_of_ble_eq_true rfl) ?_
    refine aw_mmaxl dX0_oddsOf_32 mlX0_188 (Nat.le_of_ble_eq_true rfl) ?_
    refine aw_l2i dX0_oddsOf_35 ?_
    exact aw_iret dX0_oddsOf_36 rfl ⟨_, rfl, H⟩
  · replace H := H.2 hc3
    refine aw_iconst (v := 0) dX0_oddsOf_15 (by decide) ?_
    refine aw_iload_n dX0_oddsOf_16 rfl 3 rfl ?_
    refine aw_bipush (v := 60) dX0_oddsOf_17 (by decide) ?_
    refine aw_isub dX0_oddsOf_19 ?_
    refine aw_mmax dX0_oddsOf_20 mlX0_180 (Nat.le_of_ble_eq_true rfl) ?_
    exact aw_iret dX0_oddsOf_23 rfl ⟨_, rfl, H⟩
set_option maxRecDepth 8000 in
set_option maxHeartbeats 1000000 in
theorem bX0_passValue_0 {l : Launch} {ad : Nat → Nat} {d : Nat} {R : Int64 → aH → Prop}   (x1 : Int32) (x2 : Int32)  (h : aH)
    (H : (x2 < 0 → (AW GC l ad (d + 1) mX0_passValue 22 [(0, .ref (ad 344)), (1, .int x1), (2, .int x2)] [] h (ql R))) ∧ (¬ x2 < 0 → (((6 : Int32) ≤ x2 → (AW GC l ad (d + 1) mX0_passValue 22 [(0, .ref (ad 344)), (1, .int x1), (2, .int x2)] [] h (ql R))) ∧ (¬ (6 : Int32) ≤ x2 → (∀ w1 : Nat, w1 = h.2.2 344 2 → isW GC w1 ∧ (vp_in x2 6 ∧ (AW GC l ad (d + 1) mX0_passValue 23 [(0, .ref (ad 344)), (1, .int x1), (2, .int x2)] [.int (h.1 (w1 + 2) x2.toNatClampNeg)] h (ql R)))))))) : AW GC l ad (d + 1) mX0_passValue 0 [(0, .ref (ad 344)), (1, .int x1), (2, .int x2)] [] h (ql R) := by
  refine aw_iload_n dX0_passValue_0 rfl 2 rfl ?_
  refine aw_if_lt (tgt := 22) dX0_passValue_1 (by decide) (fun hc4 => ?_) (fun hc4 => ?_)
  · replace H := H.1 hc4
    exact aw_ls [0, 1, 2] rfl H
  · replace H := H.2 hc4
    refine aw_iload_n dX0_passValue_4 rfl 2 rfl ?_
    refine aw_bipush (v := 6) dX0_passValue_5 (by decide) ?_
    refine aw_icmp_ge (tgt := 22) dX0_passValue_7 (by decide) (fun hc3 => ?_) (fun hc3 => ?_)
    · replace H := H.1 hc3
      exact aw_ls [0, 1, 2] rfl H
    · replace H := H.2 hc3
      refine aw_aload_n dX0_passValue_10 rfl 0 rfl ?_
      obtain ⟨w1, ew1⟩ : ∃ z, z = h.2.2 344 2 := ⟨_, rfl⟩
      obtain ⟨hw1, H⟩ := H w1 ew1
      refine aw_get dX0_passValue_11 shC344 ckX0 flX0_19 (v := .ref (ad w1)) (by rw [ew1]; rfl) ?_
      refine aw_get dX0_passValue_14 hw1.1 ckX8 flX0_164 (v := .ref (ad (w1 + 2))) rfl ?_
      refine aw_iload_n dX0_passValue_17 rfl 2 rfl ?_
      obtain ⟨hi2, H⟩ := H
      refine aw_ialdK (t0 := 0) (j := x2.toNatClampNeg) dX0_passValue_18 (hw1.2 1 (by decide)) rfl rfl hi2 ?_
      refine aw_goto (tgt := 23) dX0_passValue_19 (by decide) ?_
      exact aw_ls [0, 1, 2] rfl H
set_option maxRecDepth 8000 in
set_option maxHeartbeats 1000000 in
theorem bX0_passValue_22 {l : Launch} {ad : Nat → Nat} {d : Nat} {R : Int64 → aH → Prop}   (x1 : Int32) (x2 : Int32)  (h : aH)
    (H : AW GC l ad (d + 1) mX0_passValue 23 [(0, .ref (ad 344)), (1, .int x1), (2, .int x2)] [.int (0 : Int32)] h (ql R)) : AW GC l ad (d + 1) mX0_passValue 22 [(0, .ref (ad 344)), (1, .int x1), (2, .int x2)] [] h (ql R) := by
  refine aw_iconst (v := 0) dX0_passValue_22 (by decide) ?_
  exact aw_ls [0, 1, 2] rfl H
set_option maxRecDepth 8000 in
set_option maxHeartbeats 1000000 in
theorem bX0_passValue_23 {l : Launch} {ad : Nat → Nat} {d : Nat} {R : Int64 → aH → Prop}   (x1 : Int32) (x2 : Int32) (s0 : Int32)  (h : aH)
    (H : ∀ w1 : Nat, w1 = h.2.2 344 2 → isW GC w1 ∧ (AW GC l ad d mX8_debtsKnownBy 0 [(0, .ref (ad w1)), (1, .int x2)] [] h (qi fun z3 h2 => AW GC l ad d mJ6_bitCount_0f7a4 0 [(0, .int z3)] [] h2 (qi fun z5 h4 => AW GC l ad d mX0_nameDebt 0 [(0, .ref (ad 344)), (1, .int x1), (2, .int s0), (3, .int z5)] [] h4 (qv fun h6 => ∀ y8 : Nat, y8 = h6.2.2 344 1 → isS GC y8 ∧ (AW GC l ad d mX1_value 0 [(0, .ref (ad (y8 + 8))), (1, .ref (ad 345))] [] h6 (ql fun z10 h9 => R z10 h9))))))) : AW GC l ad (d + 1) mX0_passValue 23 [(0, .ref (ad 344)), (1, .int x1), (2, .int x2)] [.int s0] h (ql R) := by
  refine aw_istore_n (ls' := [(3, .int s0), (0, .ref (ad 344)), (1, .int x1), (2, .int x2)]) dX0_passValue_23 rfl (by decide) rfl ?_
  refine aw_aload_n dX0_passValue_24 rfl 1 rfl ?_
  refine aw_iload_n dX0_passValue_25 rfl 2 rfl ?_
  refine aw_iload_n dX0_passValue_26 rfl 0 rfl ?_
  refine aw_aload_n dX0_passValue_27 rfl 1 rfl ?_
  obtain ⟨w1, ew1⟩ : ∃ z, z = h.2.2 344 2 := ⟨_, rfl⟩
  obtain ⟨hw1, H⟩ := H w1 ew1
  refine aw_get dX0_passValue_28 shC344 ckX0 flX0_19 (v := .ref (ad w1)) (by rw [ew1]; rfl) ?_
  refine aw_iload_n dX0_passValue_31 rfl 3 rfl ?_
  refine cvX8_debtsKnownBy dX0_passValue_32 mlX0_190 hw1.1 (Nat.le_of_ble_eq_true rfl) H (fun z3 h2 H => ?_)
  refine cvJ6_bitCount_0f7a4 stC dX0_passValue_35 mlX0_193 (Nat.le_of_ble_eq_true rfl) H (fun z5 h4 H => ?_)
  refine cvX0_nameDebt dX0_passValue_38 mlX0_198 shC344 (Nat.le_of_ble_eq_true rfl) H (fun h6 H => ?_)
  refine aw_aload_n dX0_passValue_41 rfl 1 rfl ?_
  obtain ⟨y8, ey8⟩ : ∃ z, z = h6.2.2 344 1 := ⟨_, rfl⟩
  obtain ⟨hy8, H⟩ := H y8 ey8
  refine aw_get dX0_passValue_42 shC344 ckX0 flX0_15 (v := .ref (ad y8)) (by rw [ey8]; rfl) ?_
  refine aw_get dX0_passValue_45 hy8.1 ckX6 flX0_201 (v := .ref (ad (y8 + 8))) rfl ?_
  refine aw_aload_n dX0_passValue_48 rfl 1 rfl ?_
  refine aw_get dX0_passValue_49 shC344 ckX0 flX0_9 (v := .ref (ad 345)) rfl ?_
  refine cvX1_value dX0_passValue_52 mlX0_205 hy8.2.2.1.1 (Nat.le_of_ble_eq_true rfl) H (fun z10 h9 H => ?_)
  exact aw_lret dX0_passValue_55 rfl ⟨_, rfl, H⟩
set_option maxRecDepth 8000 in
set_option maxHeartbeats 1000000 in
theorem bX0_payValue_0 {l : Launch} {ad : Nat → Nat} {d : Nat} {R : Int64 → aH → Prop}   (x1 : Int32)  (h : aH)
    (H : ∀ w1 : Nat, w1 = h.2.2 344 2 → isW GC w1 ∧ (AW GC l ad d mX8_oldestOf 0 [(0, .ref (ad w1)), (1, .int x1)] [] h (qi fun z3 h2 => (z3 < 0 → (AW GC l ad (d + 1) mX0_payValue 33 [(0, .ref (ad 344))] [.int x1, .ref (ad 344)] h2 (ql R))) ∧ (¬ z3 < 0 → (((6 : Int32) ≤ z3 → (AW GC l ad (d + 1) mX0_payValue 33 [(0, .ref (ad 344))] [.int x1, .ref (ad 344)] h2 (ql R))) ∧ (¬ (6 : Int32) ≤ z3 → (∀ w4 : Nat, w4 = h2.2.2 344 2 → isW GC w4 ∧ (vp_in z3 6 ∧ (AW GC l ad (d + 1) mX0_payValue 34 [(0, .ref (ad 344))] [.int (h2.1 (w4 + 2) z3.toNatClampNeg), .int x1, .ref (ad 344)] h2 (ql R)))))))))) : AW GC l ad (d + 1) mX0_payValue 0 [(0, .ref (ad 344)), (1, .int x1)] [] h (ql R) := by
  refine aw_aload_n dX0_payValue_0 rfl 0 rfl ?_
  obtain ⟨w1, ew1⟩ : ∃ z, z = h.2.2 344 2 := ⟨_, rfl⟩
  obtain ⟨hw1, H⟩ := H w1 ew1
  refine aw_get dX0_payValue_1 shC344 ckX0 flX0_19 (v := .ref (ad w1)) (by rw [ew1]; rfl) ?_
  refine aw_iload_n dX0_payValue_4 rfl 1 rfl ?_
  refine cvX8_oldestOf dX0_payValue_5 mlX0_211 hw1.1 (Nat.le_of_ble_eq_true rfl) H (fun z3 h2 H => ?_)
  refine aw_istore_n (ls' := [(2, .int z3), (0, .ref (ad 344)), (1, .int x1)]) dX0_payValue_8 rfl (by decide) rfl ?_
  refine aw_aload_n dX0_payValue_9 rfl 1 rfl ?_
  refine aw_iload_n dX0_payValue_10 rfl 2 rfl ?_
  refine aw_iload_n dX0_payValue_11 rfl 0 rfl ?_
  refine aw_if_lt (tgt := 33) dX0_payValue_12 (by decide) (fun hc7 => ?_) (fun hc7 => ?_)
  · replace H := H.1 hc7
    exact aw_ls [1] rfl H
  · replace H := H.2 hc7
    refine aw_iload_n dX0_payValue_15 rfl 0 rfl ?_
    refine aw_bipush (v := 6) dX0_payValue_16 (by decide) ?_
    refine aw_icmp_ge (tgt := 33) dX0_payValue_18 (by decide) (fun hc6 => ?_) (fun hc6 => ?_)
    · replace H := H.1 hc6
      exact aw_ls [1] rfl H
    · replace H := H.2 hc6
      refine aw_aload_n dX0_payValue_21 rfl 1 rfl ?_
      obtain ⟨w4, ew4⟩ : ∃ z, z = h2.2.2 344 2 := ⟨_, rfl⟩
      obtain ⟨hw4, H⟩ := H w4 ew4
      refine aw_get dX0_payValue_22 shC344 ckX0 flX0_19 (v := .ref (ad w4)) (by rw [ew4]; rfl) ?_
      refine aw_get dX0_payValue_25 hw4.1 ckX8 flX0_164 (v := .ref (ad (w4 + 2))) rfl ?_
      refine aw_iload_n dX0_payValue_28 rfl 0 rfl ?_
      obtain ⟨hi5, H⟩ := H
      refine aw_ialdK (t0 := 0) (j := z3.toNatClampNeg) dX0_payValue_29 (hw4.2 1 (by decide)) rfl rfl hi5 ?_
      refine aw_goto (tgt := 34) dX0_payValue_30 (by decide) ?_
      exact aw_ls [1] rfl H
set_option maxRecDepth 8000 in
set_option maxHeartbeats 1000000 in
theorem bX0_payValue_33 {l : Launch} {ad : Nat → Nat} {d : Nat} {R : Int64 → aH → Prop}   (s0 : Int32)  (h : aH)
    (H : AW GC l ad (d + 1) mX0_payValue 34 [(0, .ref (ad 344))] [.int (0 : Int32), .int s0, .ref (ad 344)] h (ql R)) : AW GC l ad (d + 1) mX0_payValue 33 [(0, .ref (ad 344))] [.int s0, .ref (ad 344)] h (ql R) := by
  refine aw_iconst (v := 0) dX0_payValue_33 (by decide) ?_
  exact aw_ls [0] rfl H
set_option maxRecDepth 8000 in
set_option maxHeartbeats 1000000 in
theorem bX0_payValue_34 {l : Launch} {ad : Nat → Nat} {d : Nat} {R : Int64 → aH → Prop}   (s0 : Int32) (s1 : Int32)  (h : aH)
    (H : AW GC l ad d mX0_nameDebt 0 [(0, .ref (ad 344)), (1, .int s1), (2, .int s0), (3, .int (0 : Int32))] [] h (qv fun h1 => ∀ y3 : Nat, y3 = h1.2.2 344 1 → isS GC y3 ∧ (AW GC l ad d mX1_value 0 [(0, .ref (ad (y3 + 11))), (1, .ref (ad 345))] [] h1 (ql fun z5 h4 => R z5 h4)))) : AW GC l ad (d + 1) mX0_payValue 34 [(0, .ref (ad 344))] [.int s0, .int s1, .ref (ad 344)] h (ql R) := by
  refine aw_iconst (v := 0) dX0_payValue_34 (by decide) ?_
  refine cvX0_nameDebt dX0_payValue_35 mlX0_198 shC344 (Nat.le_of_ble_eq_true rfl) H (fun h1 H => ?_)
  refine aw_aload_n dX0_payValue_38 rfl 0 rfl ?_
  obtain ⟨y3, ey3⟩ : ∃ z, z = h1.2.2 344 1 := ⟨_, rfl⟩
  obtain ⟨hy3, H⟩ := H y3 ey3
  refine aw_get dX0_payValue_39 shC344 ckX0 flX0_15 (v := .ref (ad y3)) (by rw [ey3]; rfl) ?_
  refine aw_get dX0_payValue_42 hy3.1 ckX6 flX0_214 (v := .ref (ad (y3 + 11))) rfl ?_
  refine aw_aload_n dX0_payValue_45 rfl 0 rfl ?_
  refine aw_get dX0_payValue_46 shC344 ckX0 flX0_9 (v := .ref (ad 345)) rfl ?_
  refine cvX1_value dX0_payValue_49 mlX0_205 hy3.2.2.2.1.1 (Nat.le_of_ble_eq_true rfl) H (fun z5 h4 H => ?_)
  exact aw_lret dX0_payValue_52 rfl ⟨_, rfl, H⟩
set_option maxRecDepth 8000 in
set_option maxHeartbeats 1000000 in
theorem bX0_dieValue_0 {l : Launch} {ad : Nat → Nat} {d : Nat} {R : Int64 → aH → Prop}   (x1 : Int32) (x2 : Int32)  (h : aH)
    (H : ∀ w1 : Nat, w1 = h.2.2 344 2 → isW GC w1 ∧ (AW GC l ad d mX8_debtsKnownBy 0 [(0, .ref (ad w1)), (1, .int x1)] [] h (qi fun z3 h2 => AW GC l ad d mJ6_bitCount_0f7a4 0 [(0, .int z3)] [] h2 (qi fun z5 h4 => ∀ h6 : aH, h6 = (sJ (sJ (sJ (sJ (sJ h4 345 0 (0 : Int64)) 345 1 x2.toInt64) 345 2 (0 : Int64)) 345 3 z5.toInt64) 345 4 (0 : Int64)) → (∀ w7 : Nat, w7 = (sJ h6 345 5 z5.toInt64).2.2 344 2 → isW GC w7 ∧ (∀ y8 : Nat, y8 = (sJ (sJ h6 345 5 z5.toInt64) 345 6 ((sJ h6 345 5 z5.toInt64).1 w7 13).toInt64).2.2 344 1 → isS GC y8 ∧ (AW GC l ad d mX1_value 0 [(0, .ref (ad (y8 + 14))), (1, .ref (ad 345))] [] (sJ (sJ h6 345 5 z5.toInt64) 345 6 ((sJ h6 345 5 z5.toInt64).1 w7 13).toInt64) (ql fun z10 h9 => R z10 h9)))))))) : AW GC l ad (d + 1) mX0_dieValue 0 [(0, .ref (ad 344)), (1, .int x1), (2, .int x2)] [] h (ql R) := by
  refine aw_aload_n dX0_dieValue_0 rfl 0 rfl ?_
  obtain ⟨w1, ew1⟩ : ∃ z, z = h.2.2 344 2 := ⟨_, rfl⟩
  obtain ⟨hw1, H⟩ := H w1 ew1
  refine aw_get dX0_dieValue_1 shC344 ckX0 flX0_19 (v := .ref (ad w1)) (by rw [ew1]; rfl) ?_
  refine aw_iload_n dX0_dieValue_4 rfl 1 rfl ?_
  refine cvX8_debtsKnownBy dX0_dieValue_5 mlX0_190 hw1.1 (Nat.le_of_ble_eq_true rfl) H (fun z3 h2 H => ?_)
  refine cvJ6_bitCount_0f7a4 stC dX0_dieValue_8 mlX0_193 (Nat.le_of_ble_eq_true rfl) H (fun z5 h4 H => ?_)
  refine aw_istore_n (ls' := [(3, .int z5), (0, .ref (ad 344)), (1, .int x1), (2, .int x2)]) dX0_dieValue_11 rfl (by decide) rfl ?_
  refine aw_aload_n dX0_dieValue_12 rfl 1 rfl ?_
  refine aw_get dX0_dieValue_13 shC344 ckX0 flX0_9 (v := .ref (ad 345)) rfl ?_
  refine aw_iconst (v := 0) dX0_dieValue_16 (by decide) ?_
  refine aw_lconst (v := 0) dX0_dieValue_17 (by decide) ?_
  refine aw_lastK (t0 := 1) (j := 0) dX0_dieValue_18 shC345 rfl (by decide) (vp_inK (by decide) (by decide)) ?_
  refine aw_aload_n dX0_dieValue_19 rfl 1 rfl ?_
  refine aw_get dX0_dieValue_20 shC344 ckX0 flX0_9 (v := .ref (ad 345)) rfl ?_
  refine aw_iconst (v := 1) dX0_dieValue_23 (by decide) ?_
  refine aw_iload_n dX0_dieValue_24 rfl 3 rfl ?_
  refine aw_i2l dX0_dieValue_25 ?_
  refine aw_lastK (t0 := 1) (j := 1) dX0_dieValue_26 shC345 rfl (by decide) (vp_inK (by decide) (by decide)) ?_
  refine aw_aload_n dX0_dieValue_27 rfl 1 rfl ?_
  refine aw_get dX0_dieValue_28 shC344 ckX0 flX0_9 (v := .ref (ad 345)) rfl ?_
  refine aw_iconst (v := 2) dX0_dieValue_31 (by decide) ?_
  refine aw_lconst (v := 0) dX0_dieValue_32 (by decide) ?_
  refine aw_lastK (t0 := 1) (j := 2) dX0_dieValue_33 shC345 rfl (by decide) (vp_inK (by decide) (by decide)) ?_
  refine aw_aload_n dX0_dieValue_34 rfl 1 rfl ?_
  refine aw_get dX0_dieValue_35 shC344 ckX0 flX0_9 (v := .ref (ad 345)) rfl ?_
  refine aw_iconst (v := 3) dX0_dieValue_38 (by decide) ?_
  refine aw_iload_n dX0_dieValue_39 rfl 0 rfl ?_
  refine aw_i2l dX0_dieValue_40 ?_
  refine aw_lastK (t0 := 1) (j := 3) dX0_dieValue_41 shC345 rfl (by decide) (vp_inK (by decide) (by decide)) ?_
  refine aw_aload_n dX0_dieValue_42 rfl 1 rfl ?_
  refine aw_get dX0_dieValue_43 shC344 ckX0 flX0_9 (v := .ref (ad 345)) rfl ?_
  refine aw_iconst (v := 4) dX0_dieValue_46 (by decide) ?_
  refine aw_lconst (v := 0) dX0_dieValue_47 (by decide) ?_
  refine aw_lastK (t0 := 1) (j := 4) dX0_dieValue_48 shC345 rfl (by decide) (vp_inK (by decide) (by decide)) ?_
  refine aw_toph (fun h6 eh6 => ?_)
  replace H := H h6 eh6
  refine aw_aload_n dX0_dieValue_49 rfl 1 rfl ?_
  refine aw_get dX0_dieValue_50 shC344 ckX0 flX0_9 (v := .ref (ad 345)) rfl ?_
  refine aw_iconst (v := 5) dX0_dieValue_53 (by decide) ?_
  refine aw_iload_n dX0_dieValue_54 rfl 0 rfl ?_
  refine aw_i2l dX0_dieValue_55 ?_
  refine aw_lastK (t0 := 1) (j := 5) dX0_dieValue_56 shC345 rfl (by decide) (vp_inK (by decide) (by decide)) ?_
  refine aw_aload_n dX0_dieValue_57 rfl 1 rfl ?_
  refine aw_get dX0_dieValue_58 shC344 ckX0 flX0_9 (v := .ref (ad 345)) rfl ?_
  refine aw_bipush (v := 6) dX0_dieValue_61 (by decide) ?_
  refine aw_aload_n dX0_dieValue_63 rfl 1 rfl ?_
  obtain ⟨w7, ew7⟩ : ∃ z, z = (sJ h6 345 5 z5.toInt64).2.2 344 2 := ⟨_, rfl⟩
  obtain ⟨hw7, H⟩ := H w7 ew7
  refine aw_get dX0_dieValue_64 shC344 ckX0 flX0_19 (v := .ref (ad w7)) (by rw [ew7]; rfl) ?_
  refine aw_get dX0_dieValue_67 hw7.1 ckX8 flX0_45 (v := .int ((sJ h6 345 5 z5.toInt64).1 w7 13)) rfl ?_
  refine aw_i2l dX0_dieValue_70 ?_
  refine aw_lastK (t0 := 1) (j := 6) dX0_dieValue_71 shC345 rfl (by decide) (vp_inK (by decide) (by decide)) ?_
  refine aw_aload_n dX0_dieValue_72 rfl 1 rfl ?_
  obtain ⟨y8, ey8⟩ : ∃ z, z = (sJ (sJ h6 345 5 z5.toInt64) 345 6 ((sJ h6 345 5 z5.toInt64).1 w7 13).toInt64).2.2 344 1 := ⟨_, rfl⟩
  obtain ⟨hy8, H⟩ := H y8 ey8
  refine aw_get dX0_dieValue_73 shC344 ckX0 flX0_15 (v := .ref (ad y8)) (by rw [ey8]; rfl) ?_
  refine aw_get dX0_dieValue_76 hy8.1 ckX6 flX0_217 (v := .ref (ad (y8 + 14))) rfl ?_
  refine aw_aload_n dX0_dieValue_79 rfl 1 rfl ?_
  refine aw_get dX0_dieValue_80 shC344 ckX0 flX0_9 (v := .ref (ad 345)) rfl ?_
  refine cvX1_value dX0_dieValue_83 mlX0_205 hy8.2.2.2.2.1.1 (Nat.le_of_ble_eq_true rfl) H (fun z10 h9 H => ?_)
  exact aw_lret dX0_dieValue_86 rfl ⟨_, rfl, H⟩
set_option maxRecDepth 8000 in
set_option maxHeartbeats 1000000 in
theorem bX0_nameDebt_0 {l : Launch} {ad : Nat → Nat} {d : Nat} {R : aH → Prop}   (x1 : Int32) (x2 : Int32) (x3 : Int32)  (h : aH)
    (H : ∀ w1 : Nat, w1 = h.2.2 344 2 → isW GC w1 ∧ (vp_in x1 8 ∧ (AW GC l ad d mX8_purseOf 0 [(0, .ref (ad w1)), (1, .int ((sJ (sJ h 345 0 (h.1 (w1 + 9) x1.toNatClampNeg).toInt64) 345 1 x2.toInt64).1 (w1 + 4) x1.toNatClampNeg))] [] (sJ (sJ h 345 0 (h.1 (w1 + 9) x1.toNatClampNeg).toInt64) 345 1 x2.toInt64) (qi fun z4 h3 => ∀ w5 : Nat, w5 = (sJ h3 345 2 z4.toInt64).2.2 344 2 → isW GC w5 ∧ (vp_in x1 14 ∧ (AW GC l ad d mJ6_bitCount_0f7a4 0 [(0, .int ((sJ h3 345 2 z4.toInt64).1 (w5 + 11) x1.toNatClampNeg))] [] (sJ h3 345 2 z4.toInt64) (qi fun z8 h7 => ∀ w9 : Nat, w9 = (sJ h7 345 3 z8.toInt64).2.2 344 2 → isW GC w9 ∧ (AW GC l ad d mX8_daysOpen 0 [(0, .ref (ad w9)), (1, .int x1)] [] (sJ h7 345 3 z8.toInt64) (qi fun z11 h10 => ∀ w12 : Nat, w12 = (sJ (sJ h10 345 4 z11.toInt64) 345 5 x3.toInt64).2.2 344 2 → isW GC w12 ∧ (∀ h13 : aH, h13 = (sJ (sJ (sJ h10 345 4 z11.toInt64) 345 5 x3.toInt64) 345 6 ((sJ (sJ h10 345 4 z11.toInt64) 345 5 x3.toInt64).1 w12 13).toInt64) → (R h13))))))))))) : AW GC l ad (d + 1) mX0_nameDebt 0 [(0, .ref (ad 344)), (1, .int x1), (2, .int x2), (3, .int x3)] [] h (qv R) := by
  refine aw_aload_n dX0_nameDebt_0 rfl 0 rfl ?_
  refine aw_get dX0_nameDebt_1 shC344 ckX0 flX0_9 (v := .ref (ad 345)) rfl ?_
  refine aw_iconst (v := 0) dX0_nameDebt_4 (by decide) ?_
  refine aw_aload_n dX0_nameDebt_5 rfl 0 rfl ?_
  obtain ⟨w1, ew1⟩ : ∃ z, z = h.2.2 344 2 := ⟨_, rfl⟩
  obtain ⟨hw1, H⟩ := H w1 ew1
  refine aw_get dX0_nameDebt_6 shC344 ckX0 flX0_19 (v := .ref (ad w1)) (by rw [ew1]; rfl) ?_
  refine aw_get dX0_nameDebt_9 hw1.1 ckX8 flX0_153 (v := .ref (ad (w1 + 9))) rfl ?_
  refine aw_iload_n dX0_nameDebt_12 rfl 1 rfl ?_
  obtain ⟨hi2, H⟩ := H
  refine aw_ialdK (t0 := 0) (j := x1.toNatClampNeg) dX0_nameDebt_13 (hw1.2 8 (by decide)) rfl rfl hi2 ?_
  refine aw_i2l dX0_nameDebt_14 ?_
  refine aw_lastK (t0 := 1) (j := 0) dX0_nameDebt_15 shC345 rfl (by decide) (vp_inK (by decide) (by decide)) ?_
  refine aw_aload_n dX0_nameDebt_16 rfl 0 rfl ?_
  refine aw_get dX0_nameDebt_17 shC344 ckX0 flX0_9 (v := .ref (ad 345)) rfl ?_
  refine aw_iconst (v := 1) dX0_nameDebt_20 (by decide) ?_
  refine aw_iload_n dX0_nameDebt_21 rfl 2 rfl ?_
  refine aw_i2l dX0_nameDebt_22 ?_
  refine aw_lastK (t0 := 1) (j := 1) dX0_nameDebt_23 shC345 rfl (by decide) (vp_inK (by decide) (by decide)) ?_
  refine aw_aload_n dX0_nameDebt_24 rfl 0 rfl ?_
  refine aw_get dX0_nameDebt_25 shC344 ckX0 flX0_9 (v := .ref (ad 345)) rfl ?_
  refine aw_iconst (v := 2) dX0_nameDebt_28 (by decide) ?_
  refine aw_aload_n dX0_nameDebt_29 rfl 0 rfl ?_
  refine aw_get dX0_nameDebt_30 shC344 ckX0 flX0_19 (v := .ref (ad w1)) (by rw [ew1]; rfl) ?_
  refine aw_aload_n dX0_nameDebt_33 rfl 0 rfl ?_
  refine aw_get dX0_nameDebt_34 shC344 ckX0 flX0_19 (v := .ref (ad w1)) (by rw [ew1]; rfl) ?_
  refine aw_get dX0_nameDebt_37 hw1.1 ckX8 flX0_220 (v := .ref (ad (w1 + 4))) rfl ?_
  refine aw_iload_n dX0_nameDebt_40 rfl 1 rfl ?_
  refine aw_ialdK (t0 := 0) (j := x1.toNatClampNeg) dX0_nameDebt_41 (hw1.2 3 (by decide)) rfl rfl hi2 ?_
  refine cvX8_purseOf dX0_nameDebt_42 mlX0_88 hw1.1 (Nat.le_of_ble_eq_true rfl) H (fun z4 h3 H => ?_)
  refine aw_i2l dX0_nameDebt_45 ?_
  refine aw_lastK (t0 := 1) (j := 2) dX0_nameDebt_46 shC345 rfl (by decide) (vp_inK (by decide) (by decide)) ?_
  refine aw_aload_n dX0_nameDebt_47 rfl 0 rfl ?_
  refine aw_get dX0_nameDebt_48 shC344 ckX0 flX0_9 (v := .ref (ad 345)) rfl ?_
  refine aw_iconst (v := 3) dX0_nameDebt_51 (by decide) ?_
  refine aw_aload_n dX0_nameDebt_52 rfl 0 rfl ?_
  obtain ⟨w5, ew5⟩ : ∃ z, z = (sJ h3 345 2 z4.toInt64).2.2 344 2 := ⟨_, rfl⟩
  obtain ⟨hw5, H⟩ := H w5 ew5
  refine aw_get dX0_nameDebt_53 shC344 ckX0 flX0_19 (v := .ref (ad w5)) (by rw [ew5]; rfl) ?_
  refine aw_get dX0_nameDebt_56 hw5.1 ckX8 flX0_118 (v := .ref (ad (w5 + 11))) rfl ?_
  refine aw_iload_n dX0_nameDebt_59 rfl 1 rfl ?_
  obtain ⟨hi6, H⟩ := H
  refine aw_ialdK (t0 := 0) (j := x1.toNatClampNeg) dX0_nameDebt_60 (hw5.2 10 (by decide)) rfl rfl hi6 ?_
  refine cvJ6_bitCount_0f7a4 stC dX0_nameDebt_61 mlX0_193 (Nat.le_of_ble_eq_true rfl) H (fun z8 h7 H => ?_)
  refine aw_i2l dX0_nameDebt_64 ?_
  refine aw_lastK (t0 := 1) (j := 3) dX0_nameDebt_65 shC345 rfl (by decide) (vp_inK (by decide) (by decide)) ?_
  refine aw_aload_n dX0_nameDebt_66 rfl 0 rfl ?_
  refine aw_get dX0_nameDebt_67 shC344 ckX0 flX0_9 (v := .ref (ad 345)) rfl ?_
  refine aw_iconst (v := 4) dX0_nameDebt_70 (by decide) ?_
  refine aw_aload_n dX0_nameDebt_71 rfl 0 rfl ?_
  obtain ⟨w9, ew9⟩ : ∃ z, z = (sJ h7 345 3 z8.toInt64).2.2 344 2 := ⟨_, rfl⟩
  obtain ⟨hw9, H⟩ := H w9 ew9
  refine aw_get dX0_nameDebt_72 shC344 ckX0 flX0_19 (v := .ref (ad w9)) (by rw [ew9]; rfl) ?_
  refine aw_iload_n dX0_nameDebt_75 rfl 1 rfl ?_
  refine cvX8_daysOpen dX0_nameDebt_76 mlX0_150 hw9.1 (Nat.le_of_ble_eq_true rfl) H (fun z11 h10 H => ?_)
  refine aw_i2l dX0_nameDebt_79 ?_
  refine aw_lastK (t0 := 1) (j := 4) dX0_nameDebt_80 shC345 rfl (by decide) (vp_inK (by decide) (by decide)) ?_
  refine aw_aload_n dX0_nameDebt_81 rfl 0 rfl ?_
  refine aw_get dX0_nameDebt_82 shC344 ckX0 flX0_9 (v := .ref (ad 345)) rfl ?_
  refine aw_iconst (v := 5) dX0_nameDebt_85 (by decide) ?_
  refine aw_iload_n dX0_nameDebt_86 rfl 3 rfl ?_
  refine aw_i2l dX0_nameDebt_87 ?_
  refine aw_lastK (t0 := 1) (j := 5) dX0_nameDebt_88 shC345 rfl (by decide) (vp_inK (by decide) (by decide)) ?_
  refine aw_aload_n dX0_nameDebt_89 rfl 0 rfl ?_
  refine aw_get dX0_nameDebt_90 shC344 ckX0 flX0_9 (v := .ref (ad 345)) rfl ?_
  refine aw_bipush (v := 6) dX0_nameDebt_93 (by decide) ?_
  refine aw_aload_n dX0_nameDebt_95 rfl 0 rfl ?_
  obtain ⟨w12, ew12⟩ : ∃ z, z = (sJ (sJ h10 345 4 z11.toInt64) 345 5 x3.toInt64).2.2 344 2 := ⟨_, rfl⟩
  obtain ⟨hw12, H⟩ := H w12 ew12
  refine aw_get dX0_nameDebt_96 shC344 ckX0 flX0_19 (v := .ref (ad w12)) (by rw [ew12]; rfl) ?_
  refine aw_get dX0_nameDebt_99 hw12.1 ckX8 flX0_45 (v := .int ((sJ (sJ h10 345 4 z11.toInt64) 345 5 x3.toInt64).1 w12 13)) rfl ?_
  refine aw_i2l dX0_nameDebt_102 ?_
  refine aw_lastK (t0 := 1) (j := 6) dX0_nameDebt_103 shC345 rfl (by decide) (vp_inK (by decide) (by decide)) ?_
  refine aw_toph (fun h13 eh13 => ?_)
  replace H := H h13 eh13
  exact aw_vret dX0_nameDebt_104 rfl ⟨rfl, H⟩
set_option maxRecDepth 8000 in
set_option maxHeartbeats 1000000 in
theorem bX4_fewestPayings_0 {l : Launch} {ad : Nat → Nat} {d : Nat} {R : Int32 → aH → Prop} (v1 : Nat) (hv1 : isW GC v1) (x2 : Int32)  (h : aH)
    (H : AW GC l ad (d + 1) mX4_fewestPayings 5 [(0, .ref (ad 352)), (1, .ref (ad v1)), (2, .int x2), (3, .int (0 : Int32)), (4, .int (0 : Int32))] [] h (qi R)) : AW GC l ad (d + 1) mX4_fewestPayings 0 [(0, .ref (ad 352)), (1, .ref (ad v1)), (2, .int x2)] [] h (qi R) := by
  refine aw_iconst (v := 0) dX4_fewestPayings_0 (by decide) ?_
  refine aw_istore_n (ls' := [(3, .int (0 : Int32)), (0, .ref (ad 352)), (1, .ref (ad v1)), (2, .int x2)]) dX4_fewestPayings_1 rfl (by decide) rfl ?_
  refine aw_iconst (v := 0) dX4_fewestPayings_2 (by decide) ?_
  refine aw_istore (ls' := [(4, .int (0 : Int32)), (3, .int (0 : Int32)), (0, .ref (ad 352)), (1, .ref (ad v1)), (2, .int x2)]) dX4_fewestPayings_3 (by decide) rfl ?_
  exact aw_ls [2, 3, 4, 1, 0] rfl H
set_option maxRecDepth 8000 in
set_option maxHeartbeats 1000000 in
theorem bX4_fewestPayings_5 {l : Launch} {ad : Nat → Nat} {d : Nat} {R : Int32 → aH → Prop} (v1 : Nat) (hv1 : isW GC v1) (x2 : Int32) (x3 : Int32) (x4 : Int32)  (h : aH)
    (H : (x2 ≤ x4 → (AW GC l ad (d + 1) mX4_fewestPayings 62 [(0, .ref (ad 352)), (3, .int x3), (4, .int (1 : Int32))] [] h (qi R))) ∧ (¬ x2 ≤ x4 → (((6 : Int32) ≤ x4 → (AW GC l ad (d + 1) mX4_fewestPayings 62 [(0, .ref (ad 352)), (3, .int x3), (4, .int (1 : Int32))] [] h (qi R))) ∧ (¬ (6 : Int32) ≤ x4 → (AW GC l ad d mX8_netOf 0 [(0, .ref (ad v1)), (1, .int x4)] [] h (qi fun z2 h1 => vp_in ((1 : Int32) <<< (x4 &&& 31)) 64 ∧ (∀ t4 : Int32, t4 = (if z2 = 0 then (0 : Int32) else ((1 : Int32) <<< (x4 &&& 31))) → (AW GC l ad (d + 1) mX4_fewestPayings 5 [(0, .ref (ad 352)), (1, .ref (ad v1)), (2, .int x2), (3, .int (x3 ||| t4)), (4, .int (x4 + (1 : Int32)))] [] (sI h1 353 ((1 : Int32) <<< (x4 &&& 31)).toNatClampNeg z2) (qi R))))))))) : AW GC l ad (d + 1) mX4_fewestPayings 5 [(0, .ref (ad 352)), (1, .ref (ad v1)), (2, .int x2), (3, .int x3), (4, .int x4)] [] h (qi R) := by
  refine aw_iload dX4_fewestPayings_5 4 rfl ?_
  refine aw_iload_n dX4_fewestPayings_7 rfl 2 rfl ?_
  refine aw_icmp_ge (tgt := 59) dX4_fewestPayings_8 (by decide) (fun hc8 => ?_) (fun hc8 => ?_)
  · replace H := H.1 hc8
    refine aw_iconst (v := 1) dX4_fewestPayings_59 (by decide) ?_
    refine aw_istore (ls' := [(4, .int (1 : Int32)), (0, .ref (ad 352)), (1, .ref (ad v1)), (2, .int x2), (3, .int x3)]) dX4_fewestPayings_60 (by decide) rfl ?_
    exact aw_ls [1, 4, 0] rfl H
  · replace H := H.2 hc8
    refine aw_iload dX4_fewestPayings_11 4 rfl ?_
    refine aw_bipush (v := 6) dX4_fewestPayings_13 (by decide) ?_
    refine aw_icmp_ge (tgt := 59) dX4_fewestPayings_15 (by decide) (fun hc7 => ?_) (fun hc7 => ?_)
    · replace H := H.1 hc7
      refine aw_iconst (v := 1) dX4_fewestPayings_59 (by decide) ?_
      refine aw_istore (ls' := [(4, .int (1 : Int32)), (0, .ref (ad 352)), (1, .ref (ad v1)), (2, .int x2), (3, .int x3)]) dX4_fewestPayings_60 (by decide) rfl ?_
      exact aw_ls [1, 4, 0] rfl H
    · replace H := H.2 hc7
      refine aw_aload_n dX4_fewestPayings_18 rfl 1 rfl ?_
      refine aw_iload dX4_fewestPayings_19 4 rfl ?_
      refine cvX8_netOf dX4_fewestPayings_21 mlX4_43 hv1.1 (Nat.le_of_ble_eq_true rfl) H (fun z2 h1 H => ?_)
      refine aw_istore (ls' := [(5, .int z2), (0, .ref (ad 352)), (1, .ref (ad v1)), (2, .int x2), (3, .int x3), (4, .int x4)]) dX4_fewestPayings_24 (by decide) rfl ?_
      refine aw_aload_n dX4_fewestPayings_26 rfl 1 rfl ?_
      refine aw_get dX4_fewestPayings_27 shC352 ckX4 flX4_9 (v := .ref (ad 353)) rfl ?_
      refine aw_iconst (v := 1) dX4_fewestPayings_30 (by decide) ?_
      refine aw_iload dX4_fewestPayings_31 5 rfl ?_
      refine aw_ishl dX4_fewestPayings_33 ?_
      refine aw_iload dX4_fewestPayings_34 0 rfl ?_
      obtain ⟨hi3, H⟩ := H
      refine aw_iastK (t0 := 0) (j := ((1 : Int32) <<< (x4 &&& 31)).toNatClampNeg) dX4_fewestPayings_36 shC353 rfl rfl hi3 ?_
      refine aw_iload_n dX4_fewestPayings_37 rfl 4 rfl ?_
      refine aw_iload dX4_fewestPayings_38 0 rfl ?_
      have H : True ∧ ∀ t4 : Int32, t4 = (if z2 = 0 then (0 : Int32) else ((1 : Int32) <<< (x4 &&& 31))) → (AW GC l ad (d + 1) mX4_fewestPayings 5 [(0, .ref (ad 352)), (1, .ref (ad v1)), (2, .int x2), (3, .int (x3 ||| t4)), (4, .int (x4 + (1 : Int32)))] [] (sI h1 353 ((1 : Int32) <<< (x4 &&& 31)).toNatClampNeg z2) (qi R)) := ⟨trivial, H⟩
      have K5 : ∀ t4 : Int32, (AW GC l ad (d + 1) mX4_fewestPayings 5 [(0, .ref (ad 352)), (1, .ref (ad v1)), (2, .int x2), (3, .int (x3 ||| t4)), (4, .int (x4 + (1 : Int32)))] [] (sI h1 353 ((1 : Int32) <<< (x4 &&& 31)).toNatClampNeg z2) (qi R)) → AW GC l ad (d + 1) mX4_fewestPayings 51 [(5, .int z2), (0, .ref (ad 352)), (1, .ref (ad v1)), (2, .int x2), (3, .int x3), (4, .int x4)] [.int t4, .int x3] (sI h1 353 ((1 : Int32) <<< (x4 &&& 31)).toNatClampNeg z2) (qi R) := by
        intro t4 H
        refine aw_ior dX4_fewestPayings_51 ?_
        refine aw_istore_n (ls' := [(3, .int (x3 ||| t4)), (5, .int z2), (0, .ref (ad 352)), (1, .ref (ad v1)), (2, .int x2), (4, .int x4)]) dX4_fewestPayings_52 rfl (by decide) rfl ?_
        refine aw_inc (mm := (1)) (ls' := [(4, .int (x4 + (1 : Int32))), (3, .int (x3 ||| t4)), (5, .int z2), (0, .ref (ad 352)), (1, .ref (ad v1)), (2, .int x2)]) dX4_fewestPayings_53 (by decide) (j := 5) rfl (by decide) rfl ?_
        refine aw_goto (tgt := 5) dX4_fewestPayings_56 (by decide) ?_
        exact aw_ls [3, 4, 5, 1, 0] rfl H
      refine aw_if_ne (tgt := 47) dX4_fewestPayings_40 (by decide) (fun hc6 => ?_) (fun hc6 => ?_)
      · refine aw_iconst (v := (1)) dX4_fewestPayings_47 (by decide) ?_
        refine aw_iload dX4_fewestPayings_48 5 rfl ?_
        refine aw_ishl dX4_fewestPayings_50 ?_
        exact K5 _ (H.2 _ (by simp only [if_neg hc6]))
      · refine aw_iconst (v := (0)) dX4_fewestPayings_43 (by decide) ?_
        refine aw_goto (tgt := 51) dX4_fewestPayings_44 (by decide) ?_
        exact K5 _ (H.2 _ (by simp only [if_pos hc6]))
set_option maxRecDepth 8000 in
set_option maxHeartbeats 1000000 in
theorem bX4_fewestPayings_62 {l : Launch} {ad : Nat → Nat} {d : Nat} {R : Int32 → aH → Prop} (v1 : Nat) (hv1 : isW GC v1) (x3 : Int32) (x4 : Int32)  (h : aH)
    (H : (x3 < x4 → ((¬ x3 = 0 → (AW GC l ad d mJ6_bitCount_0f7a4 0 [(0, .int x3)] [] h (qi fun z2 h1 => vp_in x3 64 ∧ (R (z2 - (h1.1 354 x3.toNatClampNeg)) h1)))) ∧ (x3 = 0 → (R (0 : Int32) h)))) ∧ (¬ x3 < x4 → (AW GC l ad d mX4_countGroups 0 [(0, .ref (ad 352)), (1, .int x4)] [] h (qv fun h5 => AW GC l ad (d + 1) mX4_fewestPayings 62 [(0, .ref (ad 352)), (3, .int x3), (4, .int (x4 + (1 : Int32)))] [] h5 (qi R))))) : AW GC l ad (d + 1) mX4_fewestPayings 62 [(0, .ref (ad 352)), (3, .int x3), (4, .int x4)] [] h (qi R) := by
  refine aw_iload dX4_fewestPayings_62 2 rfl ?_
  refine aw_iload_n dX4_fewestPayings_64 rfl 1 rfl ?_
  refine aw_icmp_gt (tgt := 80) dX4_fewestPayings_65 (by decide) (fun hc7 => ?_) (fun hc7 => ?_)
  · replace H := H.1 hc7
    refine aw_iload_n dX4_fewestPayings_80 rfl 1 rfl ?_
    refine aw_if_ne (tgt := 88) dX4_fewestPayings_81 (by decide) (fun hc4 => ?_) (fun hc4 => ?_)
    · replace H := H.1 hc4
      refine aw_iload_n dX4_fewestPayings_88 rfl 1 rfl ?_
      refine cvJ6_bitCount_0f7a4 stC dX4_fewestPayings_89 mlX4_51 (Nat.le_of_ble_eq_true rfl) H (fun z2 h1 H => ?_)
      refine aw_aload_n dX4_fewestPayings_92 rfl 0 rfl ?_
      refine aw_get dX4_fewestPayings_93 shC352 ckX4 flX4_15 (v := .ref (ad 354)) rfl ?_
      refine aw_iload_n dX4_fewestPayings_96 rfl 1 rfl ?_
      obtain ⟨hi3, H⟩ := H
      refine aw_ialdK (t0 := 0) (j := x3.toNatClampNeg) dX4_fewestPayings_97 shC354 rfl rfl hi3 ?_
      refine aw_isub dX4_fewestPayings_98 ?_
      exact aw_iret dX4_fewestPayings_99 rfl ⟨_, rfl, H⟩
    · replace H := H.2 hc4
      refine aw_iconst (v := 0) dX4_fewestPayings_84 (by decide) ?_
      refine aw_goto (tgt := 99) dX4_fewestPayings_85 (by decide) ?_
      exact aw_iret dX4_fewestPayings_99 rfl ⟨_, rfl, H⟩
  · replace H := H.2 hc7
    refine aw_aload_n dX4_fewestPayings_68 rfl 0 rfl ?_
    refine aw_iload dX4_fewestPayings_69 2 rfl ?_
    refine cvX4_countGroups dX4_fewestPayings_71 mlX4_47 shC352 (Nat.le_of_ble_eq_true rfl) H (fun h5 H => ?_)
    refine aw_inc (mm := (1)) (ls' := [(4, .int (x4 + (1 : Int32))), (0, .ref (ad 352)), (3, .int x3)]) dX4_fewestPayings_74 (by decide) (j := 2) rfl (by decide) rfl ?_
    refine aw_goto (tgt := 62) dX4_fewestPayings_77 (by decide) ?_
    exact aw_ls [1, 2, 0] rfl H
set_option maxRecDepth 8000 in
set_option maxHeartbeats 1000000 in
theorem bX4_countGroups_0 {l : Launch} {ad : Nat → Nat} {d : Nat} {R : aH → Prop}   (x1 : Int32)  (h : aH)
    (H : (x1 = (x1 &&& (-x1)) → (AW GC l ad (d + 1) mX4_countGroups 36 [(0, .ref (ad 352)), (1, .int x1), (3, .int (0 : Int32)), (4, .int (0 : Int32))] [] h (qv R))) ∧ (¬ x1 = (x1 &&& (-x1)) → (vp_in (x1 &&& (-x1)) 64 ∧ (vp_in (x1 ^^^ (x1 &&& (-x1))) 64 ∧ (vp_in x1 64 ∧ (∀ h4 : aH, h4 = (sI h 353 x1.toNatClampNeg ((h.1 353 (x1 &&& (-x1)).toNatClampNeg) + (h.1 353 (x1 ^^^ (x1 &&& (-x1))).toNatClampNeg))) → (AW GC l ad (d + 1) mX4_countGroups 36 [(0, .ref (ad 352)), (1, .int x1), (3, .int (0 : Int32)), (4, .int (0 : Int32))] [] h4 (qv R)))))))) : AW GC l ad (d + 1) mX4_countGroups 0 [(0, .ref (ad 352)), (1, .int x1)] [] h (qv R) := by
  refine aw_iload_n dX4_countGroups_0 rfl 1 rfl ?_
  refine aw_iload_n dX4_countGroups_1 rfl 1 rfl ?_
  refine aw_ineg dX4_countGroups_2 ?_
  refine aw_iand dX4_countGroups_3 ?_
  refine aw_istore_n (ls' := [(2, .int (x1 &&& (-x1))), (0, .ref (ad 352)), (1, .int x1)]) dX4_countGroups_4 rfl (by decide) rfl ?_
  refine aw_iload_n dX4_countGroups_5 rfl 2 rfl ?_
  refine aw_iload_n dX4_countGroups_6 rfl 0 rfl ?_
  refine aw_icmp_eq (tgt := 31) dX4_countGroups_7 (by decide) (fun hc5 => ?_) (fun hc5 => ?_)
  · replace H := H.1 hc5
    refine aw_iconst (v := 0) dX4_countGroups_31 (by decide) ?_
    refine aw_istore_n (ls' := [(3, .int (0 : Int32)), (2, .int (x1 &&& (-x1))), (0, .ref (ad 352)), (1, .int x1)]) dX4_countGroups_32 rfl (by decide) rfl ?_
    refine aw_iconst (v := 0) dX4_countGroups_33 (by decide) ?_
    refine aw_istore (ls' := [(4, .int (0 : Int32)), (3, .int (0 : Int32)), (2, .int (x1 &&& (-x1))), (0, .ref (ad 352)), (1, .int x1)]) dX4_countGroups_34 (by decide) rfl ?_
    exact aw_ls [3, 4, 1, 0] rfl H
  · replace H := H.2 hc5
    refine aw_aload_n dX4_countGroups_10 rfl 1 rfl ?_
    refine aw_get dX4_countGroups_11 shC352 ckX4 flX4_9 (v := .ref (ad 353)) rfl ?_
    refine aw_iload_n dX4_countGroups_14 rfl 2 rfl ?_
    refine aw_aload_n dX4_countGroups_15 rfl 1 rfl ?_
    refine aw_get dX4_countGroups_16 shC352 ckX4 flX4_9 (v := .ref (ad 353)) rfl ?_
    refine aw_iload_n dX4_countGroups_19 rfl 0 rfl ?_
    obtain ⟨hi1, H⟩ := H
    refine aw_ialdK (t0 := 0) (j := (x1 &&& (-x1)).toNatClampNeg) dX4_countGroups_20 shC353 rfl rfl hi1 ?_
    refine aw_aload_n dX4_countGroups_21 rfl 1 rfl ?_
    refine aw_get dX4_countGroups_22 shC352 ckX4 flX4_9 (v := .ref (ad 353)) rfl ?_
    refine aw_iload_n dX4_countGroups_25 rfl 2 rfl ?_
    refine aw_iload_n dX4_countGroups_26 rfl 0 rfl ?_
    refine aw_ixor dX4_countGroups_27 ?_
    obtain ⟨hi2, H⟩ := H
    refine aw_ialdK (t0 := 0) (j := (x1 ^^^ (x1 &&& (-x1))).toNatClampNeg) dX4_countGroups_28 shC353 rfl rfl hi2 ?_
    refine aw_iadd dX4_countGroups_29 ?_
    obtain ⟨hi3, H⟩ := H
    refine aw_iastK (t0 := 0) (j := x1.toNatClampNeg) dX4_countGroups_30 shC353 rfl rfl hi3 ?_
    refine aw_toph (fun h4 eh4 => ?_)
    replace H := H h4 eh4
    refine aw_iconst (v := 0) dX4_countGroups_31 (by decide) ?_
    refine aw_istore_n (ls' := [(3, .int (0 : Int32)), (2, .int (x1 &&& (-x1))), (0, .ref (ad 352)), (1, .int x1)]) dX4_countGroups_32 rfl (by decide) rfl ?_
    refine aw_iconst (v := 0) dX4_countGroups_33 (by decide) ?_
    refine aw_istore (ls' := [(4, .int (0 : Int32)), (3, .int (0 : Int32)), (2, .int (x1 &&& (-x1))), (0, .ref (ad 352)), (1, .int x1)]) dX4_countGroups_34 (by decide) rfl ?_
    exact aw_ls [3, 4, 1, 0] rfl H
set_option maxRecDepth 8000 in
set_option maxHeartbeats 1000000 in
theorem bX4_countGroups_36 {l : Launch} {ad : Nat → Nat} {d : Nat} {R : aH → Prop}   (x1 : Int32) (x3 : Int32) (x4 : Int32)  (h : aH)
    (H : ((6 : Int32) ≤ x4 → (vp_in x1 64 ∧ ((¬ (h.1 353 x1.toNatClampNeg) = 0 → (R (sI h 354 x1.toNatClampNeg (x3 + (0 : Int32))))) ∧ ((h.1 353 x1.toNatClampNeg) = 0 → (R (sI h 354 x1.toNatClampNeg (x3 + (1 : Int32)))))))) ∧ (¬ (6 : Int32) ≤ x4 → ((((x1 >>> (x4 &&& 31)) &&& (1 : Int32)) = 0 → (AW GC l ad (d + 1) mX4_countGroups 36 [(0, .ref (ad 352)), (1, .int x1), (3, .int x3), (4, .int (x4 + (1 : Int32)))] [] h (qv R))) ∧ (¬ ((x1 >>> (x4 &&& 31)) &&& (1 : Int32)) = 0 → (vp_in (x1 ^^^ ((1 : Int32) <<< (x4 &&& 31))) 64 ∧ (∀ t4 : Int32, t4 = (if x3 < (h.1 354 (x1 ^^^ ((1 : Int32) <<< (x4 &&& 31))).toNatClampNeg) then (h.1 354 (x1 ^^^ ((1 : Int32) <<< (x4 &&& 31))).toNatClampNeg) else x3) → (AW GC l ad (d + 1) mX4_countGroups 36 [(0, .ref (ad 352)), (1, .int x1), (3, .int t4), (4, .int (x4 + (1 : Int32)))] [] h (qv R)))))))) : AW GC l ad (d + 1) mX4_countGroups 36 [(0, .ref (ad 352)), (1, .int x1), (3, .int x3), (4, .int x4)] [] h (qv R) := by
  refine aw_iload dX4_countGroups_36 3 rfl ?_
  refine aw_bipush (v := 6) dX4_countGroups_38 (by decide) ?_
  refine aw_icmp_ge (tgt := 74) dX4_countGroups_40 (by decide) (fun hc6 => ?_) (fun hc6 => ?_)
  · replace H := H.1 hc6
    refine aw_aload_n dX4_countGroups_74 rfl 0 rfl ?_
    refine aw_get dX4_countGroups_75 shC352 ckX4 flX4_15 (v := .ref (ad 354)) rfl ?_
    refine aw_iload_n dX4_countGroups_78 rfl 1 rfl ?_
    refine aw_iload_n dX4_countGroups_79 rfl 2 rfl ?_
    refine aw_aload_n dX4_countGroups_80 rfl 0 rfl ?_
    refine aw_get dX4_countGroups_81 shC352 ckX4 flX4_9 (v := .ref (ad 353)) rfl ?_
    refine aw_iload_n dX4_countGroups_84 rfl 1 rfl ?_
    obtain ⟨hi1, H⟩ := H
    refine aw_ialdK (t0 := 0) (j := x1.toNatClampNeg) dX4_countGroups_85 shC353 rfl rfl hi1 ?_
    refine aw_if_ne (tgt := 93) dX4_countGroups_86 (by decide) (fun hc2 => ?_) (fun hc2 => ?_)
    · replace H := H.1 hc2
      refine aw_iconst (v := 0) dX4_countGroups_93 (by decide) ?_
      refine aw_iadd dX4_countGroups_94 ?_
      refine aw_iastK (t0 := 0) (j := x1.toNatClampNeg) dX4_countGroups_95 shC354 rfl rfl hi1 ?_
      exact aw_vret dX4_countGroups_96 rfl ⟨rfl, H⟩
    · replace H := H.2 hc2
      refine aw_iconst (v := 1) dX4_countGroups_89 (by decide) ?_
      refine aw_goto (tgt := 94) dX4_countGroups_90 (by decide) ?_
      refine aw_iadd dX4_countGroups_94 ?_
      refine aw_iastK (t0 := 0) (j := x1.toNatClampNeg) dX4_countGroups_95 shC354 rfl rfl hi1 ?_
      exact aw_vret dX4_countGroups_96 rfl ⟨rfl, H⟩
  · replace H := H.2 hc6
    refine aw_iload_n dX4_countGroups_43 rfl 1 rfl ?_
    refine aw_iload dX4_countGroups_44 3 rfl ?_
    refine aw_ishr dX4_countGroups_46 ?_
    refine aw_iconst (v := 1) dX4_countGroups_47 (by decide) ?_
    refine aw_iand dX4_countGroups_48 ?_
    refine aw_if_eq (tgt := 68) dX4_countGroups_49 (by decide) (fun hc5 => ?_) (fun hc5 => ?_)
    · replace H := H.1 hc5
      refine aw_inc (mm := (1)) (ls' := [(4, .int (x4 + (1 : Int32))), (0, .ref (ad 352)), (1, .int x1), (3, .int x3)]) dX4_countGroups_68 (by decide) (j := 3) rfl (by decide) rfl ?_
      refine aw_goto (tgt := 36) dX4_countGroups_71 (by decide) ?_
      exact aw_ls [1, 2, 3, 0] rfl H
    · replace H := H.2 hc5
      refine aw_iload_n dX4_countGroups_52 rfl 2 rfl ?_
      refine aw_aload_n dX4_countGroups_53 rfl 0 rfl ?_
      refine aw_get dX4_countGroups_54 shC352 ckX4 flX4_15 (v := .ref (ad 354)) rfl ?_
      refine aw_iload_n dX4_countGroups_57 rfl 1 rfl ?_
      refine aw_iconst (v := 1) dX4_countGroups_58 (by decide) ?_
      refine aw_iload dX4_countGroups_59 3 rfl ?_
      refine aw_ishl dX4_countGroups_61 ?_
      refine aw_ixor dX4_countGroups_62 ?_
      obtain ⟨hi3, H⟩ := H
      refine aw_ialdK (t0 := 0) (j := (x1 ^^^ ((1 : Int32) <<< (x4 &&& 31))).toNatClampNeg) dX4_countGroups_63 shC354 rfl rfl hi3 ?_
      refine aw_mmax dX4_countGroups_64 mlX4_56 (Nat.le_of_ble_eq_true rfl) ?_
      refine aw_topi (fun t4 et4 => ?_)
      replace H := H t4 et4
      refine aw_istore_n (ls' := [(3, .int t4), (0, .ref (ad 352)), (1, .int x1), (4, .int x4)]) dX4_countGroups_67 rfl (by decide) rfl ?_
      refine aw_inc (mm := (1)) (ls' := [(4, .int (x4 + (1 : Int32))), (3, .int t4), (0, .ref (ad 352)), (1, .int x1)]) dX4_countGroups_68 (by decide) (j := 3) rfl (by decide) rfl ?_
      refine aw_goto (tgt := 36) dX4_countGroups_71 (by decide) ?_
      exact aw_ls [2, 3, 1, 0] rfl H
set_option maxRecDepth 8000 in
set_option maxHeartbeats 1000000 in
theorem bX4_ringOf_0 {l : Launch} {ad : Nat → Nat} {d : Nat} {R : Int32 → aH → Prop} (v1 : Nat) (hv1 : isW GC v1) (x2 : Int32)  (h : aH)
    (H : AW GC l ad (d + 1) mX4_ringOf 10 [(0, .ref (ad 352)), (1, .ref (ad v1)), (3, .int (if (6 : Int32) < x2 then (6 : Int32) else x2)), (4, .int (0 : Int32))] [] h (qi R)) : AW GC l ad (d + 1) mX4_ringOf 0 [(0, .ref (ad 352)), (1, .ref (ad v1)), (2, .int x2)] [] h (qi R) := by
  refine aw_iload_n dX4_ringOf_0 rfl 2 rfl ?_
  refine aw_bipush (v := 6) dX4_ringOf_1 (by decide) ?_
  refine aw_mmin dX4_ringOf_3 mlX4_62 (Nat.le_of_ble_eq_true rfl) ?_
  refine aw_istore_n (ls' := [(3, .int (if (6 : Int32) < x2 then (6 : Int32) else x2)), (0, .ref (ad 352)), (1, .ref (ad v1)), (2, .int x2)]) dX4_ringOf_6 rfl (by decide) rfl ?_
  refine aw_iconst (v := 0) dX4_ringOf_7 (by decide) ?_
  refine aw_istore (ls' := [(4, .int (0 : Int32)), (3, .int (if (6 : Int32) < x2 then (6 : Int32) else x2)), (0, .ref (ad 352)), (1, .ref (ad v1)), (2, .int x2)]) dX4_ringOf_8 (by decide) rfl ?_
  exact aw_ls [2, 3, 1, 0] rfl H
set_option maxRecDepth 8000 in
set_option maxHeartbeats 1000000 in
theorem bX4_ringOf_10 {l : Launch} {ad : Nat → Nat} {d : Nat} {R : Int32 → aH → Prop} (v1 : Nat) (hv1 : isW GC v1) (x3 : Int32) (x4 : Int32)  (h : aH)
    (H : (x3 ≤ x4 → (AW GC l ad (d + 1) mX4_ringOf 38 [(0, .ref (ad 352)), (3, .int x3), (4, .int (0 : Int32))] [] h (qi R))) ∧ (¬ x3 ≤ x4 → (AW GC l ad d mX4_lendersOf 0 [(0, .int x4), (1, .ref (ad v1))] [] h (qi fun z2 h1 => vp_in x4 6 ∧ (AW GC l ad (d + 1) mX4_ringOf 10 [(0, .ref (ad 352)), (1, .ref (ad v1)), (3, .int x3), (4, .int (x4 + (1 : Int32)))] [] (sI h1 355 x4.toNatClampNeg z2) (qi R)))))) : AW GC l ad (d + 1) mX4_ringOf 10 [(0, .ref (ad 352)), (1, .ref (ad v1)), (3, .int x3), (4, .int x4)] [] h (qi R) := by
  refine aw_iload dX4_ringOf_10 3 rfl ?_
  refine aw_iload_n dX4_ringOf_12 rfl 2 rfl ?_
  refine aw_icmp_ge (tgt := 35) dX4_ringOf_13 (by decide) (fun hc4 => ?_) (fun hc4 => ?_)
  · replace H := H.1 hc4
    refine aw_iconst (v := 0) dX4_ringOf_35 (by decide) ?_
    refine aw_istore (ls' := [(4, .int (0 : Int32)), (0, .ref (ad 352)), (1, .ref (ad v1)), (3, .int x3)]) dX4_ringOf_36 (by decide) rfl ?_
    exact aw_ls [1, 3, 0] rfl H
  · replace H := H.2 hc4
    refine aw_aload_n dX4_ringOf_16 rfl 0 rfl ?_
    refine aw_get dX4_ringOf_17 shC352 ckX4 flX4_18 (v := .ref (ad 355)) rfl ?_
    refine aw_iload dX4_ringOf_20 3 rfl ?_
    refine aw_iload dX4_ringOf_22 3 rfl ?_
    refine aw_aload_n dX4_ringOf_24 rfl 1 rfl ?_
    refine cvX4_lendersOf dX4_ringOf_25 mlX4_65 (Nat.le_of_ble_eq_true rfl) H (fun z2 h1 H => ?_)
    obtain ⟨hi3, H⟩ := H
    refine aw_iastK (t0 := 0) (j := x4.toNatClampNeg) dX4_ringOf_28 shC355 rfl rfl hi3 ?_
    refine aw_inc (mm := (1)) (ls' := [(4, .int (x4 + (1 : Int32))), (0, .ref (ad 352)), (1, .ref (ad v1)), (3, .int x3)]) dX4_ringOf_29 (by decide) (j := 3) rfl (by decide) rfl ?_
    refine aw_goto (tgt := 10) dX4_ringOf_32 (by decide) ?_
    exact aw_ls [1, 2, 3, 0] rfl H
set_option maxRecDepth 8000 in
set_option maxHeartbeats 1000000 in
theorem bX4_ringOf_38 {l : Launch} {ad : Nat → Nat} {d : Nat} {R : Int32 → aH → Prop} (v1 : Nat) (hv1 : isW GC v1) (x3 : Int32) (x4 : Int32)  (h : aH)
    (H : (x3 ≤ x4 → (AW GC l ad (d + 1) mX4_ringOf 103 [(0, .ref (ad 352)), (3, .int x3), (4, .int (0 : Int32)), (5, .int (0 : Int32))] [] h (qi R))) ∧ (¬ x3 ≤ x4 → (AW GC l ad (d + 1) mX4_ringOf 47 [(0, .ref (ad 352)), (3, .int x3), (4, .int x4), (5, .int (0 : Int32))] [] h (qi R)))) : AW GC l ad (d + 1) mX4_ringOf 38 [(0, .ref (ad 352)), (3, .int x3), (4, .int x4)] [] h (qi R) := by
  refine aw_iload dX4_ringOf_38 2 rfl ?_
  refine aw_iload_n dX4_ringOf_40 rfl 1 rfl ?_
  refine aw_icmp_ge (tgt := 97) dX4_ringOf_41 (by decide) (fun hc1 => ?_) (fun hc1 => ?_)
  · replace H := H.1 hc1
    refine aw_iconst (v := 0) dX4_ringOf_97 (by decide) ?_
    refine aw_istore (ls' := [(4, .int (0 : Int32)), (0, .ref (ad 352)), (3, .int x3)]) dX4_ringOf_98 (by decide) rfl ?_
    refine aw_iconst (v := 0) dX4_ringOf_100 (by decide) ?_
    refine aw_istore (ls' := [(5, .int (0 : Int32)), (4, .int (0 : Int32)), (0, .ref (ad 352)), (3, .int x3)]) dX4_ringOf_101 (by decide) rfl ?_
    exact aw_ls [2, 3, 1, 0] rfl H
  · replace H := H.2 hc1
    refine aw_iconst (v := 0) dX4_ringOf_44 (by decide) ?_
    refine aw_istore (ls' := [(5, .int (0 : Int32)), (0, .ref (ad 352)), (3, .int x3), (4, .int x4)]) dX4_ringOf_45 (by decide) rfl ?_
    exact aw_ls [1, 2, 3, 0] rfl H
set_option maxRecDepth 8000 in
set_option maxHeartbeats 1000000 in
theorem bX4_ringOf_47 {l : Launch} {ad : Nat → Nat} {d : Nat} {R : Int32 → aH → Prop} (v1 : Nat) (hv1 : isW GC v1) (x3 : Int32) (x4 : Int32) (x5 : Int32)  (h : aH)
    (H : (x3 ≤ x5 → (AW GC l ad (d + 1) mX4_ringOf 38 [(0, .ref (ad 352)), (3, .int x3), (4, .int (x4 + (1 : Int32)))] [] h (qi R))) ∧ (¬ x3 ≤ x5 → (vp_in x5 6 ∧ (((((h.1 355 x5.toNatClampNeg) >>> (x4 &&& 31)) &&& (1 : Int32)) = 0 → (AW GC l ad (d + 1) mX4_ringOf 47 [(0, .ref (ad 352)), (3, .int x3), (4, .int x4), (5, .int (x5 + (1 : Int32)))] [] h (qi R))) ∧ (¬ (((h.1 355 x5.toNatClampNeg) >>> (x4 &&& 31)) &&& (1 : Int32)) = 0 → (vp_in x4 6 ∧ (AW GC l ad (d + 1) mX4_ringOf 47 [(0, .ref (ad 352)), (3, .int x3), (4, .int x4), (5, .int (x5 + (1 : Int32)))] [] (sI h 355 x5.toNatClampNeg ((h.1 355 x5.toNatClampNeg) ||| (h.1 355 x4.toNatClampNeg))) (qi R)))))))) : AW GC l ad (d + 1) mX4_ringOf 47 [(0, .ref (ad 352)), (3, .int x3), (4, .int x4), (5, .int x5)] [] h (qi R) := by
  refine aw_iload dX4_ringOf_47 3 rfl ?_
  refine aw_iload_n dX4_ringOf_49 rfl 1 rfl ?_
  refine aw_icmp_ge (tgt := 91) dX4_ringOf_50 (by decide) (fun hc4 => ?_) (fun hc4 => ?_)
  · replace H := H.1 hc4
    refine aw_inc (mm := (1)) (ls' := [(4, .int (x4 + (1 : Int32))), (0, .ref (ad 352)), (3, .int x3), (5, .int x5)]) dX4_ringOf_91 (by decide) (j := 2) rfl (by decide) rfl ?_
    refine aw_goto (tgt := 38) dX4_ringOf_94 (by decide) ?_
    exact aw_ls [1, 2, 0] rfl H
  · replace H := H.2 hc4
    refine aw_aload_n dX4_ringOf_53 rfl 0 rfl ?_
    refine aw_get dX4_ringOf_54 shC352 ckX4 flX4_18 (v := .ref (ad 355)) rfl ?_
    refine aw_iload dX4_ringOf_57 3 rfl ?_
    obtain ⟨hi1, H⟩ := H
    refine aw_ialdK (t0 := 0) (j := x5.toNatClampNeg) dX4_ringOf_59 shC355 rfl rfl hi1 ?_
    refine aw_iload dX4_ringOf_60 2 rfl ?_
    refine aw_ishr dX4_ringOf_62 ?_
    refine aw_iconst (v := 1) dX4_ringOf_63 (by decide) ?_
    refine aw_iand dX4_ringOf_64 ?_
    refine aw_if_eq (tgt := 85) dX4_ringOf_65 (by decide) (fun hc3 => ?_) (fun hc3 => ?_)
    · replace H := H.1 hc3
      refine aw_inc (mm := (1)) (ls' := [(5, .int (x5 + (1 : Int32))), (0, .ref (ad 352)), (3, .int x3), (4, .int x4)]) dX4_ringOf_85 (by decide) (j := 3) rfl (by decide) rfl ?_
      refine aw_goto (tgt := 47) dX4_ringOf_88 (by decide) ?_
      exact aw_ls [1, 2, 3, 0] rfl H
    · replace H := H.2 hc3
      refine aw_aload_n dX4_ringOf_68 rfl 0 rfl ?_
      refine aw_get dX4_ringOf_69 shC352 ckX4 flX4_18 (v := .ref (ad 355)) rfl ?_
      refine aw_iload dX4_ringOf_72 3 rfl ?_
      refine aw_dup2 dX4_ringOf_74 rfl rfl ?_
      refine aw_ialdK (t0 := 0) (j := x5.toNatClampNeg) dX4_ringOf_75 shC355 rfl rfl hi1 ?_
      refine aw_aload_n dX4_ringOf_76 rfl 0 rfl ?_
      refine aw_get dX4_ringOf_77 shC352 ckX4 flX4_18 (v := .ref (ad 355)) rfl ?_
      refine aw_iload dX4_ringOf_80 2 rfl ?_
      obtain ⟨hi2, H⟩ := H
      refine aw_ialdK (t0 := 0) (j := x4.toNatClampNeg) dX4_ringOf_82 shC355 rfl rfl hi2 ?_
      refine aw_ior dX4_ringOf_83 ?_
      refine aw_iastK (t0 := 0) (j := x5.toNatClampNeg) dX4_ringOf_84 shC355 rfl rfl hi1 ?_
      refine aw_inc (mm := (1)) (ls' := [(5, .int (x5 + (1 : Int32))), (0, .ref (ad 352)), (3, .int x3), (4, .int x4)]) dX4_ringOf_85 (by decide) (j := 3) rfl (by decide) rfl ?_
      refine aw_goto (tgt := 47) dX4_ringOf_88 (by decide) ?_
      exact aw_ls [1, 2, 3, 0] rfl H
set_option maxRecDepth 8000 in
set_option maxHeartbeats 1000000 in
theorem bX4_ringOf_103 {l : Launch} {ad : Nat → Nat} {d : Nat} {R : Int32 → aH → Prop} (v1 : Nat) (hv1 : isW GC v1) (x3 : Int32) (x4 : Int32) (x5 : Int32)  (h : aH)
    (H : (x3 ≤ x5 → (R x4 h)) ∧ (¬ x3 ≤ x5 → (vp_in x5 6 ∧ (∀ t2 : Int32, t2 = (x4 ||| ((h.1 355 x5.toNatClampNeg) &&& ((1 : Int32) <<< (x5 &&& 31)))) → (AW GC l ad (d + 1) mX4_ringOf 103 [(0, .ref (ad 352)), (3, .int x3), (4, .int t2), (5, .int (x5 + (1 : Int32)))] [] h (qi R)))))) : AW GC l ad (d + 1) mX4_ringOf 103 [(0, .ref (ad 352)), (3, .int x3), (4, .int x4), (5, .int x5)] [] h (qi R) := by
  refine aw_iload dX4_ringOf_103 3 rfl ?_
  refine aw_iload_n dX4_ringOf_105 rfl 1 rfl ?_
  refine aw_icmp_ge (tgt := 132) dX4_ringOf_106 (by decide) (fun hc3 => ?_) (fun hc3 => ?_)
  · replace H := H.1 hc3
    refine aw_iload dX4_ringOf_132 2 rfl ?_
    exact aw_iret dX4_ringOf_134 rfl ⟨_, rfl, H⟩
  · replace H := H.2 hc3
    refine aw_iload dX4_ringOf_109 2 rfl ?_
    refine aw_aload_n dX4_ringOf_111 rfl 0 rfl ?_
    refine aw_get dX4_ringOf_112 shC352 ckX4 flX4_18 (v := .ref (ad 355)) rfl ?_
    refine aw_iload dX4_ringOf_115 3 rfl ?_
    obtain ⟨hi1, H⟩ := H
    refine aw_ialdK (t0 := 0) (j := x5.toNatClampNeg) dX4_ringOf_117 shC355 rfl rfl hi1 ?_
    refine aw_iconst (v := 1) dX4_ringOf_118 (by decide) ?_
    refine aw_iload dX4_ringOf_119 3 rfl ?_
    refine aw_ishl dX4_ringOf_121 ?_
    refine aw_iand dX4_ringOf_122 ?_
    refine aw_ior dX4_ringOf_123 ?_
    refine aw_topi (fun t2 et2 => ?_)
    replace H := H t2 et2
    refine aw_istore (ls' := [(4, .int t2), (0, .ref (ad 352)), (3, .int x3), (5, .int x5)]) dX4_ringOf_124 (by decide) rfl ?_
    refine aw_inc (mm := (1)) (ls' := [(5, .int (x5 + (1 : Int32))), (4, .int t2), (0, .ref (ad 352)), (3, .int x3)]) dX4_ringOf_126 (by decide) (j := 3) rfl (by decide) rfl ?_
    refine aw_goto (tgt := 103) dX4_ringOf_129 (by decide) ?_
    exact aw_ls [2, 3, 1, 0] rfl H
set_option maxRecDepth 8000 in
set_option maxHeartbeats 1000000 in
theorem bX4_lendersOf_0 {l : Launch} {ad : Nat → Nat} {d : Nat} {R : Int32 → aH → Prop} (v1 : Nat) (hv1 : isW GC v1) (x0 : Int32)  (h : aH)
    (H : AW GC l ad d mX4_lendersOf 4 [(0, .int x0), (1, .ref (ad v1)), (2, .int (0 : Int32)), (3, .int (0 : Int32))] [] h (qi R)) : AW GC l ad d mX4_lendersOf 0 [(0, .int x0), (1, .ref (ad v1))] [] h (qi R) := by
  refine aw_iconst (v := 0) dX4_lendersOf_0 (by decide) ?_
  refine aw_istore_n (ls' := [(2, .int (0 : Int32)), (0, .int x0), (1, .ref (ad v1))]) dX4_lendersOf_1 rfl (by decide) rfl ?_
  refine aw_iconst (v := 0) dX4_lendersOf_2 (by decide) ?_
  refine aw_istore_n (ls' := [(3, .int (0 : Int32)), (2, .int (0 : Int32)), (0, .int x0), (1, .ref (ad v1))]) dX4_lendersOf_3 rfl (by decide) rfl ?_
  exact aw_ls [2, 3, 1, 0] rfl H
set_option maxRecDepth 8000 in
set_option maxHeartbeats 1000000 in
theorem bX4_lendersOf_4 {l : Launch} {ad : Nat → Nat} {d : Nat} {R : Int32 → aH → Prop} (v1 : Nat) (hv1 : isW GC v1) (x0 : Int32) (x2 : Int32) (x3 : Int32)  (h : aH)
    (H : ((h.1 v1 11) ≤ x3 → (R x2 h)) ∧ (¬ (h.1 v1 11) ≤ x3 → (vp_in x3 8 ∧ ((¬ (h.1 (v1 + 8) x3.toNatClampNeg) = (1 : Int32) → (AW GC l ad d mX4_lendersOf 4 [(0, .int x0), (1, .ref (ad v1)), (2, .int x2), (3, .int (x3 + (1 : Int32)))] [] h (qi R))) ∧ ((h.1 (v1 + 8) x3.toNatClampNeg) = (1 : Int32) → ((¬ (h.1 (v1 + 4) x3.toNatClampNeg) = x0 → (AW GC l ad d mX4_lendersOf 4 [(0, .int x0), (1, .ref (ad v1)), (2, .int x2), (3, .int (x3 + (1 : Int32)))] [] h (qi R))) ∧ ((h.1 (v1 + 4) x3.toNatClampNeg) = x0 → (∀ t2 : Int32, t2 = (x2 ||| ((1 : Int32) <<< ((h.1 (v1 + 3) x3.toNatClampNeg) &&& 31))) → (AW GC l ad d mX4_lendersOf 4 [(0, .int x0), (1, .ref (ad v1)), (2, .int t2), (3, .int (x3 + (1 : Int32)))] [] h (qi R)))))))))) : AW GC l ad d mX4_lendersOf 4 [(0, .int x0), (1, .ref (ad v1)), (2, .int x2), (3, .int x3)] [] h (qi R) := by
  refine aw_iload_n dX4_lendersOf_4 rfl 3 rfl ?_
  refine aw_aload_n dX4_lendersOf_5 rfl 1 rfl ?_
  refine aw_get dX4_lendersOf_6 hv1.1 ckX8 flX4_69 (v := .int (h.1 v1 11)) rfl ?_
  refine aw_icmp_ge (tgt := 49) dX4_lendersOf_9 (by decide) (fun hc5 => ?_) (fun hc5 => ?_)
  · replace H := H.1 hc5
    refine aw_iload_n dX4_lendersOf_49 rfl 2 rfl ?_
    exact aw_iret dX4_lendersOf_50 rfl ⟨_, rfl, H⟩
  · replace H := H.2 hc5
    refine aw_aload_n dX4_lendersOf_12 rfl 1 rfl ?_
    refine aw_get dX4_lendersOf_13 hv1.1 ckX8 flX4_73 (v := .ref (ad (v1 + 8))) rfl ?_
    refine aw_iload_n dX4_lendersOf_16 rfl 3 rfl ?_
    obtain ⟨hi1, H⟩ := H
    refine aw_ialdK (t0 := 0) (j := x3.toNatClampNeg) dX4_lendersOf_17 (hv1.2 7 (by decide)) rfl rfl hi1 ?_
    refine aw_iconst (v := 1) dX4_lendersOf_18 (by decide) ?_
    refine aw_icmp_ne (tgt := 43) dX4_lendersOf_19 (by decide) (fun hc4 => ?_) (fun hc4 => ?_)
    · replace H := H.1 hc4
      refine aw_inc (mm := (1)) (ls' := [(3, .int (x3 + (1 : Int32))), (0, .int x0), (1, .ref (ad v1)), (2, .int x2)]) dX4_lendersOf_43 (by decide) (j := 3) rfl (by decide) rfl ?_
      refine aw_goto (tgt := 4) dX4_lendersOf_46 (by decide) ?_
      exact aw_ls [1, 2, 3, 0] rfl H
    · replace H := H.2 hc4
      refine aw_aload_n dX4_lendersOf_22 rfl 1 rfl ?_
      refine aw_get dX4_lendersOf_23 hv1.1 ckX8 flX4_76 (v := .ref (ad (v1 + 4))) rfl ?_
      refine aw_iload_n dX4_lendersOf_26 rfl 3 rfl ?_
      refine aw_ialdK (t0 := 0) (j := x3.toNatClampNeg) dX4_lendersOf_27 (hv1.2 3 (by decide)) rfl rfl hi1 ?_
      refine aw_iload_n dX4_lendersOf_28 rfl 0 rfl ?_
      refine aw_icmp_ne (tgt := 43) dX4_lendersOf_29 (by decide) (fun hc3 => ?_) (fun hc3 => ?_)
      · replace H := H.1 hc3
        refine aw_inc (mm := (1)) (ls' := [(3, .int (x3 + (1 : Int32))), (0, .int x0), (1, .ref (ad v1)), (2, .int x2)]) dX4_lendersOf_43 (by decide) (j := 3) rfl (by decide) rfl ?_
        refine aw_goto (tgt := 4) dX4_lendersOf_46 (by decide) ?_
        exact aw_ls [1, 2, 3, 0] rfl H
      · replace H := H.2 hc3
        refine aw_iload_n dX4_lendersOf_32 rfl 2 rfl ?_
        refine aw_iconst (v := 1) dX4_lendersOf_33 (by decide) ?_
        refine aw_aload_n dX4_lendersOf_34 rfl 1 rfl ?_
        refine aw_get dX4_lendersOf_35 hv1.1 ckX8 flX4_79 (v := .ref (ad (v1 + 3))) rfl ?_
        refine aw_iload_n dX4_lendersOf_38 rfl 3 rfl ?_
        refine aw_ialdK (t0 := 0) (j := x3.toNatClampNeg) dX4_lendersOf_39 (hv1.2 2 (by decide)) rfl rfl hi1 ?_
        refine aw_ishl dX4_lendersOf_40 ?_
        refine aw_ior dX4_lendersOf_41 ?_
        refine aw_topi (fun t2 et2 => ?_)
        replace H := H t2 et2
        refine aw_istore_n (ls' := [(2, .int t2), (0, .int x0), (1, .ref (ad v1)), (3, .int x3)]) dX4_lendersOf_42 rfl (by decide) rfl ?_
        refine aw_inc (mm := (1)) (ls' := [(3, .int (x3 + (1 : Int32))), (2, .int t2), (0, .int x0), (1, .ref (ad v1))]) dX4_lendersOf_43 (by decide) (j := 3) rfl (by decide) rfl ?_
        refine aw_goto (tgt := 4) dX4_lendersOf_46 (by decide) ?_
        exact aw_ls [2, 3, 1, 0] rfl H
set_option maxRecDepth 8000 in
set_option maxHeartbeats 1000000 in
theorem bX4_findOrder_0 {l : Launch} {ad : Nat → Nat} {d : Nat} {R : aH → Prop} (v1 : Nat) (hv1 : isW GC v1)   (h : aH)
    (H : AW GC l ad (d + 1) mX4_findOrder 7 [(0, .ref (ad 352)), (1, .ref (ad v1)), (2, .int (0 : Int32))] [] (sI h 352 7 (0 : Int32)) (qv R)) : AW GC l ad (d + 1) mX4_findOrder 0 [(0, .ref (ad 352)), (1, .ref (ad v1))] [] h (qv R) := by
  refine aw_aload_n dX4_findOrder_0 rfl 0 rfl ?_
  refine aw_iconst (v := 0) dX4_findOrder_1 (by decide) ?_
  refine aw_putI dX4_findOrder_2 shC352 ckX4 flX4_82 rfl (fun _ => rfl) rfl rfl ?_
  refine aw_iconst (v := 0) dX4_findOrder_5 (by decide) ?_
  refine aw_istore_n (ls' := [(2, .int (0 : Int32)), (0, .ref (ad 352)), (1, .ref (ad v1))]) dX4_findOrder_6 rfl (by decide) rfl ?_
  exact aw_ls [1, 2, 0] rfl H
set_option maxRecDepth 8000 in
set_option maxHeartbeats 1000000 in
theorem bX4_findOrder_7 {l : Launch} {ad : Nat → Nat} {d : Nat} {R : aH → Prop} (v1 : Nat) (hv1 : isW GC v1) (x2 : Int32)  (h : aH)
    (H : ((h.1 v1 11) ≤ x2 → (AW GC l ad (d + 1) mX4_findOrder 66 [(0, .ref (ad 352)), (1, .ref (ad v1)), (2, .int (0 : Int32))] [] (sI h 352 8 (-1 : Int32)) (qv R))) ∧ (¬ (h.1 v1 11) ≤ x2 → (((4 : Int32) ≤ (h.1 352 7) → (AW GC l ad (d + 1) mX4_findOrder 66 [(0, .ref (ad 352)), (1, .ref (ad v1)), (2, .int (0 : Int32))] [] (sI h 352 8 (-1 : Int32)) (qv R))) ∧ (¬ (4 : Int32) ≤ (h.1 352 7) → (vp_in x2 8 ∧ ((¬ (h.1 (v1 + 8) x2.toNatClampNeg) = (1 : Int32) → (AW GC l ad (d + 1) mX4_findOrder 7 [(0, .ref (ad 352)), (1, .ref (ad v1)), (2, .int (x2 + (1 : Int32)))] [] h (qv R))) ∧ ((h.1 (v1 + 8) x2.toNatClampNeg) = (1 : Int32) → (vp_in (h.1 352 7) 4 ∧ (∀ h3 : aH, h3 = (sI (sI h 356 (h.1 352 7).toNatClampNeg x2) 352 7 (((sI h 356 (h.1 352 7).toNatClampNeg x2).1 352 7) + (1 : Int32))) → (AW GC l ad (d + 1) mX4_findOrder 7 [(0, .ref (ad 352)), (1, .ref (ad v1)), (2, .int (x2 + (1 : Int32)))] [] h3 (qv R))))))))))) : AW GC l ad (d + 1) mX4_findOrder 7 [(0, .ref (ad 352)), (1, .ref (ad v1)), (2, .int x2)] [] h (qv R) := by
  refine aw_iload_n dX4_findOrder_7 rfl 2 rfl ?_
  refine aw_aload_n dX4_findOrder_8 rfl 1 rfl ?_
  refine aw_get dX4_findOrder_9 hv1.1 ckX8 flX4_69 (v := .int (h.1 v1 11)) rfl ?_
  refine aw_icmp_ge (tgt := 59) dX4_findOrder_12 (by decide) (fun hc6 => ?_) (fun hc6 => ?_)
  · replace H := H.1 hc6
    refine aw_aload_n dX4_findOrder_59 rfl 0 rfl ?_
    refine aw_iconst (v := (-1)) dX4_findOrder_60 (by decide) ?_
    refine aw_putI dX4_findOrder_61 shC352 ckX4 flX4_85 rfl (fun _ => rfl) rfl rfl ?_
    refine aw_iconst (v := 0) dX4_findOrder_64 (by decide) ?_
    refine aw_istore_n (ls' := [(2, .int (0 : Int32)), (0, .ref (ad 352)), (1, .ref (ad v1))]) dX4_findOrder_65 rfl (by decide) rfl ?_
    exact aw_ls [1, 2, 0] rfl H
  · replace H := H.2 hc6
    refine aw_aload_n dX4_findOrder_15 rfl 0 rfl ?_
    refine aw_get dX4_findOrder_16 shC352 ckX4 flX4_82 (v := .int (h.1 352 7)) rfl ?_
    refine aw_iconst (v := 4) dX4_findOrder_19 (by decide) ?_
    refine aw_icmp_ge (tgt := 59) dX4_findOrder_20 (by decide) (fun hc5 => ?_) (fun hc5 => ?_)
    · replace H := H.1 hc5
      refine aw_aload_n dX4_findOrder_59 rfl 0 rfl ?_
      refine aw_iconst (v := (-1)) dX4_findOrder_60 (by decide) ?_
      refine aw_putI dX4_findOrder_61 shC352 ckX4 flX4_85 rfl (fun _ => rfl) rfl rfl ?_
      refine aw_iconst (v := 0) dX4_findOrder_64 (by decide) ?_
      refine aw_istore_n (ls' := [(2, .int (0 : Int32)), (0, .ref (ad 352)), (1, .ref (ad v1))]) dX4_findOrder_65 rfl (by decide) rfl ?_
      exact aw_ls [1, 2, 0] rfl H
    · replace H := H.2 hc5
      refine aw_aload_n dX4_findOrder_23 rfl 1 rfl ?_
      refine aw_get dX4_findOrder_24 hv1.1 ckX8 flX4_73 (v := .ref (ad (v1 + 8))) rfl ?_
      refine aw_iload_n dX4_findOrder_27 rfl 2 rfl ?_
      obtain ⟨hi1, H⟩ := H
      refine aw_ialdK (t0 := 0) (j := x2.toNatClampNeg) dX4_findOrder_28 (hv1.2 7 (by decide)) rfl rfl hi1 ?_
      refine aw_iconst (v := 1) dX4_findOrder_29 (by decide) ?_
      refine aw_icmp_ne (tgt := 53) dX4_findOrder_30 (by decide) (fun hc4 => ?_) (fun hc4 => ?_)
      · replace H := H.1 hc4
        refine aw_inc (mm := (1)) (ls' := [(2, .int (x2 + (1 : Int32))), (0, .ref (ad 352)), (1, .ref (ad v1))]) dX4_findOrder_53 (by decide) (j := 2) rfl (by decide) rfl ?_
        refine aw_goto (tgt := 7) dX4_findOrder_56 (by decide) ?_
        exact aw_ls [1, 2, 0] rfl H
      · replace H := H.2 hc4
        refine aw_aload_n dX4_findOrder_33 rfl 0 rfl ?_
        refine aw_get dX4_findOrder_34 shC352 ckX4 flX4_21 (v := .ref (ad 356)) rfl ?_
        refine aw_aload_n dX4_findOrder_37 rfl 0 rfl ?_
        refine aw_get dX4_findOrder_38 shC352 ckX4 flX4_82 (v := .int (h.1 352 7)) rfl ?_
        refine aw_iload_n dX4_findOrder_41 rfl 2 rfl ?_
        obtain ⟨hi2, H⟩ := H
        refine aw_iastK (t0 := 0) (j := (h.1 352 7).toNatClampNeg) dX4_findOrder_42 shC356 rfl rfl hi2 ?_
        refine aw_aload_n dX4_findOrder_43 rfl 0 rfl ?_
        refine aw_dup dX4_findOrder_44 rfl ?_
        refine aw_get dX4_findOrder_45 shC352 ckX4 flX4_82 (v := .int ((sI h 356 (h.1 352 7).toNatClampNeg x2).1 352 7)) rfl ?_
        refine aw_iconst (v := 1) dX4_findOrder_48 (by decide) ?_
        refine aw_iadd dX4_findOrder_49 ?_
        refine aw_putI dX4_findOrder_50 shC352 ckX4 flX4_82 rfl (fun _ => rfl) rfl rfl ?_
        refine aw_toph (fun h3 eh3 => ?_)
        replace H := H h3 eh3
        refine aw_inc (mm := (1)) (ls' := [(2, .int (x2 + (1 : Int32))), (0, .ref (ad 352)), (1, .ref (ad v1))]) dX4_findOrder_53 (by decide) (j := 2) rfl (by decide) rfl ?_
        refine aw_goto (tgt := 7) dX4_findOrder_56 (by decide) ?_
        exact aw_ls [1, 2, 0] rfl H
set_option maxRecDepth 8000 in
set_option maxHeartbeats 1000000 in
theorem bX4_findOrder_66 {l : Launch} {ad : Nat → Nat} {d : Nat} {R : aH → Prop} (v1 : Nat) (hv1 : isW GC v1) (x2 : Int32)  (h : aH)
    (H : (((1 : Int32) <<< (((2 : Int32) * (h.1 352 7)) &&& 31)) ≤ x2 → (R h)) ∧ (¬ ((1 : Int32) <<< (((2 : Int32) * (h.1 352 7)) &&& 31)) ≤ x2 → (AW GC l ad d mX4_setRow 0 [(0, .ref (ad 352)), (1, .int x2)] [] h (qi fun z2 h1 => (z2 = 0 → (AW GC l ad (d + 1) mX4_findOrder 66 [(0, .ref (ad 352)), (1, .ref (ad v1)), (2, .int (x2 + (1 : Int32)))] [] h1 (qv R))) ∧ (¬ z2 = 0 → (AW GC l ad d mX4_tryRow 0 [(0, .ref (ad 352)), (1, .ref (ad v1))] [] h1 (qv fun h3 => AW GC l ad (d + 1) mX4_findOrder 66 [(0, .ref (ad 352)), (1, .ref (ad v1)), (2, .int (x2 + (1 : Int32)))] [] h3 (qv R)))))))) : AW GC l ad (d + 1) mX4_findOrder 66 [(0, .ref (ad 352)), (1, .ref (ad v1)), (2, .int x2)] [] h (qv R) := by
  refine aw_iload_n dX4_findOrder_66 rfl 2 rfl ?_
  refine aw_iconst (v := 1) dX4_findOrder_67 (by decide) ?_
  refine aw_iconst (v := 2) dX4_findOrder_68 (by decide) ?_
  refine aw_aload_n dX4_findOrder_69 rfl 0 rfl ?_
  refine aw_get dX4_findOrder_70 shC352 ckX4 flX4_82 (v := .int (h.1 352 7)) rfl ?_
  refine aw_imul dX4_findOrder_73 ?_
  refine aw_ishl dX4_findOrder_74 ?_
  refine aw_icmp_ge (tgt := 97) dX4_findOrder_75 (by decide) (fun hc6 => ?_) (fun hc6 => ?_)
  · replace H := H.1 hc6
    exact aw_vret dX4_findOrder_97 rfl ⟨rfl, H⟩
  · replace H := H.2 hc6
    refine aw_aload_n dX4_findOrder_78 rfl 0 rfl ?_
    refine aw_iload_n dX4_findOrder_79 rfl 2 rfl ?_
    refine cvX4_setRow dX4_findOrder_80 mlX4_88 shC352 (Nat.le_of_ble_eq_true rfl) H (fun z2 h1 H => ?_)
    refine aw_if_eq (tgt := 91) dX4_findOrder_83 (by decide) (fun hc5 => ?_) (fun hc5 => ?_)
    · replace H := H.1 hc5
      refine aw_inc (mm := (1)) (ls' := [(2, .int (x2 + (1 : Int32))), (0, .ref (ad 352)), (1, .ref (ad v1))]) dX4_findOrder_91 (by decide) (j := 2) rfl (by decide) rfl ?_
      refine aw_goto (tgt := 66) dX4_findOrder_94 (by decide) ?_
      exact aw_ls [1, 2, 0] rfl H
    · replace H := H.2 hc5
      refine aw_aload_n dX4_findOrder_86 rfl 0 rfl ?_
      refine aw_aload_n dX4_findOrder_87 rfl 1 rfl ?_
      refine cvX4_tryRow dX4_findOrder_88 mlX4_92 shC352 (Nat.le_of_ble_eq_true rfl) H (fun h3 H => ?_)
      refine aw_inc (mm := (1)) (ls' := [(2, .int (x2 + (1 : Int32))), (0, .ref (ad 352)), (1, .ref (ad v1))]) dX4_findOrder_91 (by decide) (j := 2) rfl (by decide) rfl ?_
      refine aw_goto (tgt := 66) dX4_findOrder_94 (by decide) ?_
      exact aw_ls [1, 2, 0] rfl H
set_option maxRecDepth 8000 in
set_option maxHeartbeats 1000000 in
theorem bX4_setRow_0 {l : Launch} {ad : Nat → Nat} {d : Nat} {R : Int32 → aH → Prop}   (x1 : Int32)  (h : aH)
    (H : AW GC l ad d mX4_setRow 4 [(0, .ref (ad 352)), (1, .int x1), (2, .int (0 : Int32)), (3, .int (0 : Int32))] [] h (qi R)) : AW GC l ad d mX4_setRow 0 [(0, .ref (ad 352)), (1, .int x1)] [] h (qi R) := by
  refine aw_iconst (v := 0) dX4_setRow_0 (by decide) ?_
  refine aw_istore_n (ls' := [(2, .int (0 : Int32)), (0, .ref (ad 352)), (1, .int x1)]) dX4_setRow_1 rfl (by decide) rfl ?_
  refine aw_iconst (v := 0) dX4_setRow_2 (by decide) ?_
  refine aw_istore_n (ls' := [(3, .int (0 : Int32)), (2, .int (0 : Int32)), (0, .ref (ad 352)), (1, .int x1)]) dX4_setRow_3 rfl (by decide) rfl ?_
  exact aw_ls [2, 3, 1, 0] rfl H
set_option maxRecDepth 8000 in
set_option maxHeartbeats 1000000 in
theorem bX4_setRow_4 {l : Launch} {ad : Nat → Nat} {d : Nat} {R : Int32 → aH → Prop}   (x1 : Int32) (x2 : Int32) (x3 : Int32)  (h : aH)
    (H : ((h.1 352 7) ≤ x3 → (R (1 : Int32) h)) ∧ (¬ (h.1 352 7) ≤ x3 → (((4 : Int32) ≤ x3 → (R (1 : Int32) h)) ∧ (¬ (4 : Int32) ≤ x3 → (∀ t1 : Int32, t1 = ((x1 >>> (((2 : Int32) * (((h.1 352 7) - (1 : Int32)) - x3)) &&& 31)) &&& (3 : Int32)) → (((h.1 352 7) ≤ t1 → (R (0 : Int32) h)) ∧ (¬ (h.1 352 7) ≤ t1 → ((((x2 >>> (t1 &&& 31)) &&& (1 : Int32)) = 0 → (vp_in t1 4 ∧ (vp_in x3 4 ∧ (AW GC l ad d mX4_setRow 4 [(0, .ref (ad 352)), (1, .int x1), (2, .int (x2 ||| ((1 : Int32) <<< (t1 &&& 31)))), (3, .int (x3 + (1 : Int32)))] [] (sI h 357 x3.toNatClampNeg (h.1 356 t1.toNatClampNeg)) (qi R))))) ∧ (¬ ((x2 >>> (t1 &&& 31)) &&& (1 : Int32)) = 0 → (R (0 : Int32) h)))))))))) : AW GC l ad d mX4_setRow 4 [(0, .ref (ad 352)), (1, .int x1), (2, .int x2), (3, .int x3)] [] h (qi R) := by
  refine aw_iload_n dX4_setRow_4 rfl 3 rfl ?_
  refine aw_aload_n dX4_setRow_5 rfl 0 rfl ?_
  refine aw_get dX4_setRow_6 shC352 ckX4 flX4_82 (v := .int (h.1 352 7)) rfl ?_
  refine aw_icmp_ge (tgt := 79) dX4_setRow_9 (by decide) (fun hc7 => ?_) (fun hc7 => ?_)
  · replace H := H.1 hc7
    refine aw_iconst (v := 1) dX4_setRow_79 (by decide) ?_
    exact aw_zret dX4_setRow_80 rfl (by decide) ⟨_, rfl, H⟩
  · replace H := H.2 hc7
    refine aw_iload_n dX4_setRow_12 rfl 3 rfl ?_
    refine aw_iconst (v := 4) dX4_setRow_13 (by decide) ?_
    refine aw_icmp_ge (tgt := 79) dX4_setRow_14 (by decide) (fun hc6 => ?_) (fun hc6 => ?_)
    · replace H := H.1 hc6
      refine aw_iconst (v := 1) dX4_setRow_79 (by decide) ?_
      exact aw_zret dX4_setRow_80 rfl (by decide) ⟨_, rfl, H⟩
    · replace H := H.2 hc6
      refine aw_iload_n dX4_setRow_17 rfl 1 rfl ?_
      refine aw_iconst (v := 2) dX4_setRow_18 (by decide) ?_
      refine aw_aload_n dX4_setRow_19 rfl 0 rfl ?_
      refine aw_get dX4_setRow_20 shC352 ckX4 flX4_82 (v := .int (h.1 352 7)) rfl ?_
      refine aw_iconst (v := 1) dX4_setRow_23 (by decide) ?_
      refine aw_isub dX4_setRow_24 ?_
      refine aw_iload_n dX4_setRow_25 rfl 3 rfl ?_
      refine aw_isub dX4_setRow_26 ?_
      refine aw_imul dX4_setRow_27 ?_
      refine aw_ishr dX4_setRow_28 ?_
      refine aw_iconst (v := 3) dX4_setRow_29 (by decide) ?_
      refine aw_iand dX4_setRow_30 ?_
      refine aw_topi (fun t1 et1 => ?_)
      replace H := H t1 et1
      refine aw_istore (ls' := [(4, .int t1), (0, .ref (ad 352)), (1, .int x1), (2, .int x2), (3, .int x3)]) dX4_setRow_31 (by decide) rfl ?_
      refine aw_iload dX4_setRow_33 0 rfl ?_
      refine aw_aload_n dX4_setRow_35 rfl 1 rfl ?_
      refine aw_get dX4_setRow_36 shC352 ckX4 flX4_82 (v := .int (h.1 352 7)) rfl ?_
      refine aw_icmp_ge (tgt := 51) dX4_setRow_39 (by decide) (fun hc5 => ?_) (fun hc5 => ?_)
      · replace H := H.1 hc5
        refine aw_iconst (v := 0) dX4_setRow_51 (by decide) ?_
        exact aw_zret dX4_setRow_52 rfl (by decide) ⟨_, rfl, H⟩
      · replace H := H.2 hc5
        refine aw_iload_n dX4_setRow_42 rfl 3 rfl ?_
        refine aw_iload dX4_setRow_43 0 rfl ?_
        refine aw_ishr dX4_setRow_45 ?_
        refine aw_iconst (v := 1) dX4_setRow_46 (by decide) ?_
        refine aw_iand dX4_setRow_47 ?_
        refine aw_if_eq (tgt := 53) dX4_setRow_48 (by decide) (fun hc4 => ?_) (fun hc4 => ?_)
        · replace H := H.1 hc4
          refine aw_iload_n dX4_setRow_53 rfl 3 rfl ?_
          refine aw_iconst (v := 1) dX4_setRow_54 (by decide) ?_
          refine aw_iload dX4_setRow_55 0 rfl ?_
          refine aw_ishl dX4_setRow_57 ?_
          refine aw_ior dX4_setRow_58 ?_
          refine aw_istore_n (ls' := [(2, .int (x2 ||| ((1 : Int32) <<< (t1 &&& 31)))), (4, .int t1), (0, .ref (ad 352)), (1, .int x1), (3, .int x3)]) dX4_setRow_59 rfl (by decide) rfl ?_
          refine aw_aload_n dX4_setRow_60 rfl 2 rfl ?_
          refine aw_get dX4_setRow_61 shC352 ckX4 flX4_24 (v := .ref (ad 357)) rfl ?_
          refine aw_iload_n dX4_setRow_64 rfl 4 rfl ?_
          refine aw_aload_n dX4_setRow_65 rfl 2 rfl ?_
          refine aw_get dX4_setRow_66 shC352 ckX4 flX4_21 (v := .ref (ad 356)) rfl ?_
          refine aw_iload dX4_setRow_69 1 rfl ?_
          obtain ⟨hi2, H⟩ := H
          refine aw_ialdK (t0 := 0) (j := t1.toNatClampNeg) dX4_setRow_71 shC356 rfl rfl hi2 ?_
          obtain ⟨hi3, H⟩ := H
          refine aw_iastK (t0 := 0) (j := x3.toNatClampNeg) dX4_setRow_72 shC357 rfl rfl hi3 ?_
          refine aw_inc (mm := (1)) (ls' := [(3, .int (x3 + (1 : Int32))), (2, .int (x2 ||| ((1 : Int32) <<< (t1 &&& 31)))), (4, .int t1), (0, .ref (ad 352)), (1, .int x1)]) dX4_setRow_73 (by decide) (j := 4) rfl (by decide) rfl ?_
          refine aw_goto (tgt := 4) dX4_setRow_76 (by decide) ?_
          exact aw_ls [3, 4, 1, 0] rfl H
        · replace H := H.2 hc4
          refine aw_iconst (v := 0) dX4_setRow_51 (by decide) ?_
          exact aw_zret dX4_setRow_52 rfl (by decide) ⟨_, rfl, H⟩
set_option maxRecDepth 8000 in
set_option maxHeartbeats 1000000 in
theorem bX4_tryRow_0 {l : Launch} {ad : Nat → Nat} {d : Nat} {R : aH → Prop} (v1 : Nat) (hv1 : isW GC v1)   (h : aH)
    (H : AW GC l ad d mX8_copyFrom 0 [(0, .ref (ad 358)), (1, .ref (ad v1))] [] h (qv fun h1 => AW GC l ad (d + 1) mX4_tryRow 12 [(0, .ref (ad 352)), (2, .int (0 : Int32)), (3, .int (0 : Int32))] [] h1 (qv R))) : AW GC l ad (d + 1) mX4_tryRow 0 [(0, .ref (ad 352)), (1, .ref (ad v1))] [] h (qv R) := by
  refine aw_aload_n dX4_tryRow_0 rfl 0 rfl ?_
  refine aw_get dX4_tryRow_1 shC352 ckX4 flX4_30 (v := .ref (ad 358)) rfl ?_
  refine aw_aload_n dX4_tryRow_4 rfl 1 rfl ?_
  refine cvX8_copyFrom dX4_tryRow_5 mlX4_96 isW_358.1 (Nat.le_of_ble_eq_true rfl) H (fun h1 H => ?_)
  refine aw_iconst (v := 0) dX4_tryRow_8 (by decide) ?_
  refine aw_istore_n (ls' := [(2, .int (0 : Int32)), (0, .ref (ad 352)), (1, .ref (ad v1))]) dX4_tryRow_9 rfl (by decide) rfl ?_
  refine aw_iconst (v := 0) dX4_tryRow_10 (by decide) ?_
  refine aw_istore_n (ls' := [(3, .int (0 : Int32)), (2, .int (0 : Int32)), (0, .ref (ad 352)), (1, .ref (ad v1))]) dX4_tryRow_11 rfl (by decide) rfl ?_
  exact aw_ls [2, 1, 0] rfl H
set_option maxRecDepth 8000 in
set_option maxHeartbeats 1000000 in
theorem bX4_tryRow_12 {l : Launch} {ad : Nat → Nat} {d : Nat} {R : aH → Prop} (v1 : Nat) (hv1 : isW GC v1) (x2 : Int32) (x3 : Int32)  (h : aH)
    (H : ((h.1 352 7) ≤ x3 → (AW GC l ad (d + 1) mX4_tryRow 90 [(0, .ref (ad 352)), (2, .int x2)] [] h (qv R))) ∧ (¬ (h.1 352 7) ≤ x3 → (((4 : Int32) ≤ x3 → (AW GC l ad (d + 1) mX4_tryRow 90 [(0, .ref (ad 352)), (2, .int x2)] [] h (qv R))) ∧ (¬ (4 : Int32) ≤ x3 → (vp_in x3 4 ∧ (((h.1 357 x3.toNatClampNeg) < 0 → (AW GC l ad (d + 1) mX4_tryRow 12 [(0, .ref (ad 352)), (2, .int x2), (3, .int (x3 + (1 : Int32)))] [] h (qv R))) ∧ (¬ (h.1 357 x3.toNatClampNeg) < 0 → (((h.1 358 11) ≤ (h.1 357 x3.toNatClampNeg) → (AW GC l ad (d + 1) mX4_tryRow 12 [(0, .ref (ad 352)), (2, .int x2), (3, .int (x3 + (1 : Int32)))] [] h (qv R))) ∧ (¬ (h.1 358 11) ≤ (h.1 357 x3.toNatClampNeg) → (AW GC l ad d mX8_isInPurse 0 [(0, .ref (ad 358)), (1, .int (h.1 357 x3.toNatClampNeg))] [] h (qi fun z3 h2 => (z3 = 0 → (AW GC l ad (d + 1) mX4_tryRow 12 [(0, .ref (ad 352)), (2, .int x2), (3, .int (x3 + (1 : Int32)))] [] h2 (qv R))) ∧ (¬ z3 = 0 → (vp_in (h.1 357 x3.toNatClampNeg) 8 ∧ (∀ t5 : Int32, t5 = (x2 + (h2.1 367 (h.1 357 x3.toNatClampNeg).toNatClampNeg)) → (AW GC l ad d mX8_settle 0 [(0, .ref (ad 358)), (1, .int (h.1 357 x3.toNatClampNeg))] [] h2 (qv fun h6 => AW GC l ad (d + 1) mX4_tryRow 12 [(0, .ref (ad 352)), (2, .int t5), (3, .int (x3 + (1 : Int32)))] [] h6 (qv R))))))))))))))))) : AW GC l ad (d + 1) mX4_tryRow 12 [(0, .ref (ad 352)), (2, .int x2), (3, .int x3)] [] h (qv R) := by
  refine aw_iload_n dX4_tryRow_12 rfl 2 rfl ?_
  refine aw_aload_n dX4_tryRow_13 rfl 0 rfl ?_
  refine aw_get dX4_tryRow_14 shC352 ckX4 flX4_82 (v := .int (h.1 352 7)) rfl ?_
  refine aw_icmp_ge (tgt := 90) dX4_tryRow_17 (by decide) (fun hc12 => ?_) (fun hc12 => ?_)
  · replace H := H.1 hc12
    exact aw_ls [0, 1] rfl H
  · replace H := H.2 hc12
    refine aw_iload_n dX4_tryRow_20 rfl 2 rfl ?_
    refine aw_iconst (v := 4) dX4_tryRow_21 (by decide) ?_
    refine aw_icmp_ge (tgt := 90) dX4_tryRow_22 (by decide) (fun hc11 => ?_) (fun hc11 => ?_)
    · replace H := H.1 hc11
      exact aw_ls [0, 1] rfl H
    · replace H := H.2 hc11
      refine aw_aload_n dX4_tryRow_25 rfl 0 rfl ?_
      refine aw_get dX4_tryRow_26 shC352 ckX4 flX4_24 (v := .ref (ad 357)) rfl ?_
      refine aw_iload_n dX4_tryRow_29 rfl 2 rfl ?_
      obtain ⟨hi1, H⟩ := H
      refine aw_ialdK (t0 := 0) (j := x3.toNatClampNeg) dX4_tryRow_30 shC357 rfl rfl hi1 ?_
      refine aw_istore (ls' := [(4, .int (h.1 357 x3.toNatClampNeg)), (0, .ref (ad 352)), (2, .int x2), (3, .int x3)]) dX4_tryRow_31 (by decide) rfl ?_
      refine aw_iload dX4_tryRow_33 0 rfl ?_
      refine aw_if_lt (tgt := 84) dX4_tryRow_35 (by decide) (fun hc10 => ?_) (fun hc10 => ?_)
      · replace H := H.1 hc10
        refine aw_inc (mm := (1)) (ls' := [(3, .int (x3 + (1 : Int32))), (4, .int (h.1 357 x3.toNatClampNeg)), (0, .ref (ad 352)), (2, .int x2)]) dX4_tryRow_84 (by decide) (j := 3) rfl (by decide) rfl ?_
        refine aw_goto (tgt := 12) dX4_tryRow_87 (by decide) ?_
        exact aw_ls [2, 3, 0] rfl H
      · replace H := H.2 hc10
        refine aw_iload dX4_tryRow_38 0 rfl ?_
        refine aw_aload_n dX4_tryRow_40 rfl 1 rfl ?_
        refine aw_get dX4_tryRow_41 shC352 ckX4 flX4_30 (v := .ref (ad 358)) rfl ?_
        refine aw_get dX4_tryRow_44 isW_358.1 ckX8 flX4_69 (v := .int (h.1 358 11)) rfl ?_
        refine aw_icmp_ge (tgt := 84) dX4_tryRow_47 (by decide) (fun hc9 => ?_) (fun hc9 => ?_)
        · replace H := H.1 hc9
          refine aw_inc (mm := (1)) (ls' := [(3, .int (x3 + (1 : Int32))), (4, .int (h.1 357 x3.toNatClampNeg)), (0, .ref (ad 352)), (2, .int x2)]) dX4_tryRow_84 (by decide) (j := 3) rfl (by decide) rfl ?_
          refine aw_goto (tgt := 12) dX4_tryRow_87 (by decide) ?_
          exact aw_ls [2, 3, 0] rfl H
        · replace H := H.2 hc9
          refine aw_aload_n dX4_tryRow_50 rfl 1 rfl ?_
          refine aw_get dX4_tryRow_51 shC352 ckX4 flX4_30 (v := .ref (ad 358)) rfl ?_
          refine aw_iload dX4_tryRow_54 0 rfl ?_
          refine cvX8_isInPurse dX4_tryRow_56 mlX4_99 isW_358.1 (Nat.le_of_ble_eq_true rfl) H (fun z3 h2 H => ?_)
          refine aw_if_eq (tgt := 84) dX4_tryRow_59 (by decide) (fun hc8 => ?_) (fun hc8 => ?_)
          · replace H := H.1 hc8
            refine aw_inc (mm := (1)) (ls' := [(3, .int (x3 + (1 : Int32))), (4, .int (h.1 357 x3.toNatClampNeg)), (0, .ref (ad 352)), (2, .int x2)]) dX4_tryRow_84 (by decide) (j := 3) rfl (by decide) rfl ?_
            refine aw_goto (tgt := 12) dX4_tryRow_87 (by decide) ?_
            exact aw_ls [2, 3, 0] rfl H
          · replace H := H.2 hc8
            refine aw_iload_n dX4_tryRow_62 rfl 2 rfl ?_
            refine aw_aload_n dX4_tryRow_63 rfl 1 rfl ?_
            refine aw_get dX4_tryRow_64 shC352 ckX4 flX4_30 (v := .ref (ad 358)) rfl ?_
            refine aw_get dX4_tryRow_67 isW_358.1 ckX8 flX4_102 (v := .ref (ad 367)) rfl ?_
            refine aw_iload dX4_tryRow_70 0 rfl ?_
            obtain ⟨hi4, H⟩ := H
            refine aw_ialdK (t0 := 0) (j := (h.1 357 x3.toNatClampNeg).toNatClampNeg) dX4_tryRow_72 (isW_358.2 8 (by decide)) rfl rfl hi4 ?_
            refine aw_iadd dX4_tryRow_73 ?_
            refine aw_topi (fun t5 et5 => ?_)
            replace H := H t5 et5
            refine aw_istore_n (ls' := [(2, .int t5), (4, .int (h.1 357 x3.toNatClampNeg)), (0, .ref (ad 352)), (3, .int x3)]) dX4_tryRow_74 rfl (by decide) rfl ?_
            refine aw_aload_n dX4_tryRow_75 rfl 2 rfl ?_
            refine aw_get dX4_tryRow_76 shC352 ckX4 flX4_30 (v := .ref (ad 358)) rfl ?_
            refine aw_iload dX4_tryRow_79 1 rfl ?_
            refine cvX8_settle dX4_tryRow_81 mlX4_105 isW_358.1 (Nat.le_of_ble_eq_true rfl) H (fun h6 H => ?_)
            refine aw_inc (mm := (1)) (ls' := [(3, .int (x3 + (1 : Int32))), (2, .int t5), (4, .int (h.1 357 x3.toNatClampNeg)), (0, .ref (ad 352))]) dX4_tryRow_84 (by decide) (j := 3) rfl (by decide) rfl ?_
            refine aw_goto (tgt := 12) dX4_tryRow_87 (by decide) ?_
            exact aw_ls [3, 1, 0] rfl H
set_option maxRecDepth 8000 in
set_option maxHeartbeats 1000000 in
theorem bX4_tryRow_90 {l : Launch} {ad : Nat → Nat} {d : Nat} {R : aH → Prop} (v1 : Nat) (hv1 : isW GC v1) (x2 : Int32)  (h : aH)
    (H : (x2 ≤ (h.1 352 8) → (R h)) ∧ (¬ x2 ≤ (h.1 352 8) → (R (cpI (sI h 352 8 x2) 357 370 0 0 4)))) : AW GC l ad (d + 1) mX4_tryRow 90 [(0, .ref (ad 352)), (2, .int x2)] [] h (qv R) := by
  refine aw_iload_n dX4_tryRow_90 rfl 1 rfl ?_
  refine aw_aload_n dX4_tryRow_91 rfl 0 rfl ?_
  refine aw_get dX4_tryRow_92 shC352 ckX4 flX4_85 (v := .int (h.1 352 8)) rfl ?_
  refine aw_icmp_le (tgt := 117) dX4_tryRow_95 (by decide) (fun hc1 => ?_) (fun hc1 => ?_)
  · replace H := H.1 hc1
    exact aw_vret dX4_tryRow_117 rfl ⟨rfl, H⟩
  · replace H := H.2 hc1
    refine aw_aload_n dX4_tryRow_98 rfl 0 rfl ?_
    refine aw_iload_n dX4_tryRow_99 rfl 1 rfl ?_
    refine aw_putI dX4_tryRow_100 shC352 ckX4 flX4_85 rfl (fun _ => rfl) rfl rfl ?_
    refine aw_aload_n dX4_tryRow_103 rfl 0 rfl ?_
    refine aw_get dX4_tryRow_104 shC352 ckX4 flX4_24 (v := .ref (ad 357)) rfl ?_
    refine aw_iconst (v := 0) dX4_tryRow_107 (by decide) ?_
    refine aw_aload_n dX4_tryRow_108 rfl 0 rfl ?_
    refine aw_get dX4_tryRow_109 shC352 ckX4 flX4_34 (v := .ref (ad 370)) rfl ?_
    refine aw_iconst (v := 0) dX4_tryRow_112 (by decide) ?_
    refine aw_iconst (v := 4) dX4_tryRow_113 (by decide) ?_
    refine aw_copy (t0 := 0) (sp' := 0) (dp' := 0) (n' := 4) dX4_tryRow_114 mlX4_108 shC357 shC370 rfl (Nat.le_of_ble_eq_true rfl) (by decide) (by decide) (by decide) (by decide) (by decide) (by decide) (Nat.le_of_ble_eq_true rfl) (Nat.le_of_ble_eq_true rfl) ?_
    exact aw_vret dX4_tryRow_117 rfl ⟨rfl, H⟩
set_option maxRecDepth 8000 in
set_option maxHeartbeats 1000000 in
theorem bX4_findRests_0 {l : Launch} {ad : Nat → Nat} {d : Nat} {R : Int32 → aH → Prop} (v1 : Nat) (hv1 : isW GC v1) (x2 : Int32) (x3 : Int32)  (h : aH)
    (H : AW GC l ad (d + 1) mX4_findRests 6 [(0, .ref (ad 352)), (1, .ref (ad v1)), (2, .int x2), (3, .int x3), (4, .int (0 : Int32)), (5, .int (0 : Int32))] [] h (qi R)) : AW GC l ad (d + 1) mX4_findRests 0 [(0, .ref (ad 352)), (1, .ref (ad v1)), (2, .int x2), (3, .int x3)] [] h (qi R) := by
  refine aw_iconst (v := 0) dX4_findRests_0 (by decide) ?_
  refine aw_istore (ls' := [(4, .int (0 : Int32)), (0, .ref (ad 352)), (1, .ref (ad v1)), (2, .int x2), (3, .int x3)]) dX4_findRests_1 (by decide) rfl ?_
  refine aw_iconst (v := 0) dX4_findRests_3 (by decide) ?_
  refine aw_istore (ls' := [(5, .int (0 : Int32)), (4, .int (0 : Int32)), (0, .ref (ad 352)), (1, .ref (ad v1)), (2, .int x2), (3, .int x3)]) dX4_findRests_4 (by decide) rfl ?_
  exact aw_ls [2, 3, 4, 5, 1, 0] rfl H
set_option maxRecDepth 8000 in
set_option maxHeartbeats 1000000 in
theorem bX4_findRests_6 {l : Launch} {ad : Nat → Nat} {d : Nat} {R : Int32 → aH → Prop} (v1 : Nat) (hv1 : isW GC v1) (x2 : Int32) (x3 : Int32) (x4 : Int32) (x5 : Int32)  (h : aH)
    (H : ((Int32.ofNat 4) ≤ x5 → (R x4 h)) ∧ (¬ (Int32.ofNat 4) ≤ x5 → (AW GC l ad d mX4_share 0 [(0, .ref (ad v1)), (1, .int x2), (2, .int x3), (3, .int (x5 >>> ((1 : Int32) &&& 31))), (4, .int (x5 &&& (1 : Int32)))] [] h (qi fun z2 h1 => AW GC l ad d mX4_share 0 [(0, .ref (ad v1)), (1, .int x2), (2, .int x3), (3, .int ((1 : Int32) - (x5 >>> ((1 : Int32) &&& 31)))), (4, .int (x5 &&& (1 : Int32)))] [] h1 (qi fun z4 h3 => (z2 < z4 → (AW GC l ad (d + 1) mX4_findRests 58 [(0, .ref (ad 352)), (1, .ref (ad v1)), (2, .int x2), (3, .int x3), (4, .int x4), (5, .int x5), (6, .int (x5 >>> ((1 : Int32) &&& 31))), (7, .int (x5 &&& (1 : Int32)))] [.int (0 : Int32)] h3 (qi R))) ∧ (¬ z2 < z4 → (AW GC l ad (d + 1) mX4_findRests 58 [(0, .ref (ad 352)), (1, .ref (ad v1)), (2, .int x2), (3, .int x3), (4, .int x4), (5, .int x5), (6, .int (x5 >>> ((1 : Int32) &&& 31))), (7, .int (x5 &&& (1 : Int32)))] [.int (1 : Int32)] h3 (qi R)))))))) : AW GC l ad (d + 1) mX4_findRests 6 [(0, .ref (ad 352)), (1, .ref (ad v1)), (2, .int x2), (3, .int x3), (4, .int x4), (5, .int x5)] [] h (qi R) := by
  refine aw_iload dX4_findRests_6 5 rfl ?_
  refine aw_aload_n dX4_findRests_8 rfl 0 rfl ?_
  refine aw_get dX4_findRests_9 shC352 ckX4 flX4_37 (v := .ref (ad 371)) rfl ?_
  refine aw_alen (t0 := 0) dX4_findRests_12 shC371 rfl ?_
  refine aw_icmp_ge (tgt := 114) dX4_findRests_13 (by decide) (fun hc6 => ?_) (fun hc6 => ?_)
  · replace H := H.1 hc6
    refine aw_iload dX4_findRests_114 4 rfl ?_
    exact aw_iret dX4_findRests_116 rfl ⟨_, rfl, H⟩
  · replace H := H.2 hc6
    refine aw_iload dX4_findRests_16 5 rfl ?_
    refine aw_iconst (v := 1) dX4_findRests_18 (by decide) ?_
    refine aw_ishr dX4_findRests_19 ?_
    refine aw_istore (ls' := [(6, .int (x5 >>> ((1 : Int32) &&& 31))), (0, .ref (ad 352)), (1, .ref (ad v1)), (2, .int x2), (3, .int x3), (4, .int x4), (5, .int x5)]) dX4_findRests_20 (by decide) rfl ?_
    refine aw_iload dX4_findRests_22 6 rfl ?_
    refine aw_iconst (v := 1) dX4_findRests_24 (by decide) ?_
    refine aw_iand dX4_findRests_25 ?_
    refine aw_istore (ls' := [(7, .int (x5 &&& (1 : Int32))), (6, .int (x5 >>> ((1 : Int32) &&& 31))), (0, .ref (ad 352)), (1, .ref (ad v1)), (2, .int x2), (3, .int x3), (4, .int x4), (5, .int x5)]) dX4_findRests_26 (by decide) rfl ?_
    refine aw_aload_n dX4_findRests_28 rfl 3 rfl ?_
    refine aw_iload_n dX4_findRests_29 rfl 4 rfl ?_
    refine aw_iload_n dX4_findRests_30 rfl 5 rfl ?_
    refine aw_iload dX4_findRests_31 1 rfl ?_
    refine aw_iload dX4_findRests_33 0 rfl ?_
    refine cvX4_share dX4_findRests_35 mlX4_114 (Nat.le_of_ble_eq_true rfl) H (fun z2 h1 H => ?_)
    refine aw_aload_n dX4_findRests_38 rfl 3 rfl ?_
    refine aw_iload_n dX4_findRests_39 rfl 4 rfl ?_
    refine aw_iload_n dX4_findRests_40 rfl 5 rfl ?_
    refine aw_iconst (v := 1) dX4_findRests_41 (by decide) ?_
    refine aw_iload dX4_findRests_42 1 rfl ?_
    refine aw_isub dX4_findRests_44 ?_
    refine aw_iload dX4_findRests_45 0 rfl ?_
    refine cvX4_share dX4_findRests_47 mlX4_114 (Nat.le_of_ble_eq_true rfl) H (fun z4 h3 H => ?_)
    refine aw_icmp_lt (tgt := 57) dX4_findRests_50 (by decide) (fun hc5 => ?_) (fun hc5 => ?_)
    · replace H := H.1 hc5
      refine aw_iconst (v := 0) dX4_findRests_57 (by decide) ?_
      exact aw_ls [2, 3, 4, 5, 6, 7, 1, 0] rfl H
    · replace H := H.2 hc5
      refine aw_iconst (v := 1) dX4_findRests_53 (by decide) ?_
      refine aw_goto (tgt := 58) dX4_findRests_54 (by decide) ?_
      exact aw_ls [2, 3, 4, 5, 6, 7, 1, 0] rfl H
set_option maxRecDepth 8000 in
set_option maxHeartbeats 1000000 in
theorem bX4_findRests_58 {l : Launch} {ad : Nat → Nat} {d : Nat} {R : Int32 → aH → Prop} (v1 : Nat) (hv1 : isW GC v1) (x2 : Int32) (x3 : Int32) (x4 : Int32) (x5 : Int32) (x6 : Int32) (x7 : Int32) (s0 : Int32)  (h : aH)
    (H : (s0 = 0 → (AW GC l ad (d + 1) mX4_findRests 6 [(0, .ref (ad 352)), (1, .ref (ad v1)), (2, .int x2), (3, .int x3), (4, .int x4), (5, .int (x5 + (1 : Int32)))] [] h (qi R))) ∧ (¬ s0 = 0 → (AW GC l ad d mX4_share 0 [(0, .ref (ad v1)), (1, .int x3), (2, .int x2), (3, .int x7), (4, .int x6)] [] h (qi fun z2 h1 => AW GC l ad d mX4_share 0 [(0, .ref (ad v1)), (1, .int x3), (2, .int x2), (3, .int ((1 : Int32) - x7)), (4, .int x6)] [] h1 (qi fun z4 h3 => (z2 < z4 → (AW GC l ad (d + 1) mX4_findRests 6 [(0, .ref (ad 352)), (1, .ref (ad v1)), (2, .int x2), (3, .int x3), (4, .int x4), (5, .int (x5 + (1 : Int32)))] [] h3 (qi R))) ∧ (¬ z2 < z4 → (vp_in x4 4 ∧ (AW GC l ad (d + 1) mX4_findRests 6 [(0, .ref (ad 352)), (1, .ref (ad v1)), (2, .int x2), (3, .int x3), (4, .int (x4 + (1 : Int32))), (5, .int (x5 + (1 : Int32)))] [] (sI h3 371 x4.toNatClampNeg (((10 : Int32) * x6) + x7)) (qi R))))))))) : AW GC l ad (d + 1) mX4_findRests 58 [(0, .ref (ad 352)), (1, .ref (ad v1)), (2, .int x2), (3, .int x3), (4, .int x4), (5, .int x5), (6, .int x6), (7, .int x7)] [.int s0] h (qi R) := by
  refine aw_istore (ls' := [(8, .int s0), (0, .ref (ad 352)), (1, .ref (ad v1)), (2, .int x2), (3, .int x3), (4, .int x4), (5, .int x5), (6, .int x6), (7, .int x7)]) dX4_findRests_58 (by decide) rfl ?_
  refine aw_iload dX4_findRests_60 0 rfl ?_
  refine aw_if_eq (tgt := 108) dX4_findRests_62 (by decide) (fun hc7 => ?_) (fun hc7 => ?_)
  · replace H := H.1 hc7
    refine aw_inc (mm := (1)) (ls' := [(5, .int (x5 + (1 : Int32))), (8, .int s0), (0, .ref (ad 352)), (1, .ref (ad v1)), (2, .int x2), (3, .int x3), (4, .int x4), (6, .int x6), (7, .int x7)]) dX4_findRests_108 (by decide) (j := 6) rfl (by decide) rfl ?_
    refine aw_goto (tgt := 6) dX4_findRests_111 (by decide) ?_
    exact aw_ls [2, 3, 4, 5, 6, 0] rfl H
  · replace H := H.2 hc7
    refine aw_aload_n dX4_findRests_65 rfl 2 rfl ?_
    refine aw_iload_n dX4_findRests_66 rfl 4 rfl ?_
    refine aw_iload_n dX4_findRests_67 rfl 3 rfl ?_
    refine aw_iload dX4_findRests_68 8 rfl ?_
    refine aw_iload dX4_findRests_70 7 rfl ?_
    refine cvX4_share dX4_findRests_72 mlX4_114 (Nat.le_of_ble_eq_true rfl) H (fun z2 h1 H => ?_)
    refine aw_aload_n dX4_findRests_75 rfl 2 rfl ?_
    refine aw_iload_n dX4_findRests_76 rfl 4 rfl ?_
    refine aw_iload_n dX4_findRests_77 rfl 3 rfl ?_
    refine aw_iconst (v := 1) dX4_findRests_78 (by decide) ?_
    refine aw_iload dX4_findRests_79 8 rfl ?_
    refine aw_isub dX4_findRests_81 ?_
    refine aw_iload dX4_findRests_82 7 rfl ?_
    refine cvX4_share dX4_findRests_84 mlX4_114 (Nat.le_of_ble_eq_true rfl) H (fun z4 h3 H => ?_)
    refine aw_icmp_lt (tgt := 108) dX4_findRests_87 (by decide) (fun hc6 => ?_) (fun hc6 => ?_)
    · replace H := H.1 hc6
      refine aw_inc (mm := (1)) (ls' := [(5, .int (x5 + (1 : Int32))), (8, .int s0), (0, .ref (ad 352)), (1, .ref (ad v1)), (2, .int x2), (3, .int x3), (4, .int x4), (6, .int x6), (7, .int x7)]) dX4_findRests_108 (by decide) (j := 6) rfl (by decide) rfl ?_
      refine aw_goto (tgt := 6) dX4_findRests_111 (by decide) ?_
      exact aw_ls [2, 3, 4, 5, 6, 0] rfl H
    · replace H := H.2 hc6
      refine aw_aload_n dX4_findRests_90 rfl 1 rfl ?_
      refine aw_get dX4_findRests_91 shC352 ckX4 flX4_37 (v := .ref (ad 371)) rfl ?_
      refine aw_iload dX4_findRests_94 5 rfl ?_
      refine aw_bipush (v := 10) dX4_findRests_96 (by decide) ?_
      refine aw_iload dX4_findRests_98 7 rfl ?_
      refine aw_imul dX4_findRests_100 ?_
      refine aw_iload dX4_findRests_101 8 rfl ?_
      refine aw_iadd dX4_findRests_103 ?_
      obtain ⟨hi5, H⟩ := H
      refine aw_iastK (t0 := 0) (j := x4.toNatClampNeg) dX4_findRests_104 shC371 rfl rfl hi5 ?_
      refine aw_inc (mm := (1)) (ls' := [(4, .int (x4 + (1 : Int32))), (8, .int s0), (0, .ref (ad 352)), (1, .ref (ad v1)), (2, .int x2), (3, .int x3), (5, .int x5), (6, .int x6), (7, .int x7)]) dX4_findRests_105 (by decide) (j := 5) rfl (by decide) rfl ?_
      refine aw_inc (mm := (1)) (ls' := [(5, .int (x5 + (1 : Int32))), (4, .int (x4 + (1 : Int32))), (8, .int s0), (0, .ref (ad 352)), (1, .ref (ad v1)), (2, .int x2), (3, .int x3), (6, .int x6), (7, .int x7)]) dX4_findRests_108 (by decide) (j := 6) rfl (by decide) rfl ?_
      refine aw_goto (tgt := 6) dX4_findRests_111 (by decide) ?_
      exact aw_ls [3, 4, 5, 6, 1, 0] rfl H
set_option maxRecDepth 8000 in
set_option maxHeartbeats 1000000 in
theorem bX4_share_0 {l : Launch} {ad : Nat → Nat} {d : Nat} {R : Int32 → aH → Prop} (v0 : Nat) (hv0 : isW GC v0) (x1 : Int32) (x2 : Int32) (x3 : Int32) (x4 : Int32)  (h : aH)
    (H : vp_in x1 8 ∧ (AW GC l ad d mX8_purseOf 0 [(0, .ref (ad v0)), (1, .int (h.1 (v0 + 4) x1.toNatClampNeg))] [] h (qi fun z3 h2 => (¬ x3 = x4 → ((¬ x3 = 0 → (vp_in x2 8 ∧ (∀ t5 : Int32, t5 = (z3 - (if z3 < (h2.1 (v0 + 9) x2.toNatClampNeg) then z3 else (h2.1 (v0 + 9) x2.toNatClampNeg))) → (R ((if t5 < (h2.1 (v0 + 9) x1.toNatClampNeg) then t5 else (h2.1 (v0 + 9) x1.toNatClampNeg)) - (1 : Int32)) h2)))) ∧ (x3 = 0 → (R (if z3 < (h2.1 (v0 + 9) x1.toNatClampNeg) then z3 else (h2.1 (v0 + 9) x1.toNatClampNeg)) h2)))) ∧ (x3 = x4 → (R ((if (z3 / (2 : Int32)) < (h2.1 (v0 + 9) x1.toNatClampNeg) then (z3 / (2 : Int32)) else (h2.1 (v0 + 9) x1.toNatClampNeg)) - x3) h2))))) : AW GC l ad (d + 1) mX4_share 0 [(0, .ref (ad v0)), (1, .int x1), (2, .int x2), (3, .int x3), (4, .int x4)] [] h (qi R) := by
  refine aw_aload_n dX4_share_0 rfl 0 rfl ?_
  refine aw_aload_n dX4_share_1 rfl 0 rfl ?_
  refine aw_get dX4_share_2 hv0.1 ckX8 flX4_76 (v := .ref (ad (v0 + 4))) rfl ?_
  refine aw_iload_n dX4_share_5 rfl 1 rfl ?_
  obtain ⟨hi1, H⟩ := H
  refine aw_ialdK (t0 := 0) (j := x1.toNatClampNeg) dX4_share_6 (hv0.2 3 (by decide)) rfl rfl hi1 ?_
  refine cvX8_purseOf dX4_share_7 mlX4_118 hv0.1 (Nat.le_of_ble_eq_true rfl) H (fun z3 h2 H => ?_)
  refine aw_istore (ls' := [(5, .int z3), (0, .ref (ad v0)), (1, .int x1), (2, .int x2), (3, .int x3), (4, .int x4)]) dX4_share_10 (by decide) rfl ?_
  refine aw_aload_n dX4_share_12 rfl 1 rfl ?_
  refine aw_get dX4_share_13 hv0.1 ckX8 flX4_102 (v := .ref (ad (v0 + 9))) rfl ?_
  refine aw_iload_n dX4_share_16 rfl 2 rfl ?_
  refine aw_ialdK (t0 := 0) (j := x1.toNatClampNeg) dX4_share_17 (hv0.2 8 (by decide)) rfl rfl hi1 ?_
  refine aw_istore (ls' := [(6, .int (h2.1 (v0 + 9) x1.toNatClampNeg)), (5, .int z3), (0, .ref (ad v0)), (1, .int x1), (2, .int x2), (3, .int x3), (4, .int x4)]) dX4_share_18 (by decide) rfl ?_
  refine aw_iload_n dX4_share_20 rfl 5 rfl ?_
  refine aw_iload dX4_share_21 6 rfl ?_
  refine aw_icmp_ne (tgt := 38) dX4_share_23 (by decide) (fun hc7 => ?_) (fun hc7 => ?_)
  · replace H := H.1 hc7
    refine aw_iload_n dX4_share_38 rfl 5 rfl ?_
    refine aw_if_ne (tgt := 50) dX4_share_39 (by decide) (fun hc6 => ?_) (fun hc6 => ?_)
    · replace H := H.1 hc6
      refine aw_iload dX4_share_50 1 rfl ?_
      refine aw_aload_n dX4_share_52 rfl 2 rfl ?_
      refine aw_get dX4_share_53 hv0.1 ckX8 flX4_102 (v := .ref (ad (v0 + 9))) rfl ?_
      refine aw_iload_n dX4_share_56 rfl 4 rfl ?_
      obtain ⟨hi4, H⟩ := H
      refine aw_ialdK (t0 := 0) (j := x2.toNatClampNeg) dX4_share_57 (hv0.2 8 (by decide)) rfl rfl hi4 ?_
      refine aw_iload dX4_share_58 1 rfl ?_
      refine aw_mmin dX4_share_60 mlX4_62 (Nat.le_of_ble_eq_true rfl) ?_
      refine aw_isub dX4_share_63 ?_
      refine aw_topi (fun t5 et5 => ?_)
      replace H := H t5 et5
      refine aw_istore (ls' := [(7, .int t5), (6, .int (h2.1 (v0 + 9) x1.toNatClampNeg)), (5, .int z3), (0, .ref (ad v0)), (1, .int x1), (2, .int x2), (3, .int x3), (4, .int x4)]) dX4_share_64 (by decide) rfl ?_
      refine aw_iload dX4_share_66 1 rfl ?_
      refine aw_iload dX4_share_68 0 rfl ?_
      refine aw_mmin dX4_share_70 mlX4_62 (Nat.le_of_ble_eq_true rfl) ?_
      refine aw_iconst (v := 1) dX4_share_73 (by decide) ?_
      refine aw_isub dX4_share_74 ?_
      exact aw_iret dX4_share_75 rfl ⟨_, rfl, H⟩
    · replace H := H.2 hc6
      refine aw_iload dX4_share_42 0 rfl ?_
      refine aw_iload dX4_share_44 1 rfl ?_
      refine aw_mmin dX4_share_46 mlX4_62 (Nat.le_of_ble_eq_true rfl) ?_
      exact aw_iret dX4_share_49 rfl ⟨_, rfl, H⟩
  · replace H := H.2 hc7
    refine aw_iload dX4_share_26 0 rfl ?_
    refine aw_iload dX4_share_28 1 rfl ?_
    refine aw_iconst (v := 2) dX4_share_30 (by decide) ?_
    refine aw_idiv dX4_share_31 (by decide) ?_
    refine aw_mmin dX4_share_32 mlX4_62 (Nat.le_of_ble_eq_true rfl) ?_
    refine aw_iload_n dX4_share_35 rfl 5 rfl ?_
    refine aw_isub dX4_share_36 ?_
    exact aw_iret dX4_share_37 rfl ⟨_, rfl, H⟩
