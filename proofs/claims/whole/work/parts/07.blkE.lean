set_option maxRecDepth 8000 in
set_option maxHeartbeats 1000000 in
theorem bX9_feed_0 {l : Launch} {ad : Nat → Nat} {d : Nat} {R : Int32 → aH → Prop}   (x1 : Int32) (x2 : Int32) (x3 : Int32) (x4 : Int32) (x5 : Int32)  (h : aH)
    (H : (((h.1 0 1) + (20 : Int32)) ≤ (700 : Int32) → (AW GC l ad d mX9_addBytes 0 [(0, .ref (ad 0)), (1, .int x1)] [] h (qv fun h1 => AW GC l ad d mX9_addBytes 0 [(0, .ref (ad 0)), (1, .int x2)] [] h1 (qv fun h3 => AW GC l ad d mX9_addBytes 0 [(0, .ref (ad 0)), (1, .int x3)] [] h3 (qv fun h5 => AW GC l ad d mX9_addBytes 0 [(0, .ref (ad 0)), (1, .int x4)] [] h5 (qv fun h7 => AW GC l ad d mX9_addBytes 0 [(0, .ref (ad 0)), (1, .int x5)] [] h7 (qv fun h9 => R (h9.1 0 1) h9))))))) ∧ (¬ ((h.1 0 1) + (20 : Int32)) ≤ (700 : Int32) → (R (-1 : Int32) h))) : AW GC l ad (d + 1) mX9_feed 0 [(0, .ref (ad 0)), (1, .int x1), (2, .int x2), (3, .int x3), (4, .int x4), (5, .int x5)] [] h (qi R) := by
  refine aw_aload_n dX9_feed_0 rfl 0 rfl ?_
  refine aw_get dX9_feed_1 shC0 ckX9 flX9_72 (v := .int (h.1 0 1)) rfl ?_
  refine aw_bipush (v := 20) dX9_feed_4 (by decide) ?_
  refine aw_iadd dX9_feed_6 ?_
  refine aw_sipush (v := 700) dX9_feed_7 (by decide) ?_
  refine aw_icmp_le (tgt := 15) dX9_feed_10 (by decide) (fun hc11 => ?_) (fun hc11 => ?_)
  · replace H := H.1 hc11
    refine aw_aload_n dX9_feed_15 rfl 0 rfl ?_
    refine aw_iload_n dX9_feed_16 rfl 1 rfl ?_
    refine cvX9_addBytes dX9_feed_17 mlX9_76 shC0 (Nat.le_of_ble_eq_true rfl) H (fun h1 H => ?_)
    refine aw_aload_n dX9_feed_20 rfl 0 rfl ?_
    refine aw_iload_n dX9_feed_21 rfl 2 rfl ?_
    refine cvX9_addBytes dX9_feed_22 mlX9_76 shC0 (Nat.le_of_ble_eq_true rfl) H (fun h3 H => ?_)
    refine aw_aload_n dX9_feed_25 rfl 0 rfl ?_
    refine aw_iload_n dX9_feed_26 rfl 3 rfl ?_
    refine cvX9_addBytes dX9_feed_27 mlX9_76 shC0 (Nat.le_of_ble_eq_true rfl) H (fun h5 H => ?_)
    refine aw_aload_n dX9_feed_30 rfl 0 rfl ?_
    refine aw_iload dX9_feed_31 4 rfl ?_
    refine cvX9_addBytes dX9_feed_33 mlX9_76 shC0 (Nat.le_of_ble_eq_true rfl) H (fun h7 H => ?_)
    refine aw_aload_n dX9_feed_36 rfl 0 rfl ?_
    refine aw_iload dX9_feed_37 5 rfl ?_
    refine cvX9_addBytes dX9_feed_39 mlX9_76 shC0 (Nat.le_of_ble_eq_true rfl) H (fun h9 H => ?_)
    refine aw_aload_n dX9_feed_42 rfl 0 rfl ?_
    refine aw_get dX9_feed_43 shC0 ckX9 flX9_72 (v := .int (h9.1 0 1)) rfl ?_
    exact aw_iret dX9_feed_46 rfl ⟨_, rfl, H⟩
  · replace H := H.2 hc11
    refine aw_iconst (v := (-1)) dX9_feed_13 (by decide) ?_
    exact aw_iret dX9_feed_14 rfl ⟨_, rfl, H⟩
set_option maxRecDepth 8000 in
set_option maxHeartbeats 1000000 in
theorem bX9_addBytes_0 {l : Launch} {ad : Nat → Nat} {d : Nat} {R : aH → Prop}   (x1 : Int32)  (h : aH)
    (H : AW GC l ad d mX9_addBytes 3 [(0, .ref (ad 0)), (1, .int x1), (2, .int (24 : Int32))] [] h (qv R)) : AW GC l ad d mX9_addBytes 0 [(0, .ref (ad 0)), (1, .int x1)] [] h (qv R) := by
  refine aw_bipush (v := 24) dX9_addBytes_0 (by decide) ?_
  refine aw_istore_n (ls' := [(2, .int (24 : Int32)), (0, .ref (ad 0)), (1, .int x1)]) dX9_addBytes_2 rfl (by decide) rfl ?_
  exact aw_ls [1, 2, 0] rfl H
set_option maxRecDepth 8000 in
set_option maxHeartbeats 1000000 in
theorem bX9_addBytes_3 {l : Launch} {ad : Nat → Nat} {d : Nat} {R : aH → Prop}   (x1 : Int32) (x2 : Int32)  (h : aH)
    (H : (x2 < 0 → (R h)) ∧ (¬ x2 < 0 → (((700 : Int32) ≤ (h.1 0 1) → (R h)) ∧ (¬ (700 : Int32) ≤ (h.1 0 1) → (vp_in (h.1 0 1) 700 ∧ (∀ h2 : aH, h2 = (sI (sI h 1 (h.1 0 1).toNatClampNeg ((x1 >>> (x2 &&& 31)) &&& (255 : Int32))) 0 1 (((sI h 1 (h.1 0 1).toNatClampNeg ((x1 >>> (x2 &&& 31)) &&& (255 : Int32))).1 0 1) + (1 : Int32))) → (AW GC l ad d mX9_addBytes 3 [(0, .ref (ad 0)), (1, .int x1), (2, .int (x2 + (-8 : Int32)))] [] h2 (qv R)))))))) : AW GC l ad d mX9_addBytes 3 [(0, .ref (ad 0)), (1, .int x1), (2, .int x2)] [] h (qv R) := by
  refine aw_iload_n dX9_addBytes_3 rfl 2 rfl ?_
  refine aw_if_lt (tgt := 49) dX9_addBytes_4 (by decide) (fun hc4 => ?_) (fun hc4 => ?_)
  · replace H := H.1 hc4
    exact aw_vret dX9_addBytes_49 rfl ⟨rfl, H⟩
  · replace H := H.2 hc4
    refine aw_aload_n dX9_addBytes_7 rfl 0 rfl ?_
    refine aw_get dX9_addBytes_8 shC0 ckX9 flX9_72 (v := .int (h.1 0 1)) rfl ?_
    refine aw_sipush (v := 700) dX9_addBytes_11 (by decide) ?_
    refine aw_icmp_ge (tgt := 49) dX9_addBytes_14 (by decide) (fun hc3 => ?_) (fun hc3 => ?_)
    · replace H := H.1 hc3
      exact aw_vret dX9_addBytes_49 rfl ⟨rfl, H⟩
    · replace H := H.2 hc3
      refine aw_aload_n dX9_addBytes_17 rfl 0 rfl ?_
      refine aw_get dX9_addBytes_18 shC0 ckX9 flX9_11 (v := .ref (ad 1)) rfl ?_
      refine aw_aload_n dX9_addBytes_21 rfl 0 rfl ?_
      refine aw_get dX9_addBytes_22 shC0 ckX9 flX9_72 (v := .int (h.1 0 1)) rfl ?_
      refine aw_iload_n dX9_addBytes_25 rfl 1 rfl ?_
      refine aw_iload_n dX9_addBytes_26 rfl 2 rfl ?_
      refine aw_ishr dX9_addBytes_27 ?_
      refine aw_sipush (v := 255) dX9_addBytes_28 (by decide) ?_
      refine aw_iand dX9_addBytes_31 ?_
      obtain ⟨hi1, H⟩ := H
      refine aw_iastK (t0 := 0) (j := (h.1 0 1).toNatClampNeg) dX9_addBytes_32 shC1 rfl rfl hi1 ?_
      refine aw_aload_n dX9_addBytes_33 rfl 0 rfl ?_
      refine aw_dup dX9_addBytes_34 rfl ?_
      refine aw_get dX9_addBytes_35 shC0 ckX9 flX9_72 (v := .int ((sI h 1 (h.1 0 1).toNatClampNeg ((x1 >>> (x2 &&& 31)) &&& (255 : Int32))).1 0 1)) rfl ?_
      refine aw_iconst (v := 1) dX9_addBytes_38 (by decide) ?_
      refine aw_iadd dX9_addBytes_39 ?_
      refine aw_putI dX9_addBytes_40 shC0 ckX9 flX9_72 rfl (fun _ => rfl) rfl rfl ?_
      refine aw_toph (fun h2 eh2 => ?_)
      replace H := H h2 eh2
      refine aw_inc (mm := (-8)) (ls' := [(2, .int (x2 + (-8 : Int32))), (0, .ref (ad 0)), (1, .int x1)]) dX9_addBytes_43 (by decide) (j := 2) rfl (by decide) rfl ?_
      refine aw_goto (tgt := 3) dX9_addBytes_46 (by decide) ?_
      exact aw_ls [1, 2, 0] rfl H
set_option maxRecDepth 8000 in
set_option maxHeartbeats 1000000 in
theorem bX9_text_0 {l : Launch} {ad : Nat → Nat} {d : Nat} {R : Int32 → aH → Prop}   (x1 : Int32)  (h : aH)
    (H : (x1 < 0 → (R (-2 : Int32) h)) ∧ (¬ x1 < 0 → ((x1 ≤ (h.1 0 1) → (AW GC l ad d mX3_read 0 [(0, .ref (ad 2)), (1, .ref (ad 1)), (2, .int x1)] [] (sI h 0 1 (0 : Int32)) (qi fun z2 h1 => (¬ z2 = 0 → (∀ y3 : Nat, y3 = h1.2.2 0 3 → isS GC y3 ∧ (AW GC l ad d mX3_exchange 0 [(0, .ref (ad 2)), (1, .ref (ad y3))] [] h1 (qr ad fun z5 h4 => isS GC z5 ∧ (∀ y6 : Nat, y6 = (sR h4 0 3 z5).2.2 0 3 → isS GC y6 ∧ (AW GC l ad d mX8_copyFrom 0 [(0, .ref (ad 66)), (1, .ref (ad (y6 + 17)))] [] (sR h4 0 3 z5) (qv fun h7 => AW GC l ad d mX5_forget 0 [(0, .ref (ad 346))] [] h7 (qv fun h9 => ∀ y11 : Nat, y11 = (sI (sI h9 102 1 (0 : Int32)) 0 7 (0 : Int32)).2.2 0 3 → isS GC y11 ∧ (R ((sI (sI h9 102 1 (0 : Int32)) 0 7 (0 : Int32)).1 y11 18) (sI (sI h9 102 1 (0 : Int32)) 0 7 (0 : Int32))))))))))) ∧ (z2 = 0 → (R (-1 : Int32) h1))))) ∧ (¬ x1 ≤ (h.1 0 1) → (R (-2 : Int32) h))))) : AW GC l ad (d + 1) mX9_text 0 [(0, .ref (ad 0)), (1, .int x1)] [] h (qi R) := by
  refine aw_iload_n dX9_text_0 rfl 1 rfl ?_
  refine aw_if_lt (tgt := 12) dX9_text_1 (by decide) (fun hc14 => ?_) (fun hc14 => ?_)
  · replace H := H.1 hc14
    refine aw_bipush (v := (-2)) dX9_text_12 (by decide) ?_
    exact aw_iret dX9_text_14 rfl ⟨_, rfl, H⟩
  · replace H := H.2 hc14
    refine aw_iload_n dX9_text_4 rfl 1 rfl ?_
    refine aw_aload_n dX9_text_5 rfl 0 rfl ?_
    refine aw_get dX9_text_6 shC0 ckX9 flX9_72 (v := .int (h.1 0 1)) rfl ?_
    refine aw_icmp_le (tgt := 15) dX9_text_9 (by decide) (fun hc13 => ?_) (fun hc13 => ?_)
    · replace H := H.1 hc13
      refine aw_aload_n dX9_text_15 rfl 0 rfl ?_
      refine aw_iconst (v := 0) dX9_text_16 (by decide) ?_
      refine aw_putI dX9_text_17 shC0 ckX9 flX9_72 rfl (fun _ => rfl) rfl rfl ?_
      refine aw_aload_n dX9_text_20 rfl 0 rfl ?_
      refine aw_get dX9_text_21 shC0 ckX9 flX9_18 (v := .ref (ad 2)) rfl ?_
      refine aw_aload_n dX9_text_24 rfl 0 rfl ?_
      refine aw_get dX9_text_25 shC0 ckX9 flX9_11 (v := .ref (ad 1)) rfl ?_
      refine aw_iload_n dX9_text_28 rfl 1 rfl ?_
      refine cvX3_read dX9_text_29 mlX9_80 shC2 (Nat.le_of_ble_eq_true rfl) H (fun z2 h1 H => ?_)
      refine aw_if_ne (tgt := 37) dX9_text_32 (by decide) (fun hc12 => ?_) (fun hc12 => ?_)
      · replace H := H.1 hc12
        refine aw_aload_n dX9_text_37 rfl 0 rfl ?_
        refine aw_aload_n dX9_text_38 rfl 0 rfl ?_
        refine aw_get dX9_text_39 shC0 ckX9 flX9_18 (v := .ref (ad 2)) rfl ?_
        refine aw_aload_n dX9_text_42 rfl 0 rfl ?_
        obtain ⟨y3, ey3⟩ : ∃ z, z = h1.2.2 0 3 := ⟨_, rfl⟩
        obtain ⟨hy3, H⟩ := H y3 ey3
        refine aw_get dX9_text_43 shC0 ckX9 flX9_25 (v := .ref (ad y3)) (by rw [ey3]; rfl) ?_
        refine cvX3_exchange dX9_text_46 mlX9_84 shC2 (Nat.le_of_ble_eq_true rfl) H (fun z5 h4 H => ?_)
        obtain ⟨hz5, H⟩ := H
        refine aw_putR dX9_text_49 shC0 ckX9 flX9_25 rfl (fun _ => rfl) rfl rfl ?_
        refine aw_aload_n dX9_text_52 rfl 0 rfl ?_
        refine aw_get dX9_text_53 shC0 ckX9 flX9_32 (v := .ref (ad 66)) rfl ?_
        refine aw_aload_n dX9_text_56 rfl 0 rfl ?_
        obtain ⟨y6, ey6⟩ : ∃ z, z = (sR h4 0 3 z5).2.2 0 3 := ⟨_, rfl⟩
        obtain ⟨hy6, H⟩ := H y6 ey6
        refine aw_get dX9_text_57 shC0 ckX9 flX9_25 (v := .ref (ad y6)) (by rw [ey6]; rfl) ?_
        refine aw_get dX9_text_60 hy6.1 ckX6 flX9_88 (v := .ref (ad (y6 + 17))) rfl ?_
        refine cvX8_copyFrom dX9_text_63 mlX9_91 isW_66.1 (Nat.le_of_ble_eq_true rfl) H (fun h7 H => ?_)
        refine aw_aload_n dX9_text_66 rfl 0 rfl ?_
        refine aw_get dX9_text_67 shC0 ckX9 flX9_61 (v := .ref (ad 346)) rfl ?_
        refine cvX5_forget dX9_text_70 mlX9_95 shC346 (Nat.le_of_ble_eq_true rfl) H (fun h9 H => ?_)
        refine aw_aload_n dX9_text_73 rfl 0 rfl ?_
        refine aw_get dX9_text_74 shC0 ckX9 flX9_45 (v := .ref (ad 102)) rfl ?_
        refine aw_iconst (v := 0) dX9_text_77 (by decide) ?_
        refine aw_putI dX9_text_78 shC102 ckX2 flX9_98 rfl (fun _ => rfl) rfl rfl ?_
        refine aw_aload_n dX9_text_81 rfl 0 rfl ?_
        refine aw_iconst (v := 0) dX9_text_82 (by decide) ?_
        refine aw_putI dX9_text_83 shC0 ckX9 flX9_101 rfl (fun _ => rfl) (show narrow .boolean (.int (0 : Int32)) = .int (0 : Int32) by decide) (show fits .boolean (.int (0 : Int32)) = true by decide) ?_
        refine aw_aload_n dX9_text_86 rfl 0 rfl ?_
        obtain ⟨y11, ey11⟩ : ∃ z, z = (sI (sI h9 102 1 (0 : Int32)) 0 7 (0 : Int32)).2.2 0 3 := ⟨_, rfl⟩
        obtain ⟨hy11, H⟩ := H y11 ey11
        refine aw_get dX9_text_87 shC0 ckX9 flX9_25 (v := .ref (ad y11)) (by rw [ey11]; rfl) ?_
        refine aw_get dX9_text_90 hy11.1 ckX6 flX9_105 (v := .int ((sI (sI h9 102 1 (0 : Int32)) 0 7 (0 : Int32)).1 y11 18)) rfl ?_
        exact aw_iret dX9_text_93 rfl ⟨_, rfl, H⟩
      · replace H := H.2 hc12
        refine aw_iconst (v := (-1)) dX9_text_35 (by decide) ?_
        exact aw_iret dX9_text_36 rfl ⟨_, rfl, H⟩
    · replace H := H.2 hc13
      refine aw_bipush (v := (-2)) dX9_text_12 (by decide) ?_
      exact aw_iret dX9_text_14 rfl ⟨_, rfl, H⟩
set_option maxRecDepth 8000 in
set_option maxHeartbeats 1000000 in
theorem bX9_fault_0 {l : Launch} {ad : Nat → Nat} {d : Nat} {R : Int32 → aH → Prop}   (x1 : Int32)  (h : aH)
    (H : (¬ x1 = 0 → ((¬ x1 = (1 : Int32) → (R (-1 : Int32) h)) ∧ (x1 = (1 : Int32) → (R (h.1 2 4) h)))) ∧ (x1 = 0 → (R (h.1 2 3) h))) : AW GC l ad d mX9_fault 0 [(0, .ref (ad 0)), (1, .int x1)] [] h (qi R) := by
  refine aw_iload_n dX9_fault_0 rfl 1 rfl ?_
  refine aw_if_ne (tgt := 12) dX9_fault_1 (by decide) (fun hc2 => ?_) (fun hc2 => ?_)
  · replace H := H.1 hc2
    refine aw_iload_n dX9_fault_12 rfl 1 rfl ?_
    refine aw_iconst (v := 1) dX9_fault_13 (by decide) ?_
    refine aw_icmp_ne (tgt := 27) dX9_fault_14 (by decide) (fun hc1 => ?_) (fun hc1 => ?_)
    · replace H := H.1 hc1
      refine aw_iconst (v := (-1)) dX9_fault_27 (by decide) ?_
      exact aw_iret dX9_fault_28 rfl ⟨_, rfl, H⟩
    · replace H := H.2 hc1
      refine aw_aload_n dX9_fault_17 rfl 0 rfl ?_
      refine aw_get dX9_fault_18 shC0 ckX9 flX9_18 (v := .ref (ad 2)) rfl ?_
      refine aw_get dX9_fault_21 shC2 ckX3 flX9_111 (v := .int (h.1 2 4)) rfl ?_
      refine aw_goto (tgt := 28) dX9_fault_24 (by decide) ?_
      exact aw_iret dX9_fault_28 rfl ⟨_, rfl, H⟩
  · replace H := H.2 hc2
    refine aw_aload_n dX9_fault_4 rfl 0 rfl ?_
    refine aw_get dX9_fault_5 shC0 ckX9 flX9_18 (v := .ref (ad 2)) rfl ?_
    refine aw_get dX9_fault_8 shC2 ckX3 flX9_108 (v := .int (h.1 2 3)) rfl ?_
    exact aw_iret dX9_fault_11 rfl ⟨_, rfl, H⟩
set_option maxRecDepth 8000 in
set_option maxHeartbeats 1000000 in
theorem bX9_named_0 {l : Launch} {ad : Nat → Nat} {d : Nat} {R : Int32 → aH → Prop}   (x1 : Int32) (x2 : Int32)  (h : aH)
    (H : (¬ x1 = 0 → ((¬ x1 = (1 : Int32) → (R (-1 : Int32) h)) ∧ (x1 = (1 : Int32) → (∀ y1 : Nat, y1 = h.2.2 0 3 → isS GC y1 ∧ (AW GC l ad d mX9_indexOf 0 [(0, .int x2), (1, .ref (ad (y1 + 2))), (2, .int (h.1 y1 12))] [] h (qi fun z3 h2 => R z3 h2)))))) ∧ (x1 = 0 → (∀ y5 : Nat, y5 = h.2.2 0 3 → isS GC y5 ∧ (AW GC l ad d mX9_indexOf 0 [(0, .int x2), (1, .ref (ad (y5 + 1))), (2, .int (h.1 y5 11))] [] h (qi fun z7 h6 => R z7 h6))))) : AW GC l ad (d + 1) mX9_named 0 [(0, .ref (ad 0)), (1, .int x1), (2, .int x2)] [] h (qi R) := by
  refine aw_iload_n dX9_named_0 rfl 1 rfl ?_
  refine aw_if_ne (tgt := 23) dX9_named_1 (by decide) (fun hc8 => ?_) (fun hc8 => ?_)
  · replace H := H.1 hc8
    refine aw_iload_n dX9_named_23 rfl 1 rfl ?_
    refine aw_iconst (v := 1) dX9_named_24 (by decide) ?_
    refine aw_icmp_ne (tgt := 49) dX9_named_25 (by decide) (fun hc4 => ?_) (fun hc4 => ?_)
    · replace H := H.1 hc4
      refine aw_iconst (v := (-1)) dX9_named_49 (by decide) ?_
      exact aw_iret dX9_named_50 rfl ⟨_, rfl, H⟩
    · replace H := H.2 hc4
      refine aw_iload_n dX9_named_28 rfl 2 rfl ?_
      refine aw_aload_n dX9_named_29 rfl 0 rfl ?_
      obtain ⟨y1, ey1⟩ : ∃ z, z = h.2.2 0 3 := ⟨_, rfl⟩
      obtain ⟨hy1, H⟩ := H y1 ey1
      refine aw_get dX9_named_30 shC0 ckX9 flX9_25 (v := .ref (ad y1)) (by rw [ey1]; rfl) ?_
      refine aw_get dX9_named_33 hy1.1 ckX6 flX9_124 (v := .ref (ad (y1 + 2))) rfl ?_
      refine aw_aload_n dX9_named_36 rfl 0 rfl ?_
      refine aw_get dX9_named_37 shC0 ckX9 flX9_25 (v := .ref (ad y1)) (by rw [ey1]; rfl) ?_
      refine aw_get dX9_named_40 hy1.1 ckX6 flX9_127 (v := .int (h.1 y1 12)) rfl ?_
      refine cvX9_indexOf dX9_named_43 mlX9_120 (Nat.le_of_ble_eq_true rfl) H (fun z3 h2 H => ?_)
      refine aw_goto (tgt := 50) dX9_named_46 (by decide) ?_
      exact aw_iret dX9_named_50 rfl ⟨_, rfl, H⟩
  · replace H := H.2 hc8
    refine aw_iload_n dX9_named_4 rfl 2 rfl ?_
    refine aw_aload_n dX9_named_5 rfl 0 rfl ?_
    obtain ⟨y5, ey5⟩ : ∃ z, z = h.2.2 0 3 := ⟨_, rfl⟩
    obtain ⟨hy5, H⟩ := H y5 ey5
    refine aw_get dX9_named_6 shC0 ckX9 flX9_25 (v := .ref (ad y5)) (by rw [ey5]; rfl) ?_
    refine aw_get dX9_named_9 hy5.1 ckX6 flX9_114 (v := .ref (ad (y5 + 1))) rfl ?_
    refine aw_aload_n dX9_named_12 rfl 0 rfl ?_
    refine aw_get dX9_named_13 shC0 ckX9 flX9_25 (v := .ref (ad y5)) (by rw [ey5]; rfl) ?_
    refine aw_get dX9_named_16 hy5.1 ckX6 flX9_117 (v := .int (h.1 y5 11)) rfl ?_
    refine cvX9_indexOf dX9_named_19 mlX9_120 (Nat.le_of_ble_eq_true rfl) H (fun z7 h6 H => ?_)
    exact aw_iret dX9_named_22 rfl ⟨_, rfl, H⟩
set_option maxRecDepth 8000 in
set_option maxHeartbeats 1000000 in
theorem bX9_man_0 {l : Launch} {ad : Nat → Nat} {d : Nat} {R : Int32 → aH → Prop}   (x1 : Int32) (x2 : Int32)  (h : aH)
    (H : AW GC l ad d mX9_isMan 0 [(0, .ref (ad 0)), (1, .int x1)] [] h (qi fun z2 h1 => (z2 = 0 → (R (-2147483648 : Int32) h1)) ∧ (¬ z2 = 0 → ((x2 < 0 → (R (-2147483648 : Int32) h1)) ∧ (¬ x2 < 0 → ((x2 ≤ (1 : Int32) → ((¬ x2 = 0 → (AW GC l ad d mX8_netOf 0 [(0, .ref (ad 66)), (1, .int x1)] [] h1 (qi fun z4 h3 => R z4 h3))) ∧ (x2 = 0 → (AW GC l ad d mX8_purseOf 0 [(0, .ref (ad 66)), (1, .int x1)] [] h1 (qi fun z6 h5 => R z6 h5))))) ∧ (¬ x2 ≤ (1 : Int32) → (R (-2147483648 : Int32) h1)))))))) : AW GC l ad (d + 1) mX9_man 0 [(0, .ref (ad 0)), (1, .int x1), (2, .int x2)] [] h (qi R) := by
  refine aw_aload_n dX9_man_0 rfl 0 rfl ?_
  refine aw_iload_n dX9_man_1 rfl 1 rfl ?_
  refine cvX9_isMan dX9_man_2 mlX9_164 shC0 (Nat.le_of_ble_eq_true rfl) H (fun z2 h1 H => ?_)
  refine aw_if_eq (tgt := 17) dX9_man_5 (by decide) (fun hc10 => ?_) (fun hc10 => ?_)
  · replace H := H.1 hc10
    refine aw_ldc dX9_man_17 coX9_169 ?_
    exact aw_iret dX9_man_19 rfl ⟨_, rfl, H⟩
  · replace H := H.2 hc10
    refine aw_iload_n dX9_man_8 rfl 2 rfl ?_
    refine aw_if_lt (tgt := 17) dX9_man_9 (by decide) (fun hc9 => ?_) (fun hc9 => ?_)
    · replace H := H.1 hc9
      refine aw_ldc dX9_man_17 coX9_169 ?_
      exact aw_iret dX9_man_19 rfl ⟨_, rfl, H⟩
    · replace H := H.2 hc9
      refine aw_iload_n dX9_man_12 rfl 2 rfl ?_
      refine aw_iconst (v := 1) dX9_man_13 (by decide) ?_
      refine aw_icmp_le (tgt := 20) dX9_man_14 (by decide) (fun hc8 => ?_) (fun hc8 => ?_)
      · replace H := H.1 hc8
        refine aw_iload_n dX9_man_20 rfl 2 rfl ?_
        refine aw_if_ne (tgt := 35) dX9_man_21 (by decide) (fun hc7 => ?_) (fun hc7 => ?_)
        · replace H := H.1 hc7
          refine aw_aload_n dX9_man_35 rfl 0 rfl ?_
          refine aw_get dX9_man_36 shC0 ckX9 flX9_32 (v := .ref (ad 66)) rfl ?_
          refine aw_iload_n dX9_man_39 rfl 1 rfl ?_
          refine cvX8_netOf dX9_man_40 mlX9_174 isW_66.1 (Nat.le_of_ble_eq_true rfl) H (fun z4 h3 H => ?_)
          exact aw_iret dX9_man_43 rfl ⟨_, rfl, H⟩
        · replace H := H.2 hc7
          refine aw_aload_n dX9_man_24 rfl 0 rfl ?_
          refine aw_get dX9_man_25 shC0 ckX9 flX9_32 (v := .ref (ad 66)) rfl ?_
          refine aw_iload_n dX9_man_28 rfl 1 rfl ?_
          refine cvX8_purseOf dX9_man_29 mlX9_170 isW_66.1 (Nat.le_of_ble_eq_true rfl) H (fun z6 h5 H => ?_)
          refine aw_goto (tgt := 43) dX9_man_32 (by decide) ?_
          exact aw_iret dX9_man_43 rfl ⟨_, rfl, H⟩
      · replace H := H.2 hc8
        refine aw_ldc dX9_man_17 coX9_169 ?_
        exact aw_iret dX9_man_19 rfl ⟨_, rfl, H⟩
set_option maxRecDepth 8000 in
set_option maxHeartbeats 1000000 in
theorem bX9_tusk_0 {l : Launch} {ad : Nat → Nat} {d : Nat} {R : Int32 → aH → Prop}   (x1 : Int32) (x2 : Int32)  (h : aH)
    (H : AW GC l ad d mX9_isTusk 0 [(0, .ref (ad 0)), (1, .int x1)] [] h (qi fun z2 h1 => (¬ z2 = 0 → ((x2 = (0 : Int32) → (vp_in x1 6 ∧ (R (h1.1 68 x1.toNatClampNeg) h1))) ∧ ((x2 = (1 : Int32) → (∀ y5 : Nat, y5 = h1.2.2 0 3 → isS GC y5 ∧ (vp_in x1 6 ∧ (R (h1.1 (y5 + 3) x1.toNatClampNeg) h1)))) ∧ ((x2 = (2 : Int32) → (AW GC l ad d mX8_isAlive 0 [(0, .ref (ad 66)), (1, .int x1)] [] h1 (qi fun z8 h7 => (z8 = 0 → (R (0 : Int32) h7)) ∧ (¬ z8 = 0 → (R (1 : Int32) h7))))) ∧ ((x2 = (3 : Int32) → (AW GC l ad d mX8_debtsKnownBy 0 [(0, .ref (ad 66)), (1, .int x1)] [] h1 (qi fun z11 h10 => R z11 h10))) ∧ ((x2 = (4 : Int32) → (AW GC l ad d mX8_debtsKnownOnlyBy 0 [(0, .ref (ad 66)), (1, .int x1)] [] h1 (qi fun z13 h12 => R z13 h12))) ∧ (¬ x2 = (0 : Int32) → ¬ x2 = (1 : Int32) → ¬ x2 = (2 : Int32) → ¬ x2 = (3 : Int32) → ¬ x2 = (4 : Int32) → (R (-1 : Int32) h1)))))))) ∧ (z2 = 0 → (R (-1 : Int32) h1)))) : AW GC l ad (d + 1) mX9_tusk 0 [(0, .ref (ad 0)), (1, .int x1), (2, .int x2)] [] h (qi R) := by
  refine aw_aload_n dX9_tusk_0 rfl 0 rfl ?_
  refine aw_iload_n dX9_tusk_1 rfl 1 rfl ?_
  refine cvX9_isTusk dX9_tusk_2 mlX9_177 shC0 (Nat.le_of_ble_eq_true rfl) H (fun z2 h1 H => ?_)
  refine aw_if_ne (tgt := 10) dX9_tusk_5 (by decide) (fun hc14 => ?_) (fun hc14 => ?_)
  · replace H := H.1 hc14
    refine aw_iload_n dX9_tusk_10 rfl 2 rfl ?_
    by_cases hx3_0 : x2 = (0 : Int32)
    · replace H := H.1 hx3_0
      refine aw_tableIn (off := 33) (tgt := 44) dX9_tusk_11 (by rw [hx3_0]; decide) (by rw [hx3_0]; decide) (by rw [hx3_0]; decide) (by decide) ?_
      refine aw_aload_n dX9_tusk_44 rfl 0 rfl ?_
      refine aw_get dX9_tusk_45 shC0 ckX9 flX9_32 (v := .ref (ad 66)) rfl ?_
      refine aw_get dX9_tusk_48 isW_66.1 ckX8 flX9_180 (v := .ref (ad 68)) rfl ?_
      refine aw_iload_n dX9_tusk_51 rfl 1 rfl ?_
      obtain ⟨hi4, H⟩ := H
      refine aw_ialdK (t0 := 0) (j := x1.toNatClampNeg) dX9_tusk_52 (isW_66.2 1 (by decide)) rfl rfl hi4 ?_
      exact aw_iret dX9_tusk_53 rfl ⟨_, rfl, H⟩
    by_cases hx3_1 : x2 = (1 : Int32)
    · replace H := H.2.1 hx3_1
      refine aw_tableIn (off := 43) (tgt := 54) dX9_tusk_11 (by rw [hx3_1]; decide) (by rw [hx3_1]; decide) (by rw [hx3_1]; decide) (by decide) ?_
      refine aw_aload_n dX9_tusk_54 rfl 0 rfl ?_
      obtain ⟨y5, ey5⟩ : ∃ z, z = h1.2.2 0 3 := ⟨_, rfl⟩
      obtain ⟨hy5, H⟩ := H y5 ey5
      refine aw_get dX9_tusk_55 shC0 ckX9 flX9_25 (v := .ref (ad y5)) (by rw [ey5]; rfl) ?_
      refine aw_get dX9_tusk_58 hy5.1 ckX6 flX9_183 (v := .ref (ad (y5 + 3))) rfl ?_
      refine aw_iload_n dX9_tusk_61 rfl 1 rfl ?_
      obtain ⟨hi6, H⟩ := H
      refine aw_ialdK (t0 := 0) (j := x1.toNatClampNeg) dX9_tusk_62 (hy5.2.1 2 (by decide)) rfl rfl hi6 ?_
      exact aw_iret dX9_tusk_63 rfl ⟨_, rfl, H⟩
    by_cases hx3_2 : x2 = (2 : Int32)
    · replace H := H.2.2.1 hx3_2
      refine aw_tableIn (off := 53) (tgt := 64) dX9_tusk_11 (by rw [hx3_2]; decide) (by rw [hx3_2]; decide) (by rw [hx3_2]; decide) (by decide) ?_
      refine aw_aload_n dX9_tusk_64 rfl 0 rfl ?_
      refine aw_get dX9_tusk_65 shC0 ckX9 flX9_32 (v := .ref (ad 66)) rfl ?_
      refine aw_iload_n dX9_tusk_68 rfl 1 rfl ?_
      refine cvX8_isAlive dX9_tusk_69 mlX9_186 isW_66.1 (Nat.le_of_ble_eq_true rfl) H (fun z8 h7 H => ?_)
      refine aw_if_eq (tgt := 79) dX9_tusk_72 (by decide) (fun hc9 => ?_) (fun hc9 => ?_)
      · replace H := H.1 hc9
        refine aw_iconst (v := 0) dX9_tusk_79 (by decide) ?_
        exact aw_iret dX9_tusk_80 rfl ⟨_, rfl, H⟩
      · replace H := H.2 hc9
        refine aw_iconst (v := 1) dX9_tusk_75 (by decide) ?_
        refine aw_goto (tgt := 80) dX9_tusk_76 (by decide) ?_
        exact aw_iret dX9_tusk_80 rfl ⟨_, rfl, H⟩
    by_cases hx3_3 : x2 = (3 : Int32)
    · replace H := H.2.2.2.1 hx3_3
      refine aw_tableIn (off := 70) (tgt := 81) dX9_tusk_11 (by rw [hx3_3]; decide) (by rw [hx3_3]; decide) (by rw [hx3_3]; decide) (by decide) ?_
      refine aw_aload_n dX9_tusk_81 rfl 0 rfl ?_
      refine aw_get dX9_tusk_82 shC0 ckX9 flX9_32 (v := .ref (ad 66)) rfl ?_
      refine aw_iload_n dX9_tusk_85 rfl 1 rfl ?_
      refine cvX8_debtsKnownBy dX9_tusk_86 mlX9_189 isW_66.1 (Nat.le_of_ble_eq_true rfl) H (fun z11 h10 H => ?_)
      exact aw_iret dX9_tusk_89 rfl ⟨_, rfl, H⟩
    by_cases hx3_4 : x2 = (4 : Int32)
    · replace H := H.2.2.2.2.1 hx3_4
      refine aw_tableIn (off := 79) (tgt := 90) dX9_tusk_11 (by rw [hx3_4]; decide) (by rw [hx3_4]; decide) (by rw [hx3_4]; decide) (by decide) ?_
      refine aw_aload_n dX9_tusk_90 rfl 0 rfl ?_
      refine aw_get dX9_tusk_91 shC0 ckX9 flX9_32 (v := .ref (ad 66)) rfl ?_
      refine aw_iload_n dX9_tusk_94 rfl 1 rfl ?_
      refine cvX8_debtsKnownOnlyBy dX9_tusk_95 mlX9_192 isW_66.1 (Nat.le_of_ble_eq_true rfl) H (fun z13 h12 H => ?_)
      exact aw_iret dX9_tusk_98 rfl ⟨_, rfl, H⟩
    replace H := H.2.2.2.2.2 hx3_0 hx3_1 hx3_2 hx3_3 hx3_4
    have hx3_0e := tab_ne hx3_0 (a := 0) (by decide)
    have hx3_1e := tab_ne hx3_1 (a := 1) (by decide)
    have hx3_2e := tab_ne hx3_2 (a := 2) (by decide)
    have hx3_3e := tab_ne hx3_3 (a := 3) (by decide)
    have hx3_4e := tab_ne hx3_4 (a := 4) (by decide)
    refine aw_tableOut (tgt := 99) dX9_tusk_11 (by omega) (by decide) ?_
    refine aw_iconst (v := (-1)) dX9_tusk_99 (by decide) ?_
    exact aw_iret dX9_tusk_100 rfl ⟨_, rfl, H⟩
  · replace H := H.2 hc14
    refine aw_iconst (v := (-1)) dX9_tusk_8 (by decide) ?_
    exact aw_iret dX9_tusk_9 rfl ⟨_, rfl, H⟩
set_option maxRecDepth 8000 in
set_option maxHeartbeats 1000000 in
theorem bX9_law_0 {l : Launch} {ad : Nat → Nat} {d : Nat} {R : Int64 → aH → Prop}   (x1 : Int32) (x2 : Int32) (x3 : Int32)  (h : aH)
    (H : ∀ y1 : Nat, y1 = h.2.2 0 3 → isS GC y1 ∧ (AW GC l ad d mX0_follow 0 [(0, .ref (ad 344)), (1, .ref (ad y1)), (2, .ref (ad 66)), (3, .int (-1 : Int32)), (4, .int (0 : Int32))] [] h (qv fun h2 => (¬ x1 = 0 → (AW GC l ad (d + 1) mX9_law 47 [(0, .ref (ad 0)), (1, .int x1), (2, .int x2), (3, .int x3)] [] h2 (ql R))) ∧ (x1 = 0 → (AW GC l ad d mX9_isDebt 0 [(0, .ref (ad 0)), (1, .int x2)] [] h2 (qi fun z5 h4 => (z5 = 0 → (AW GC l ad (d + 1) mX9_law 47 [(0, .ref (ad 0)), (1, .int x1), (2, .int x2), (3, .int x3)] [] h4 (ql R))) ∧ (¬ z5 = 0 → (AW GC l ad d mX9_isTusk 0 [(0, .ref (ad 0)), (1, .int x3)] [] h4 (qi fun z7 h6 => (z7 = 0 → (AW GC l ad (d + 1) mX9_law 47 [(0, .ref (ad 0)), (1, .int x1), (2, .int x2), (3, .int x3)] [] h6 (ql R))) ∧ (¬ z7 = 0 → (AW GC l ad d mX0_passValue 0 [(0, .ref (ad 344)), (1, .int x2), (2, .int x3)] [] h6 (ql fun z9 h8 => R z9 h8)))))))))))) : AW GC l ad (d + 1) mX9_law 0 [(0, .ref (ad 0)), (1, .int x1), (2, .int x2), (3, .int x3)] [] h (ql R) := by
  refine aw_aload_n dX9_law_0 rfl 0 rfl ?_
  refine aw_get dX9_law_1 shC0 ckX9 flX9_54 (v := .ref (ad 344)) rfl ?_
  refine aw_aload_n dX9_law_4 rfl 0 rfl ?_
  obtain ⟨y1, ey1⟩ : ∃ z, z = h.2.2 0 3 := ⟨_, rfl⟩
  obtain ⟨hy1, H⟩ := H y1 ey1
  refine aw_get dX9_law_5 shC0 ckX9 flX9_25 (v := .ref (ad y1)) (by rw [ey1]; rfl) ?_
  refine aw_aload_n dX9_law_8 rfl 0 rfl ?_
  refine aw_get dX9_law_9 shC0 ckX9 flX9_32 (v := .ref (ad 66)) rfl ?_
  refine aw_iconst (v := (-1)) dX9_law_12 (by decide) ?_
  refine aw_iconst (v := 0) dX9_law_13 (by decide) ?_
  refine cvX0_follow dX9_law_14 mlX9_195 shC344 (Nat.le_of_ble_eq_true rfl) H (fun h2 H => ?_)
  refine aw_iload_n dX9_law_17 rfl 1 rfl ?_
  refine aw_if_ne (tgt := 47) dX9_law_18 (by decide) (fun hc12 => ?_) (fun hc12 => ?_)
  · replace H := H.1 hc12
    exact aw_ls [0, 1, 2, 3] rfl H
  · replace H := H.2 hc12
    refine aw_aload_n dX9_law_21 rfl 0 rfl ?_
    refine aw_iload_n dX9_law_22 rfl 2 rfl ?_
    refine cvX9_isDebt dX9_law_23 mlX9_130 shC0 (Nat.le_of_ble_eq_true rfl) H (fun z5 h4 H => ?_)
    refine aw_if_eq (tgt := 47) dX9_law_26 (by decide) (fun hc11 => ?_) (fun hc11 => ?_)
    · replace H := H.1 hc11
      exact aw_ls [0, 1, 2, 3] rfl H
    · replace H := H.2 hc11
      refine aw_aload_n dX9_law_29 rfl 0 rfl ?_
      refine aw_iload_n dX9_law_30 rfl 3 rfl ?_
      refine cvX9_isTusk dX9_law_31 mlX9_177 shC0 (Nat.le_of_ble_eq_true rfl) H (fun z7 h6 H => ?_)
      refine aw_if_eq (tgt := 47) dX9_law_34 (by decide) (fun hc10 => ?_) (fun hc10 => ?_)
      · replace H := H.1 hc10
        exact aw_ls [0, 1, 2, 3] rfl H
      · replace H := H.2 hc10
        refine aw_aload_n dX9_law_37 rfl 0 rfl ?_
        refine aw_get dX9_law_38 shC0 ckX9 flX9_54 (v := .ref (ad 344)) rfl ?_
        refine aw_iload_n dX9_law_41 rfl 2 rfl ?_
        refine aw_iload_n dX9_law_42 rfl 3 rfl ?_
        refine cvX0_passValue dX9_law_43 mlX9_199 shC344 (Nat.le_of_ble_eq_true rfl) H (fun z9 h8 H => ?_)
        exact aw_lret dX9_law_46 rfl ⟨_, rfl, H⟩
set_option maxRecDepth 8000 in
set_option maxHeartbeats 1000000 in
theorem bX9_law_47 {l : Launch} {ad : Nat → Nat} {d : Nat} {R : Int64 → aH → Prop}   (x1 : Int32) (x2 : Int32) (x3 : Int32)  (h : aH)
    (H : (¬ x1 = (1 : Int32) → (AW GC l ad (d + 1) mX9_law 69 [(0, .ref (ad 0)), (1, .int x1), (3, .int x3)] [] h (ql R))) ∧ (x1 = (1 : Int32) → (AW GC l ad d mX9_isDebt 0 [(0, .ref (ad 0)), (1, .int x2)] [] h (qi fun z2 h1 => (z2 = 0 → (AW GC l ad (d + 1) mX9_law 69 [(0, .ref (ad 0)), (1, .int x1), (3, .int x3)] [] h1 (ql R))) ∧ (¬ z2 = 0 → (AW GC l ad d mX0_payValue 0 [(0, .ref (ad 344)), (1, .int x2)] [] h1 (ql fun z4 h3 => R z4 h3))))))) : AW GC l ad (d + 1) mX9_law 47 [(0, .ref (ad 0)), (1, .int x1), (2, .int x2), (3, .int x3)] [] h (ql R) := by
  refine aw_iload_n dX9_law_47 rfl 1 rfl ?_
  refine aw_iconst (v := 1) dX9_law_48 (by decide) ?_
  refine aw_icmp_ne (tgt := 69) dX9_law_49 (by decide) (fun hc6 => ?_) (fun hc6 => ?_)
  · replace H := H.1 hc6
    exact aw_ls [0, 1, 3] rfl H
  · replace H := H.2 hc6
    refine aw_aload_n dX9_law_52 rfl 0 rfl ?_
    refine aw_iload_n dX9_law_53 rfl 2 rfl ?_
    refine cvX9_isDebt dX9_law_54 mlX9_130 shC0 (Nat.le_of_ble_eq_true rfl) H (fun z2 h1 H => ?_)
    refine aw_if_eq (tgt := 69) dX9_law_57 (by decide) (fun hc5 => ?_) (fun hc5 => ?_)
    · replace H := H.1 hc5
      exact aw_ls [0, 1, 3] rfl H
    · replace H := H.2 hc5
      refine aw_aload_n dX9_law_60 rfl 0 rfl ?_
      refine aw_get dX9_law_61 shC0 ckX9 flX9_54 (v := .ref (ad 344)) rfl ?_
      refine aw_iload_n dX9_law_64 rfl 2 rfl ?_
      refine cvX0_payValue dX9_law_65 mlX9_203 shC344 (Nat.le_of_ble_eq_true rfl) H (fun z4 h3 H => ?_)
      exact aw_lret dX9_law_68 rfl ⟨_, rfl, H⟩
set_option maxRecDepth 8000 in
set_option maxHeartbeats 1000000 in
theorem bX9_law_69 {l : Launch} {ad : Nat → Nat} {d : Nat} {R : Int64 → aH → Prop}   (x1 : Int32) (x3 : Int32)  (h : aH)
    (H : (¬ x1 = (2 : Int32) → (R (-9223372036854775808 : Int64) h)) ∧ (x1 = (2 : Int32) → (AW GC l ad d mX9_isTusk 0 [(0, .ref (ad 0)), (1, .int x3)] [] h (qi fun z2 h1 => (z2 = 0 → (R (-9223372036854775808 : Int64) h1)) ∧ (¬ z2 = 0 → (vp_in x3 6 ∧ (AW GC l ad d mX0_dieValue 0 [(0, .ref (ad 344)), (1, .int x3), (2, .int (h1.1 68 x3.toNatClampNeg))] [] h1 (ql fun z5 h4 => R z5 h4)))))))) : AW GC l ad (d + 1) mX9_law 69 [(0, .ref (ad 0)), (1, .int x1), (3, .int x3)] [] h (ql R) := by
  refine aw_iload_n dX9_law_69 rfl 1 rfl ?_
  refine aw_iconst (v := 2) dX9_law_70 (by decide) ?_
  refine aw_icmp_ne (tgt := 100) dX9_law_71 (by decide) (fun hc7 => ?_) (fun hc7 => ?_)
  · replace H := H.1 hc7
    refine aw_ldc2 dX9_law_100 clX9_210 ?_
    exact aw_lret dX9_law_103 rfl ⟨_, rfl, H⟩
  · replace H := H.2 hc7
    refine aw_aload_n dX9_law_74 rfl 0 rfl ?_
    refine aw_iload_n dX9_law_75 rfl 2 rfl ?_
    refine cvX9_isTusk dX9_law_76 mlX9_177 shC0 (Nat.le_of_ble_eq_true rfl) H (fun z2 h1 H => ?_)
    refine aw_if_eq (tgt := 100) dX9_law_79 (by decide) (fun hc6 => ?_) (fun hc6 => ?_)
    · replace H := H.1 hc6
      refine aw_ldc2 dX9_law_100 clX9_210 ?_
      exact aw_lret dX9_law_103 rfl ⟨_, rfl, H⟩
    · replace H := H.2 hc6
      refine aw_aload_n dX9_law_82 rfl 0 rfl ?_
      refine aw_get dX9_law_83 shC0 ckX9 flX9_54 (v := .ref (ad 344)) rfl ?_
      refine aw_iload_n dX9_law_86 rfl 2 rfl ?_
      refine aw_aload_n dX9_law_87 rfl 0 rfl ?_
      refine aw_get dX9_law_88 shC0 ckX9 flX9_32 (v := .ref (ad 66)) rfl ?_
      refine aw_get dX9_law_91 isW_66.1 ckX8 flX9_180 (v := .ref (ad 68)) rfl ?_
      refine aw_iload_n dX9_law_94 rfl 2 rfl ?_
      obtain ⟨hi3, H⟩ := H
      refine aw_ialdK (t0 := 0) (j := x3.toNatClampNeg) dX9_law_95 (isW_66.2 1 (by decide)) rfl rfl hi3 ?_
      refine cvX0_dieValue dX9_law_96 mlX9_207 shC344 (Nat.le_of_ble_eq_true rfl) H (fun z5 h4 H => ?_)
      exact aw_lret dX9_law_99 rfl ⟨_, rfl, H⟩
set_option maxRecDepth 8000 in
set_option maxHeartbeats 1000000 in
theorem bX9_lend_0 {l : Launch} {ad : Nat → Nat} {d : Nat} {R : Int32 → aH → Prop}   (x1 : Int32) (x2 : Int32) (x3 : Int32) (x4 : Int32)  (h : aH)
    (H : AW GC l ad d mX9_isMan 0 [(0, .ref (ad 0)), (1, .int x1)] [] h (qi fun z2 h1 => (z2 = 0 → (R (-1 : Int32) h1)) ∧ (¬ z2 = 0 → (AW GC l ad d mX9_isMan 0 [(0, .ref (ad 0)), (1, .int x2)] [] h1 (qi fun z4 h3 => (z4 = 0 → (R (-1 : Int32) h3)) ∧ (¬ z4 = 0 → ((x1 = x2 → (R (-1 : Int32) h3)) ∧ (¬ x1 = x2 → (AW GC l ad d mX9_isTusk 0 [(0, .ref (ad 0)), (1, .int x4)] [] h3 (qi fun z6 h5 => (¬ z6 = 0 → ((x3 < (1 : Int32) → (R (-1 : Int32) h5)) ∧ (¬ x3 < (1 : Int32) → (((99 : Int32) < x3 → (R (-1 : Int32) h5)) ∧ (¬ (99 : Int32) < x3 → (((h5.1 66 11) < (8 : Int32) → (AW GC l ad d mX8_isAlive 0 [(0, .ref (ad 66)), (1, .int x4)] [] h5 (qi fun z8 h7 => (z8 = 0 → (R (-2 : Int32) h7)) ∧ (¬ z8 = 0 → (AW GC l ad d mX8_purseOf 0 [(0, .ref (ad 66)), (1, .int x1)] [] h7 (qi fun z10 h9 => ∀ y11 : Nat, y11 = h9.2.2 0 3 → isS GC y11 ∧ (vp_in x4 6 ∧ (((x3 + (h9.1 (y11 + 3) x4.toNatClampNeg)) ≤ z10 → (AW GC l ad d mX2_store 0 [(0, .ref (ad 102)), (1, .ref (ad 66))] [] h9 (qv fun h13 => AW GC l ad d mX8_addDebt 0 [(0, .ref (ad 66)), (1, .int x1), (2, .int x2), (3, .int x3), (4, .int x4), (5, .int (h13.1 66 13))] [] h13 (qv fun h15 => ∀ y17 : Nat, y17 = h15.2.2 0 3 → isS GC y17 ∧ (AW GC l ad d mX8_open 0 [(0, .ref (ad 66)), (1, .int (h13.1 66 11)), (2, .int (h15.1 (y17 + 3) x4.toNatClampNeg)), (3, .int (0 : Int32))] [] h15 (qv fun h18 => R (h13.1 66 11) h18)))))) ∧ (¬ (x3 + (h9.1 (y11 + 3) x4.toNatClampNeg)) ≤ z10 → (R (-2 : Int32) h9)))))))))) ∧ (¬ (h5.1 66 11) < (8 : Int32) → (R (-1 : Int32) h5)))))))) ∧ (z6 = 0 → (R (-1 : Int32) h5)))))))))))) : AW GC l ad (d + 1) mX9_lend 0 [(0, .ref (ad 0)), (1, .int x1), (2, .int x2), (3, .int x3), (4, .int x4)] [] h (qi R) := by
  refine aw_aload_n dX9_lend_0 rfl 0 rfl ?_
  refine aw_iload_n dX9_lend_1 rfl 1 rfl ?_
  refine cvX9_isMan dX9_lend_2 mlX9_164 shC0 (Nat.le_of_ble_eq_true rfl) H (fun z2 h1 H => ?_)
  refine aw_if_eq (tgt := 30) dX9_lend_5 (by decide) (fun hc28 => ?_) (fun hc28 => ?_)
  · replace H := H.1 hc28
    refine aw_iconst (v := (-1)) dX9_lend_30 (by decide) ?_
    exact aw_iret dX9_lend_31 rfl ⟨_, rfl, H⟩
  · replace H := H.2 hc28
    refine aw_aload_n dX9_lend_8 rfl 0 rfl ?_
    refine aw_iload_n dX9_lend_9 rfl 2 rfl ?_
    refine cvX9_isMan dX9_lend_10 mlX9_164 shC0 (Nat.le_of_ble_eq_true rfl) H (fun z4 h3 H => ?_)
    refine aw_if_eq (tgt := 30) dX9_lend_13 (by decide) (fun hc27 => ?_) (fun hc27 => ?_)
    · replace H := H.1 hc27
      refine aw_iconst (v := (-1)) dX9_lend_30 (by decide) ?_
      exact aw_iret dX9_lend_31 rfl ⟨_, rfl, H⟩
    · replace H := H.2 hc27
      refine aw_iload_n dX9_lend_16 rfl 1 rfl ?_
      refine aw_iload_n dX9_lend_17 rfl 2 rfl ?_
      refine aw_icmp_eq (tgt := 30) dX9_lend_18 (by decide) (fun hc26 => ?_) (fun hc26 => ?_)
      · replace H := H.1 hc26
        refine aw_iconst (v := (-1)) dX9_lend_30 (by decide) ?_
        exact aw_iret dX9_lend_31 rfl ⟨_, rfl, H⟩
      · replace H := H.2 hc26
        refine aw_aload_n dX9_lend_21 rfl 0 rfl ?_
        refine aw_iload dX9_lend_22 4 rfl ?_
        refine cvX9_isTusk dX9_lend_24 mlX9_177 shC0 (Nat.le_of_ble_eq_true rfl) H (fun z6 h5 H => ?_)
        refine aw_if_ne (tgt := 32) dX9_lend_27 (by decide) (fun hc25 => ?_) (fun hc25 => ?_)
        · replace H := H.1 hc25
          refine aw_iload_n dX9_lend_32 rfl 3 rfl ?_
          refine aw_iconst (v := 1) dX9_lend_33 (by decide) ?_
          refine aw_icmp_lt (tgt := 55) dX9_lend_34 (by decide) (fun hc24 => ?_) (fun hc24 => ?_)
          · replace H := H.1 hc24
            refine aw_iconst (v := (-1)) dX9_lend_55 (by decide) ?_
            exact aw_iret dX9_lend_56 rfl ⟨_, rfl, H⟩
          · replace H := H.2 hc24
            refine aw_iload_n dX9_lend_37 rfl 3 rfl ?_
            refine aw_bipush (v := 99) dX9_lend_38 (by decide) ?_
            refine aw_icmp_gt (tgt := 55) dX9_lend_40 (by decide) (fun hc23 => ?_) (fun hc23 => ?_)
            · replace H := H.1 hc23
              refine aw_iconst (v := (-1)) dX9_lend_55 (by decide) ?_
              exact aw_iret dX9_lend_56 rfl ⟨_, rfl, H⟩
            · replace H := H.2 hc23
              refine aw_aload_n dX9_lend_43 rfl 0 rfl ?_
              refine aw_get dX9_lend_44 shC0 ckX9 flX9_32 (v := .ref (ad 66)) rfl ?_
              refine aw_get dX9_lend_47 isW_66.1 ckX8 flX9_212 (v := .int (h5.1 66 11)) rfl ?_
              refine aw_bipush (v := 8) dX9_lend_50 (by decide) ?_
              refine aw_icmp_lt (tgt := 57) dX9_lend_52 (by decide) (fun hc22 => ?_) (fun hc22 => ?_)
              · replace H := H.1 hc22
                refine aw_aload_n dX9_lend_57 rfl 0 rfl ?_
                refine aw_get dX9_lend_58 shC0 ckX9 flX9_32 (v := .ref (ad 66)) rfl ?_
                refine aw_iload dX9_lend_61 4 rfl ?_
                refine cvX8_isAlive dX9_lend_63 mlX9_186 isW_66.1 (Nat.le_of_ble_eq_true rfl) H (fun z8 h7 H => ?_)
                refine aw_if_eq (tgt := 92) dX9_lend_66 (by decide) (fun hc21 => ?_) (fun hc21 => ?_)
                · replace H := H.1 hc21
                  refine aw_bipush (v := (-2)) dX9_lend_92 (by decide) ?_
                  exact aw_iret dX9_lend_94 rfl ⟨_, rfl, H⟩
                · replace H := H.2 hc21
                  refine aw_aload_n dX9_lend_69 rfl 0 rfl ?_
                  refine aw_get dX9_lend_70 shC0 ckX9 flX9_32 (v := .ref (ad 66)) rfl ?_
                  refine aw_iload_n dX9_lend_73 rfl 1 rfl ?_
                  refine cvX8_purseOf dX9_lend_74 mlX9_170 isW_66.1 (Nat.le_of_ble_eq_true rfl) H (fun z10 h9 H => ?_)
                  refine aw_iload_n dX9_lend_77 rfl 3 rfl ?_
                  refine aw_aload_n dX9_lend_78 rfl 0 rfl ?_
                  obtain ⟨y11, ey11⟩ : ∃ z, z = h9.2.2 0 3 := ⟨_, rfl⟩
                  obtain ⟨hy11, H⟩ := H y11 ey11
                  refine aw_get dX9_lend_79 shC0 ckX9 flX9_25 (v := .ref (ad y11)) (by rw [ey11]; rfl) ?_
                  refine aw_get dX9_lend_82 hy11.1 ckX6 flX9_183 (v := .ref (ad (y11 + 3))) rfl ?_
                  refine aw_iload dX9_lend_85 4 rfl ?_
                  obtain ⟨hi12, H⟩ := H
                  refine aw_ialdK (t0 := 0) (j := x4.toNatClampNeg) dX9_lend_87 (hy11.2.1 2 (by decide)) rfl rfl hi12 ?_
                  refine aw_iadd dX9_lend_88 ?_
                  refine aw_icmp_ge (tgt := 95) dX9_lend_89 (by decide) (fun hc20 => ?_) (fun hc20 => ?_)
                  · replace H := H.1 hc20
                    refine aw_aload_n dX9_lend_95 rfl 0 rfl ?_
                    refine aw_get dX9_lend_96 shC0 ckX9 flX9_45 (v := .ref (ad 102)) rfl ?_
                    refine aw_aload_n dX9_lend_99 rfl 0 rfl ?_
                    refine aw_get dX9_lend_100 shC0 ckX9 flX9_32 (v := .ref (ad 66)) rfl ?_
                    refine cvX2_store dX9_lend_103 mlX9_215 shC102 (Nat.le_of_ble_eq_true rfl) H (fun h13 H => ?_)
                    refine aw_aload_n dX9_lend_106 rfl 0 rfl ?_
                    refine aw_get dX9_lend_107 shC0 ckX9 flX9_32 (v := .ref (ad 66)) rfl ?_
                    refine aw_get dX9_lend_110 isW_66.1 ckX8 flX9_212 (v := .int (h13.1 66 11)) rfl ?_
                    refine aw_istore (ls' := [(5, .int (h13.1 66 11)), (0, .ref (ad 0)), (1, .int x1), (2, .int x2), (3, .int x3), (4, .int x4)]) dX9_lend_113 (by decide) rfl ?_
                    refine aw_aload_n dX9_lend_115 rfl 1 rfl ?_
                    refine aw_get dX9_lend_116 shC0 ckX9 flX9_32 (v := .ref (ad 66)) rfl ?_
                    refine aw_iload_n dX9_lend_119 rfl 2 rfl ?_
                    refine aw_iload_n dX9_lend_120 rfl 3 rfl ?_
                    refine aw_iload_n dX9_lend_121 rfl 4 rfl ?_
                    refine aw_iload dX9_lend_122 5 rfl ?_
                    refine aw_aload_n dX9_lend_124 rfl 1 rfl ?_
                    refine aw_get dX9_lend_125 shC0 ckX9 flX9_32 (v := .ref (ad 66)) rfl ?_
                    refine aw_get dX9_lend_128 isW_66.1 ckX8 flX9_218 (v := .int (h13.1 66 13)) rfl ?_
                    refine cvX8_addDebt dX9_lend_131 mlX9_221 isW_66.1 (Nat.le_of_ble_eq_true rfl) H (fun h15 H => ?_)
                    refine aw_aload_n dX9_lend_134 rfl 1 rfl ?_
                    refine aw_get dX9_lend_135 shC0 ckX9 flX9_32 (v := .ref (ad 66)) rfl ?_
                    refine aw_iload dX9_lend_138 0 rfl ?_
                    refine aw_aload_n dX9_lend_140 rfl 1 rfl ?_
                    obtain ⟨y17, ey17⟩ : ∃ z, z = h15.2.2 0 3 := ⟨_, rfl⟩
                    obtain ⟨hy17, H⟩ := H y17 ey17
                    refine aw_get dX9_lend_141 shC0 ckX9 flX9_25 (v := .ref (ad y17)) (by rw [ey17]; rfl) ?_
                    refine aw_get dX9_lend_144 hy17.1 ckX6 flX9_183 (v := .ref (ad (y17 + 3))) rfl ?_
                    refine aw_iload dX9_lend_147 5 rfl ?_
                    refine aw_ialdK (t0 := 0) (j := x4.toNatClampNeg) dX9_lend_149 (hy17.2.1 2 (by decide)) rfl rfl hi12 ?_
                    refine aw_iconst (v := 0) dX9_lend_150 (by decide) ?_
                    refine cvX8_open dX9_lend_151 mlX9_225 isW_66.1 (Nat.le_of_ble_eq_true rfl) H (fun h18 H => ?_)
                    refine aw_iload dX9_lend_154 0 rfl ?_
                    exact aw_iret dX9_lend_156 rfl ⟨_, rfl, H⟩
                  · replace H := H.2 hc20
                    refine aw_bipush (v := (-2)) dX9_lend_92 (by decide) ?_
                    exact aw_iret dX9_lend_94 rfl ⟨_, rfl, H⟩
              · replace H := H.2 hc22
                refine aw_iconst (v := (-1)) dX9_lend_55 (by decide) ?_
                exact aw_iret dX9_lend_56 rfl ⟨_, rfl, H⟩
        · replace H := H.2 hc25
          refine aw_iconst (v := (-1)) dX9_lend_30 (by decide) ?_
          exact aw_iret dX9_lend_31 rfl ⟨_, rfl, H⟩
set_option maxRecDepth 8000 in
set_option maxHeartbeats 1000000 in
theorem bX9_lean_0 {l : Launch} {ad : Nat → Nat} {d : Nat} {R : Int32 → aH → Prop}   (x1 : Int32) (x2 : Int32)  (h : aH)
    (H : AW GC l ad d mX9_isTusk 0 [(0, .ref (ad 0)), (1, .int x1)] [] h (qi fun z2 h1 => (z2 = 0 → (R (-1 : Int32) h1)) ∧ (¬ z2 = 0 → (AW GC l ad d mX9_isTusk 0 [(0, .ref (ad 0)), (1, .int x2)] [] h1 (qi fun z4 h3 => (z4 = 0 → (R (-1 : Int32) h3)) ∧ (¬ z4 = 0 → ((x1 = x2 → (R (-1 : Int32) h3)) ∧ (¬ x1 = x2 → (AW GC l ad d mX8_isAlive 0 [(0, .ref (ad 66)), (1, .int x1)] [] h3 (qi fun z6 h5 => (z6 = 0 → (R (-1 : Int32) h5)) ∧ (¬ z6 = 0 → (AW GC l ad d mX8_isAlive 0 [(0, .ref (ad 66)), (1, .int x2)] [] h5 (qi fun z8 h7 => (¬ z8 = 0 → (AW GC l ad d mX2_store 0 [(0, .ref (ad 102)), (1, .ref (ad 66))] [] h7 (qv fun h9 => ∀ y11 : Nat, y11 = h9.2.2 0 3 → isS GC y11 ∧ (AW GC l ad d mX0_follow 0 [(0, .ref (ad 344)), (1, .ref (ad y11)), (2, .ref (ad 66)), (3, .int (-1 : Int32)), (4, .int (0 : Int32))] [] h9 (qv fun h12 => AW GC l ad d mX0_passOn 0 [(0, .ref (ad 344)), (1, .int x1), (2, .int x2)] [] h12 (qi fun z15 h14 => R z15 h14)))))) ∧ (z8 = 0 → (R (-1 : Int32) h7))))))))))))))) : AW GC l ad (d + 1) mX9_lean 0 [(0, .ref (ad 0)), (1, .int x1), (2, .int x2)] [] h (qi R) := by
  refine aw_aload_n dX9_lean_0 rfl 0 rfl ?_
  refine aw_iload_n dX9_lean_1 rfl 1 rfl ?_
  refine cvX9_isTusk dX9_lean_2 mlX9_177 shC0 (Nat.le_of_ble_eq_true rfl) H (fun z2 h1 H => ?_)
  refine aw_if_eq (tgt := 43) dX9_lean_5 (by decide) (fun hc20 => ?_) (fun hc20 => ?_)
  · replace H := H.1 hc20
    refine aw_iconst (v := (-1)) dX9_lean_43 (by decide) ?_
    exact aw_iret dX9_lean_44 rfl ⟨_, rfl, H⟩
  · replace H := H.2 hc20
    refine aw_aload_n dX9_lean_8 rfl 0 rfl ?_
    refine aw_iload_n dX9_lean_9 rfl 2 rfl ?_
    refine cvX9_isTusk dX9_lean_10 mlX9_177 shC0 (Nat.le_of_ble_eq_true rfl) H (fun z4 h3 H => ?_)
    refine aw_if_eq (tgt := 43) dX9_lean_13 (by decide) (fun hc19 => ?_) (fun hc19 => ?_)
    · replace H := H.1 hc19
      refine aw_iconst (v := (-1)) dX9_lean_43 (by decide) ?_
      exact aw_iret dX9_lean_44 rfl ⟨_, rfl, H⟩
    · replace H := H.2 hc19
      refine aw_iload_n dX9_lean_16 rfl 1 rfl ?_
      refine aw_iload_n dX9_lean_17 rfl 2 rfl ?_
      refine aw_icmp_eq (tgt := 43) dX9_lean_18 (by decide) (fun hc18 => ?_) (fun hc18 => ?_)
      · replace H := H.1 hc18
        refine aw_iconst (v := (-1)) dX9_lean_43 (by decide) ?_
        exact aw_iret dX9_lean_44 rfl ⟨_, rfl, H⟩
      · replace H := H.2 hc18
        refine aw_aload_n dX9_lean_21 rfl 0 rfl ?_
        refine aw_get dX9_lean_22 shC0 ckX9 flX9_32 (v := .ref (ad 66)) rfl ?_
        refine aw_iload_n dX9_lean_25 rfl 1 rfl ?_
        refine cvX8_isAlive dX9_lean_26 mlX9_186 isW_66.1 (Nat.le_of_ble_eq_true rfl) H (fun z6 h5 H => ?_)
        refine aw_if_eq (tgt := 43) dX9_lean_29 (by decide) (fun hc17 => ?_) (fun hc17 => ?_)
        · replace H := H.1 hc17
          refine aw_iconst (v := (-1)) dX9_lean_43 (by decide) ?_
          exact aw_iret dX9_lean_44 rfl ⟨_, rfl, H⟩
        · replace H := H.2 hc17
          refine aw_aload_n dX9_lean_32 rfl 0 rfl ?_
          refine aw_get dX9_lean_33 shC0 ckX9 flX9_32 (v := .ref (ad 66)) rfl ?_
          refine aw_iload_n dX9_lean_36 rfl 2 rfl ?_
          refine cvX8_isAlive dX9_lean_37 mlX9_186 isW_66.1 (Nat.le_of_ble_eq_true rfl) H (fun z8 h7 H => ?_)
          refine aw_if_ne (tgt := 45) dX9_lean_40 (by decide) (fun hc16 => ?_) (fun hc16 => ?_)
          · replace H := H.1 hc16
            refine aw_aload_n dX9_lean_45 rfl 0 rfl ?_
            refine aw_get dX9_lean_46 shC0 ckX9 flX9_45 (v := .ref (ad 102)) rfl ?_
            refine aw_aload_n dX9_lean_49 rfl 0 rfl ?_
            refine aw_get dX9_lean_50 shC0 ckX9 flX9_32 (v := .ref (ad 66)) rfl ?_
            refine cvX2_store dX9_lean_53 mlX9_215 shC102 (Nat.le_of_ble_eq_true rfl) H (fun h9 H => ?_)
            refine aw_aload_n dX9_lean_56 rfl 0 rfl ?_
            refine aw_get dX9_lean_57 shC0 ckX9 flX9_54 (v := .ref (ad 344)) rfl ?_
            refine aw_aload_n dX9_lean_60 rfl 0 rfl ?_
            obtain ⟨y11, ey11⟩ : ∃ z, z = h9.2.2 0 3 := ⟨_, rfl⟩
            obtain ⟨hy11, H⟩ := H y11 ey11
            refine aw_get dX9_lean_61 shC0 ckX9 flX9_25 (v := .ref (ad y11)) (by rw [ey11]; rfl) ?_
            refine aw_aload_n dX9_lean_64 rfl 0 rfl ?_
            refine aw_get dX9_lean_65 shC0 ckX9 flX9_32 (v := .ref (ad 66)) rfl ?_
            refine aw_iconst (v := (-1)) dX9_lean_68 (by decide) ?_
            refine aw_iconst (v := 0) dX9_lean_69 (by decide) ?_
            refine cvX0_follow dX9_lean_70 mlX9_195 shC344 (Nat.le_of_ble_eq_true rfl) H (fun h12 H => ?_)
            refine aw_aload_n dX9_lean_73 rfl 0 rfl ?_
            refine aw_get dX9_lean_74 shC0 ckX9 flX9_54 (v := .ref (ad 344)) rfl ?_
            refine aw_iload_n dX9_lean_77 rfl 1 rfl ?_
            refine aw_iload_n dX9_lean_78 rfl 2 rfl ?_
            refine cvX0_passOn dX9_lean_79 mlX9_229 shC344 (Nat.le_of_ble_eq_true rfl) H (fun z15 h14 H => ?_)
            exact aw_iret dX9_lean_82 rfl ⟨_, rfl, H⟩
          · replace H := H.2 hc16
            refine aw_iconst (v := (-1)) dX9_lean_43 (by decide) ?_
            exact aw_iret dX9_lean_44 rfl ⟨_, rfl, H⟩
set_option maxRecDepth 8000 in
set_option maxHeartbeats 1000000 in
theorem bX9_pay_0 {l : Launch} {ad : Nat → Nat} {d : Nat} {R : Int32 → aH → Prop}   (x1 : Int32)  (h : aH)
    (H : AW GC l ad d mX9_isDebt 0 [(0, .ref (ad 0)), (1, .int x1)] [] h (qi fun z2 h1 => (¬ z2 = 0 → (vp_in x1 8 ∧ ((¬ (h1.1 74 x1.toNatClampNeg) = (1 : Int32) → (R (-2 : Int32) h1)) ∧ ((h1.1 74 x1.toNatClampNeg) = (1 : Int32) → (AW GC l ad d mX8_isInPurse 0 [(0, .ref (ad 66)), (1, .int x1)] [] h1 (qi fun z5 h4 => (¬ z5 = 0 → (AW GC l ad d mX2_store 0 [(0, .ref (ad 102)), (1, .ref (ad 66))] [] h4 (qv fun h6 => AW GC l ad d mX8_settle 0 [(0, .ref (ad 66)), (1, .int x1)] [] h6 (qv fun h8 => R (h6.1 75 x1.toNatClampNeg) h8)))) ∧ (z5 = 0 → (R (-2 : Int32) h4)))))))) ∧ (z2 = 0 → (R (-1 : Int32) h1)))) : AW GC l ad (d + 1) mX9_pay 0 [(0, .ref (ad 0)), (1, .int x1)] [] h (qi R) := by
  refine aw_aload_n dX9_pay_0 rfl 0 rfl ?_
  refine aw_iload_n dX9_pay_1 rfl 1 rfl ?_
  refine cvX9_isDebt dX9_pay_2 mlX9_130 shC0 (Nat.le_of_ble_eq_true rfl) H (fun z2 h1 H => ?_)
  refine aw_if_ne (tgt := 10) dX9_pay_5 (by decide) (fun hc12 => ?_) (fun hc12 => ?_)
  · replace H := H.1 hc12
    refine aw_aload_n dX9_pay_10 rfl 0 rfl ?_
    refine aw_get dX9_pay_11 shC0 ckX9 flX9_32 (v := .ref (ad 66)) rfl ?_
    refine aw_get dX9_pay_14 isW_66.1 ckX8 flX9_152 (v := .ref (ad 74)) rfl ?_
    refine aw_iload_n dX9_pay_17 rfl 1 rfl ?_
    obtain ⟨hi3, H⟩ := H
    refine aw_ialdK (t0 := 0) (j := x1.toNatClampNeg) dX9_pay_18 (isW_66.2 7 (by decide)) rfl rfl hi3 ?_
    refine aw_iconst (v := 1) dX9_pay_19 (by decide) ?_
    refine aw_icmp_ne (tgt := 34) dX9_pay_20 (by decide) (fun hc11 => ?_) (fun hc11 => ?_)
    · replace H := H.1 hc11
      refine aw_bipush (v := (-2)) dX9_pay_34 (by decide) ?_
      exact aw_iret dX9_pay_36 rfl ⟨_, rfl, H⟩
    · replace H := H.2 hc11
      refine aw_aload_n dX9_pay_23 rfl 0 rfl ?_
      refine aw_get dX9_pay_24 shC0 ckX9 flX9_32 (v := .ref (ad 66)) rfl ?_
      refine aw_iload_n dX9_pay_27 rfl 1 rfl ?_
      refine cvX8_isInPurse dX9_pay_28 mlX9_233 isW_66.1 (Nat.le_of_ble_eq_true rfl) H (fun z5 h4 H => ?_)
      refine aw_if_ne (tgt := 37) dX9_pay_31 (by decide) (fun hc10 => ?_) (fun hc10 => ?_)
      · replace H := H.1 hc10
        refine aw_aload_n dX9_pay_37 rfl 0 rfl ?_
        refine aw_get dX9_pay_38 shC0 ckX9 flX9_45 (v := .ref (ad 102)) rfl ?_
        refine aw_aload_n dX9_pay_41 rfl 0 rfl ?_
        refine aw_get dX9_pay_42 shC0 ckX9 flX9_32 (v := .ref (ad 66)) rfl ?_
        refine cvX2_store dX9_pay_45 mlX9_215 shC102 (Nat.le_of_ble_eq_true rfl) H (fun h6 H => ?_)
        refine aw_aload_n dX9_pay_48 rfl 0 rfl ?_
        refine aw_get dX9_pay_49 shC0 ckX9 flX9_32 (v := .ref (ad 66)) rfl ?_
        refine aw_get dX9_pay_52 isW_66.1 ckX8 flX9_155 (v := .ref (ad 75)) rfl ?_
        refine aw_iload_n dX9_pay_55 rfl 1 rfl ?_
        refine aw_ialdK (t0 := 0) (j := x1.toNatClampNeg) dX9_pay_56 (isW_66.2 8 (by decide)) rfl rfl hi3 ?_
        refine aw_istore_n (ls' := [(2, .int (h6.1 75 x1.toNatClampNeg)), (0, .ref (ad 0)), (1, .int x1)]) dX9_pay_57 rfl (by decide) rfl ?_
        refine aw_aload_n dX9_pay_58 rfl 1 rfl ?_
        refine aw_get dX9_pay_59 shC0 ckX9 flX9_32 (v := .ref (ad 66)) rfl ?_
        refine aw_iload_n dX9_pay_62 rfl 2 rfl ?_
        refine cvX8_settle dX9_pay_63 mlX9_236 isW_66.1 (Nat.le_of_ble_eq_true rfl) H (fun h8 H => ?_)
        refine aw_iload_n dX9_pay_66 rfl 0 rfl ?_
        exact aw_iret dX9_pay_67 rfl ⟨_, rfl, H⟩
      · replace H := H.2 hc10
        refine aw_bipush (v := (-2)) dX9_pay_34 (by decide) ?_
        exact aw_iret dX9_pay_36 rfl ⟨_, rfl, H⟩
  · replace H := H.2 hc12
    refine aw_iconst (v := (-1)) dX9_pay_8 (by decide) ?_
    exact aw_iret dX9_pay_9 rfl ⟨_, rfl, H⟩
set_option maxRecDepth 8000 in
set_option maxHeartbeats 1000000 in
theorem bX9_gift_0 {l : Launch} {ad : Nat → Nat} {d : Nat} {R : Int32 → aH → Prop}   (x1 : Int32) (x2 : Int32)  (h : aH)
    (H : AW GC l ad d mX9_isMan 0 [(0, .ref (ad 0)), (1, .int x1)] [] h (qi fun z2 h1 => (z2 = 0 → (R (-1 : Int32) h1)) ∧ (¬ z2 = 0 → ((x2 < (1 : Int32) → (R (-1 : Int32) h1)) ∧ (¬ x2 < (1 : Int32) → (((99 : Int32) < x2 → (R (-1 : Int32) h1)) ∧ (¬ (99 : Int32) < x2 → (AW GC l ad d mX8_purseOf 0 [(0, .ref (ad 66)), (1, .int x1)] [] h1 (qi fun z4 h3 => ((z4 + x2) ≤ (99999 : Int32) → (AW GC l ad d mX2_store 0 [(0, .ref (ad 102)), (1, .ref (ad 66))] [] h3 (qv fun h5 => AW GC l ad d mX8_earn 0 [(0, .ref (ad 66)), (1, .int x1), (2, .int x2)] [] h5 (qv fun h7 => AW GC l ad d mX8_purseOf 0 [(0, .ref (ad 66)), (1, .int x1)] [] h7 (qi fun z10 h9 => R z10 h9))))) ∧ (¬ (z4 + x2) ≤ (99999 : Int32) → (R (-1 : Int32) h3))))))))))) : AW GC l ad (d + 1) mX9_gift 0 [(0, .ref (ad 0)), (1, .int x1), (2, .int x2)] [] h (qi R) := by
  refine aw_aload_n dX9_gift_0 rfl 0 rfl ?_
  refine aw_iload_n dX9_gift_1 rfl 1 rfl ?_
  refine cvX9_isMan dX9_gift_2 mlX9_164 shC0 (Nat.le_of_ble_eq_true rfl) H (fun z2 h1 H => ?_)
  refine aw_if_eq (tgt := 34) dX9_gift_5 (by decide) (fun hc14 => ?_) (fun hc14 => ?_)
  · replace H := H.1 hc14
    refine aw_iconst (v := (-1)) dX9_gift_34 (by decide) ?_
    exact aw_iret dX9_gift_35 rfl ⟨_, rfl, H⟩
  · replace H := H.2 hc14
    refine aw_iload_n dX9_gift_8 rfl 2 rfl ?_
    refine aw_iconst (v := 1) dX9_gift_9 (by decide) ?_
    refine aw_icmp_lt (tgt := 34) dX9_gift_10 (by decide) (fun hc13 => ?_) (fun hc13 => ?_)
    · replace H := H.1 hc13
      refine aw_iconst (v := (-1)) dX9_gift_34 (by decide) ?_
      exact aw_iret dX9_gift_35 rfl ⟨_, rfl, H⟩
    · replace H := H.2 hc13
      refine aw_iload_n dX9_gift_13 rfl 2 rfl ?_
      refine aw_bipush (v := 99) dX9_gift_14 (by decide) ?_
      refine aw_icmp_gt (tgt := 34) dX9_gift_16 (by decide) (fun hc12 => ?_) (fun hc12 => ?_)
      · replace H := H.1 hc12
        refine aw_iconst (v := (-1)) dX9_gift_34 (by decide) ?_
        exact aw_iret dX9_gift_35 rfl ⟨_, rfl, H⟩
      · replace H := H.2 hc12
        refine aw_aload_n dX9_gift_19 rfl 0 rfl ?_
        refine aw_get dX9_gift_20 shC0 ckX9 flX9_32 (v := .ref (ad 66)) rfl ?_
        refine aw_iload_n dX9_gift_23 rfl 1 rfl ?_
        refine cvX8_purseOf dX9_gift_24 mlX9_170 isW_66.1 (Nat.le_of_ble_eq_true rfl) H (fun z4 h3 H => ?_)
        refine aw_iload_n dX9_gift_27 rfl 2 rfl ?_
        refine aw_iadd dX9_gift_28 ?_
        refine aw_ldc dX9_gift_29 coX9_239 ?_
        refine aw_icmp_le (tgt := 36) dX9_gift_31 (by decide) (fun hc11 => ?_) (fun hc11 => ?_)
        · replace H := H.1 hc11
          refine aw_aload_n dX9_gift_36 rfl 0 rfl ?_
          refine aw_get dX9_gift_37 shC0 ckX9 flX9_45 (v := .ref (ad 102)) rfl ?_
          refine aw_aload_n dX9_gift_40 rfl 0 rfl ?_
          refine aw_get dX9_gift_41 shC0 ckX9 flX9_32 (v := .ref (ad 66)) rfl ?_
          refine cvX2_store dX9_gift_44 mlX9_215 shC102 (Nat.le_of_ble_eq_true rfl) H (fun h5 H => ?_)
          refine aw_aload_n dX9_gift_47 rfl 0 rfl ?_
          refine aw_get dX9_gift_48 shC0 ckX9 flX9_32 (v := .ref (ad 66)) rfl ?_
          refine aw_iload_n dX9_gift_51 rfl 1 rfl ?_
          refine aw_iload_n dX9_gift_52 rfl 2 rfl ?_
          refine cvX8_earn dX9_gift_53 mlX9_240 isW_66.1 (Nat.le_of_ble_eq_true rfl) H (fun h7 H => ?_)
          refine aw_aload_n dX9_gift_56 rfl 0 rfl ?_
          refine aw_get dX9_gift_57 shC0 ckX9 flX9_32 (v := .ref (ad 66)) rfl ?_
          refine aw_iload_n dX9_gift_60 rfl 1 rfl ?_
          refine cvX8_purseOf dX9_gift_61 mlX9_170 isW_66.1 (Nat.le_of_ble_eq_true rfl) H (fun z10 h9 H => ?_)
          exact aw_iret dX9_gift_64 rfl ⟨_, rfl, H⟩
        · replace H := H.2 hc11
          refine aw_iconst (v := (-1)) dX9_gift_34 (by decide) ?_
          exact aw_iret dX9_gift_35 rfl ⟨_, rfl, H⟩
set_option maxRecDepth 8000 in
set_option maxHeartbeats 1000000 in
theorem bX9_go_0 {l : Launch} {ad : Nat → Nat} {d : Nat} {R : Int32 → aH → Prop}   (x1 : Int32)  (h : aH)
    (H : (x1 < 0 → (R (-1 : Int32) h)) ∧ (¬ x1 < 0 → (((99 : Int32) < x1 → (R (-1 : Int32) h)) ∧ (¬ (99 : Int32) < x1 → ((((h.1 66 13) + x1) ≤ (9900 : Int32) → ((x1 ≤ 0 → (AW GC l ad (d + 1) mX9_go 39 [(0, .ref (ad 0)), (1, .int x1)] [] h (qi R))) ∧ (¬ x1 ≤ 0 → (AW GC l ad (d + 1) mX9_go 39 [(0, .ref (ad 0)), (1, .int x1)] [] (sI h 102 1 (0 : Int32)) (qi R))))) ∧ (¬ ((h.1 66 13) + x1) ≤ (9900 : Int32) → (R (-1 : Int32) h))))))) : AW GC l ad (d + 1) mX9_go 0 [(0, .ref (ad 0)), (1, .int x1)] [] h (qi R) := by
  refine aw_iload_n dX9_go_0 rfl 1 rfl ?_
  refine aw_if_lt (tgt := 25) dX9_go_1 (by decide) (fun hc4 => ?_) (fun hc4 => ?_)
  · replace H := H.1 hc4
    refine aw_iconst (v := (-1)) dX9_go_25 (by decide) ?_
    exact aw_iret dX9_go_26 rfl ⟨_, rfl, H⟩
  · replace H := H.2 hc4
    refine aw_iload_n dX9_go_4 rfl 1 rfl ?_
    refine aw_bipush (v := 99) dX9_go_5 (by decide) ?_
    refine aw_icmp_gt (tgt := 25) dX9_go_7 (by decide) (fun hc3 => ?_) (fun hc3 => ?_)
    · replace H := H.1 hc3
      refine aw_iconst (v := (-1)) dX9_go_25 (by decide) ?_
      exact aw_iret dX9_go_26 rfl ⟨_, rfl, H⟩
    · replace H := H.2 hc3
      refine aw_aload_n dX9_go_10 rfl 0 rfl ?_
      refine aw_get dX9_go_11 shC0 ckX9 flX9_32 (v := .ref (ad 66)) rfl ?_
      refine aw_get dX9_go_14 isW_66.1 ckX8 flX9_218 (v := .int (h.1 66 13)) rfl ?_
      refine aw_iload_n dX9_go_17 rfl 1 rfl ?_
      refine aw_iadd dX9_go_18 ?_
      refine aw_sipush (v := 9900) dX9_go_19 (by decide) ?_
      refine aw_icmp_le (tgt := 27) dX9_go_22 (by decide) (fun hc2 => ?_) (fun hc2 => ?_)
      · replace H := H.1 hc2
        refine aw_iload_n dX9_go_27 rfl 1 rfl ?_
        refine aw_if_le (tgt := 39) dX9_go_28 (by decide) (fun hc1 => ?_) (fun hc1 => ?_)
        · replace H := H.1 hc1
          exact aw_ls [0, 1] rfl H
        · replace H := H.2 hc1
          refine aw_aload_n dX9_go_31 rfl 0 rfl ?_
          refine aw_get dX9_go_32 shC0 ckX9 flX9_45 (v := .ref (ad 102)) rfl ?_
          refine aw_iconst (v := 0) dX9_go_35 (by decide) ?_
          refine aw_putI dX9_go_36 shC102 ckX2 flX9_98 rfl (fun _ => rfl) rfl rfl ?_
          exact aw_ls [0, 1] rfl H
      · replace H := H.2 hc2
        refine aw_iconst (v := (-1)) dX9_go_25 (by decide) ?_
        exact aw_iret dX9_go_26 rfl ⟨_, rfl, H⟩
set_option maxRecDepth 8000 in
set_option maxHeartbeats 1000000 in
theorem bX9_go_39 {l : Launch} {ad : Nat → Nat} {d : Nat} {R : Int32 → aH → Prop}   (x1 : Int32)  (h : aH)
    (H : ∀ y1 : Nat, y1 = h.2.2 0 3 → isS GC y1 ∧ (AW GC l ad d mX0_follow 0 [(0, .ref (ad 344)), (1, .ref (ad y1)), (2, .ref (ad 66)), (3, .int (-1 : Int32)), (4, .int (0 : Int32))] [] h (qv fun h2 => AW GC l ad d mX0_run 0 [(0, .ref (ad 344)), (1, .int x1)] [] h2 (qv fun h4 => R (h4.1 66 13) h4)))) : AW GC l ad (d + 1) mX9_go 39 [(0, .ref (ad 0)), (1, .int x1)] [] h (qi R) := by
  refine aw_aload_n dX9_go_39 rfl 0 rfl ?_
  refine aw_get dX9_go_40 shC0 ckX9 flX9_54 (v := .ref (ad 344)) rfl ?_
  refine aw_aload_n dX9_go_43 rfl 0 rfl ?_
  obtain ⟨y1, ey1⟩ : ∃ z, z = h.2.2 0 3 := ⟨_, rfl⟩
  obtain ⟨hy1, H⟩ := H y1 ey1
  refine aw_get dX9_go_44 shC0 ckX9 flX9_25 (v := .ref (ad y1)) (by rw [ey1]; rfl) ?_
  refine aw_aload_n dX9_go_47 rfl 0 rfl ?_
  refine aw_get dX9_go_48 shC0 ckX9 flX9_32 (v := .ref (ad 66)) rfl ?_
  refine aw_iconst (v := (-1)) dX9_go_51 (by decide) ?_
  refine aw_iconst (v := 0) dX9_go_52 (by decide) ?_
  refine cvX0_follow dX9_go_53 mlX9_195 shC344 (Nat.le_of_ble_eq_true rfl) H (fun h2 H => ?_)
  refine aw_aload_n dX9_go_56 rfl 0 rfl ?_
  refine aw_get dX9_go_57 shC0 ckX9 flX9_54 (v := .ref (ad 344)) rfl ?_
  refine aw_iload_n dX9_go_60 rfl 1 rfl ?_
  refine cvX0_run dX9_go_61 mlX9_244 shC344 (Nat.le_of_ble_eq_true rfl) H (fun h4 H => ?_)
  refine aw_aload_n dX9_go_64 rfl 0 rfl ?_
  refine aw_get dX9_go_65 shC0 ckX9 flX9_32 (v := .ref (ad 66)) rfl ?_
  refine aw_get dX9_go_68 isW_66.1 ckX8 flX9_218 (v := .int (h4.1 66 13)) rfl ?_
  exact aw_iret dX9_go_71 rfl ⟨_, rfl, H⟩
set_option maxRecDepth 8000 in
set_option maxHeartbeats 1000000 in
theorem bX9_ahead_0 {l : Launch} {ad : Nat → Nat} {d : Nat} {R : Int32 → aH → Prop}   (x1 : Int32) (x2 : Int32) (x3 : Int32)  (h : aH)
    (H : (x1 < 0 → (R (-1 : Int32) h)) ∧ (¬ x1 < 0 → (((99 : Int32) < x1 → (R (-1 : Int32) h)) ∧ (¬ (99 : Int32) < x1 → ((x2 < 0 → (R (-1 : Int32) h)) ∧ (¬ x2 < 0 → (((4 : Int32) < x2 → (R (-1 : Int32) h)) ∧ (¬ (4 : Int32) < x2 → ((¬ x2 = (3 : Int32) → (AW GC l ad (d + 1) mX9_ahead 34 [(0, .ref (ad 0)), (1, .int x1), (2, .int x2), (3, .int x3)] [] h (qi R))) ∧ (x2 = (3 : Int32) → (AW GC l ad d mX9_isMan 0 [(0, .ref (ad 0)), (1, .int x3)] [] h (qi fun z2 h1 => (¬ z2 = 0 → (AW GC l ad (d + 1) mX9_ahead 34 [(0, .ref (ad 0)), (1, .int x1), (2, .int x2), (3, .int x3)] [] h1 (qi R))) ∧ (z2 = 0 → (R (-1 : Int32) h1)))))))))))))) : AW GC l ad (d + 1) mX9_ahead 0 [(0, .ref (ad 0)), (1, .int x1), (2, .int x2), (3, .int x3)] [] h (qi R) := by
  refine aw_iload_n dX9_ahead_0 rfl 1 rfl ?_
  refine aw_if_lt (tgt := 32) dX9_ahead_1 (by decide) (fun hc8 => ?_) (fun hc8 => ?_)
  · replace H := H.1 hc8
    refine aw_iconst (v := (-1)) dX9_ahead_32 (by decide) ?_
    exact aw_iret dX9_ahead_33 rfl ⟨_, rfl, H⟩
  · replace H := H.2 hc8
    refine aw_iload_n dX9_ahead_4 rfl 1 rfl ?_
    refine aw_bipush (v := 99) dX9_ahead_5 (by decide) ?_
    refine aw_icmp_gt (tgt := 32) dX9_ahead_7 (by decide) (fun hc7 => ?_) (fun hc7 => ?_)
    · replace H := H.1 hc7
      refine aw_iconst (v := (-1)) dX9_ahead_32 (by decide) ?_
      exact aw_iret dX9_ahead_33 rfl ⟨_, rfl, H⟩
    · replace H := H.2 hc7
      refine aw_iload_n dX9_ahead_10 rfl 2 rfl ?_
      refine aw_if_lt (tgt := 32) dX9_ahead_11 (by decide) (fun hc6 => ?_) (fun hc6 => ?_)
      · replace H := H.1 hc6
        refine aw_iconst (v := (-1)) dX9_ahead_32 (by decide) ?_
        exact aw_iret dX9_ahead_33 rfl ⟨_, rfl, H⟩
      · replace H := H.2 hc6
        refine aw_iload_n dX9_ahead_14 rfl 2 rfl ?_
        refine aw_iconst (v := 4) dX9_ahead_15 (by decide) ?_
        refine aw_icmp_gt (tgt := 32) dX9_ahead_16 (by decide) (fun hc5 => ?_) (fun hc5 => ?_)
        · replace H := H.1 hc5
          refine aw_iconst (v := (-1)) dX9_ahead_32 (by decide) ?_
          exact aw_iret dX9_ahead_33 rfl ⟨_, rfl, H⟩
        · replace H := H.2 hc5
          refine aw_iload_n dX9_ahead_19 rfl 2 rfl ?_
          refine aw_iconst (v := 3) dX9_ahead_20 (by decide) ?_
          refine aw_icmp_ne (tgt := 34) dX9_ahead_21 (by decide) (fun hc4 => ?_) (fun hc4 => ?_)
          · replace H := H.1 hc4
            exact aw_ls [0, 1, 2, 3] rfl H
          · replace H := H.2 hc4
            refine aw_aload_n dX9_ahead_24 rfl 0 rfl ?_
            refine aw_iload_n dX9_ahead_25 rfl 3 rfl ?_
            refine cvX9_isMan dX9_ahead_26 mlX9_164 shC0 (Nat.le_of_ble_eq_true rfl) H (fun z2 h1 H => ?_)
            refine aw_if_ne (tgt := 34) dX9_ahead_29 (by decide) (fun hc3 => ?_) (fun hc3 => ?_)
            · replace H := H.1 hc3
              exact aw_ls [0, 1, 2, 3] rfl H
            · replace H := H.2 hc3
              refine aw_iconst (v := (-1)) dX9_ahead_32 (by decide) ?_
              exact aw_iret dX9_ahead_33 rfl ⟨_, rfl, H⟩
set_option maxRecDepth 8000 in
set_option maxHeartbeats 1000000 in
theorem bX9_ahead_34 {l : Launch} {ad : Nat → Nat} {d : Nat} {R : Int32 → aH → Prop}   (x1 : Int32) (x2 : Int32) (x3 : Int32)  (h : aH)
    (H : AW GC l ad d mX9_startTrial 0 [(0, .ref (ad 0)), (1, .int (0 : Int32)), (2, .int (0 : Int32))] [] h (qv fun h1 => AW GC l ad d mX0_run 0 [(0, .ref (ad 344)), (1, .int x1)] [] h1 (qv fun h3 => (¬ x2 = (3 : Int32) → ((¬ x2 = (4 : Int32) → (AW GC l ad d mX8_countOf 0 [(0, .ref (ad 78)), (1, .int ((2 : Int32) + x2))] [] h3 (qi fun z6 h5 => AW GC l ad d mX8_countOf 0 [(0, .ref (ad 66)), (1, .int ((2 : Int32) + x2))] [] h5 (qi fun z8 h7 => R (z6 - z8) h7)))) ∧ (x2 = (4 : Int32) → (AW GC l ad d mJ6_bitCount_0f7a4 0 [(0, .int (h3.1 78 12))] [] h3 (qi fun z10 h9 => R z10 h9))))) ∧ (x2 = (3 : Int32) → (AW GC l ad d mX8_purseOf 0 [(0, .ref (ad 78)), (1, .int x3)] [] h3 (qi fun z13 h12 => R z13 h12)))))) : AW GC l ad (d + 1) mX9_ahead 34 [(0, .ref (ad 0)), (1, .int x1), (2, .int x2), (3, .int x3)] [] h (qi R) := by
  refine aw_aload_n dX9_ahead_34 rfl 0 rfl ?_
  refine aw_iconst (v := 0) dX9_ahead_35 (by decide) ?_
  refine aw_iconst (v := 0) dX9_ahead_36 (by decide) ?_
  refine cvX9_startTrial dX9_ahead_37 mlX9_247 shC0 (Nat.le_of_ble_eq_true rfl) H (fun h1 H => ?_)
  refine aw_aload_n dX9_ahead_40 rfl 0 rfl ?_
  refine aw_get dX9_ahead_41 shC0 ckX9 flX9_54 (v := .ref (ad 344)) rfl ?_
  refine aw_iload_n dX9_ahead_44 rfl 1 rfl ?_
  refine cvX0_run dX9_ahead_45 mlX9_244 shC344 (Nat.le_of_ble_eq_true rfl) H (fun h3 H => ?_)
  refine aw_iload_n dX9_ahead_48 rfl 2 rfl ?_
  refine aw_iconst (v := 3) dX9_ahead_49 (by decide) ?_
  refine aw_icmp_ne (tgt := 62) dX9_ahead_50 (by decide) (fun hc14 => ?_) (fun hc14 => ?_)
  · replace H := H.1 hc14
    refine aw_iload_n dX9_ahead_62 rfl 2 rfl ?_
    refine aw_iconst (v := 4) dX9_ahead_63 (by decide) ?_
    refine aw_icmp_ne (tgt := 78) dX9_ahead_64 (by decide) (fun hc11 => ?_) (fun hc11 => ?_)
    · replace H := H.1 hc11
      refine aw_iconst (v := 2) dX9_ahead_78 (by decide) ?_
      refine aw_iload_n dX9_ahead_79 rfl 2 rfl ?_
      refine aw_iadd dX9_ahead_80 ?_
      refine aw_istore (ls' := [(4, .int ((2 : Int32) + x2)), (0, .ref (ad 0)), (1, .int x1), (2, .int x2), (3, .int x3)]) dX9_ahead_81 (by decide) rfl ?_
      refine aw_aload_n dX9_ahead_83 rfl 1 rfl ?_
      refine aw_get dX9_ahead_84 shC0 ckX9 flX9_36 (v := .ref (ad 78)) rfl ?_
      refine aw_iload dX9_ahead_87 0 rfl ?_
      refine cvX8_countOf dX9_ahead_89 mlX9_256 isW_78.1 (Nat.le_of_ble_eq_true rfl) H (fun z6 h5 H => ?_)
      refine aw_aload_n dX9_ahead_92 rfl 1 rfl ?_
      refine aw_get dX9_ahead_93 shC0 ckX9 flX9_32 (v := .ref (ad 66)) rfl ?_
      refine aw_iload dX9_ahead_96 0 rfl ?_
      refine cvX8_countOf dX9_ahead_98 mlX9_256 isW_66.1 (Nat.le_of_ble_eq_true rfl) H (fun z8 h7 H => ?_)
      refine aw_isub dX9_ahead_101 ?_
      exact aw_iret dX9_ahead_102 rfl ⟨_, rfl, H⟩
    · replace H := H.2 hc11
      refine aw_aload_n dX9_ahead_67 rfl 0 rfl ?_
      refine aw_get dX9_ahead_68 shC0 ckX9 flX9_36 (v := .ref (ad 78)) rfl ?_
      refine aw_get dX9_ahead_71 isW_78.1 ckX8 flX9_250 (v := .int (h3.1 78 12)) rfl ?_
      refine cvJ6_bitCount_0f7a4 stC dX9_ahead_74 mlX9_253 (Nat.le_of_ble_eq_true rfl) H (fun z10 h9 H => ?_)
      exact aw_iret dX9_ahead_77 rfl ⟨_, rfl, H⟩
  · replace H := H.2 hc14
    refine aw_aload_n dX9_ahead_53 rfl 0 rfl ?_
    refine aw_get dX9_ahead_54 shC0 ckX9 flX9_36 (v := .ref (ad 78)) rfl ?_
    refine aw_iload_n dX9_ahead_57 rfl 3 rfl ?_
    refine cvX8_purseOf dX9_ahead_58 mlX9_170 isW_78.1 (Nat.le_of_ble_eq_true rfl) H (fun z13 h12 H => ?_)
    exact aw_iret dX9_ahead_61 rfl ⟨_, rfl, H⟩
set_option maxRecDepth 8000 in
set_option maxHeartbeats 1000000 in
theorem bX9_startTrial_0 {l : Launch} {ad : Nat → Nat} {d : Nat} {R : aH → Prop}   (x1 : Int32) (x2 : Int32)  (h : aH)
    (H : AW GC l ad d mX8_copyFrom 0 [(0, .ref (ad 78)), (1, .ref (ad 66))] [] h (qv fun h1 => ∀ y3 : Nat, y3 = h1.2.2 0 3 → isS GC y3 ∧ (AW GC l ad d mX0_follow 0 [(0, .ref (ad 344)), (1, .ref (ad y3)), (2, .ref (ad 78)), (3, .int x1), (4, .int x2)] [] h1 (qv fun h4 => R h4)))) : AW GC l ad (d + 1) mX9_startTrial 0 [(0, .ref (ad 0)), (1, .int x1), (2, .int x2)] [] h (qv R) := by
  refine aw_aload_n dX9_startTrial_0 rfl 0 rfl ?_
  refine aw_get dX9_startTrial_1 shC0 ckX9 flX9_36 (v := .ref (ad 78)) rfl ?_
  refine aw_aload_n dX9_startTrial_4 rfl 0 rfl ?_
  refine aw_get dX9_startTrial_5 shC0 ckX9 flX9_32 (v := .ref (ad 66)) rfl ?_
  refine cvX8_copyFrom dX9_startTrial_8 mlX9_91 isW_78.1 (Nat.le_of_ble_eq_true rfl) H (fun h1 H => ?_)
  refine aw_aload_n dX9_startTrial_11 rfl 0 rfl ?_
  refine aw_get dX9_startTrial_12 shC0 ckX9 flX9_54 (v := .ref (ad 344)) rfl ?_
  refine aw_aload_n dX9_startTrial_15 rfl 0 rfl ?_
  obtain ⟨y3, ey3⟩ : ∃ z, z = h1.2.2 0 3 := ⟨_, rfl⟩
  obtain ⟨hy3, H⟩ := H y3 ey3
  refine aw_get dX9_startTrial_16 shC0 ckX9 flX9_25 (v := .ref (ad y3)) (by rw [ey3]; rfl) ?_
  refine aw_aload_n dX9_startTrial_19 rfl 0 rfl ?_
  refine aw_get dX9_startTrial_20 shC0 ckX9 flX9_36 (v := .ref (ad 78)) rfl ?_
  refine aw_iload_n dX9_startTrial_23 rfl 1 rfl ?_
  refine aw_iload_n dX9_startTrial_24 rfl 2 rfl ?_
  refine cvX0_follow dX9_startTrial_25 mlX9_195 shC344 (Nat.le_of_ble_eq_true rfl) H (fun h4 H => ?_)
  exact aw_vret dX9_startTrial_28 rfl ⟨rfl, H⟩
set_option maxRecDepth 8000 in
set_option maxHeartbeats 1000000 in
theorem bX9_ends_0 {l : Launch} {ad : Nat → Nat} {d : Nat} {R : Int32 → aH → Prop}   (x1 : Int32)  (h : aH)
    (H : AW GC l ad d mX9_isDebt 0 [(0, .ref (ad 0)), (1, .int x1)] [] h (qi fun z2 h1 => (¬ z2 = 0 → (AW GC l ad d mX9_startTrial 0 [(0, .ref (ad 0)), (1, .int (0 : Int32)), (2, .int (0 : Int32))] [] h1 (qv fun h3 => AW GC l ad (d + 1) mX9_ends 18 [(0, .ref (ad 0)), (1, .int x1), (2, .int (0 : Int32))] [] h3 (qi R)))) ∧ (z2 = 0 → (R (-1 : Int32) h1)))) : AW GC l ad (d + 1) mX9_ends 0 [(0, .ref (ad 0)), (1, .int x1)] [] h (qi R) := by
  refine aw_aload_n dX9_ends_0 rfl 0 rfl ?_
  refine aw_iload_n dX9_ends_1 rfl 1 rfl ?_
  refine cvX9_isDebt dX9_ends_2 mlX9_130 shC0 (Nat.le_of_ble_eq_true rfl) H (fun z2 h1 H => ?_)
  refine aw_if_ne (tgt := 10) dX9_ends_5 (by decide) (fun hc5 => ?_) (fun hc5 => ?_)
  · replace H := H.1 hc5
    refine aw_aload_n dX9_ends_10 rfl 0 rfl ?_
    refine aw_iconst (v := 0) dX9_ends_11 (by decide) ?_
    refine aw_iconst (v := 0) dX9_ends_12 (by decide) ?_
    refine cvX9_startTrial dX9_ends_13 mlX9_247 shC0 (Nat.le_of_ble_eq_true rfl) H (fun h3 H => ?_)
    refine aw_iconst (v := 0) dX9_ends_16 (by decide) ?_
    refine aw_istore_n (ls' := [(2, .int (0 : Int32)), (0, .ref (ad 0)), (1, .int x1)]) dX9_ends_17 rfl (by decide) rfl ?_
    exact aw_ls [1, 2, 0] rfl H
  · replace H := H.2 hc5
    refine aw_iconst (v := (-1)) dX9_ends_8 (by decide) ?_
    exact aw_iret dX9_ends_9 rfl ⟨_, rfl, H⟩
set_option maxRecDepth 8000 in
set_option maxHeartbeats 1000000 in
theorem bX9_ends_18 {l : Launch} {ad : Nat → Nat} {d : Nat} {R : Int32 → aH → Prop}   (x1 : Int32) (x2 : Int32)  (h : aH)
    (H : ((99 : Int32) < x2 → (R (-2 : Int32) h)) ∧ (¬ (99 : Int32) < x2 → (vp_in x1 8 ∧ (((h.1 86 x1.toNatClampNeg) = 0 → (AW GC l ad (d + 1) mX9_ends 51 [(0, .ref (ad 0)), (1, .int x1), (2, .int x2)] [] h (qi R))) ∧ (¬ (h.1 86 x1.toNatClampNeg) = 0 → (((h.1 86 x1.toNatClampNeg) = (1 : Int32) → (AW GC l ad (d + 1) mX9_ends 51 [(0, .ref (ad 0)), (1, .int x1), (2, .int x2)] [] h (qi R))) ∧ (¬ (h.1 86 x1.toNatClampNeg) = (1 : Int32) → (R x2 h)))))))) : AW GC l ad (d + 1) mX9_ends 18 [(0, .ref (ad 0)), (1, .int x1), (2, .int x2)] [] h (qi R) := by
  refine aw_iload_n dX9_ends_18 rfl 2 rfl ?_
  refine aw_bipush (v := 99) dX9_ends_19 (by decide) ?_
  refine aw_icmp_gt (tgt := 64) dX9_ends_21 (by decide) (fun hc4 => ?_) (fun hc4 => ?_)
  · replace H := H.1 hc4
    refine aw_bipush (v := (-2)) dX9_ends_64 (by decide) ?_
    exact aw_iret dX9_ends_66 rfl ⟨_, rfl, H⟩
  · replace H := H.2 hc4
    refine aw_aload_n dX9_ends_24 rfl 0 rfl ?_
    refine aw_get dX9_ends_25 shC0 ckX9 flX9_36 (v := .ref (ad 78)) rfl ?_
    refine aw_get dX9_ends_28 isW_78.1 ckX8 flX9_152 (v := .ref (ad 86)) rfl ?_
    refine aw_iload_n dX9_ends_31 rfl 1 rfl ?_
    obtain ⟨hi1, H⟩ := H
    refine aw_ialdK (t0 := 0) (j := x1.toNatClampNeg) dX9_ends_32 (isW_78.2 7 (by decide)) rfl rfl hi1 ?_
    refine aw_if_eq (tgt := 51) dX9_ends_33 (by decide) (fun hc3 => ?_) (fun hc3 => ?_)
    · replace H := H.1 hc3
      exact aw_ls [0, 1, 2] rfl H
    · replace H := H.2 hc3
      refine aw_aload_n dX9_ends_36 rfl 0 rfl ?_
      refine aw_get dX9_ends_37 shC0 ckX9 flX9_36 (v := .ref (ad 78)) rfl ?_
      refine aw_get dX9_ends_40 isW_78.1 ckX8 flX9_152 (v := .ref (ad 86)) rfl ?_
      refine aw_iload_n dX9_ends_43 rfl 1 rfl ?_
      refine aw_ialdK (t0 := 0) (j := x1.toNatClampNeg) dX9_ends_44 (isW_78.2 7 (by decide)) rfl rfl hi1 ?_
      refine aw_iconst (v := 1) dX9_ends_45 (by decide) ?_
      refine aw_icmp_eq (tgt := 51) dX9_ends_46 (by decide) (fun hc2 => ?_) (fun hc2 => ?_)
      · replace H := H.1 hc2
        exact aw_ls [0, 1, 2] rfl H
      · replace H := H.2 hc2
        refine aw_iload_n dX9_ends_49 rfl 2 rfl ?_
        exact aw_iret dX9_ends_50 rfl ⟨_, rfl, H⟩
set_option maxRecDepth 8000 in
set_option maxHeartbeats 1000000 in
theorem bX9_ends_51 {l : Launch} {ad : Nat → Nat} {d : Nat} {R : Int32 → aH → Prop}   (x1 : Int32) (x2 : Int32)  (h : aH)
    (H : AW GC l ad d mX0_oneDay 0 [(0, .ref (ad 344))] [] h (qv fun h1 => AW GC l ad (d + 1) mX9_ends 18 [(0, .ref (ad 0)), (1, .int x1), (2, .int (x2 + (1 : Int32)))] [] h1 (qi R))) : AW GC l ad (d + 1) mX9_ends 51 [(0, .ref (ad 0)), (1, .int x1), (2, .int x2)] [] h (qi R) := by
  refine aw_aload_n dX9_ends_51 rfl 0 rfl ?_
  refine aw_get dX9_ends_52 shC0 ckX9 flX9_54 (v := .ref (ad 344)) rfl ?_
  refine cvX0_oneDay dX9_ends_55 mlX9_259 shC344 (Nat.le_of_ble_eq_true rfl) H (fun h1 H => ?_)
  refine aw_inc (mm := (1)) (ls' := [(2, .int (x2 + (1 : Int32))), (0, .ref (ad 0)), (1, .int x1)]) dX9_ends_58 (by decide) (j := 2) rfl (by decide) rfl ?_
  refine aw_goto (tgt := 18) dX9_ends_61 (by decide) ?_
  exact aw_ls [1, 2, 0] rfl H
set_option maxRecDepth 8000 in
set_option maxHeartbeats 1000000 in
theorem bX9_clear_0 {l : Launch} {ad : Nat → Nat} {d : Nat} {R : Int32 → aH → Prop}     (h : aH)
    (H : ∀ y1 : Nat, y1 = h.2.2 0 3 → isS GC y1 ∧ (AW GC l ad d mX4_fewestPayings 0 [(0, .ref (ad 352)), (1, .ref (ad 66)), (2, .int (h.1 y1 11))] [] h (qi fun z3 h2 => R z3 h2))) : AW GC l ad (d + 1) mX9_clear 0 [(0, .ref (ad 0))] [] h (qi R) := by
  refine aw_aload_n dX9_clear_0 rfl 0 rfl ?_
  refine aw_get dX9_clear_1 shC0 ckX9 flX9_68 (v := .ref (ad 352)) rfl ?_
  refine aw_aload_n dX9_clear_4 rfl 0 rfl ?_
  refine aw_get dX9_clear_5 shC0 ckX9 flX9_32 (v := .ref (ad 66)) rfl ?_
  refine aw_aload_n dX9_clear_8 rfl 0 rfl ?_
  obtain ⟨y1, ey1⟩ : ∃ z, z = h.2.2 0 3 := ⟨_, rfl⟩
  obtain ⟨hy1, H⟩ := H y1 ey1
  refine aw_get dX9_clear_9 shC0 ckX9 flX9_25 (v := .ref (ad y1)) (by rw [ey1]; rfl) ?_
  refine aw_get dX9_clear_12 hy1.1 ckX6 flX9_117 (v := .int (h.1 y1 11)) rfl ?_
  refine cvX4_fewestPayings dX9_clear_15 mlX9_262 shC352 (Nat.le_of_ble_eq_true rfl) H (fun z3 h2 H => ?_)
  exact aw_iret dX9_clear_18 rfl ⟨_, rfl, H⟩
set_option maxRecDepth 8000 in
set_option maxHeartbeats 1000000 in
theorem bX9_keep_0 {l : Launch} {ad : Nat → Nat} {d : Nat} {R : Int32 → aH → Prop}   (x1 : Int32) (x2 : Int32)  (h : aH)
    (H : AW GC l ad d mX9_isDebt 0 [(0, .ref (ad 0)), (1, .int x1)] [] h (qi fun z2 h1 => (z2 = 0 → (R (-1 : Int32) h1)) ∧ (¬ z2 = 0 → ((x2 < 0 → (R (-1 : Int32) h1)) ∧ (¬ x2 < 0 → ((x2 ≤ (60 : Int32) → (vp_in x1 8 ∧ (((h1.1 74 x1.toNatClampNeg) = (1 : Int32) → (AW GC l ad (d + 1) mX9_keep 38 [(0, .ref (ad 0)), (1, .int x1), (2, .int x2), (3, .int (0 : Int32))] [] h1 (qi R))) ∧ (¬ (h1.1 74 x1.toNatClampNeg) = (1 : Int32) → (R (-2 : Int32) h1))))) ∧ (¬ x2 ≤ (60 : Int32) → (R (-1 : Int32) h1)))))))) : AW GC l ad (d + 1) mX9_keep 0 [(0, .ref (ad 0)), (1, .int x1), (2, .int x2)] [] h (qi R) := by
  refine aw_aload_n dX9_keep_0 rfl 0 rfl ?_
  refine aw_iload_n dX9_keep_1 rfl 1 rfl ?_
  refine cvX9_isDebt dX9_keep_2 mlX9_130 shC0 (Nat.le_of_ble_eq_true rfl) H (fun z2 h1 H => ?_)
  refine aw_if_eq (tgt := 18) dX9_keep_5 (by decide) (fun hc7 => ?_) (fun hc7 => ?_)
  · replace H := H.1 hc7
    refine aw_iconst (v := (-1)) dX9_keep_18 (by decide) ?_
    exact aw_iret dX9_keep_19 rfl ⟨_, rfl, H⟩
  · replace H := H.2 hc7
    refine aw_iload_n dX9_keep_8 rfl 2 rfl ?_
    refine aw_if_lt (tgt := 18) dX9_keep_9 (by decide) (fun hc6 => ?_) (fun hc6 => ?_)
    · replace H := H.1 hc6
      refine aw_iconst (v := (-1)) dX9_keep_18 (by decide) ?_
      exact aw_iret dX9_keep_19 rfl ⟨_, rfl, H⟩
    · replace H := H.2 hc6
      refine aw_iload_n dX9_keep_12 rfl 2 rfl ?_
      refine aw_bipush (v := 60) dX9_keep_13 (by decide) ?_
      refine aw_icmp_le (tgt := 20) dX9_keep_15 (by decide) (fun hc5 => ?_) (fun hc5 => ?_)
      · replace H := H.1 hc5
        refine aw_aload_n dX9_keep_20 rfl 0 rfl ?_
        refine aw_get dX9_keep_21 shC0 ckX9 flX9_32 (v := .ref (ad 66)) rfl ?_
        refine aw_get dX9_keep_24 isW_66.1 ckX8 flX9_152 (v := .ref (ad 74)) rfl ?_
        refine aw_iload_n dX9_keep_27 rfl 1 rfl ?_
        obtain ⟨hi3, H⟩ := H
        refine aw_ialdK (t0 := 0) (j := x1.toNatClampNeg) dX9_keep_28 (isW_66.2 7 (by decide)) rfl rfl hi3 ?_
        refine aw_iconst (v := 1) dX9_keep_29 (by decide) ?_
        refine aw_icmp_eq (tgt := 36) dX9_keep_30 (by decide) (fun hc4 => ?_) (fun hc4 => ?_)
        · replace H := H.1 hc4
          refine aw_iconst (v := 0) dX9_keep_36 (by decide) ?_
          refine aw_istore_n (ls' := [(3, .int (0 : Int32)), (0, .ref (ad 0)), (1, .int x1), (2, .int x2)]) dX9_keep_37 rfl (by decide) rfl ?_
          exact aw_ls [1, 2, 3, 0] rfl H
        · replace H := H.2 hc4
          refine aw_bipush (v := (-2)) dX9_keep_33 (by decide) ?_
          exact aw_iret dX9_keep_35 rfl ⟨_, rfl, H⟩
      · replace H := H.2 hc5
        refine aw_iconst (v := (-1)) dX9_keep_18 (by decide) ?_
        exact aw_iret dX9_keep_19 rfl ⟨_, rfl, H⟩
set_option maxRecDepth 8000 in
set_option maxHeartbeats 1000000 in
theorem bX9_keep_38 {l : Launch} {ad : Nat → Nat} {d : Nat} {R : Int32 → aH → Prop}   (x1 : Int32) (x2 : Int32) (x3 : Int32)  (h : aH)
    (H : ((6 : Int32) < x3 → (R (-2 : Int32) h)) ∧ (¬ (6 : Int32) < x3 → (AW GC l ad (d + 1) mX9_keep 47 [(0, .ref (ad 0)), (1, .int x1), (2, .int x2), (3, .int x3), (4, .int (0 : Int32))] [] h (qi R)))) : AW GC l ad (d + 1) mX9_keep 38 [(0, .ref (ad 0)), (1, .int x1), (2, .int x2), (3, .int x3)] [] h (qi R) := by
  refine aw_iload_n dX9_keep_38 rfl 3 rfl ?_
  refine aw_bipush (v := 6) dX9_keep_39 (by decide) ?_
  refine aw_icmp_gt (tgt := 104) dX9_keep_41 (by decide) (fun hc1 => ?_) (fun hc1 => ?_)
  · replace H := H.1 hc1
    refine aw_bipush (v := (-2)) dX9_keep_104 (by decide) ?_
    exact aw_iret dX9_keep_106 rfl ⟨_, rfl, H⟩
  · replace H := H.2 hc1
    refine aw_iconst (v := 0) dX9_keep_44 (by decide) ?_
    refine aw_istore (ls' := [(4, .int (0 : Int32)), (0, .ref (ad 0)), (1, .int x1), (2, .int x2), (3, .int x3)]) dX9_keep_45 (by decide) rfl ?_
    exact aw_ls [1, 2, 3, 4, 0] rfl H
set_option maxRecDepth 8000 in
set_option maxHeartbeats 1000000 in
theorem bX9_keep_47 {l : Launch} {ad : Nat → Nat} {d : Nat} {R : Int32 → aH → Prop}   (x1 : Int32) (x2 : Int32) (x3 : Int32) (x4 : Int32)  (h : aH)
    (H : ((64 : Int32) ≤ x4 → (AW GC l ad (d + 1) mX9_keep 38 [(0, .ref (ad 0)), (1, .int x1), (2, .int x2), (3, .int (x3 + (1 : Int32)))] [] h (qi R))) ∧ (¬ (64 : Int32) ≤ x4 → ((¬ (x4 &&& ((h.1 66 12) ^^^ (-1 : Int32))) = 0 → (AW GC l ad (d + 1) mX9_keep 47 [(0, .ref (ad 0)), (1, .int x1), (2, .int x2), (3, .int x3), (4, .int (x4 + (1 : Int32)))] [] h (qi R))) ∧ ((x4 &&& ((h.1 66 12) ^^^ (-1 : Int32))) = 0 → (AW GC l ad d mJ6_bitCount_0f7a4 0 [(0, .int x4)] [] h (qi fun z2 h1 => (¬ z2 = x3 → (AW GC l ad (d + 1) mX9_keep 47 [(0, .ref (ad 0)), (1, .int x1), (2, .int x2), (3, .int x3), (4, .int (x4 + (1 : Int32)))] [] h1 (qi R))) ∧ (z2 = x3 → (AW GC l ad d mX9_isKeptBy 0 [(0, .ref (ad 0)), (1, .int x4), (2, .int x1), (3, .int x2)] [] h1 (qi fun z4 h3 => (z4 = 0 → (AW GC l ad (d + 1) mX9_keep 47 [(0, .ref (ad 0)), (1, .int x1), (2, .int x2), (3, .int x3), (4, .int (x4 + (1 : Int32)))] [] h3 (qi R))) ∧ (¬ z4 = 0 → (R x4 h3))))))))))) : AW GC l ad (d + 1) mX9_keep 47 [(0, .ref (ad 0)), (1, .int x1), (2, .int x2), (3, .int x3), (4, .int x4)] [] h (qi R) := by
  refine aw_iload dX9_keep_47 4 rfl ?_
  refine aw_bipush (v := 64) dX9_keep_49 (by decide) ?_
  refine aw_icmp_ge (tgt := 98) dX9_keep_51 (by decide) (fun hc8 => ?_) (fun hc8 => ?_)
  · replace H := H.1 hc8
    refine aw_inc (mm := (1)) (ls' := [(3, .int (x3 + (1 : Int32))), (0, .ref (ad 0)), (1, .int x1), (2, .int x2), (4, .int x4)]) dX9_keep_98 (by decide) (j := 3) rfl (by decide) rfl ?_
    refine aw_goto (tgt := 38) dX9_keep_101 (by decide) ?_
    exact aw_ls [1, 2, 3, 0] rfl H
  · replace H := H.2 hc8
    refine aw_iload dX9_keep_54 4 rfl ?_
    refine aw_aload_n dX9_keep_56 rfl 0 rfl ?_
    refine aw_get dX9_keep_57 shC0 ckX9 flX9_32 (v := .ref (ad 66)) rfl ?_
    refine aw_get dX9_keep_60 isW_66.1 ckX8 flX9_250 (v := .int (h.1 66 12)) rfl ?_
    refine aw_iconst (v := (-1)) dX9_keep_63 (by decide) ?_
    refine aw_ixor dX9_keep_64 ?_
    refine aw_iand dX9_keep_65 ?_
    refine aw_if_ne (tgt := 92) dX9_keep_66 (by decide) (fun hc7 => ?_) (fun hc7 => ?_)
    · replace H := H.1 hc7
      refine aw_inc (mm := (1)) (ls' := [(4, .int (x4 + (1 : Int32))), (0, .ref (ad 0)), (1, .int x1), (2, .int x2), (3, .int x3)]) dX9_keep_92 (by decide) (j := 4) rfl (by decide) rfl ?_
      refine aw_goto (tgt := 47) dX9_keep_95 (by decide) ?_
      exact aw_ls [1, 2, 3, 4, 0] rfl H
    · replace H := H.2 hc7
      refine aw_iload dX9_keep_69 4 rfl ?_
      refine cvJ6_bitCount_0f7a4 stC dX9_keep_71 mlX9_253 (Nat.le_of_ble_eq_true rfl) H (fun z2 h1 H => ?_)
      refine aw_iload_n dX9_keep_74 rfl 3 rfl ?_
      refine aw_icmp_ne (tgt := 92) dX9_keep_75 (by decide) (fun hc6 => ?_) (fun hc6 => ?_)
      · replace H := H.1 hc6
        refine aw_inc (mm := (1)) (ls' := [(4, .int (x4 + (1 : Int32))), (0, .ref (ad 0)), (1, .int x1), (2, .int x2), (3, .int x3)]) dX9_keep_92 (by decide) (j := 4) rfl (by decide) rfl ?_
        refine aw_goto (tgt := 47) dX9_keep_95 (by decide) ?_
        exact aw_ls [1, 2, 3, 4, 0] rfl H
      · replace H := H.2 hc6
        refine aw_aload_n dX9_keep_78 rfl 0 rfl ?_
        refine aw_iload dX9_keep_79 4 rfl ?_
        refine aw_iload_n dX9_keep_81 rfl 1 rfl ?_
        refine aw_iload_n dX9_keep_82 rfl 2 rfl ?_
        refine cvX9_isKeptBy dX9_keep_83 mlX9_266 shC0 (Nat.le_of_ble_eq_true rfl) H (fun z4 h3 H => ?_)
        refine aw_if_eq (tgt := 92) dX9_keep_86 (by decide) (fun hc5 => ?_) (fun hc5 => ?_)
        · replace H := H.1 hc5
          refine aw_inc (mm := (1)) (ls' := [(4, .int (x4 + (1 : Int32))), (0, .ref (ad 0)), (1, .int x1), (2, .int x2), (3, .int x3)]) dX9_keep_92 (by decide) (j := 4) rfl (by decide) rfl ?_
          refine aw_goto (tgt := 47) dX9_keep_95 (by decide) ?_
          exact aw_ls [1, 2, 3, 4, 0] rfl H
        · replace H := H.2 hc5
          refine aw_iload dX9_keep_89 4 rfl ?_
          exact aw_iret dX9_keep_91 rfl ⟨_, rfl, H⟩
set_option maxRecDepth 8000 in
set_option maxHeartbeats 1000000 in
theorem bX9_isKeptBy_0 {l : Launch} {ad : Nat → Nat} {d : Nat} {R : Int32 → aH → Prop}   (x1 : Int32) (x2 : Int32) (x3 : Int32)  (h : aH)
    (H : AW GC l ad d mX9_startTrial 0 [(0, .ref (ad 0)), (1, .int (0 : Int32)), (2, .int (0 : Int32))] [] h (qv fun h1 => vp_in x2 14 ∧ (AW GC l ad (d + 1) mX9_isKeptBy 19 [(0, .ref (ad 0)), (2, .int x2), (3, .int x3), (4, .int (0 : Int32))] [] (sI h1 89 x2.toNatClampNeg x1) (qi R)))) : AW GC l ad (d + 1) mX9_isKeptBy 0 [(0, .ref (ad 0)), (1, .int x1), (2, .int x2), (3, .int x3)] [] h (qi R) := by
  refine aw_aload_n dX9_isKeptBy_0 rfl 0 rfl ?_
  refine aw_iconst (v := 0) dX9_isKeptBy_1 (by decide) ?_
  refine aw_iconst (v := 0) dX9_isKeptBy_2 (by decide) ?_
  refine cvX9_startTrial dX9_isKeptBy_3 mlX9_247 shC0 (Nat.le_of_ble_eq_true rfl) H (fun h1 H => ?_)
  refine aw_aload_n dX9_isKeptBy_6 rfl 0 rfl ?_
  refine aw_get dX9_isKeptBy_7 shC0 ckX9 flX9_36 (v := .ref (ad 78)) rfl ?_
  refine aw_get dX9_isKeptBy_10 isW_78.1 ckX8 flX9_158 (v := .ref (ad 89)) rfl ?_
  refine aw_iload_n dX9_isKeptBy_13 rfl 2 rfl ?_
  refine aw_iload_n dX9_isKeptBy_14 rfl 1 rfl ?_
  obtain ⟨hi3, H⟩ := H
  refine aw_iastK (t0 := 0) (j := x2.toNatClampNeg) dX9_isKeptBy_15 (isW_78.2 10 (by decide)) rfl rfl hi3 ?_
  refine aw_iconst (v := 0) dX9_isKeptBy_16 (by decide) ?_
  refine aw_istore (ls' := [(4, .int (0 : Int32)), (0, .ref (ad 0)), (1, .int x1), (2, .int x2), (3, .int x3)]) dX9_isKeptBy_17 (by decide) rfl ?_
  exact aw_ls [1, 3, 4, 0] rfl H
set_option maxRecDepth 8000 in
set_option maxHeartbeats 1000000 in
theorem bX9_isKeptBy_19 {l : Launch} {ad : Nat → Nat} {d : Nat} {R : Int32 → aH → Prop}   (x2 : Int32) (x3 : Int32) (x4 : Int32)  (h : aH)
    (H : (x3 ≤ x4 → (AW GC l ad (d + 1) mX9_isKeptBy 51 [(0, .ref (ad 0)), (2, .int x2)] [] h (qi R))) ∧ (¬ x3 ≤ x4 → (vp_in x2 8 ∧ ((¬ (h.1 86 x2.toNatClampNeg) = (1 : Int32) → (AW GC l ad (d + 1) mX9_isKeptBy 51 [(0, .ref (ad 0)), (2, .int x2)] [] h (qi R))) ∧ ((h.1 86 x2.toNatClampNeg) = (1 : Int32) → (AW GC l ad d mX0_oneDay 0 [(0, .ref (ad 344))] [] h (qv fun h2 => AW GC l ad (d + 1) mX9_isKeptBy 19 [(0, .ref (ad 0)), (2, .int x2), (3, .int x3), (4, .int (x4 + (1 : Int32)))] [] h2 (qi R)))))))) : AW GC l ad (d + 1) mX9_isKeptBy 19 [(0, .ref (ad 0)), (2, .int x2), (3, .int x3), (4, .int x4)] [] h (qi R) := by
  refine aw_iload dX9_isKeptBy_19 3 rfl ?_
  refine aw_iload_n dX9_isKeptBy_21 rfl 2 rfl ?_
  refine aw_icmp_ge (tgt := 51) dX9_isKeptBy_22 (by decide) (fun hc5 => ?_) (fun hc5 => ?_)
  · replace H := H.1 hc5
    exact aw_ls [0, 1] rfl H
  · replace H := H.2 hc5
    refine aw_aload_n dX9_isKeptBy_25 rfl 0 rfl ?_
    refine aw_get dX9_isKeptBy_26 shC0 ckX9 flX9_36 (v := .ref (ad 78)) rfl ?_
    refine aw_get dX9_isKeptBy_29 isW_78.1 ckX8 flX9_152 (v := .ref (ad 86)) rfl ?_
    refine aw_iload_n dX9_isKeptBy_32 rfl 1 rfl ?_
    obtain ⟨hi1, H⟩ := H
    refine aw_ialdK (t0 := 0) (j := x2.toNatClampNeg) dX9_isKeptBy_33 (isW_78.2 7 (by decide)) rfl rfl hi1 ?_
    refine aw_iconst (v := 1) dX9_isKeptBy_34 (by decide) ?_
    refine aw_icmp_ne (tgt := 51) dX9_isKeptBy_35 (by decide) (fun hc4 => ?_) (fun hc4 => ?_)
    · replace H := H.1 hc4
      exact aw_ls [0, 1] rfl H
    · replace H := H.2 hc4
      refine aw_aload_n dX9_isKeptBy_38 rfl 0 rfl ?_
      refine aw_get dX9_isKeptBy_39 shC0 ckX9 flX9_54 (v := .ref (ad 344)) rfl ?_
      refine cvX0_oneDay dX9_isKeptBy_42 mlX9_259 shC344 (Nat.le_of_ble_eq_true rfl) H (fun h2 H => ?_)
      refine aw_inc (mm := (1)) (ls' := [(4, .int (x4 + (1 : Int32))), (0, .ref (ad 0)), (2, .int x2), (3, .int x3)]) dX9_isKeptBy_45 (by decide) (j := 3) rfl (by decide) rfl ?_
      refine aw_goto (tgt := 19) dX9_isKeptBy_48 (by decide) ?_
      exact aw_ls [1, 2, 3, 0] rfl H
set_option maxRecDepth 8000 in
set_option maxHeartbeats 1000000 in
theorem bX9_isKeptBy_51 {l : Launch} {ad : Nat → Nat} {d : Nat} {R : Int32 → aH → Prop}   (x2 : Int32)  (h : aH)
    (H : vp_in x2 8 ∧ (((h.1 86 x2.toNatClampNeg) = (2 : Int32) → (R (1 : Int32) h)) ∧ (¬ (h.1 86 x2.toNatClampNeg) = (2 : Int32) → (vp_in x2 14 ∧ (((h.1 89 x2.toNatClampNeg) = 0 → (R (0 : Int32) h)) ∧ (¬ (h.1 89 x2.toNatClampNeg) = 0 → (R (1 : Int32) h))))))) : AW GC l ad (d + 1) mX9_isKeptBy 51 [(0, .ref (ad 0)), (2, .int x2)] [] h (qi R) := by
  refine aw_aload_n dX9_isKeptBy_51 rfl 0 rfl ?_
  refine aw_get dX9_isKeptBy_52 shC0 ckX9 flX9_36 (v := .ref (ad 78)) rfl ?_
  refine aw_get dX9_isKeptBy_55 isW_78.1 ckX8 flX9_152 (v := .ref (ad 86)) rfl ?_
  refine aw_iload_n dX9_isKeptBy_58 rfl 1 rfl ?_
  obtain ⟨hi1, H⟩ := H
  refine aw_ialdK (t0 := 0) (j := x2.toNatClampNeg) dX9_isKeptBy_59 (isW_78.2 7 (by decide)) rfl rfl hi1 ?_
  refine aw_iconst (v := 2) dX9_isKeptBy_60 (by decide) ?_
  refine aw_icmp_eq (tgt := 76) dX9_isKeptBy_61 (by decide) (fun hc4 => ?_) (fun hc4 => ?_)
  · replace H := H.1 hc4
    refine aw_iconst (v := 1) dX9_isKeptBy_76 (by decide) ?_
    refine aw_goto (tgt := 81) dX9_isKeptBy_77 (by decide) ?_
    exact aw_zret dX9_isKeptBy_81 rfl (by decide) ⟨_, rfl, H⟩
  · replace H := H.2 hc4
    refine aw_aload_n dX9_isKeptBy_64 rfl 0 rfl ?_
    refine aw_get dX9_isKeptBy_65 shC0 ckX9 flX9_36 (v := .ref (ad 78)) rfl ?_
    refine aw_get dX9_isKeptBy_68 isW_78.1 ckX8 flX9_158 (v := .ref (ad 89)) rfl ?_
    refine aw_iload_n dX9_isKeptBy_71 rfl 1 rfl ?_
    obtain ⟨hi2, H⟩ := H
    refine aw_ialdK (t0 := 0) (j := x2.toNatClampNeg) dX9_isKeptBy_72 (isW_78.2 10 (by decide)) rfl rfl hi2 ?_
    refine aw_if_eq (tgt := 80) dX9_isKeptBy_73 (by decide) (fun hc3 => ?_) (fun hc3 => ?_)
    · replace H := H.1 hc3
      refine aw_iconst (v := 0) dX9_isKeptBy_80 (by decide) ?_
      exact aw_zret dX9_isKeptBy_81 rfl (by decide) ⟨_, rfl, H⟩
    · replace H := H.2 hc3
      refine aw_iconst (v := 1) dX9_isKeptBy_76 (by decide) ?_
      refine aw_goto (tgt := 81) dX9_isKeptBy_77 (by decide) ?_
      exact aw_zret dX9_isKeptBy_81 rfl (by decide) ⟨_, rfl, H⟩
set_option maxRecDepth 8000 in
set_option maxHeartbeats 1000000 in
theorem bX9_order_0 {l : Launch} {ad : Nat → Nat} {d : Nat} {R : Int32 → aH → Prop}   (x1 : Int32)  (h : aH)
    (H : (x1 < 0 → (R (-1 : Int32) h)) ∧ (¬ x1 < 0 → ((x1 ≤ (4 : Int32) → (AW GC l ad d mX4_findOrder 0 [(0, .ref (ad 352)), (1, .ref (ad 66))] [] h (qv fun h1 => (¬ x1 = (4 : Int32) → (((h1.1 352 7) ≤ x1 → (R (-2 : Int32) h1)) ∧ (¬ (h1.1 352 7) ≤ x1 → (vp_in x1 4 ∧ (R (h1.1 370 x1.toNatClampNeg) h1))))) ∧ (x1 = (4 : Int32) → (R (h1.1 352 8) h1))))) ∧ (¬ x1 ≤ (4 : Int32) → (R (-1 : Int32) h))))) : AW GC l ad (d + 1) mX9_order 0 [(0, .ref (ad 0)), (1, .int x1)] [] h (qi R) := by
  refine aw_iload_n dX9_order_0 rfl 1 rfl ?_
  refine aw_if_lt (tgt := 9) dX9_order_1 (by decide) (fun hc7 => ?_) (fun hc7 => ?_)
  · replace H := H.1 hc7
    refine aw_iconst (v := (-1)) dX9_order_9 (by decide) ?_
    exact aw_iret dX9_order_10 rfl ⟨_, rfl, H⟩
  · replace H := H.2 hc7
    refine aw_iload_n dX9_order_4 rfl 1 rfl ?_
    refine aw_iconst (v := 4) dX9_order_5 (by decide) ?_
    refine aw_icmp_le (tgt := 11) dX9_order_6 (by decide) (fun hc6 => ?_) (fun hc6 => ?_)
    · replace H := H.1 hc6
      refine aw_aload_n dX9_order_11 rfl 0 rfl ?_
      refine aw_get dX9_order_12 shC0 ckX9 flX9_68 (v := .ref (ad 352)) rfl ?_
      refine aw_aload_n dX9_order_15 rfl 0 rfl ?_
      refine aw_get dX9_order_16 shC0 ckX9 flX9_32 (v := .ref (ad 66)) rfl ?_
      refine cvX4_findOrder dX9_order_19 mlX9_270 shC352 (Nat.le_of_ble_eq_true rfl) H (fun h1 H => ?_)
      refine aw_iload_n dX9_order_22 rfl 1 rfl ?_
      refine aw_iconst (v := 4) dX9_order_23 (by decide) ?_
      refine aw_icmp_ne (tgt := 35) dX9_order_24 (by decide) (fun hc5 => ?_) (fun hc5 => ?_)
      · replace H := H.1 hc5
        refine aw_iload_n dX9_order_35 rfl 1 rfl ?_
        refine aw_aload_n dX9_order_36 rfl 0 rfl ?_
        refine aw_get dX9_order_37 shC0 ckX9 flX9_68 (v := .ref (ad 352)) rfl ?_
        refine aw_get dX9_order_40 shC352 ckX4 flX9_276 (v := .int (h1.1 352 7)) rfl ?_
        refine aw_icmp_ge (tgt := 58) dX9_order_43 (by decide) (fun hc4 => ?_) (fun hc4 => ?_)
        · replace H := H.1 hc4
          refine aw_bipush (v := (-2)) dX9_order_58 (by decide) ?_
          exact aw_iret dX9_order_60 rfl ⟨_, rfl, H⟩
        · replace H := H.2 hc4
          refine aw_aload_n dX9_order_46 rfl 0 rfl ?_
          refine aw_get dX9_order_47 shC0 ckX9 flX9_68 (v := .ref (ad 352)) rfl ?_
          refine aw_get dX9_order_50 shC352 ckX4 flX9_279 (v := .ref (ad 370)) rfl ?_
          refine aw_iload_n dX9_order_53 rfl 1 rfl ?_
          obtain ⟨hi3, H⟩ := H
          refine aw_ialdK (t0 := 0) (j := x1.toNatClampNeg) dX9_order_54 shC370 rfl rfl hi3 ?_
          refine aw_goto (tgt := 60) dX9_order_55 (by decide) ?_
          exact aw_iret dX9_order_60 rfl ⟨_, rfl, H⟩
      · replace H := H.2 hc5
        refine aw_aload_n dX9_order_27 rfl 0 rfl ?_
        refine aw_get dX9_order_28 shC0 ckX9 flX9_68 (v := .ref (ad 352)) rfl ?_
        refine aw_get dX9_order_31 shC352 ckX4 flX9_273 (v := .int (h1.1 352 8)) rfl ?_
        exact aw_iret dX9_order_34 rfl ⟨_, rfl, H⟩
    · replace H := H.2 hc6
      refine aw_iconst (v := (-1)) dX9_order_9 (by decide) ?_
      exact aw_iret dX9_order_10 rfl ⟨_, rfl, H⟩
set_option maxRecDepth 8000 in
set_option maxHeartbeats 1000000 in
theorem bX9_rests_0 {l : Launch} {ad : Nat → Nat} {d : Nat} {R : Int32 → aH → Prop}   (x1 : Int32) (x2 : Int32)  (h : aH)
    (H : AW GC l ad d mX9_canAsk 0 [(0, .ref (ad 0)), (1, .int x1), (2, .int x2)] [] h (qi fun z2 h1 => (z2 = 0 → (R (-1 : Int32) h1)) ∧ (¬ z2 = 0 → (AW GC l ad d mX4_findRests 0 [(0, .ref (ad 352)), (1, .ref (ad 66)), (2, .int x1), (3, .int x2)] [] h1 (qi fun z4 h3 => R z4 h3))))) : AW GC l ad (d + 1) mX9_rests 0 [(0, .ref (ad 0)), (1, .int x1), (2, .int x2)] [] h (qi R) := by
  refine aw_aload_n dX9_rests_0 rfl 0 rfl ?_
  refine aw_iload_n dX9_rests_1 rfl 1 rfl ?_
  refine aw_iload_n dX9_rests_2 rfl 2 rfl ?_
  refine cvX9_canAsk dX9_rests_3 mlX9_282 shC0 (Nat.le_of_ble_eq_true rfl) H (fun z2 h1 H => ?_)
  refine aw_if_eq (tgt := 25) dX9_rests_6 (by decide) (fun hc5 => ?_) (fun hc5 => ?_)
  · replace H := H.1 hc5
    refine aw_iconst (v := (-1)) dX9_rests_25 (by decide) ?_
    exact aw_iret dX9_rests_26 rfl ⟨_, rfl, H⟩
  · replace H := H.2 hc5
    refine aw_aload_n dX9_rests_9 rfl 0 rfl ?_
    refine aw_get dX9_rests_10 shC0 ckX9 flX9_68 (v := .ref (ad 352)) rfl ?_
    refine aw_aload_n dX9_rests_13 rfl 0 rfl ?_
    refine aw_get dX9_rests_14 shC0 ckX9 flX9_32 (v := .ref (ad 66)) rfl ?_
    refine aw_iload_n dX9_rests_17 rfl 1 rfl ?_
    refine aw_iload_n dX9_rests_18 rfl 2 rfl ?_
    refine cvX4_findRests dX9_rests_19 mlX9_286 shC352 (Nat.le_of_ble_eq_true rfl) H (fun z4 h3 H => ?_)
    refine aw_goto (tgt := 26) dX9_rests_22 (by decide) ?_
    exact aw_iret dX9_rests_26 rfl ⟨_, rfl, H⟩
set_option maxRecDepth 8000 in
set_option maxHeartbeats 1000000 in
theorem bX9_rest_0 {l : Launch} {ad : Nat → Nat} {d : Nat} {R : Int32 → aH → Prop}   (x1 : Int32) (x2 : Int32) (x3 : Int32)  (h : aH)
    (H : AW GC l ad d mX9_canAsk 0 [(0, .ref (ad 0)), (1, .int x1), (2, .int x2)] [] h (qi fun z2 h1 => (z2 = 0 → (R (-1 : Int32) h1)) ∧ (¬ z2 = 0 → ((0 ≤ x3 → (AW GC l ad d mX4_findRests 0 [(0, .ref (ad 352)), (1, .ref (ad 66)), (2, .int x1), (3, .int x2)] [] h1 (qi fun z4 h3 => (z4 ≤ x3 → (R (-2 : Int32) h3)) ∧ (¬ z4 ≤ x3 → (((Int32.ofNat 4) ≤ x3 → (R (-2 : Int32) h3)) ∧ (¬ (Int32.ofNat 4) ≤ x3 → (vp_in x3 4 ∧ (R (h3.1 371 x3.toNatClampNeg) h3)))))))) ∧ (¬ 0 ≤ x3 → (R (-1 : Int32) h1)))))) : AW GC l ad (d + 1) mX9_rest 0 [(0, .ref (ad 0)), (1, .int x1), (2, .int x2), (3, .int x3)] [] h (qi R) := by
  refine aw_aload_n dX9_rest_0 rfl 0 rfl ?_
  refine aw_iload_n dX9_rest_1 rfl 1 rfl ?_
  refine aw_iload_n dX9_rest_2 rfl 2 rfl ?_
  refine cvX9_canAsk dX9_rest_3 mlX9_282 shC0 (Nat.le_of_ble_eq_true rfl) H (fun z2 h1 H => ?_)
  refine aw_if_eq (tgt := 13) dX9_rest_6 (by decide) (fun hc9 => ?_) (fun hc9 => ?_)
  · replace H := H.1 hc9
    refine aw_iconst (v := (-1)) dX9_rest_13 (by decide) ?_
    exact aw_iret dX9_rest_14 rfl ⟨_, rfl, H⟩
  · replace H := H.2 hc9
    refine aw_iload_n dX9_rest_9 rfl 3 rfl ?_
    refine aw_if_ge (tgt := 15) dX9_rest_10 (by decide) (fun hc8 => ?_) (fun hc8 => ?_)
    · replace H := H.1 hc8
      refine aw_aload_n dX9_rest_15 rfl 0 rfl ?_
      refine aw_get dX9_rest_16 shC0 ckX9 flX9_68 (v := .ref (ad 352)) rfl ?_
      refine aw_aload_n dX9_rest_19 rfl 0 rfl ?_
      refine aw_get dX9_rest_20 shC0 ckX9 flX9_32 (v := .ref (ad 66)) rfl ?_
      refine aw_iload_n dX9_rest_23 rfl 1 rfl ?_
      refine aw_iload_n dX9_rest_24 rfl 2 rfl ?_
      refine cvX4_findRests dX9_rest_25 mlX9_286 shC352 (Nat.le_of_ble_eq_true rfl) H (fun z4 h3 H => ?_)
      refine aw_istore (ls' := [(4, .int z4), (0, .ref (ad 0)), (1, .int x1), (2, .int x2), (3, .int x3)]) dX9_rest_28 (by decide) rfl ?_
      refine aw_iload_n dX9_rest_30 rfl 4 rfl ?_
      refine aw_iload dX9_rest_31 0 rfl ?_
      refine aw_icmp_ge (tgt := 60) dX9_rest_33 (by decide) (fun hc7 => ?_) (fun hc7 => ?_)
      · replace H := H.1 hc7
        refine aw_bipush (v := (-2)) dX9_rest_60 (by decide) ?_
        exact aw_iret dX9_rest_62 rfl ⟨_, rfl, H⟩
      · replace H := H.2 hc7
        refine aw_iload_n dX9_rest_36 rfl 4 rfl ?_
        refine aw_aload_n dX9_rest_37 rfl 1 rfl ?_
        refine aw_get dX9_rest_38 shC0 ckX9 flX9_68 (v := .ref (ad 352)) rfl ?_
        refine aw_get dX9_rest_41 shC352 ckX4 flX9_290 (v := .ref (ad 371)) rfl ?_
        refine aw_alen (t0 := 0) dX9_rest_44 shC371 rfl ?_
        refine aw_icmp_ge (tgt := 60) dX9_rest_45 (by decide) (fun hc6 => ?_) (fun hc6 => ?_)
        · replace H := H.1 hc6
          refine aw_bipush (v := (-2)) dX9_rest_60 (by decide) ?_
          exact aw_iret dX9_rest_62 rfl ⟨_, rfl, H⟩
        · replace H := H.2 hc6
          refine aw_aload_n dX9_rest_48 rfl 1 rfl ?_
          refine aw_get dX9_rest_49 shC0 ckX9 flX9_68 (v := .ref (ad 352)) rfl ?_
          refine aw_get dX9_rest_52 shC352 ckX4 flX9_290 (v := .ref (ad 371)) rfl ?_
          refine aw_iload_n dX9_rest_55 rfl 4 rfl ?_
          obtain ⟨hi5, H⟩ := H
          refine aw_ialdK (t0 := 0) (j := x3.toNatClampNeg) dX9_rest_56 shC371 rfl rfl hi5 ?_
          refine aw_goto (tgt := 62) dX9_rest_57 (by decide) ?_
          exact aw_iret dX9_rest_62 rfl ⟨_, rfl, H⟩
    · replace H := H.2 hc8
      refine aw_iconst (v := (-1)) dX9_rest_13 (by decide) ?_
      exact aw_iret dX9_rest_14 rfl ⟨_, rfl, H⟩
set_option maxRecDepth 8000 in
set_option maxHeartbeats 1000000 in
theorem bX9_canAsk_0 {l : Launch} {ad : Nat → Nat} {d : Nat} {R : Int32 → aH → Prop}   (x1 : Int32) (x2 : Int32)  (h : aH)
    (H : AW GC l ad d mX9_isDebt 0 [(0, .ref (ad 0)), (1, .int x1)] [] h (qi fun z2 h1 => (z2 = 0 → (R (0 : Int32) h1)) ∧ (¬ z2 = 0 → (AW GC l ad d mX9_isDebt 0 [(0, .ref (ad 0)), (1, .int x2)] [] h1 (qi fun z4 h3 => (z4 = 0 → (R (0 : Int32) h3)) ∧ (¬ z4 = 0 → ((x1 = x2 → (R (0 : Int32) h3)) ∧ (¬ x1 = x2 → (vp_in x1 8 ∧ ((¬ (h3.1 74 x1.toNatClampNeg) = (1 : Int32) → (R (0 : Int32) h3)) ∧ ((h3.1 74 x1.toNatClampNeg) = (1 : Int32) → (vp_in x2 8 ∧ ((¬ (h3.1 74 x2.toNatClampNeg) = (1 : Int32) → (R (0 : Int32) h3)) ∧ ((h3.1 74 x2.toNatClampNeg) = (1 : Int32) → ((¬ (h3.1 70 x1.toNatClampNeg) = (h3.1 70 x2.toNatClampNeg) → (R (0 : Int32) h3)) ∧ ((h3.1 70 x1.toNatClampNeg) = (h3.1 70 x2.toNatClampNeg) → (R (1 : Int32) h3))))))))))))))))) : AW GC l ad (d + 1) mX9_canAsk 0 [(0, .ref (ad 0)), (1, .int x1), (2, .int x2)] [] h (qi R) := by
  refine aw_aload_n dX9_canAsk_0 rfl 0 rfl ?_
  refine aw_iload_n dX9_canAsk_1 rfl 1 rfl ?_
  refine cvX9_isDebt dX9_canAsk_2 mlX9_130 shC0 (Nat.le_of_ble_eq_true rfl) H (fun z2 h1 H => ?_)
  refine aw_if_eq (tgt := 72) dX9_canAsk_5 (by decide) (fun hc12 => ?_) (fun hc12 => ?_)
  · replace H := H.1 hc12
    refine aw_iconst (v := 0) dX9_canAsk_72 (by decide) ?_
    exact aw_zret dX9_canAsk_73 rfl (by decide) ⟨_, rfl, H⟩
  · replace H := H.2 hc12
    refine aw_aload_n dX9_canAsk_8 rfl 0 rfl ?_
    refine aw_iload_n dX9_canAsk_9 rfl 2 rfl ?_
    refine cvX9_isDebt dX9_canAsk_10 mlX9_130 shC0 (Nat.le_of_ble_eq_true rfl) H (fun z4 h3 H => ?_)
    refine aw_if_eq (tgt := 72) dX9_canAsk_13 (by decide) (fun hc11 => ?_) (fun hc11 => ?_)
    · replace H := H.1 hc11
      refine aw_iconst (v := 0) dX9_canAsk_72 (by decide) ?_
      exact aw_zret dX9_canAsk_73 rfl (by decide) ⟨_, rfl, H⟩
    · replace H := H.2 hc11
      refine aw_iload_n dX9_canAsk_16 rfl 1 rfl ?_
      refine aw_iload_n dX9_canAsk_17 rfl 2 rfl ?_
      refine aw_icmp_eq (tgt := 72) dX9_canAsk_18 (by decide) (fun hc10 => ?_) (fun hc10 => ?_)
      · replace H := H.1 hc10
        refine aw_iconst (v := 0) dX9_canAsk_72 (by decide) ?_
        exact aw_zret dX9_canAsk_73 rfl (by decide) ⟨_, rfl, H⟩
      · replace H := H.2 hc10
        refine aw_aload_n dX9_canAsk_21 rfl 0 rfl ?_
        refine aw_get dX9_canAsk_22 shC0 ckX9 flX9_32 (v := .ref (ad 66)) rfl ?_
        refine aw_get dX9_canAsk_25 isW_66.1 ckX8 flX9_152 (v := .ref (ad 74)) rfl ?_
        refine aw_iload_n dX9_canAsk_28 rfl 1 rfl ?_
        obtain ⟨hi5, H⟩ := H
        refine aw_ialdK (t0 := 0) (j := x1.toNatClampNeg) dX9_canAsk_29 (isW_66.2 7 (by decide)) rfl rfl hi5 ?_
        refine aw_iconst (v := 1) dX9_canAsk_30 (by decide) ?_
        refine aw_icmp_ne (tgt := 72) dX9_canAsk_31 (by decide) (fun hc9 => ?_) (fun hc9 => ?_)
        · replace H := H.1 hc9
          refine aw_iconst (v := 0) dX9_canAsk_72 (by decide) ?_
          exact aw_zret dX9_canAsk_73 rfl (by decide) ⟨_, rfl, H⟩
        · replace H := H.2 hc9
          refine aw_aload_n dX9_canAsk_34 rfl 0 rfl ?_
          refine aw_get dX9_canAsk_35 shC0 ckX9 flX9_32 (v := .ref (ad 66)) rfl ?_
          refine aw_get dX9_canAsk_38 isW_66.1 ckX8 flX9_152 (v := .ref (ad 74)) rfl ?_
          refine aw_iload_n dX9_canAsk_41 rfl 2 rfl ?_
          obtain ⟨hi6, H⟩ := H
          refine aw_ialdK (t0 := 0) (j := x2.toNatClampNeg) dX9_canAsk_42 (isW_66.2 7 (by decide)) rfl rfl hi6 ?_
          refine aw_iconst (v := 1) dX9_canAsk_43 (by decide) ?_
          refine aw_icmp_ne (tgt := 72) dX9_canAsk_44 (by decide) (fun hc8 => ?_) (fun hc8 => ?_)
          · replace H := H.1 hc8
            refine aw_iconst (v := 0) dX9_canAsk_72 (by decide) ?_
            exact aw_zret dX9_canAsk_73 rfl (by decide) ⟨_, rfl, H⟩
          · replace H := H.2 hc8
            refine aw_aload_n dX9_canAsk_47 rfl 0 rfl ?_
            refine aw_get dX9_canAsk_48 shC0 ckX9 flX9_32 (v := .ref (ad 66)) rfl ?_
            refine aw_get dX9_canAsk_51 isW_66.1 ckX8 flX9_140 (v := .ref (ad 70)) rfl ?_
            refine aw_iload_n dX9_canAsk_54 rfl 1 rfl ?_
            refine aw_ialdK (t0 := 0) (j := x1.toNatClampNeg) dX9_canAsk_55 (isW_66.2 3 (by decide)) rfl rfl hi5 ?_
            refine aw_aload_n dX9_canAsk_56 rfl 0 rfl ?_
            refine aw_get dX9_canAsk_57 shC0 ckX9 flX9_32 (v := .ref (ad 66)) rfl ?_
            refine aw_get dX9_canAsk_60 isW_66.1 ckX8 flX9_140 (v := .ref (ad 70)) rfl ?_
            refine aw_iload_n dX9_canAsk_63 rfl 2 rfl ?_
            refine aw_ialdK (t0 := 0) (j := x2.toNatClampNeg) dX9_canAsk_64 (isW_66.2 3 (by decide)) rfl rfl hi6 ?_
            refine aw_icmp_ne (tgt := 72) dX9_canAsk_65 (by decide) (fun hc7 => ?_) (fun hc7 => ?_)
            · replace H := H.1 hc7
              refine aw_iconst (v := 0) dX9_canAsk_72 (by decide) ?_
              exact aw_zret dX9_canAsk_73 rfl (by decide) ⟨_, rfl, H⟩
            · replace H := H.2 hc7
              refine aw_iconst (v := 1) dX9_canAsk_68 (by decide) ?_
              refine aw_goto (tgt := 73) dX9_canAsk_69 (by decide) ?_
              exact aw_zret dX9_canAsk_73 rfl (by decide) ⟨_, rfl, H⟩
set_option maxRecDepth 8000 in
set_option maxHeartbeats 1000000 in
theorem bX9_lives_0 {l : Launch} {ad : Nat → Nat} {d : Nat} {R : Int64 → aH → Prop}   (x1 : Int32) (x2 : Int32) (x3 : Int32)  (h : aH)
    (H : AW GC l ad d mX9_isTusk 0 [(0, .ref (ad 0)), (1, .int x1)] [] h (qi fun z2 h1 => (z2 = 0 → (R (-1 : Int64) h1)) ∧ (¬ z2 = 0 → (AW GC l ad d mX8_isAlive 0 [(0, .ref (ad 66)), (1, .int x1)] [] h1 (qi fun z4 h3 => (z4 = 0 → (R (-1 : Int64) h3)) ∧ (¬ z4 = 0 → ((x2 < 0 → (R (-1 : Int64) h3)) ∧ (¬ x2 < 0 → (((6 : Int32) < x2 → (R (-1 : Int64) h3)) ∧ (¬ (6 : Int32) < x2 → ((x3 < 0 → (R (-1 : Int64) h3)) ∧ (¬ x3 < 0 → ((x3 ≤ (1 : Int32) → (∀ y5 : Nat, y5 = h3.2.2 0 3 → isS GC y5 ∧ (AW GC l ad d mX0_follow 0 [(0, .ref (ad 344)), (1, .ref (ad y5)), (2, .ref (ad 66)), (3, .int (0 : Int32)), (4, .int (0 : Int32))] [] h3 (qv fun h6 => AW GC l ad (d + 1) mX9_lives 68 [(0, .ref (ad 0)), (1, .int x1), (2, .int x2), (3, .int x3), (4, .long (1 : Int64)), (6, .long (1 : Int64)), (8, .int (1 : Int32))] [] h6 (ql R))))) ∧ (¬ x3 ≤ (1 : Int32) → (R (-1 : Int64) h3))))))))))))))) : AW GC l ad (d + 1) mX9_lives 0 [(0, .ref (ad 0)), (1, .int x1), (2, .int x2), (3, .int x3)] [] h (ql R) := by
  refine aw_aload_n dX9_lives_0 rfl 0 rfl ?_
  refine aw_iload_n dX9_lives_1 rfl 1 rfl ?_
  refine cvX9_isTusk dX9_lives_2 mlX9_177 shC0 (Nat.le_of_ble_eq_true rfl) H (fun z2 h1 H => ?_)
  refine aw_if_eq (tgt := 38) dX9_lives_5 (by decide) (fun hc13 => ?_) (fun hc13 => ?_)
  · replace H := H.1 hc13
    refine aw_ldc2 dX9_lives_38 clX9_293 ?_
    exact aw_lret dX9_lives_41 rfl ⟨_, rfl, H⟩
  · replace H := H.2 hc13
    refine aw_aload_n dX9_lives_8 rfl 0 rfl ?_
    refine aw_get dX9_lives_9 shC0 ckX9 flX9_32 (v := .ref (ad 66)) rfl ?_
    refine aw_iload_n dX9_lives_12 rfl 1 rfl ?_
    refine cvX8_isAlive dX9_lives_13 mlX9_186 isW_66.1 (Nat.le_of_ble_eq_true rfl) H (fun z4 h3 H => ?_)
    refine aw_if_eq (tgt := 38) dX9_lives_16 (by decide) (fun hc12 => ?_) (fun hc12 => ?_)
    · replace H := H.1 hc12
      refine aw_ldc2 dX9_lives_38 clX9_293 ?_
      exact aw_lret dX9_lives_41 rfl ⟨_, rfl, H⟩
    · replace H := H.2 hc12
      refine aw_iload_n dX9_lives_19 rfl 2 rfl ?_
      refine aw_if_lt (tgt := 38) dX9_lives_20 (by decide) (fun hc11 => ?_) (fun hc11 => ?_)
      · replace H := H.1 hc11
        refine aw_ldc2 dX9_lives_38 clX9_293 ?_
        exact aw_lret dX9_lives_41 rfl ⟨_, rfl, H⟩
      · replace H := H.2 hc11
        refine aw_iload_n dX9_lives_23 rfl 2 rfl ?_
        refine aw_bipush (v := 6) dX9_lives_24 (by decide) ?_
        refine aw_icmp_gt (tgt := 38) dX9_lives_26 (by decide) (fun hc10 => ?_) (fun hc10 => ?_)
        · replace H := H.1 hc10
          refine aw_ldc2 dX9_lives_38 clX9_293 ?_
          exact aw_lret dX9_lives_41 rfl ⟨_, rfl, H⟩
        · replace H := H.2 hc10
          refine aw_iload_n dX9_lives_29 rfl 3 rfl ?_
          refine aw_if_lt (tgt := 38) dX9_lives_30 (by decide) (fun hc9 => ?_) (fun hc9 => ?_)
          · replace H := H.1 hc9
            refine aw_ldc2 dX9_lives_38 clX9_293 ?_
            exact aw_lret dX9_lives_41 rfl ⟨_, rfl, H⟩
          · replace H := H.2 hc9
            refine aw_iload_n dX9_lives_33 rfl 3 rfl ?_
            refine aw_iconst (v := 1) dX9_lives_34 (by decide) ?_
            refine aw_icmp_le (tgt := 42) dX9_lives_35 (by decide) (fun hc8 => ?_) (fun hc8 => ?_)
            · replace H := H.1 hc8
              refine aw_aload_n dX9_lives_42 rfl 0 rfl ?_
              refine aw_get dX9_lives_43 shC0 ckX9 flX9_54 (v := .ref (ad 344)) rfl ?_
              refine aw_aload_n dX9_lives_46 rfl 0 rfl ?_
              obtain ⟨y5, ey5⟩ : ∃ z, z = h3.2.2 0 3 := ⟨_, rfl⟩
              obtain ⟨hy5, H⟩ := H y5 ey5
              refine aw_get dX9_lives_47 shC0 ckX9 flX9_25 (v := .ref (ad y5)) (by rw [ey5]; rfl) ?_
              refine aw_aload_n dX9_lives_50 rfl 0 rfl ?_
              refine aw_get dX9_lives_51 shC0 ckX9 flX9_32 (v := .ref (ad 66)) rfl ?_
              refine aw_iconst (v := 0) dX9_lives_54 (by decide) ?_
              refine aw_iconst (v := 0) dX9_lives_55 (by decide) ?_
              refine cvX0_follow dX9_lives_56 mlX9_195 shC344 (Nat.le_of_ble_eq_true rfl) H (fun h6 H => ?_)
              refine aw_lconst (v := 1) dX9_lives_59 (by decide) ?_
              refine aw_lstore (ls' := [(4, .long (1 : Int64)), (0, .ref (ad 0)), (1, .int x1), (2, .int x2), (3, .int x3)]) dX9_lives_60 (by decide) rfl ?_
              refine aw_lconst (v := 1) dX9_lives_62 (by decide) ?_
              refine aw_lstore (ls' := [(6, .long (1 : Int64)), (4, .long (1 : Int64)), (0, .ref (ad 0)), (1, .int x1), (2, .int x2), (3, .int x3)]) dX9_lives_63 (by decide) rfl ?_
              refine aw_iconst (v := 1) dX9_lives_65 (by decide) ?_
              refine aw_istore (ls' := [(8, .int (1 : Int32)), (6, .long (1 : Int64)), (4, .long (1 : Int64)), (0, .ref (ad 0)), (1, .int x1), (2, .int x2), (3, .int x3)]) dX9_lives_66 (by decide) rfl ?_
              exact aw_ls [3, 4, 5, 6, 2, 1, 0] rfl H
            · replace H := H.2 hc8
              refine aw_ldc2 dX9_lives_38 clX9_293 ?_
              exact aw_lret dX9_lives_41 rfl ⟨_, rfl, H⟩
set_option maxRecDepth 8000 in
set_option maxHeartbeats 1000000 in
theorem bX9_lives_68 {l : Launch} {ad : Nat → Nat} {d : Nat} {R : Int64 → aH → Prop}   (x1 : Int32) (x2 : Int32) (x3 : Int32) (x4 : Int64) (x6 : Int64) (x8 : Int32)  (h : aH)
    (H : (x2 < x8 → (AW GC l ad d mX9_commonDivisor 0 [(0, .long x4), (2, .long x6)] [] h (ql fun z2 h1 => ((1 : Int64) ≤ z2 → ((¬ x3 = 0 → (¬ z2 = 0 ∧ (R (x6 / z2) h1))) ∧ (x3 = 0 → (¬ z2 = 0 ∧ (R (x4 / z2) h1))))) ∧ (¬ (1 : Int64) ≤ z2 → (R (-1 : Int64) h1))))) ∧ (¬ x2 < x8 → (vp_in x1 6 ∧ (AW GC l ad d mX0_oddsOf 0 [(0, .ref (ad 344)), (1, .int x1), (2, .int (if ((h.1 68 x1.toNatClampNeg) + x8) < (99 : Int32) then ((h.1 68 x1.toNatClampNeg) + x8) else (99 : Int32)))] [] h (qi fun z9 h8 => AW GC l ad (d + 1) mX9_lives 68 [(0, .ref (ad 0)), (1, .int x1), (2, .int x2), (3, .int x3), (4, .long (x4 * ((100 : Int32) - z9).toInt64)), (6, .long (x6 * (100 : Int64))), (8, .int (x8 + (1 : Int32)))] [] h8 (ql R)))))) : AW GC l ad (d + 1) mX9_lives 68 [(0, .ref (ad 0)), (1, .int x1), (2, .int x2), (3, .int x3), (4, .long x4), (6, .long x6), (8, .int x8)] [] h (ql R) := by
  refine aw_iload dX9_lives_68 6 rfl ?_
  refine aw_iload_n dX9_lives_70 rfl 2 rfl ?_
  refine aw_icmp_gt (tgt := 122) dX9_lives_71 (by decide) (fun hc10 => ?_) (fun hc10 => ?_)
  · replace H := H.1 hc10
    refine aw_lload dX9_lives_122 4 rfl ?_
    refine aw_lload dX9_lives_124 5 rfl ?_
    refine cvX9_commonDivisor dX9_lives_126 mlX9_305 (Nat.le_of_ble_eq_true rfl) H (fun z2 h1 H => ?_)
    refine aw_lstore (ls' := [(8, .long z2), (0, .ref (ad 0)), (1, .int x1), (2, .int x2), (3, .int x3), (4, .long x4), (6, .long x6)]) dX9_lives_129 (by decide) rfl ?_
    refine aw_lload dX9_lives_131 0 rfl ?_
    refine aw_lconst (v := 1) dX9_lives_133 (by decide) ?_
    refine aw_lif_ge (tgt := 142) dX9_lives_134 dX9_lives_135 (by decide) (fun hc6 => ?_) (fun hc6 => ?_)
    · replace H := H.1 hc6
      refine aw_iload_n dX9_lives_142 rfl 4 rfl ?_
      refine aw_if_ne (tgt := 154) dX9_lives_143 (by decide) (fun hc5 => ?_) (fun hc5 => ?_)
      · replace H := H.1 hc5
        refine aw_lload dX9_lives_154 6 rfl ?_
        refine aw_lload dX9_lives_156 0 rfl ?_
        obtain ⟨hn3, H⟩ := H
        refine aw_ldiv dX9_lives_158 hn3 ?_
        exact aw_lret dX9_lives_159 rfl ⟨_, rfl, H⟩
      · replace H := H.2 hc5
        refine aw_lload dX9_lives_146 5 rfl ?_
        refine aw_lload dX9_lives_148 0 rfl ?_
        obtain ⟨hn4, H⟩ := H
        refine aw_ldiv dX9_lives_150 hn4 ?_
        refine aw_goto (tgt := 159) dX9_lives_151 (by decide) ?_
        exact aw_lret dX9_lives_159 rfl ⟨_, rfl, H⟩
    · replace H := H.2 hc6
      refine aw_ldc2 dX9_lives_138 clX9_293 ?_
      exact aw_lret dX9_lives_141 rfl ⟨_, rfl, H⟩
  · replace H := H.2 hc10
    refine aw_lload dX9_lives_74 4 rfl ?_
    refine aw_bipush (v := 100) dX9_lives_76 (by decide) ?_
    refine aw_aload_n dX9_lives_78 rfl 0 rfl ?_
    refine aw_get dX9_lives_79 shC0 ckX9 flX9_54 (v := .ref (ad 344)) rfl ?_
    refine aw_iload_n dX9_lives_82 rfl 1 rfl ?_
    refine aw_bipush (v := 99) dX9_lives_83 (by decide) ?_
    refine aw_aload_n dX9_lives_85 rfl 0 rfl ?_
    refine aw_get dX9_lives_86 shC0 ckX9 flX9_32 (v := .ref (ad 66)) rfl ?_
    refine aw_get dX9_lives_89 isW_66.1 ckX8 flX9_180 (v := .ref (ad 68)) rfl ?_
    refine aw_iload_n dX9_lives_92 rfl 1 rfl ?_
    obtain ⟨hi7, H⟩ := H
    refine aw_ialdK (t0 := 0) (j := x1.toNatClampNeg) dX9_lives_93 (isW_66.2 1 (by decide)) rfl rfl hi7 ?_
    refine aw_iload dX9_lives_94 6 rfl ?_
    refine aw_iadd dX9_lives_96 ?_
    refine aw_mmin dX9_lives_97 mlX9_295 (Nat.le_of_ble_eq_true rfl) ?_
    refine cvX0_oddsOf dX9_lives_100 mlX9_300 shC344 (Nat.le_of_ble_eq_true rfl) H (fun z9 h8 H => ?_)
    refine aw_isub dX9_lives_103 ?_
    refine aw_i2l dX9_lives_104 ?_
    refine aw_lmul dX9_lives_105 ?_
    refine aw_lstore (ls' := [(4, .long (x4 * ((100 : Int32) - z9).toInt64)), (0, .ref (ad 0)), (1, .int x1), (2, .int x2), (3, .int x3), (6, .long x6), (8, .int x8)]) dX9_lives_106 (by decide) rfl ?_
    refine aw_lload dX9_lives_108 5 rfl ?_
    refine aw_ldc2 dX9_lives_110 clX9_303 ?_
    refine aw_lmul dX9_lives_113 ?_
    refine aw_lstore (ls' := [(6, .long (x6 * (100 : Int64))), (4, .long (x4 * ((100 : Int32) - z9).toInt64)), (0, .ref (ad 0)), (1, .int x1), (2, .int x2), (3, .int x3), (8, .int x8)]) dX9_lives_114 (by decide) rfl ?_
    refine aw_inc (mm := (1)) (ls' := [(8, .int (x8 + (1 : Int32))), (6, .long (x6 * (100 : Int64))), (4, .long (x4 * ((100 : Int32) - z9).toInt64)), (0, .ref (ad 0)), (1, .int x1), (2, .int x2), (3, .int x3)]) dX9_lives_116 (by decide) (j := 6) rfl (by decide) rfl ?_
    refine aw_goto (tgt := 68) dX9_lives_119 (by decide) ?_
    exact aw_ls [3, 4, 5, 6, 2, 1, 0] rfl H
set_option maxRecDepth 8000 in
set_option maxHeartbeats 1000000 in
theorem bX9_commonDivisor_0 {l : Launch} {ad : Nat → Nat} {d : Nat} {R : Int64 → aH → Prop}   (x0 : Int64) (x2 : Int64)  (h : aH)
    (H : AW GC l ad d mX9_commonDivisor 9 [(4, .long x0), (6, .long x2), (8, .int (0 : Int32))] [] h (ql R)) : AW GC l ad d mX9_commonDivisor 0 [(0, .long x0), (2, .long x2)] [] h (ql R) := by
  refine aw_lload_n dX9_commonDivisor_0 rfl 0 rfl ?_
  refine aw_lstore (ls' := [(4, .long x0), (0, .long x0), (2, .long x2)]) dX9_commonDivisor_1 (by decide) rfl ?_
  refine aw_lload_n dX9_commonDivisor_3 rfl 2 rfl ?_
  refine aw_lstore (ls' := [(6, .long x2), (4, .long x0), (0, .long x0), (2, .long x2)]) dX9_commonDivisor_4 (by decide) rfl ?_
  refine aw_iconst (v := 0) dX9_commonDivisor_6 (by decide) ?_
  refine aw_istore (ls' := [(8, .int (0 : Int32)), (6, .long x2), (4, .long x0), (0, .long x0), (2, .long x2)]) dX9_commonDivisor_7 (by decide) rfl ?_
  exact aw_ls [2, 1, 0] rfl H
set_option maxRecDepth 8000 in
set_option maxHeartbeats 1000000 in
theorem bX9_commonDivisor_9 {l : Launch} {ad : Nat → Nat} {d : Nat} {R : Int64 → aH → Prop}   (x4 : Int64) (x6 : Int64) (x8 : Int32)  (h : aH)
    (H : ((100 : Int32) ≤ x8 → (R x4 h)) ∧ (¬ (100 : Int32) ≤ x8 → ((x6 = (0 : Int64) → (R x4 h)) ∧ (¬ x6 = (0 : Int64) → (¬ x6 = 0 ∧ (AW GC l ad d mX9_commonDivisor 9 [(4, .long x6), (6, .long (x4 - x4 / x6 * x6)), (8, .int (x8 + (1 : Int32)))] [] h (ql R))))))) : AW GC l ad d mX9_commonDivisor 9 [(4, .long x4), (6, .long x6), (8, .int x8)] [] h (ql R) := by
  refine aw_iload dX9_commonDivisor_9 2 rfl ?_
  refine aw_bipush (v := 100) dX9_commonDivisor_11 (by decide) ?_
  refine aw_icmp_ge (tgt := 44) dX9_commonDivisor_13 (by decide) (fun hc3 => ?_) (fun hc3 => ?_)
  · replace H := H.1 hc3
    refine aw_lload dX9_commonDivisor_44 0 rfl ?_
    exact aw_lret dX9_commonDivisor_46 rfl ⟨_, rfl, H⟩
  · replace H := H.2 hc3
    refine aw_lload dX9_commonDivisor_16 1 rfl ?_
    refine aw_lconst (v := 0) dX9_commonDivisor_18 (by decide) ?_
    refine aw_lif_eq (tgt := 44) dX9_commonDivisor_19 dX9_commonDivisor_20 (by decide) (fun hc2 => ?_) (fun hc2 => ?_)
    · replace H := H.1 hc2
      refine aw_lload dX9_commonDivisor_44 0 rfl ?_
      exact aw_lret dX9_commonDivisor_46 rfl ⟨_, rfl, H⟩
    · replace H := H.2 hc2
      refine aw_lload dX9_commonDivisor_23 0 rfl ?_
      refine aw_lload dX9_commonDivisor_25 1 rfl ?_
      obtain ⟨hn1, H⟩ := H
      refine aw_lrem dX9_commonDivisor_27 hn1 ?_
      refine aw_lstore (ls' := [(9, .long (x4 - x4 / x6 * x6)), (4, .long x4), (6, .long x6), (8, .int x8)]) dX9_commonDivisor_28 (by decide) rfl ?_
      refine aw_lload dX9_commonDivisor_30 2 rfl ?_
      refine aw_lstore (ls' := [(4, .long x6), (9, .long (x4 - x4 / x6 * x6)), (6, .long x6), (8, .int x8)]) dX9_commonDivisor_32 (by decide) rfl ?_
      refine aw_lload dX9_commonDivisor_34 1 rfl ?_
      refine aw_lstore (ls' := [(6, .long (x4 - x4 / x6 * x6)), (4, .long x6), (9, .long (x4 - x4 / x6 * x6)), (8, .int x8)]) dX9_commonDivisor_36 (by decide) rfl ?_
      refine aw_inc (mm := (1)) (ls' := [(8, .int (x8 + (1 : Int32))), (6, .long (x4 - x4 / x6 * x6)), (4, .long x6), (9, .long (x4 - x4 / x6 * x6))]) dX9_commonDivisor_38 (by decide) (j := 3) rfl (by decide) rfl ?_
      refine aw_goto (tgt := 9) dX9_commonDivisor_41 (by decide) ?_
      exact aw_ls [2, 1, 0] rfl H
set_option maxRecDepth 8000 in
set_option maxHeartbeats 1000000 in
theorem bX9_before_0 {l : Launch} {ad : Nat → Nat} {d : Nat} {R : Int32 → aH → Prop}   (x1 : Int32)  (h : aH)
    (H : (x1 < 0 → (R (-1 : Int32) h)) ∧ (¬ x1 < 0 → ((x1 ≤ (1 : Int32) → (AW GC l ad d mX9_findLastings 0 [(0, .ref (ad 0))] [] h (qv fun h1 => AW GC l ad (d + 1) mX9_before 22 [(0, .ref (ad 0)), (1, .int x1), (2, .int (-1 : Int32)), (3, .int (0 : Int32)), (4, .int (0 : Int32))] [] h1 (qi R)))) ∧ (¬ x1 ≤ (1 : Int32) → (R (-1 : Int32) h))))) : AW GC l ad (d + 1) mX9_before 0 [(0, .ref (ad 0)), (1, .int x1)] [] h (qi R) := by
  refine aw_iload_n dX9_before_0 rfl 1 rfl ?_
  refine aw_if_lt (tgt := 9) dX9_before_1 (by decide) (fun hc4 => ?_) (fun hc4 => ?_)
  · replace H := H.1 hc4
    refine aw_iconst (v := (-1)) dX9_before_9 (by decide) ?_
    exact aw_iret dX9_before_10 rfl ⟨_, rfl, H⟩
  · replace H := H.2 hc4
    refine aw_iload_n dX9_before_4 rfl 1 rfl ?_
    refine aw_iconst (v := 1) dX9_before_5 (by decide) ?_
    refine aw_icmp_le (tgt := 11) dX9_before_6 (by decide) (fun hc3 => ?_) (fun hc3 => ?_)
    · replace H := H.1 hc3
      refine aw_iconst (v := (-1)) dX9_before_11 (by decide) ?_
      refine aw_istore_n (ls' := [(2, .int (-1 : Int32)), (0, .ref (ad 0)), (1, .int x1)]) dX9_before_12 rfl (by decide) rfl ?_
      refine aw_iconst (v := 0) dX9_before_13 (by decide) ?_
      refine aw_istore_n (ls' := [(3, .int (0 : Int32)), (2, .int (-1 : Int32)), (0, .ref (ad 0)), (1, .int x1)]) dX9_before_14 rfl (by decide) rfl ?_
      refine aw_aload_n dX9_before_15 rfl 2 rfl ?_
      refine cvX9_findLastings dX9_before_16 mlX9_309 shC0 (Nat.le_of_ble_eq_true rfl) H (fun h1 H => ?_)
      refine aw_iconst (v := 0) dX9_before_19 (by decide) ?_
      refine aw_istore (ls' := [(4, .int (0 : Int32)), (3, .int (0 : Int32)), (2, .int (-1 : Int32)), (0, .ref (ad 0)), (1, .int x1)]) dX9_before_20 (by decide) rfl ?_
      exact aw_ls [3, 4, 2, 1, 0] rfl H
    · replace H := H.2 hc3
      refine aw_iconst (v := (-1)) dX9_before_9 (by decide) ?_
      exact aw_iret dX9_before_10 rfl ⟨_, rfl, H⟩
set_option maxRecDepth 8000 in
set_option maxHeartbeats 1000000 in
theorem bX9_before_22 {l : Launch} {ad : Nat → Nat} {d : Nat} {R : Int32 → aH → Prop}   (x1 : Int32) (x2 : Int32) (x3 : Int32) (x4 : Int32)  (h : aH)
    (H : ∀ y1 : Nat, y1 = h.2.2 0 3 → isS GC y1 ∧ (((h.1 y1 12) ≤ x4 → ((¬ x2 = (-1 : Int32) → ((¬ x1 = 0 → (R x3 h)) ∧ (x1 = 0 → (R x2 h)))) ∧ (x2 = (-1 : Int32) → (R (-2 : Int32) h)))) ∧ (¬ (h.1 y1 12) ≤ x4 → (vp_in x4 6 ∧ ((x2 = (-1 : Int32) → (AW GC l ad (d + 1) mX9_before 79 [(0, .ref (ad 0)), (1, .int x1), (2, .int x2), (3, .int x3), (4, .int x4), (5, .int (h.1 372 x4.toNatClampNeg))] [] h (qi R))) ∧ (¬ x2 = (-1 : Int32) → ((¬ (h.1 372 x4.toNatClampNeg) = x3 → (AW GC l ad (d + 1) mX9_before 83 [(0, .ref (ad 0)), (1, .int x1), (2, .int x2), (3, .int x3), (4, .int x4), (5, .int (h.1 372 x4.toNatClampNeg))] [] h (qi R))) ∧ ((h.1 372 x4.toNatClampNeg) = x3 → (vp_in x2 6 ∧ (((h.1 (y1 + 3) x2.toNatClampNeg) ≤ (h.1 (y1 + 3) x4.toNatClampNeg) → (AW GC l ad (d + 1) mX9_before 83 [(0, .ref (ad 0)), (1, .int x1), (2, .int x2), (3, .int x3), (4, .int x4), (5, .int (h.1 372 x4.toNatClampNeg))] [] h (qi R))) ∧ (¬ (h.1 (y1 + 3) x2.toNatClampNeg) ≤ (h.1 (y1 + 3) x4.toNatClampNeg) → (AW GC l ad (d + 1) mX9_before 79 [(0, .ref (ad 0)), (1, .int x1), (2, .int x2), (3, .int x3), (4, .int x4), (5, .int (h.1 372 x4.toNatClampNeg))] [] h (qi R))))))))))))) : AW GC l ad (d + 1) mX9_before 22 [(0, .ref (ad 0)), (1, .int x1), (2, .int x2), (3, .int x3), (4, .int x4)] [] h (qi R) := by
  refine aw_iload dX9_before_22 4 rfl ?_
  refine aw_aload_n dX9_before_24 rfl 0 rfl ?_
  obtain ⟨y1, ey1⟩ : ∃ z, z = h.2.2 0 3 := ⟨_, rfl⟩
  obtain ⟨hy1, H⟩ := H y1 ey1
  refine aw_get dX9_before_25 shC0 ckX9 flX9_25 (v := .ref (ad y1)) (by rw [ey1]; rfl) ?_
  refine aw_get dX9_before_28 hy1.1 ckX6 flX9_127 (v := .int (h.1 y1 12)) rfl ?_
  refine aw_icmp_ge (tgt := 121) dX9_before_31 (by decide) (fun hc9 => ?_) (fun hc9 => ?_)
  · replace H := H.1 hc9
    refine aw_iload_n dX9_before_121 rfl 2 rfl ?_
    refine aw_iconst (v := (-1)) dX9_before_122 (by decide) ?_
    refine aw_icmp_ne (tgt := 129) dX9_before_123 (by decide) (fun hc3 => ?_) (fun hc3 => ?_)
    · replace H := H.1 hc3
      refine aw_iload_n dX9_before_129 rfl 1 rfl ?_
      refine aw_if_ne (tgt := 137) dX9_before_130 (by decide) (fun hc2 => ?_) (fun hc2 => ?_)
      · replace H := H.1 hc2
        refine aw_iload_n dX9_before_137 rfl 3 rfl ?_
        exact aw_iret dX9_before_138 rfl ⟨_, rfl, H⟩
      · replace H := H.2 hc2
        refine aw_iload_n dX9_before_133 rfl 2 rfl ?_
        refine aw_goto (tgt := 138) dX9_before_134 (by decide) ?_
        exact aw_iret dX9_before_138 rfl ⟨_, rfl, H⟩
    · replace H := H.2 hc3
      refine aw_bipush (v := (-2)) dX9_before_126 (by decide) ?_
      exact aw_iret dX9_before_128 rfl ⟨_, rfl, H⟩
  · replace H := H.2 hc9
    refine aw_aload_n dX9_before_34 rfl 0 rfl ?_
    refine aw_get dX9_before_35 shC0 ckX9 flX9_68 (v := .ref (ad 352)) rfl ?_
    refine aw_get dX9_before_38 shC352 ckX4 flX9_312 (v := .ref (ad 372)) rfl ?_
    refine aw_iload dX9_before_41 4 rfl ?_
    obtain ⟨hi4, H⟩ := H
    refine aw_ialdK (t0 := 0) (j := x4.toNatClampNeg) dX9_before_43 shC372 rfl rfl hi4 ?_
    refine aw_istore (ls' := [(5, .int (h.1 372 x4.toNatClampNeg)), (0, .ref (ad 0)), (1, .int x1), (2, .int x2), (3, .int x3), (4, .int x4)]) dX9_before_44 (by decide) rfl ?_
    refine aw_iload_n dX9_before_46 rfl 3 rfl ?_
    refine aw_iconst (v := (-1)) dX9_before_47 (by decide) ?_
    refine aw_icmp_eq (tgt := 79) dX9_before_48 (by decide) (fun hc8 => ?_) (fun hc8 => ?_)
    · replace H := H.1 hc8
      exact aw_ls [1, 2, 3, 4, 5, 0] rfl H
    · replace H := H.2 hc8
      refine aw_iload dX9_before_51 0 rfl ?_
      refine aw_iload_n dX9_before_53 rfl 4 rfl ?_
      refine aw_icmp_ne (tgt := 83) dX9_before_54 (by decide) (fun hc7 => ?_) (fun hc7 => ?_)
      · replace H := H.1 hc7
        exact aw_ls [1, 2, 3, 4, 5, 0] rfl H
      · replace H := H.2 hc7
        refine aw_aload_n dX9_before_57 rfl 1 rfl ?_
        refine aw_get dX9_before_58 shC0 ckX9 flX9_25 (v := .ref (ad y1)) (by rw [ey1]; rfl) ?_
        refine aw_get dX9_before_61 hy1.1 ckX6 flX9_183 (v := .ref (ad (y1 + 3))) rfl ?_
        refine aw_iload dX9_before_64 5 rfl ?_
        refine aw_ialdK (t0 := 0) (j := x4.toNatClampNeg) dX9_before_66 (hy1.2.1 2 (by decide)) rfl rfl hi4 ?_
        refine aw_aload_n dX9_before_67 rfl 1 rfl ?_
        refine aw_get dX9_before_68 shC0 ckX9 flX9_25 (v := .ref (ad y1)) (by rw [ey1]; rfl) ?_
        refine aw_get dX9_before_71 hy1.1 ckX6 flX9_183 (v := .ref (ad (y1 + 3))) rfl ?_
        refine aw_iload_n dX9_before_74 rfl 3 rfl ?_
        obtain ⟨hi5, H⟩ := H
        refine aw_ialdK (t0 := 0) (j := x2.toNatClampNeg) dX9_before_75 (hy1.2.1 2 (by decide)) rfl rfl hi5 ?_
        refine aw_icmp_ge (tgt := 83) dX9_before_76 (by decide) (fun hc6 => ?_) (fun hc6 => ?_)
        · replace H := H.1 hc6
          exact aw_ls [1, 2, 3, 4, 5, 0] rfl H
        · replace H := H.2 hc6
          exact aw_ls [1, 2, 3, 4, 5, 0] rfl H
set_option maxRecDepth 8000 in
set_option maxHeartbeats 1000000 in
theorem bX9_before_79 {l : Launch} {ad : Nat → Nat} {d : Nat} {R : Int32 → aH → Prop}   (x1 : Int32) (x2 : Int32) (x3 : Int32) (x4 : Int32) (x5 : Int32)  (h : aH)
    (H : AW GC l ad (d + 1) mX9_before 84 [(0, .ref (ad 0)), (1, .int x1), (2, .int x2), (3, .int x3), (4, .int x4), (5, .int x5)] [.int (1 : Int32)] h (qi R)) : AW GC l ad (d + 1) mX9_before 79 [(0, .ref (ad 0)), (1, .int x1), (2, .int x2), (3, .int x3), (4, .int x4), (5, .int x5)] [] h (qi R) := by
  refine aw_iconst (v := 1) dX9_before_79 (by decide) ?_
  refine aw_goto (tgt := 84) dX9_before_80 (by decide) ?_
  exact aw_ls [0, 1, 2, 3, 4, 5] rfl H
set_option maxRecDepth 8000 in
set_option maxHeartbeats 1000000 in
theorem bX9_before_83 {l : Launch} {ad : Nat → Nat} {d : Nat} {R : Int32 → aH → Prop}   (x1 : Int32) (x2 : Int32) (x3 : Int32) (x4 : Int32) (x5 : Int32)  (h : aH)
    (H : AW GC l ad (d + 1) mX9_before 84 [(0, .ref (ad 0)), (1, .int x1), (2, .int x2), (3, .int x3), (4, .int x4), (5, .int x5)] [.int (0 : Int32)] h (qi R)) : AW GC l ad (d + 1) mX9_before 83 [(0, .ref (ad 0)), (1, .int x1), (2, .int x2), (3, .int x3), (4, .int x4), (5, .int x5)] [] h (qi R) := by
  refine aw_iconst (v := 0) dX9_before_83 (by decide) ?_
  exact aw_ls [0, 1, 2, 3, 4, 5] rfl H
set_option maxRecDepth 8000 in
set_option maxHeartbeats 1000000 in
theorem bX9_before_84 {l : Launch} {ad : Nat → Nat} {d : Nat} {R : Int32 → aH → Prop}   (x1 : Int32) (x2 : Int32) (x3 : Int32) (x4 : Int32) (x5 : Int32) (s0 : Int32)  (h : aH)
    (H : AW GC l ad d mX8_isAlive 0 [(0, .ref (ad 66)), (1, .int x4)] [] h (qi fun z2 h1 => (z2 = 0 → (AW GC l ad (d + 1) mX9_before 22 [(0, .ref (ad 0)), (1, .int x1), (2, .int x2), (3, .int x3), (4, .int (x4 + (1 : Int32)))] [] h1 (qi R))) ∧ (¬ z2 = 0 → ((¬ s0 = 0 → (AW GC l ad (d + 1) mX9_before 22 [(0, .ref (ad 0)), (1, .int x1), (2, .int x4), (3, .int x5), (4, .int (x4 + (1 : Int32)))] [] h1 (qi R))) ∧ (s0 = 0 → ((x5 ≤ x3 → (AW GC l ad (d + 1) mX9_before 22 [(0, .ref (ad 0)), (1, .int x1), (2, .int x2), (3, .int x3), (4, .int (x4 + (1 : Int32)))] [] h1 (qi R))) ∧ (¬ x5 ≤ x3 → (AW GC l ad (d + 1) mX9_before 22 [(0, .ref (ad 0)), (1, .int x1), (2, .int x4), (3, .int x5), (4, .int (x4 + (1 : Int32)))] [] h1 (qi R))))))))) : AW GC l ad (d + 1) mX9_before 84 [(0, .ref (ad 0)), (1, .int x1), (2, .int x2), (3, .int x3), (4, .int x4), (5, .int x5)] [.int s0] h (qi R) := by
  refine aw_istore (ls' := [(6, .int s0), (0, .ref (ad 0)), (1, .int x1), (2, .int x2), (3, .int x3), (4, .int x4), (5, .int x5)]) dX9_before_84 (by decide) rfl ?_
  refine aw_aload_n dX9_before_86 rfl 1 rfl ?_
  refine aw_get dX9_before_87 shC0 ckX9 flX9_32 (v := .ref (ad 66)) rfl ?_
  refine aw_iload dX9_before_90 5 rfl ?_
  refine cvX8_isAlive dX9_before_92 mlX9_186 isW_66.1 (Nat.le_of_ble_eq_true rfl) H (fun z2 h1 H => ?_)
  refine aw_if_eq (tgt := 115) dX9_before_95 (by decide) (fun hc5 => ?_) (fun hc5 => ?_)
  · replace H := H.1 hc5
    refine aw_inc (mm := (1)) (ls' := [(4, .int (x4 + (1 : Int32))), (6, .int s0), (0, .ref (ad 0)), (1, .int x1), (2, .int x2), (3, .int x3), (5, .int x5)]) dX9_before_115 (by decide) (j := 5) rfl (by decide) rfl ?_
    refine aw_goto (tgt := 22) dX9_before_118 (by decide) ?_
    exact aw_ls [2, 3, 4, 5, 0] rfl H
  · replace H := H.2 hc5
    refine aw_iload dX9_before_98 0 rfl ?_
    refine aw_if_ne (tgt := 109) dX9_before_100 (by decide) (fun hc4 => ?_) (fun hc4 => ?_)
    · replace H := H.1 hc4
      refine aw_iload dX9_before_109 5 rfl ?_
      refine aw_istore_n (ls' := [(2, .int x4), (6, .int s0), (0, .ref (ad 0)), (1, .int x1), (3, .int x3), (4, .int x4), (5, .int x5)]) dX9_before_111 rfl (by decide) rfl ?_
      refine aw_iload dX9_before_112 6 rfl ?_
      refine aw_istore_n (ls' := [(3, .int x5), (2, .int x4), (6, .int s0), (0, .ref (ad 0)), (1, .int x1), (4, .int x4), (5, .int x5)]) dX9_before_114 rfl (by decide) rfl ?_
      refine aw_inc (mm := (1)) (ls' := [(4, .int (x4 + (1 : Int32))), (3, .int x5), (2, .int x4), (6, .int s0), (0, .ref (ad 0)), (1, .int x1), (5, .int x5)]) dX9_before_115 (by decide) (j := 5) rfl (by decide) rfl ?_
      refine aw_goto (tgt := 22) dX9_before_118 (by decide) ?_
      exact aw_ls [4, 5, 2, 1, 0] rfl H
    · replace H := H.2 hc4
      refine aw_iload dX9_before_103 6 rfl ?_
      refine aw_iload_n dX9_before_105 rfl 4 rfl ?_
      refine aw_icmp_le (tgt := 115) dX9_before_106 (by decide) (fun hc3 => ?_) (fun hc3 => ?_)
      · replace H := H.1 hc3
        refine aw_inc (mm := (1)) (ls' := [(4, .int (x4 + (1 : Int32))), (6, .int s0), (0, .ref (ad 0)), (1, .int x1), (2, .int x2), (3, .int x3), (5, .int x5)]) dX9_before_115 (by decide) (j := 5) rfl (by decide) rfl ?_
        refine aw_goto (tgt := 22) dX9_before_118 (by decide) ?_
        exact aw_ls [2, 3, 4, 5, 0] rfl H
      · replace H := H.2 hc3
        refine aw_iload dX9_before_109 5 rfl ?_
        refine aw_istore_n (ls' := [(2, .int x4), (6, .int s0), (0, .ref (ad 0)), (1, .int x1), (3, .int x3), (4, .int x4), (5, .int x5)]) dX9_before_111 rfl (by decide) rfl ?_
        refine aw_iload dX9_before_112 6 rfl ?_
        refine aw_istore_n (ls' := [(3, .int x5), (2, .int x4), (6, .int s0), (0, .ref (ad 0)), (1, .int x1), (4, .int x4), (5, .int x5)]) dX9_before_114 rfl (by decide) rfl ?_
        refine aw_inc (mm := (1)) (ls' := [(4, .int (x4 + (1 : Int32))), (3, .int x5), (2, .int x4), (6, .int s0), (0, .ref (ad 0)), (1, .int x1), (5, .int x5)]) dX9_before_115 (by decide) (j := 5) rfl (by decide) rfl ?_
        refine aw_goto (tgt := 22) dX9_before_118 (by decide) ?_
        exact aw_ls [4, 5, 2, 1, 0] rfl H
set_option maxRecDepth 8000 in
set_option maxHeartbeats 1000000 in
theorem bX9_findLastings_0 {l : Launch} {ad : Nat → Nat} {d : Nat} {R : aH → Prop}     (h : aH)
    (H : AW GC l ad d mX9_startTrial 0 [(0, .ref (ad 0)), (1, .int (0 : Int32)), (2, .int (0 : Int32))] [] h (qv fun h1 => AW GC l ad (d + 1) mX9_findLastings 8 [(0, .ref (ad 0)), (1, .int (0 : Int32))] [] h1 (qv R))) : AW GC l ad (d + 1) mX9_findLastings 0 [(0, .ref (ad 0))] [] h (qv R) := by
  refine aw_aload_n dX9_findLastings_0 rfl 0 rfl ?_
  refine aw_iconst (v := 0) dX9_findLastings_1 (by decide) ?_
  refine aw_iconst (v := 0) dX9_findLastings_2 (by decide) ?_
  refine cvX9_startTrial dX9_findLastings_3 mlX9_247 shC0 (Nat.le_of_ble_eq_true rfl) H (fun h1 H => ?_)
  refine aw_iconst (v := 0) dX9_findLastings_6 (by decide) ?_
  refine aw_istore_n (ls' := [(1, .int (0 : Int32)), (0, .ref (ad 0))]) dX9_findLastings_7 rfl (by decide) rfl ?_
  exact aw_ls [1, 0] rfl H
set_option maxRecDepth 8000 in
set_option maxHeartbeats 1000000 in
theorem bX9_findLastings_8 {l : Launch} {ad : Nat → Nat} {d : Nat} {R : aH → Prop}   (x1 : Int32)  (h : aH)
    (H : ∀ y1 : Nat, y1 = h.2.2 0 3 → isS GC y1 ∧ (((h.1 y1 12) ≤ x1 → (AW GC l ad (d + 1) mX9_findLastings 60 [(0, .ref (ad 0)), (1, .int (1 : Int32))] [] h (qv R))) ∧ (¬ (h.1 y1 12) ≤ x1 → (vp_in ((8 : Int32) + x1) 14 ∧ (vp_in x1 6 ∧ (∀ h4 : aH, h4 = (sI (sI h 89 ((8 : Int32) + x1).toNatClampNeg (((1 : Int32) <<< (x1 &&& 31)) &&& (h.1 66 12))) 372 x1.toNatClampNeg (0 : Int32)) → (AW GC l ad (d + 1) mX9_findLastings 8 [(0, .ref (ad 0)), (1, .int (x1 + (1 : Int32)))] [] h4 (qv R)))))))) : AW GC l ad (d + 1) mX9_findLastings 8 [(0, .ref (ad 0)), (1, .int x1)] [] h (qv R) := by
  refine aw_iload_n dX9_findLastings_8 rfl 1 rfl ?_
  refine aw_aload_n dX9_findLastings_9 rfl 0 rfl ?_
  obtain ⟨y1, ey1⟩ : ∃ z, z = h.2.2 0 3 := ⟨_, rfl⟩
  obtain ⟨hy1, H⟩ := H y1 ey1
  refine aw_get dX9_findLastings_10 shC0 ckX9 flX9_25 (v := .ref (ad y1)) (by rw [ey1]; rfl) ?_
  refine aw_get dX9_findLastings_13 hy1.1 ckX6 flX9_127 (v := .int (h.1 y1 12)) rfl ?_
  refine aw_icmp_ge (tgt := 58) dX9_findLastings_16 (by decide) (fun hc5 => ?_) (fun hc5 => ?_)
  · replace H := H.1 hc5
    refine aw_iconst (v := 1) dX9_findLastings_58 (by decide) ?_
    refine aw_istore_n (ls' := [(1, .int (1 : Int32)), (0, .ref (ad 0))]) dX9_findLastings_59 rfl (by decide) rfl ?_
    exact aw_ls [1, 0] rfl H
  · replace H := H.2 hc5
    refine aw_aload_n dX9_findLastings_19 rfl 0 rfl ?_
    refine aw_get dX9_findLastings_20 shC0 ckX9 flX9_36 (v := .ref (ad 78)) rfl ?_
    refine aw_get dX9_findLastings_23 isW_78.1 ckX8 flX9_158 (v := .ref (ad 89)) rfl ?_
    refine aw_bipush (v := 8) dX9_findLastings_26 (by decide) ?_
    refine aw_iload_n dX9_findLastings_28 rfl 1 rfl ?_
    refine aw_iadd dX9_findLastings_29 ?_
    refine aw_iconst (v := 1) dX9_findLastings_30 (by decide) ?_
    refine aw_iload_n dX9_findLastings_31 rfl 1 rfl ?_
    refine aw_ishl dX9_findLastings_32 ?_
    refine aw_aload_n dX9_findLastings_33 rfl 0 rfl ?_
    refine aw_get dX9_findLastings_34 shC0 ckX9 flX9_32 (v := .ref (ad 66)) rfl ?_
    refine aw_get dX9_findLastings_37 isW_66.1 ckX8 flX9_250 (v := .int (h.1 66 12)) rfl ?_
    refine aw_iand dX9_findLastings_40 ?_
    obtain ⟨hi2, H⟩ := H
    refine aw_iastK (t0 := 0) (j := ((8 : Int32) + x1).toNatClampNeg) dX9_findLastings_41 (isW_78.2 10 (by decide)) rfl rfl hi2 ?_
    refine aw_aload_n dX9_findLastings_42 rfl 0 rfl ?_
    refine aw_get dX9_findLastings_43 shC0 ckX9 flX9_68 (v := .ref (ad 352)) rfl ?_
    refine aw_get dX9_findLastings_46 shC352 ckX4 flX9_312 (v := .ref (ad 372)) rfl ?_
    refine aw_iload_n dX9_findLastings_49 rfl 1 rfl ?_
    refine aw_iconst (v := 0) dX9_findLastings_50 (by decide) ?_
    obtain ⟨hi3, H⟩ := H
    refine aw_iastK (t0 := 0) (j := x1.toNatClampNeg) dX9_findLastings_51 shC372 rfl rfl hi3 ?_
    refine aw_toph (fun h4 eh4 => ?_)
    replace H := H h4 eh4
    refine aw_inc (mm := (1)) (ls' := [(1, .int (x1 + (1 : Int32))), (0, .ref (ad 0))]) dX9_findLastings_52 (by decide) (j := 1) rfl (by decide) rfl ?_
    refine aw_goto (tgt := 8) dX9_findLastings_55 (by decide) ?_
    exact aw_ls [1, 0] rfl H
set_option maxRecDepth 8000 in
set_option maxHeartbeats 1000000 in
theorem bX9_findLastings_60 {l : Launch} {ad : Nat → Nat} {d : Nat} {R : aH → Prop}   (x1 : Int32)  (h : aH)
    (H : ((99 : Int32) < x1 → (R h)) ∧ (¬ (99 : Int32) < x1 → (AW GC l ad (d + 1) mX9_findLastings 68 [(0, .ref (ad 0)), (1, .int x1), (2, .int (0 : Int32))] [] h (qv R)))) : AW GC l ad (d + 1) mX9_findLastings 60 [(0, .ref (ad 0)), (1, .int x1)] [] h (qv R) := by
  refine aw_iload_n dX9_findLastings_60 rfl 1 rfl ?_
  refine aw_bipush (v := 99) dX9_findLastings_61 (by decide) ?_
  refine aw_icmp_gt (tgt := 123) dX9_findLastings_63 (by decide) (fun hc1 => ?_) (fun hc1 => ?_)
  · replace H := H.1 hc1
    exact aw_vret dX9_findLastings_123 rfl ⟨rfl, H⟩
  · replace H := H.2 hc1
    refine aw_iconst (v := 0) dX9_findLastings_66 (by decide) ?_
    refine aw_istore_n (ls' := [(2, .int (0 : Int32)), (0, .ref (ad 0)), (1, .int x1)]) dX9_findLastings_67 rfl (by decide) rfl ?_
    exact aw_ls [1, 2, 0] rfl H
set_option maxRecDepth 8000 in
set_option maxHeartbeats 1000000 in
theorem bX9_findLastings_68 {l : Launch} {ad : Nat → Nat} {d : Nat} {R : aH → Prop}   (x1 : Int32) (x2 : Int32)  (h : aH)
    (H : ∀ y1 : Nat, y1 = h.2.2 0 3 → isS GC y1 ∧ (((h.1 y1 12) ≤ x2 → (AW GC l ad d mX0_oneDay 0 [(0, .ref (ad 344))] [] h (qv fun h2 => AW GC l ad (d + 1) mX9_findLastings 60 [(0, .ref (ad 0)), (1, .int (x1 + (1 : Int32)))] [] h2 (qv R)))) ∧ (¬ (h.1 y1 12) ≤ x2 → (vp_in ((8 : Int32) + x2) 14 ∧ (((h.1 89 ((8 : Int32) + x2).toNatClampNeg) = 0 → (AW GC l ad (d + 1) mX9_findLastings 68 [(0, .ref (ad 0)), (1, .int x1), (2, .int (x2 + (1 : Int32)))] [] h (qv R))) ∧ (¬ (h.1 89 ((8 : Int32) + x2).toNatClampNeg) = 0 → (vp_in x2 6 ∧ (AW GC l ad (d + 1) mX9_findLastings 68 [(0, .ref (ad 0)), (1, .int x1), (2, .int (x2 + (1 : Int32)))] [] (sI h 372 x2.toNatClampNeg x1) (qv R))))))))) : AW GC l ad (d + 1) mX9_findLastings 68 [(0, .ref (ad 0)), (1, .int x1), (2, .int x2)] [] h (qv R) := by
  refine aw_iload_n dX9_findLastings_68 rfl 2 rfl ?_
  refine aw_aload_n dX9_findLastings_69 rfl 0 rfl ?_
  obtain ⟨y1, ey1⟩ : ∃ z, z = h.2.2 0 3 := ⟨_, rfl⟩
  obtain ⟨hy1, H⟩ := H y1 ey1
  refine aw_get dX9_findLastings_70 shC0 ckX9 flX9_25 (v := .ref (ad y1)) (by rw [ey1]; rfl) ?_
  refine aw_get dX9_findLastings_73 hy1.1 ckX6 flX9_127 (v := .int (h.1 y1 12)) rfl ?_
  refine aw_icmp_ge (tgt := 110) dX9_findLastings_76 (by decide) (fun hc7 => ?_) (fun hc7 => ?_)
  · replace H := H.1 hc7
    refine aw_aload_n dX9_findLastings_110 rfl 0 rfl ?_
    refine aw_get dX9_findLastings_111 shC0 ckX9 flX9_54 (v := .ref (ad 344)) rfl ?_
    refine cvX0_oneDay dX9_findLastings_114 mlX9_259 shC344 (Nat.le_of_ble_eq_true rfl) H (fun h2 H => ?_)
    refine aw_inc (mm := (1)) (ls' := [(1, .int (x1 + (1 : Int32))), (0, .ref (ad 0)), (2, .int x2)]) dX9_findLastings_117 (by decide) (j := 1) rfl (by decide) rfl ?_
    refine aw_goto (tgt := 60) dX9_findLastings_120 (by decide) ?_
    exact aw_ls [1, 0] rfl H
  · replace H := H.2 hc7
    refine aw_aload_n dX9_findLastings_79 rfl 0 rfl ?_
    refine aw_get dX9_findLastings_80 shC0 ckX9 flX9_36 (v := .ref (ad 78)) rfl ?_
    refine aw_get dX9_findLastings_83 isW_78.1 ckX8 flX9_158 (v := .ref (ad 89)) rfl ?_
    refine aw_bipush (v := 8) dX9_findLastings_86 (by decide) ?_
    refine aw_iload_n dX9_findLastings_88 rfl 2 rfl ?_
    refine aw_iadd dX9_findLastings_89 ?_
    obtain ⟨hi4, H⟩ := H
    refine aw_ialdK (t0 := 0) (j := ((8 : Int32) + x2).toNatClampNeg) dX9_findLastings_90 (isW_78.2 10 (by decide)) rfl rfl hi4 ?_
    refine aw_if_eq (tgt := 104) dX9_findLastings_91 (by decide) (fun hc6 => ?_) (fun hc6 => ?_)
    · replace H := H.1 hc6
      refine aw_inc (mm := (1)) (ls' := [(2, .int (x2 + (1 : Int32))), (0, .ref (ad 0)), (1, .int x1)]) dX9_findLastings_104 (by decide) (j := 2) rfl (by decide) rfl ?_
      refine aw_goto (tgt := 68) dX9_findLastings_107 (by decide) ?_
      exact aw_ls [1, 2, 0] rfl H
    · replace H := H.2 hc6
      refine aw_aload_n dX9_findLastings_94 rfl 0 rfl ?_
      refine aw_get dX9_findLastings_95 shC0 ckX9 flX9_68 (v := .ref (ad 352)) rfl ?_
      refine aw_get dX9_findLastings_98 shC352 ckX4 flX9_312 (v := .ref (ad 372)) rfl ?_
      refine aw_iload_n dX9_findLastings_101 rfl 2 rfl ?_
      refine aw_iload_n dX9_findLastings_102 rfl 1 rfl ?_
      obtain ⟨hi5, H⟩ := H
      refine aw_iastK (t0 := 0) (j := x2.toNatClampNeg) dX9_findLastings_103 shC372 rfl rfl hi5 ?_
      refine aw_inc (mm := (1)) (ls' := [(2, .int (x2 + (1 : Int32))), (0, .ref (ad 0)), (1, .int x1)]) dX9_findLastings_104 (by decide) (j := 2) rfl (by decide) rfl ?_
      refine aw_goto (tgt := 68) dX9_findLastings_107 (by decide) ?_
      exact aw_ls [1, 2, 0] rfl H
set_option maxRecDepth 8000 in
set_option maxHeartbeats 1000000 in
theorem bX9_ring_0 {l : Launch} {ad : Nat → Nat} {d : Nat} {R : Int32 → aH → Prop}     (h : aH)
    (H : ∀ y1 : Nat, y1 = h.2.2 0 3 → isS GC y1 ∧ (AW GC l ad d mX4_ringOf 0 [(0, .ref (ad 352)), (1, .ref (ad 66)), (2, .int (h.1 y1 11))] [] h (qi fun z3 h2 => R z3 h2))) : AW GC l ad (d + 1) mX9_ring 0 [(0, .ref (ad 0))] [] h (qi R) := by
  refine aw_aload_n dX9_ring_0 rfl 0 rfl ?_
  refine aw_get dX9_ring_1 shC0 ckX9 flX9_68 (v := .ref (ad 352)) rfl ?_
  refine aw_aload_n dX9_ring_4 rfl 0 rfl ?_
  refine aw_get dX9_ring_5 shC0 ckX9 flX9_32 (v := .ref (ad 66)) rfl ?_
  refine aw_aload_n dX9_ring_8 rfl 0 rfl ?_
  obtain ⟨y1, ey1⟩ : ∃ z, z = h.2.2 0 3 := ⟨_, rfl⟩
  obtain ⟨hy1, H⟩ := H y1 ey1
  refine aw_get dX9_ring_9 shC0 ckX9 flX9_25 (v := .ref (ad y1)) (by rw [ey1]; rfl) ?_
  refine aw_get dX9_ring_12 hy1.1 ckX6 flX9_117 (v := .int (h.1 y1 11)) rfl ?_
  refine cvX4_ringOf dX9_ring_15 mlX9_315 shC352 (Nat.le_of_ble_eq_true rfl) H (fun z3 h2 H => ?_)
  exact aw_iret dX9_ring_18 rfl ⟨_, rfl, H⟩
set_option maxRecDepth 8000 in
set_option maxHeartbeats 1000000 in
theorem bX9_oldest_0 {l : Launch} {ad : Nat → Nat} {d : Nat} {R : Int32 → aH → Prop}   (x1 : Int32)  (h : aH)
    (H : AW GC l ad d mX9_isDebt 0 [(0, .ref (ad 0)), (1, .int x1)] [] h (qi fun z2 h1 => (¬ z2 = 0 → (AW GC l ad d mX8_oldestOf 0 [(0, .ref (ad 66)), (1, .int x1)] [] h1 (qi fun z4 h3 => (¬ z4 = (-1 : Int32) → (R z4 h3)) ∧ (z4 = (-1 : Int32) → (R (-2 : Int32) h3))))) ∧ (z2 = 0 → (R (-1 : Int32) h1)))) : AW GC l ad (d + 1) mX9_oldest 0 [(0, .ref (ad 0)), (1, .int x1)] [] h (qi R) := by
  refine aw_aload_n dX9_oldest_0 rfl 0 rfl ?_
  refine aw_iload_n dX9_oldest_1 rfl 1 rfl ?_
  refine cvX9_isDebt dX9_oldest_2 mlX9_130 shC0 (Nat.le_of_ble_eq_true rfl) H (fun z2 h1 H => ?_)
  refine aw_if_ne (tgt := 10) dX9_oldest_5 (by decide) (fun hc6 => ?_) (fun hc6 => ?_)
  · replace H := H.1 hc6
    refine aw_aload_n dX9_oldest_10 rfl 0 rfl ?_
    refine aw_get dX9_oldest_11 shC0 ckX9 flX9_32 (v := .ref (ad 66)) rfl ?_
    refine aw_iload_n dX9_oldest_14 rfl 1 rfl ?_
    refine cvX8_oldestOf dX9_oldest_15 mlX9_318 isW_66.1 (Nat.le_of_ble_eq_true rfl) H (fun z4 h3 H => ?_)
    refine aw_istore_n (ls' := [(2, .int z4), (0, .ref (ad 0)), (1, .int x1)]) dX9_oldest_18 rfl (by decide) rfl ?_
    refine aw_iload_n dX9_oldest_19 rfl 0 rfl ?_
    refine aw_iconst (v := (-1)) dX9_oldest_20 (by decide) ?_
    refine aw_icmp_ne (tgt := 29) dX9_oldest_21 (by decide) (fun hc5 => ?_) (fun hc5 => ?_)
    · replace H := H.1 hc5
      refine aw_iload_n dX9_oldest_29 rfl 0 rfl ?_
      exact aw_iret dX9_oldest_30 rfl ⟨_, rfl, H⟩
    · replace H := H.2 hc5
      refine aw_bipush (v := (-2)) dX9_oldest_24 (by decide) ?_
      refine aw_goto (tgt := 30) dX9_oldest_26 (by decide) ?_
      exact aw_iret dX9_oldest_30 rfl ⟨_, rfl, H⟩
  · replace H := H.2 hc6
    refine aw_iconst (v := (-1)) dX9_oldest_8 (by decide) ?_
    exact aw_iret dX9_oldest_9 rfl ⟨_, rfl, H⟩
set_option maxRecDepth 8000 in
set_option maxHeartbeats 1000000 in
theorem bX9_see_0 {l : Launch} {ad : Nat → Nat} {d : Nat} {R : Int32 → aH → Prop}   (x1 : Int32) (x2 : Int32) (x3 : Int32)  (h : aH)
    (H : (x1 < (1 : Int32) → (R (-1 : Int32) h)) ∧ (¬ x1 < (1 : Int32) → (((40 : Int32) < x1 → (R (-1 : Int32) h)) ∧ (¬ (40 : Int32) < x1 → ((x2 < 0 → (R (-1 : Int32) h)) ∧ (¬ x2 < 0 → (∀ y1 : Nat, y1 = h.2.2 0 3 → isS GC y1 ∧ ((x2 < (h.1 (y1 + 17) 11) → (AW GC l ad d mX5_add 0 [(0, .ref (ad 346)), (1, .int x1), (2, .int x2), (3, .int x3), (4, .int (-1 : Int32))] [] h (qi fun z3 h2 => R z3 h2))) ∧ (¬ x2 < (h.1 (y1 + 17) 11) → (R (-1 : Int32) h)))))))))) : AW GC l ad (d + 1) mX9_see 0 [(0, .ref (ad 0)), (1, .int x1), (2, .int x2), (3, .int x3)] [] h (qi R) := by
  refine aw_iload_n dX9_see_0 rfl 1 rfl ?_
  refine aw_iconst (v := 1) dX9_see_1 (by decide) ?_
  refine aw_icmp_lt (tgt := 29) dX9_see_2 (by decide) (fun hc7 => ?_) (fun hc7 => ?_)
  · replace H := H.1 hc7
    refine aw_iconst (v := (-1)) dX9_see_29 (by decide) ?_
    exact aw_iret dX9_see_30 rfl ⟨_, rfl, H⟩
  · replace H := H.2 hc7
    refine aw_iload_n dX9_see_5 rfl 1 rfl ?_
    refine aw_bipush (v := 40) dX9_see_6 (by decide) ?_
    refine aw_icmp_gt (tgt := 29) dX9_see_8 (by decide) (fun hc6 => ?_) (fun hc6 => ?_)
    · replace H := H.1 hc6
      refine aw_iconst (v := (-1)) dX9_see_29 (by decide) ?_
      exact aw_iret dX9_see_30 rfl ⟨_, rfl, H⟩
    · replace H := H.2 hc6
      refine aw_iload_n dX9_see_11 rfl 2 rfl ?_
      refine aw_if_lt (tgt := 29) dX9_see_12 (by decide) (fun hc5 => ?_) (fun hc5 => ?_)
      · replace H := H.1 hc5
        refine aw_iconst (v := (-1)) dX9_see_29 (by decide) ?_
        exact aw_iret dX9_see_30 rfl ⟨_, rfl, H⟩
      · replace H := H.2 hc5
        refine aw_iload_n dX9_see_15 rfl 2 rfl ?_
        refine aw_aload_n dX9_see_16 rfl 0 rfl ?_
        obtain ⟨y1, ey1⟩ : ∃ z, z = h.2.2 0 3 := ⟨_, rfl⟩
        obtain ⟨hy1, H⟩ := H y1 ey1
        refine aw_get dX9_see_17 shC0 ckX9 flX9_25 (v := .ref (ad y1)) (by rw [ey1]; rfl) ?_
        refine aw_get dX9_see_20 hy1.1 ckX6 flX9_88 (v := .ref (ad (y1 + 17))) rfl ?_
        refine aw_get dX9_see_23 hy1.2.2.2.2.2.1 ckX8 flX9_212 (v := .int (h.1 (y1 + 17) 11)) rfl ?_
        refine aw_icmp_lt (tgt := 31) dX9_see_26 (by decide) (fun hc4 => ?_) (fun hc4 => ?_)
        · replace H := H.1 hc4
          refine aw_aload_n dX9_see_31 rfl 0 rfl ?_
          refine aw_get dX9_see_32 shC0 ckX9 flX9_61 (v := .ref (ad 346)) rfl ?_
          refine aw_iload_n dX9_see_35 rfl 1 rfl ?_
          refine aw_iload_n dX9_see_36 rfl 2 rfl ?_
          refine aw_iload_n dX9_see_37 rfl 3 rfl ?_
          refine aw_iconst (v := (-1)) dX9_see_38 (by decide) ?_
          refine cvX5_add dX9_see_39 mlX9_321 shC346 (Nat.le_of_ble_eq_true rfl) H (fun z3 h2 H => ?_)
          exact aw_iret dX9_see_42 rfl ⟨_, rfl, H⟩
        · replace H := H.2 hc4
          refine aw_iconst (v := (-1)) dX9_see_29 (by decide) ?_
          exact aw_iret dX9_see_30 rfl ⟨_, rfl, H⟩
set_option maxRecDepth 8000 in
set_option maxHeartbeats 1000000 in
theorem bX9_out_0 {l : Launch} {ad : Nat → Nat} {d : Nat} {R : Int32 → aH → Prop}   (x1 : Int32)  (h : aH)
    (H : (x1 < 0 → (R (-1 : Int32) h)) ∧ (¬ x1 < 0 → ((x1 < (h.1 346 5) → (AW GC l ad d mX5_add 0 [(0, .ref (ad 346)), (1, .int (0 : Int32)), (2, .int (0 : Int32)), (3, .int (0 : Int32)), (4, .int x1)] [] h (qi fun z2 h1 => R z2 h1))) ∧ (¬ x1 < (h.1 346 5) → (R (-1 : Int32) h))))) : AW GC l ad (d + 1) mX9_out 0 [(0, .ref (ad 0)), (1, .int x1)] [] h (qi R) := by
  refine aw_iload_n dX9_out_0 rfl 1 rfl ?_
  refine aw_if_lt (tgt := 15) dX9_out_1 (by decide) (fun hc4 => ?_) (fun hc4 => ?_)
  · replace H := H.1 hc4
    refine aw_iconst (v := (-1)) dX9_out_15 (by decide) ?_
    exact aw_iret dX9_out_16 rfl ⟨_, rfl, H⟩
  · replace H := H.2 hc4
    refine aw_iload_n dX9_out_4 rfl 1 rfl ?_
    refine aw_aload_n dX9_out_5 rfl 0 rfl ?_
    refine aw_get dX9_out_6 shC0 ckX9 flX9_61 (v := .ref (ad 346)) rfl ?_
    refine aw_get dX9_out_9 shC346 ckX5 flX9_325 (v := .int (h.1 346 5)) rfl ?_
    refine aw_icmp_lt (tgt := 17) dX9_out_12 (by decide) (fun hc3 => ?_) (fun hc3 => ?_)
    · replace H := H.1 hc3
      refine aw_aload_n dX9_out_17 rfl 0 rfl ?_
      refine aw_get dX9_out_18 shC0 ckX9 flX9_61 (v := .ref (ad 346)) rfl ?_
      refine aw_iconst (v := 0) dX9_out_21 (by decide) ?_
      refine aw_iconst (v := 0) dX9_out_22 (by decide) ?_
      refine aw_iconst (v := 0) dX9_out_23 (by decide) ?_
      refine aw_iload_n dX9_out_24 rfl 1 rfl ?_
      refine cvX5_add dX9_out_25 mlX9_321 shC346 (Nat.le_of_ble_eq_true rfl) H (fun z2 h1 H => ?_)
      exact aw_iret dX9_out_28 rfl ⟨_, rfl, H⟩
    · replace H := H.2 hc3
      refine aw_iconst (v := (-1)) dX9_out_15 (by decide) ?_
      exact aw_iret dX9_out_16 rfl ⟨_, rfl, H⟩
set_option maxRecDepth 8000 in
set_option maxHeartbeats 1000000 in
theorem bX9_known_0 {l : Launch} {ad : Nat → Nat} {d : Nat} {R : Int32 → aH → Prop}   (x1 : Int32)  (h : aH)
    (H : (x1 < (-1 : Int32) → (R (0 : Int32) h)) ∧ (¬ x1 < (-1 : Int32) → ((x1 ≤ (h.1 346 5) → (R (1 : Int32) (sI h 346 6 x1))) ∧ (¬ x1 ≤ (h.1 346 5) → (R (0 : Int32) h))))) : AW GC l ad d mX9_known 0 [(0, .ref (ad 0)), (1, .int x1)] [] h (qi R) := by
  refine aw_iload_n dX9_known_0 rfl 1 rfl ?_
  refine aw_iconst (v := (-1)) dX9_known_1 (by decide) ?_
  refine aw_icmp_lt (tgt := 16) dX9_known_2 (by decide) (fun hc2 => ?_) (fun hc2 => ?_)
  · replace H := H.1 hc2
    refine aw_iconst (v := 0) dX9_known_16 (by decide) ?_
    exact aw_zret dX9_known_17 rfl (by decide) ⟨_, rfl, H⟩
  · replace H := H.2 hc2
    refine aw_iload_n dX9_known_5 rfl 1 rfl ?_
    refine aw_aload_n dX9_known_6 rfl 0 rfl ?_
    refine aw_get dX9_known_7 shC0 ckX9 flX9_61 (v := .ref (ad 346)) rfl ?_
    refine aw_get dX9_known_10 shC346 ckX5 flX9_325 (v := .int (h.1 346 5)) rfl ?_
    refine aw_icmp_le (tgt := 18) dX9_known_13 (by decide) (fun hc1 => ?_) (fun hc1 => ?_)
    · replace H := H.1 hc1
      refine aw_aload_n dX9_known_18 rfl 0 rfl ?_
      refine aw_get dX9_known_19 shC0 ckX9 flX9_61 (v := .ref (ad 346)) rfl ?_
      refine aw_iload_n dX9_known_22 rfl 1 rfl ?_
      refine aw_putI dX9_known_23 shC346 ckX5 flX9_326 rfl (fun _ => rfl) rfl rfl ?_
      refine aw_iconst (v := 1) dX9_known_26 (by decide) ?_
      exact aw_zret dX9_known_27 rfl (by decide) ⟨_, rfl, H⟩
    · replace H := H.2 hc1
      refine aw_iconst (v := 0) dX9_known_16 (by decide) ?_
      exact aw_zret dX9_known_17 rfl (by decide) ⟨_, rfl, H⟩
set_option maxRecDepth 8000 in
set_option maxHeartbeats 1000000 in
theorem bX9_had_0 {l : Launch} {ad : Nat → Nat} {d : Nat} {R : Int32 → aH → Prop}   (x1 : Int32)  (h : aH)
    (H : AW GC l ad d mX9_isMan 0 [(0, .ref (ad 0)), (1, .int x1)] [] h (qi fun z2 h1 => (¬ z2 = 0 → (AW GC l ad d mX5_strikeOut 0 [(0, .ref (ad 346))] [] h1 (qv fun h3 => AW GC l ad (d + 1) mX9_had 21 [(0, .ref (ad 0)), (1, .int x1), (2, .int (0 : Int32)), (3, .int (0 : Int32))] [] h3 (qi R)))) ∧ (z2 = 0 → (R (-1 : Int32) h1)))) : AW GC l ad (d + 1) mX9_had 0 [(0, .ref (ad 0)), (1, .int x1)] [] h (qi R) := by
  refine aw_aload_n dX9_had_0 rfl 0 rfl ?_
  refine aw_iload_n dX9_had_1 rfl 1 rfl ?_
  refine cvX9_isMan dX9_had_2 mlX9_164 shC0 (Nat.le_of_ble_eq_true rfl) H (fun z2 h1 H => ?_)
  refine aw_if_ne (tgt := 10) dX9_had_5 (by decide) (fun hc5 => ?_) (fun hc5 => ?_)
  · replace H := H.1 hc5
    refine aw_aload_n dX9_had_10 rfl 0 rfl ?_
    refine aw_get dX9_had_11 shC0 ckX9 flX9_61 (v := .ref (ad 346)) rfl ?_
    refine cvX5_strikeOut dX9_had_14 mlX9_329 shC346 (Nat.le_of_ble_eq_true rfl) H (fun h3 H => ?_)
    refine aw_iconst (v := 0) dX9_had_17 (by decide) ?_
    refine aw_istore_n (ls' := [(2, .int (0 : Int32)), (0, .ref (ad 0)), (1, .int x1)]) dX9_had_18 rfl (by decide) rfl ?_
    refine aw_iconst (v := 0) dX9_had_19 (by decide) ?_
    refine aw_istore_n (ls' := [(3, .int (0 : Int32)), (2, .int (0 : Int32)), (0, .ref (ad 0)), (1, .int x1)]) dX9_had_20 rfl (by decide) rfl ?_
    exact aw_ls [2, 3, 1, 0] rfl H
  · replace H := H.2 hc5
    refine aw_iconst (v := (-1)) dX9_had_8 (by decide) ?_
    exact aw_iret dX9_had_9 rfl ⟨_, rfl, H⟩
set_option maxRecDepth 8000 in
set_option maxHeartbeats 1000000 in
theorem bX9_had_21 {l : Launch} {ad : Nat → Nat} {d : Nat} {R : Int32 → aH → Prop}   (x1 : Int32) (x2 : Int32) (x3 : Int32)  (h : aH)
    (H : ((10 : Int32) ≤ x3 → (R x2 h)) ∧ (¬ (10 : Int32) ≤ x3 → (AW GC l ad d mX9_isAsSeen 0 [(0, .ref (ad 0)), (1, .int x1), (2, .int ((10 : Int32) * x3))] [] h (qi fun z2 h1 => (z2 = 0 → (AW GC l ad (d + 1) mX9_had 21 [(0, .ref (ad 0)), (1, .int x1), (2, .int x2), (3, .int (x3 + (1 : Int32)))] [] h1 (qi R))) ∧ (¬ z2 = 0 → (AW GC l ad (d + 1) mX9_had 21 [(0, .ref (ad 0)), (1, .int x1), (2, .int (x2 ||| ((1 : Int32) <<< (x3 &&& 31)))), (3, .int (x3 + (1 : Int32)))] [] h1 (qi R))))))) : AW GC l ad (d + 1) mX9_had 21 [(0, .ref (ad 0)), (1, .int x1), (2, .int x2), (3, .int x3)] [] h (qi R) := by
  refine aw_iload_n dX9_had_21 rfl 3 rfl ?_
  refine aw_bipush (v := 10) dX9_had_22 (by decide) ?_
  refine aw_icmp_ge (tgt := 51) dX9_had_24 (by decide) (fun hc4 => ?_) (fun hc4 => ?_)
  · replace H := H.1 hc4
    refine aw_iload_n dX9_had_51 rfl 2 rfl ?_
    exact aw_iret dX9_had_52 rfl ⟨_, rfl, H⟩
  · replace H := H.2 hc4
    refine aw_aload_n dX9_had_27 rfl 0 rfl ?_
    refine aw_iload_n dX9_had_28 rfl 1 rfl ?_
    refine aw_bipush (v := 10) dX9_had_29 (by decide) ?_
    refine aw_iload_n dX9_had_31 rfl 3 rfl ?_
    refine aw_imul dX9_had_32 ?_
    refine cvX9_isAsSeen dX9_had_33 mlX9_332 shC0 (Nat.le_of_ble_eq_true rfl) H (fun z2 h1 H => ?_)
    refine aw_if_eq (tgt := 45) dX9_had_36 (by decide) (fun hc3 => ?_) (fun hc3 => ?_)
    · replace H := H.1 hc3
      refine aw_inc (mm := (1)) (ls' := [(3, .int (x3 + (1 : Int32))), (0, .ref (ad 0)), (1, .int x1), (2, .int x2)]) dX9_had_45 (by decide) (j := 3) rfl (by decide) rfl ?_
      refine aw_goto (tgt := 21) dX9_had_48 (by decide) ?_
      exact aw_ls [1, 2, 3, 0] rfl H
    · replace H := H.2 hc3
      refine aw_iload_n dX9_had_39 rfl 2 rfl ?_
      refine aw_iconst (v := 1) dX9_had_40 (by decide) ?_
      refine aw_iload_n dX9_had_41 rfl 3 rfl ?_
      refine aw_ishl dX9_had_42 ?_
      refine aw_ior dX9_had_43 ?_
      refine aw_istore_n (ls' := [(2, .int (x2 ||| ((1 : Int32) <<< (x3 &&& 31)))), (0, .ref (ad 0)), (1, .int x1), (3, .int x3)]) dX9_had_44 rfl (by decide) rfl ?_
      refine aw_inc (mm := (1)) (ls' := [(3, .int (x3 + (1 : Int32))), (2, .int (x2 ||| ((1 : Int32) <<< (x3 &&& 31)))), (0, .ref (ad 0)), (1, .int x1)]) dX9_had_45 (by decide) (j := 3) rfl (by decide) rfl ?_
      refine aw_goto (tgt := 21) dX9_had_48 (by decide) ?_
      exact aw_ls [2, 3, 1, 0] rfl H
set_option maxRecDepth 8000 in
set_option maxHeartbeats 1000000 in
theorem bX9_isAsSeen_0 {l : Launch} {ad : Nat → Nat} {d : Nat} {R : Int32 → aH → Prop}   (x1 : Int32) (x2 : Int32)  (h : aH)
    (H : ∀ y1 : Nat, y1 = h.2.2 0 3 → isS GC y1 ∧ (AW GC l ad d mX8_copyFrom 0 [(0, .ref (ad 78)), (1, .ref (ad (y1 + 17)))] [] h (qv fun h2 => AW GC l ad d mX8_purseOf 0 [(0, .ref (ad 78)), (1, .int x1)] [] h2 (qi fun z5 h4 => AW GC l ad d mX8_earn 0 [(0, .ref (ad 78)), (1, .int x1), (2, .int (x2 - z5))] [] h4 (qv fun h6 => ∀ y8 : Nat, y8 = h6.2.2 0 3 → isS GC y8 ∧ (AW GC l ad d mX0_follow 0 [(0, .ref (ad 344)), (1, .ref (ad y8)), (2, .ref (ad 78)), (3, .int (0 : Int32)), (4, .int (0 : Int32))] [] h6 (qv fun h9 => AW GC l ad (d + 1) mX9_isAsSeen 51 [(0, .ref (ad 0)), (3, .int (1 : Int32))] [] h9 (qi R)))))))) : AW GC l ad (d + 1) mX9_isAsSeen 0 [(0, .ref (ad 0)), (1, .int x1), (2, .int x2)] [] h (qi R) := by
  refine aw_aload_n dX9_isAsSeen_0 rfl 0 rfl ?_
  refine aw_get dX9_isAsSeen_1 shC0 ckX9 flX9_36 (v := .ref (ad 78)) rfl ?_
  refine aw_aload_n dX9_isAsSeen_4 rfl 0 rfl ?_
  obtain ⟨y1, ey1⟩ : ∃ z, z = h.2.2 0 3 := ⟨_, rfl⟩
  obtain ⟨hy1, H⟩ := H y1 ey1
  refine aw_get dX9_isAsSeen_5 shC0 ckX9 flX9_25 (v := .ref (ad y1)) (by rw [ey1]; rfl) ?_
  refine aw_get dX9_isAsSeen_8 hy1.1 ckX6 flX9_88 (v := .ref (ad (y1 + 17))) rfl ?_
  refine cvX8_copyFrom dX9_isAsSeen_11 mlX9_91 isW_78.1 (Nat.le_of_ble_eq_true rfl) H (fun h2 H => ?_)
  refine aw_aload_n dX9_isAsSeen_14 rfl 0 rfl ?_
  refine aw_get dX9_isAsSeen_15 shC0 ckX9 flX9_36 (v := .ref (ad 78)) rfl ?_
  refine aw_iload_n dX9_isAsSeen_18 rfl 1 rfl ?_
  refine aw_iload_n dX9_isAsSeen_19 rfl 2 rfl ?_
  refine aw_aload_n dX9_isAsSeen_20 rfl 0 rfl ?_
  refine aw_get dX9_isAsSeen_21 shC0 ckX9 flX9_36 (v := .ref (ad 78)) rfl ?_
  refine aw_iload_n dX9_isAsSeen_24 rfl 1 rfl ?_
  refine cvX8_purseOf dX9_isAsSeen_25 mlX9_170 isW_78.1 (Nat.le_of_ble_eq_true rfl) H (fun z5 h4 H => ?_)
  refine aw_isub dX9_isAsSeen_28 ?_
  refine cvX8_earn dX9_isAsSeen_29 mlX9_240 isW_78.1 (Nat.le_of_ble_eq_true rfl) H (fun h6 H => ?_)
  refine aw_aload_n dX9_isAsSeen_32 rfl 0 rfl ?_
  refine aw_get dX9_isAsSeen_33 shC0 ckX9 flX9_54 (v := .ref (ad 344)) rfl ?_
  refine aw_aload_n dX9_isAsSeen_36 rfl 0 rfl ?_
  obtain ⟨y8, ey8⟩ : ∃ z, z = h6.2.2 0 3 := ⟨_, rfl⟩
  obtain ⟨hy8, H⟩ := H y8 ey8
  refine aw_get dX9_isAsSeen_37 shC0 ckX9 flX9_25 (v := .ref (ad y8)) (by rw [ey8]; rfl) ?_
  refine aw_aload_n dX9_isAsSeen_40 rfl 0 rfl ?_
  refine aw_get dX9_isAsSeen_41 shC0 ckX9 flX9_36 (v := .ref (ad 78)) rfl ?_
  refine aw_iconst (v := 0) dX9_isAsSeen_44 (by decide) ?_
  refine aw_iconst (v := 0) dX9_isAsSeen_45 (by decide) ?_
  refine cvX0_follow dX9_isAsSeen_46 mlX9_195 shC344 (Nat.le_of_ble_eq_true rfl) H (fun h9 H => ?_)
  refine aw_iconst (v := 1) dX9_isAsSeen_49 (by decide) ?_
  refine aw_istore_n (ls' := [(3, .int (1 : Int32)), (0, .ref (ad 0)), (1, .int x1), (2, .int x2)]) dX9_isAsSeen_50 rfl (by decide) rfl ?_
  exact aw_ls [1, 0] rfl H
set_option maxRecDepth 8000 in
set_option maxHeartbeats 1000000 in
theorem bX9_isAsSeen_51 {l : Launch} {ad : Nat → Nat} {d : Nat} {R : Int32 → aH → Prop}   (x3 : Int32)  (h : aH)
    (H : ((40 : Int32) < x3 → (R (1 : Int32) h)) ∧ (¬ (40 : Int32) < x3 → (AW GC l ad d mX0_oneDay 0 [(0, .ref (ad 344))] [] h (qv fun h1 => AW GC l ad d mX5_agrees 0 [(0, .ref (ad 346)), (1, .int x3), (2, .ref (ad 78))] [] h1 (qi fun z4 h3 => (¬ z4 = 0 → (AW GC l ad (d + 1) mX9_isAsSeen 51 [(0, .ref (ad 0)), (3, .int (x3 + (1 : Int32)))] [] h3 (qi R))) ∧ (z4 = 0 → (R (0 : Int32) h3))))))) : AW GC l ad (d + 1) mX9_isAsSeen 51 [(0, .ref (ad 0)), (3, .int x3)] [] h (qi R) := by
  refine aw_iload_n dX9_isAsSeen_51 rfl 1 rfl ?_
  refine aw_bipush (v := 40) dX9_isAsSeen_52 (by decide) ?_
  refine aw_icmp_gt (tgt := 87) dX9_isAsSeen_54 (by decide) (fun hc6 => ?_) (fun hc6 => ?_)
  · replace H := H.1 hc6
    refine aw_iconst (v := 1) dX9_isAsSeen_87 (by decide) ?_
    exact aw_zret dX9_isAsSeen_88 rfl (by decide) ⟨_, rfl, H⟩
  · replace H := H.2 hc6
    refine aw_aload_n dX9_isAsSeen_57 rfl 0 rfl ?_
    refine aw_get dX9_isAsSeen_58 shC0 ckX9 flX9_54 (v := .ref (ad 344)) rfl ?_
    refine cvX0_oneDay dX9_isAsSeen_61 mlX9_259 shC344 (Nat.le_of_ble_eq_true rfl) H (fun h1 H => ?_)
    refine aw_aload_n dX9_isAsSeen_64 rfl 0 rfl ?_
    refine aw_get dX9_isAsSeen_65 shC0 ckX9 flX9_61 (v := .ref (ad 346)) rfl ?_
    refine aw_iload_n dX9_isAsSeen_68 rfl 1 rfl ?_
    refine aw_aload_n dX9_isAsSeen_69 rfl 0 rfl ?_
    refine aw_get dX9_isAsSeen_70 shC0 ckX9 flX9_36 (v := .ref (ad 78)) rfl ?_
    refine cvX5_agrees dX9_isAsSeen_73 mlX9_335 shC346 (Nat.le_of_ble_eq_true rfl) H (fun z4 h3 H => ?_)
    refine aw_if_ne (tgt := 81) dX9_isAsSeen_76 (by decide) (fun hc5 => ?_) (fun hc5 => ?_)
    · replace H := H.1 hc5
      refine aw_inc (mm := (1)) (ls' := [(3, .int (x3 + (1 : Int32))), (0, .ref (ad 0))]) dX9_isAsSeen_81 (by decide) (j := 1) rfl (by decide) rfl ?_
      refine aw_goto (tgt := 51) dX9_isAsSeen_84 (by decide) ?_
      exact aw_ls [1, 0] rfl H
    · replace H := H.2 hc5
      refine aw_iconst (v := 0) dX9_isAsSeen_79 (by decide) ?_
      exact aw_zret dX9_isAsSeen_80 rfl (by decide) ⟨_, rfl, H⟩
set_option maxRecDepth 8000 in
set_option maxHeartbeats 1000000 in
theorem bX9_chance_0 {l : Launch} {ad : Nat → Nat} {d : Nat} {R : Int32 → aH → Prop}   (x1 : Int32) (x2 : Int32) (x3 : Int32)  (h : aH)
    (H : (x1 < 0 → (R (-1 : Int32) h)) ∧ (¬ x1 < 0 → ((x2 < (1 : Int32) → (R (-1 : Int32) h)) ∧ (¬ x2 < (1 : Int32) → (((99 : Int32) < x2 → (R (-1 : Int32) h)) ∧ (¬ (99 : Int32) < x2 → (AW GC l ad d mX9_isTusk 0 [(0, .ref (ad 0)), (1, .int x3)] [] h (qi fun z2 h1 => (¬ z2 = 0 → (AW GC l ad (d + 1) mX9_chance 34 [(0, .ref (ad 0)), (2, .int x2), (3, .int x3), (4, .int x1), (5, .int (0 : Int32)), (6, .int (0 : Int32))] [] h1 (qi R))) ∧ (z2 = 0 → (R (-1 : Int32) h1)))))))))) : AW GC l ad (d + 1) mX9_chance 0 [(0, .ref (ad 0)), (1, .int x1), (2, .int x2), (3, .int x3)] [] h (qi R) := by
  refine aw_iload_n dX9_chance_0 rfl 1 rfl ?_
  refine aw_if_lt (tgt := 23) dX9_chance_1 (by decide) (fun hc6 => ?_) (fun hc6 => ?_)
  · replace H := H.1 hc6
    refine aw_iconst (v := (-1)) dX9_chance_23 (by decide) ?_
    exact aw_iret dX9_chance_24 rfl ⟨_, rfl, H⟩
  · replace H := H.2 hc6
    refine aw_iload_n dX9_chance_4 rfl 2 rfl ?_
    refine aw_iconst (v := 1) dX9_chance_5 (by decide) ?_
    refine aw_icmp_lt (tgt := 23) dX9_chance_6 (by decide) (fun hc5 => ?_) (fun hc5 => ?_)
    · replace H := H.1 hc5
      refine aw_iconst (v := (-1)) dX9_chance_23 (by decide) ?_
      exact aw_iret dX9_chance_24 rfl ⟨_, rfl, H⟩
    · replace H := H.2 hc5
      refine aw_iload_n dX9_chance_9 rfl 2 rfl ?_
      refine aw_bipush (v := 99) dX9_chance_10 (by decide) ?_
      refine aw_icmp_gt (tgt := 23) dX9_chance_12 (by decide) (fun hc4 => ?_) (fun hc4 => ?_)
      · replace H := H.1 hc4
        refine aw_iconst (v := (-1)) dX9_chance_23 (by decide) ?_
        exact aw_iret dX9_chance_24 rfl ⟨_, rfl, H⟩
      · replace H := H.2 hc4
        refine aw_aload_n dX9_chance_15 rfl 0 rfl ?_
        refine aw_iload_n dX9_chance_16 rfl 3 rfl ?_
        refine cvX9_isTusk dX9_chance_17 mlX9_177 shC0 (Nat.le_of_ble_eq_true rfl) H (fun z2 h1 H => ?_)
        refine aw_if_ne (tgt := 25) dX9_chance_20 (by decide) (fun hc3 => ?_) (fun hc3 => ?_)
        · replace H := H.1 hc3
          refine aw_iload_n dX9_chance_25 rfl 1 rfl ?_
          refine aw_istore (ls' := [(4, .int x1), (0, .ref (ad 0)), (1, .int x1), (2, .int x2), (3, .int x3)]) dX9_chance_26 (by decide) rfl ?_
          refine aw_iconst (v := 0) dX9_chance_28 (by decide) ?_
          refine aw_istore (ls' := [(5, .int (0 : Int32)), (4, .int x1), (0, .ref (ad 0)), (1, .int x1), (2, .int x2), (3, .int x3)]) dX9_chance_29 (by decide) rfl ?_
          refine aw_iconst (v := 0) dX9_chance_31 (by decide) ?_
          refine aw_istore (ls' := [(6, .int (0 : Int32)), (5, .int (0 : Int32)), (4, .int x1), (0, .ref (ad 0)), (1, .int x1), (2, .int x2), (3, .int x3)]) dX9_chance_32 (by decide) rfl ?_
          exact aw_ls [3, 5, 6, 2, 1, 0] rfl H
        · replace H := H.2 hc3
          refine aw_iconst (v := (-1)) dX9_chance_23 (by decide) ?_
          exact aw_iret dX9_chance_24 rfl ⟨_, rfl, H⟩
set_option maxRecDepth 8000 in
set_option maxHeartbeats 1000000 in
theorem bX9_chance_34 {l : Launch} {ad : Nat → Nat} {d : Nat} {R : Int32 → aH → Prop}   (x2 : Int32) (x3 : Int32) (x4 : Int32) (x5 : Int32) (x6 : Int32)  (h : aH)
    (H : ((10 : Int32) ≤ x6 → (R x5 h)) ∧ (¬ (10 : Int32) ≤ x6 → (AW GC l ad d mX9_startTrial 0 [(0, .ref (ad 0)), (1, .int (-1 : Int32)), (2, .int (0 : Int32))] [] h (qv fun h1 => AW GC l ad d mX0_run 0 [(0, .ref (ad 344)), (1, .int x2)] [] (sI h1 78 14 x4) (qv fun h3 => AW GC l ad d mX8_isAlive 0 [(0, .ref (ad 78)), (1, .int x3)] [] h3 (qi fun z6 h5 => ∀ t7 : Int32, t7 = (if z6 = 0 then (0 : Int32) else (1 : Int32)) → (AW GC l ad (d + 1) mX9_chance 34 [(0, .ref (ad 0)), (2, .int x2), (3, .int x3), (4, .int (h3.1 78 14)), (5, .int (x5 + t7)), (6, .int (x6 + (1 : Int32)))] [] h5 (qi R)))))))) : AW GC l ad (d + 1) mX9_chance 34 [(0, .ref (ad 0)), (2, .int x2), (3, .int x3), (4, .int x4), (5, .int x5), (6, .int x6)] [] h (qi R) := by
  refine aw_iload dX9_chance_34 5 rfl ?_
  refine aw_bipush (v := 10) dX9_chance_36 (by decide) ?_
  refine aw_icmp_ge (tgt := 100) dX9_chance_38 (by decide) (fun hc10 => ?_) (fun hc10 => ?_)
  · replace H := H.1 hc10
    refine aw_iload dX9_chance_100 4 rfl ?_
    exact aw_iret dX9_chance_102 rfl ⟨_, rfl, H⟩
  · replace H := H.2 hc10
    refine aw_aload_n dX9_chance_41 rfl 0 rfl ?_
    refine aw_iconst (v := (-1)) dX9_chance_42 (by decide) ?_
    refine aw_iconst (v := 0) dX9_chance_43 (by decide) ?_
    refine cvX9_startTrial dX9_chance_44 mlX9_247 shC0 (Nat.le_of_ble_eq_true rfl) H (fun h1 H => ?_)
    refine aw_aload_n dX9_chance_47 rfl 0 rfl ?_
    refine aw_get dX9_chance_48 shC0 ckX9 flX9_36 (v := .ref (ad 78)) rfl ?_
    refine aw_iload dX9_chance_51 3 rfl ?_
    refine aw_putI dX9_chance_53 isW_78.1 ckX8 flX9_339 rfl (fun _ => rfl) rfl rfl ?_
    refine aw_aload_n dX9_chance_56 rfl 0 rfl ?_
    refine aw_get dX9_chance_57 shC0 ckX9 flX9_54 (v := .ref (ad 344)) rfl ?_
    refine aw_iload_n dX9_chance_60 rfl 1 rfl ?_
    refine cvX0_run dX9_chance_61 mlX9_244 shC344 (Nat.le_of_ble_eq_true rfl) H (fun h3 H => ?_)
    refine aw_aload_n dX9_chance_64 rfl 0 rfl ?_
    refine aw_get dX9_chance_65 shC0 ckX9 flX9_36 (v := .ref (ad 78)) rfl ?_
    refine aw_get dX9_chance_68 isW_78.1 ckX8 flX9_339 (v := .int (h3.1 78 14)) rfl ?_
    refine aw_istore (ls' := [(4, .int (h3.1 78 14)), (0, .ref (ad 0)), (2, .int x2), (3, .int x3), (5, .int x5), (6, .int x6)]) dX9_chance_71 (by decide) rfl ?_
    refine aw_iload dX9_chance_73 4 rfl ?_
    refine aw_aload_n dX9_chance_75 rfl 1 rfl ?_
    refine aw_get dX9_chance_76 shC0 ckX9 flX9_36 (v := .ref (ad 78)) rfl ?_
    refine aw_iload_n dX9_chance_79 rfl 3 rfl ?_
    refine cvX8_isAlive dX9_chance_80 mlX9_186 isW_78.1 (Nat.le_of_ble_eq_true rfl) H (fun z6 h5 H => ?_)
    have H : True ∧ ∀ t7 : Int32, t7 = (if z6 = 0 then (0 : Int32) else (1 : Int32)) → (AW GC l ad (d + 1) mX9_chance 34 [(0, .ref (ad 0)), (2, .int x2), (3, .int x3), (4, .int (h3.1 78 14)), (5, .int (x5 + t7)), (6, .int (x6 + (1 : Int32)))] [] h5 (qi R)) := ⟨trivial, H⟩
    have K8 : ∀ t7 : Int32, (AW GC l ad (d + 1) mX9_chance 34 [(0, .ref (ad 0)), (2, .int x2), (3, .int x3), (4, .int (h3.1 78 14)), (5, .int (x5 + t7)), (6, .int (x6 + (1 : Int32)))] [] h5 (qi R)) → AW GC l ad (d + 1) mX9_chance 91 [(4, .int (h3.1 78 14)), (0, .ref (ad 0)), (2, .int x2), (3, .int x3), (5, .int x5), (6, .int x6)] [.int t7, .int x5] h5 (qi R) := by
      intro t7 H
      refine aw_iadd dX9_chance_91 ?_
      refine aw_istore (ls' := [(5, .int (x5 + t7)), (4, .int (h3.1 78 14)), (0, .ref (ad 0)), (2, .int x2), (3, .int x3), (6, .int x6)]) dX9_chance_92 (by decide) rfl ?_
      refine aw_inc (mm := (1)) (ls' := [(6, .int (x6 + (1 : Int32))), (5, .int (x5 + t7)), (4, .int (h3.1 78 14)), (0, .ref (ad 0)), (2, .int x2), (3, .int x3)]) dX9_chance_94 (by decide) (j := 5) rfl (by decide) rfl ?_
      refine aw_goto (tgt := 34) dX9_chance_97 (by decide) ?_
      exact aw_ls [3, 4, 5, 2, 1, 0] rfl H
    refine aw_if_eq (tgt := 90) dX9_chance_83 (by decide) (fun hc9 => ?_) (fun hc9 => ?_)
    · refine aw_iconst (v := (0)) dX9_chance_90 (by decide) ?_
      exact K8 _ (H.2 _ (by simp only [if_pos hc9]))
    · refine aw_iconst (v := (1)) dX9_chance_86 (by decide) ?_
      refine aw_goto (tgt := 91) dX9_chance_87 (by decide) ?_
      exact K8 _ (H.2 _ (by simp only [if_neg hc9]))
set_option maxRecDepth 8000 in
set_option maxHeartbeats 1000000 in
theorem bX9_tried_0 {l : Launch} {ad : Nat → Nat} {d : Nat} {R : Int32 → aH → Prop}   (x1 : Int32) (x2 : Int32) (x3 : Int32)  (h : aH)
    (H : (x1 < 0 → (R (-1 : Int32) h)) ∧ (¬ x1 < 0 → (((5 : Int32) < x1 → (R (-1 : Int32) h)) ∧ (¬ (5 : Int32) < x1 → ((x3 < 0 → (R (-1 : Int32) h)) ∧ (¬ x3 < 0 → ((x3 ≤ (99 : Int32) → ((¬ x1 = (2 : Int32) → ((x2 = 0 → (AW GC l ad (d + 1) mX9_tried 43 [(0, .ref (ad 0)), (1, .int x1), (2, .int x2), (3, .int x3)] [] h (qi R))) ∧ (¬ x2 = 0 → (R (-1 : Int32) h)))) ∧ (x1 = (2 : Int32) → (AW GC l ad d mX9_isTusk 0 [(0, .ref (ad 0)), (1, .int x2)] [] h (qi fun z3 h2 => (¬ z3 = 0 → (AW GC l ad (d + 1) mX9_tried 43 [(0, .ref (ad 0)), (1, .int x1), (2, .int x2), (3, .int x3)] [] h2 (qi R))) ∧ (z3 = 0 → (R (-1 : Int32) h2))))))) ∧ (¬ x3 ≤ (99 : Int32) → (R (-1 : Int32) h))))))))) : AW GC l ad (d + 1) mX9_tried 0 [(0, .ref (ad 0)), (1, .int x1), (2, .int x2), (3, .int x3)] [] h (qi R) := by
  refine aw_iload_n dX9_tried_0 rfl 1 rfl ?_
  refine aw_if_lt (tgt := 19) dX9_tried_1 (by decide) (fun hc9 => ?_) (fun hc9 => ?_)
  · replace H := H.1 hc9
    refine aw_iconst (v := (-1)) dX9_tried_19 (by decide) ?_
    exact aw_iret dX9_tried_20 rfl ⟨_, rfl, H⟩
  · replace H := H.2 hc9
    refine aw_iload_n dX9_tried_4 rfl 1 rfl ?_
    refine aw_iconst (v := 5) dX9_tried_5 (by decide) ?_
    refine aw_icmp_gt (tgt := 19) dX9_tried_6 (by decide) (fun hc8 => ?_) (fun hc8 => ?_)
    · replace H := H.1 hc8
      refine aw_iconst (v := (-1)) dX9_tried_19 (by decide) ?_
      exact aw_iret dX9_tried_20 rfl ⟨_, rfl, H⟩
    · replace H := H.2 hc8
      refine aw_iload_n dX9_tried_9 rfl 3 rfl ?_
      refine aw_if_lt (tgt := 19) dX9_tried_10 (by decide) (fun hc7 => ?_) (fun hc7 => ?_)
      · replace H := H.1 hc7
        refine aw_iconst (v := (-1)) dX9_tried_19 (by decide) ?_
        exact aw_iret dX9_tried_20 rfl ⟨_, rfl, H⟩
      · replace H := H.2 hc7
        refine aw_iload_n dX9_tried_13 rfl 3 rfl ?_
        refine aw_bipush (v := 99) dX9_tried_14 (by decide) ?_
        refine aw_icmp_le (tgt := 21) dX9_tried_16 (by decide) (fun hc6 => ?_) (fun hc6 => ?_)
        · replace H := H.1 hc6
          refine aw_iload_n dX9_tried_21 rfl 1 rfl ?_
          refine aw_iconst (v := 2) dX9_tried_22 (by decide) ?_
          refine aw_icmp_ne (tgt := 37) dX9_tried_23 (by decide) (fun hc5 => ?_) (fun hc5 => ?_)
          · replace H := H.1 hc5
            refine aw_iload_n dX9_tried_37 rfl 2 rfl ?_
            refine aw_if_eq (tgt := 43) dX9_tried_38 (by decide) (fun hc1 => ?_) (fun hc1 => ?_)
            · replace H := H.1 hc1
              exact aw_ls [0, 1, 2, 3] rfl H
            · replace H := H.2 hc1
              refine aw_iconst (v := (-1)) dX9_tried_41 (by decide) ?_
              exact aw_iret dX9_tried_42 rfl ⟨_, rfl, H⟩
          · replace H := H.2 hc5
            refine aw_aload_n dX9_tried_26 rfl 0 rfl ?_
            refine aw_iload_n dX9_tried_27 rfl 2 rfl ?_
            refine cvX9_isTusk dX9_tried_28 mlX9_177 shC0 (Nat.le_of_ble_eq_true rfl) H (fun z3 h2 H => ?_)
            refine aw_if_ne (tgt := 43) dX9_tried_31 (by decide) (fun hc4 => ?_) (fun hc4 => ?_)
            · replace H := H.1 hc4
              exact aw_ls [0, 1, 2, 3] rfl H
            · replace H := H.2 hc4
              refine aw_goto (tgt := 41) dX9_tried_34 (by decide) ?_
              refine aw_iconst (v := (-1)) dX9_tried_41 (by decide) ?_
              exact aw_iret dX9_tried_42 rfl ⟨_, rfl, H⟩
        · replace H := H.2 hc6
          refine aw_iconst (v := (-1)) dX9_tried_19 (by decide) ?_
          exact aw_iret dX9_tried_20 rfl ⟨_, rfl, H⟩
set_option maxRecDepth 8000 in
set_option maxHeartbeats 1000000 in
theorem bX9_tried_43 {l : Launch} {ad : Nat → Nat} {d : Nat} {R : Int32 → aH → Prop}   (x1 : Int32) (x2 : Int32) (x3 : Int32)  (h : aH)
    (H : (¬ x1 = (2 : Int32) → (AW GC l ad (d + 1) mX9_tried 55 [(0, .ref (ad 0)), (1, .int x1), (3, .int x3)] [.int (0 : Int32)] h (qi R))) ∧ (x1 = (2 : Int32) → (AW GC l ad (d + 1) mX9_tried 55 [(0, .ref (ad 0)), (1, .int x1), (3, .int x3)] [.int ((1 : Int32) <<< (x2 &&& 31))] h (qi R)))) : AW GC l ad (d + 1) mX9_tried 43 [(0, .ref (ad 0)), (1, .int x1), (2, .int x2), (3, .int x3)] [] h (qi R) := by
  refine aw_iload_n dX9_tried_43 rfl 1 rfl ?_
  refine aw_iconst (v := 2) dX9_tried_44 (by decide) ?_
  refine aw_icmp_ne (tgt := 54) dX9_tried_45 (by decide) (fun hc1 => ?_) (fun hc1 => ?_)
  · replace H := H.1 hc1
    refine aw_iconst (v := 0) dX9_tried_54 (by decide) ?_
    exact aw_ls [0, 1, 3] rfl H
  · replace H := H.2 hc1
    refine aw_iconst (v := 1) dX9_tried_48 (by decide) ?_
    refine aw_iload_n dX9_tried_49 rfl 2 rfl ?_
    refine aw_ishl dX9_tried_50 ?_
    refine aw_goto (tgt := 55) dX9_tried_51 (by decide) ?_
    exact aw_ls [0, 1, 3] rfl H
set_option maxRecDepth 8000 in
set_option maxHeartbeats 1000000 in
theorem bX9_tried_55 {l : Launch} {ad : Nat → Nat} {d : Nat} {R : Int32 → aH → Prop}   (x1 : Int32) (x3 : Int32) (s0 : Int32)  (h : aH)
    (H : AW GC l ad d mX9_startTrial 0 [(0, .ref (ad 0)), (1, .int x1), (2, .int s0)] [] h (qv fun h1 => AW GC l ad d mX8_forgetAll 0 [(0, .ref (ad 78)), (1, .int s0)] [] h1 (qv fun h3 => (¬ x1 = (5 : Int32) → (AW GC l ad (d + 1) mX9_tried 85 [(0, .ref (ad 0)), (3, .int x3)] [] h3 (qi R))) ∧ (x1 = (5 : Int32) → (AW GC l ad d mX8_tellAll 0 [(0, .ref (ad 78))] [] h3 (qv fun h5 => AW GC l ad (d + 1) mX9_tried 85 [(0, .ref (ad 0)), (3, .int x3)] [] h5 (qi R))))))) : AW GC l ad (d + 1) mX9_tried 55 [(0, .ref (ad 0)), (1, .int x1), (3, .int x3)] [.int s0] h (qi R) := by
  refine aw_istore (ls' := [(4, .int s0), (0, .ref (ad 0)), (1, .int x1), (3, .int x3)]) dX9_tried_55 (by decide) rfl ?_
  refine aw_aload_n dX9_tried_57 rfl 1 rfl ?_
  refine aw_iload_n dX9_tried_58 rfl 2 rfl ?_
  refine aw_iload dX9_tried_59 0 rfl ?_
  refine cvX9_startTrial dX9_tried_61 mlX9_247 shC0 (Nat.le_of_ble_eq_true rfl) H (fun h1 H => ?_)
  refine aw_aload_n dX9_tried_64 rfl 1 rfl ?_
  refine aw_get dX9_tried_65 shC0 ckX9 flX9_36 (v := .ref (ad 78)) rfl ?_
  refine aw_iload dX9_tried_68 0 rfl ?_
  refine cvX8_forgetAll dX9_tried_70 mlX9_342 isW_78.1 (Nat.le_of_ble_eq_true rfl) H (fun h3 H => ?_)
  refine aw_iload_n dX9_tried_73 rfl 2 rfl ?_
  refine aw_iconst (v := 5) dX9_tried_74 (by decide) ?_
  refine aw_icmp_ne (tgt := 85) dX9_tried_75 (by decide) (fun hc7 => ?_) (fun hc7 => ?_)
  · replace H := H.1 hc7
    exact aw_ls [1, 3] rfl H
  · replace H := H.2 hc7
    refine aw_aload_n dX9_tried_78 rfl 1 rfl ?_
    refine aw_get dX9_tried_79 shC0 ckX9 flX9_36 (v := .ref (ad 78)) rfl ?_
    refine cvX8_tellAll dX9_tried_82 mlX9_345 isW_78.1 (Nat.le_of_ble_eq_true rfl) H (fun h5 H => ?_)
    exact aw_ls [1, 3] rfl H
set_option maxRecDepth 8000 in
set_option maxHeartbeats 1000000 in
theorem bX9_tried_85 {l : Launch} {ad : Nat → Nat} {d : Nat} {R : Int32 → aH → Prop}   (x3 : Int32)  (h : aH)
    (H : AW GC l ad d mX0_run 0 [(0, .ref (ad 344)), (1, .int x3)] [] h (qv fun h1 => AW GC l ad d mX8_countOf 0 [(0, .ref (ad 78)), (1, .int (3 : Int32))] [] h1 (qi fun z4 h3 => AW GC l ad d mX8_countOf 0 [(0, .ref (ad 66)), (1, .int (3 : Int32))] [] h3 (qi fun z6 h5 => R (z4 - z6) h5)))) : AW GC l ad (d + 1) mX9_tried 85 [(0, .ref (ad 0)), (3, .int x3)] [] h (qi R) := by
  refine aw_aload_n dX9_tried_85 rfl 0 rfl ?_
  refine aw_get dX9_tried_86 shC0 ckX9 flX9_54 (v := .ref (ad 344)) rfl ?_
  refine aw_iload_n dX9_tried_89 rfl 1 rfl ?_
  refine cvX0_run dX9_tried_90 mlX9_244 shC344 (Nat.le_of_ble_eq_true rfl) H (fun h1 H => ?_)
  refine aw_aload_n dX9_tried_93 rfl 0 rfl ?_
  refine aw_get dX9_tried_94 shC0 ckX9 flX9_36 (v := .ref (ad 78)) rfl ?_
  refine aw_iconst (v := 3) dX9_tried_97 (by decide) ?_
  refine cvX8_countOf dX9_tried_98 mlX9_256 isW_78.1 (Nat.le_of_ble_eq_true rfl) H (fun z4 h3 H => ?_)
  refine aw_aload_n dX9_tried_101 rfl 0 rfl ?_
  refine aw_get dX9_tried_102 shC0 ckX9 flX9_32 (v := .ref (ad 66)) rfl ?_
  refine aw_iconst (v := 3) dX9_tried_105 (by decide) ?_
  refine cvX8_countOf dX9_tried_106 mlX9_256 isW_66.1 (Nat.le_of_ble_eq_true rfl) H (fun z6 h5 H => ?_)
  refine aw_isub dX9_tried_109 ?_
  exact aw_iret dX9_tried_110 rfl ⟨_, rfl, H⟩
set_option maxRecDepth 8000 in
set_option maxHeartbeats 1000000 in
theorem bX9_undo_0 {l : Launch} {ad : Nat → Nat} {d : Nat} {R : Int32 → aH → Prop}     (h : aH)
    (H : (¬ (h.1 102 1) = 0 → (AW GC l ad d mX2_restore 0 [(0, .ref (ad 102)), (1, .ref (ad 66))] [] h (qv fun h1 => R (h1.1 102 1) h1))) ∧ ((h.1 102 1) = 0 → (R (-1 : Int32) h))) : AW GC l ad (d + 1) mX9_undo 0 [(0, .ref (ad 0))] [] h (qi R) := by
  refine aw_aload_n dX9_undo_0 rfl 0 rfl ?_
  refine aw_get dX9_undo_1 shC0 ckX9 flX9_45 (v := .ref (ad 102)) rfl ?_
  refine aw_get dX9_undo_4 shC102 ckX2 flX9_98 (v := .int (h.1 102 1)) rfl ?_
  refine aw_if_ne (tgt := 12) dX9_undo_7 (by decide) (fun hc3 => ?_) (fun hc3 => ?_)
  · replace H := H.1 hc3
    refine aw_aload_n dX9_undo_12 rfl 0 rfl ?_
    refine aw_get dX9_undo_13 shC0 ckX9 flX9_45 (v := .ref (ad 102)) rfl ?_
    refine aw_aload_n dX9_undo_16 rfl 0 rfl ?_
    refine aw_get dX9_undo_17 shC0 ckX9 flX9_32 (v := .ref (ad 66)) rfl ?_
    refine cvX2_restore dX9_undo_20 mlX9_348 shC102 (Nat.le_of_ble_eq_true rfl) H (fun h1 H => ?_)
    refine aw_aload_n dX9_undo_23 rfl 0 rfl ?_
    refine aw_get dX9_undo_24 shC0 ckX9 flX9_45 (v := .ref (ad 102)) rfl ?_
    refine aw_get dX9_undo_27 shC102 ckX2 flX9_98 (v := .int (h1.1 102 1)) rfl ?_
    exact aw_iret dX9_undo_30 rfl ⟨_, rfl, H⟩
  · replace H := H.2 hc3
    refine aw_iconst (v := (-1)) dX9_undo_10 (by decide) ?_
    exact aw_iret dX9_undo_11 rfl ⟨_, rfl, H⟩
set_option maxRecDepth 8000 in
set_option maxHeartbeats 1000000 in
theorem bX9_image_0 {l : Launch} {ad : Nat → Nat} {d : Nat} {R : Int32 → aH → Prop}     (h : aH)
    (H : AW GC l ad d mX8_copyFrom 0 [(0, .ref (ad 90)), (1, .ref (ad 66))] [] h (qv fun h1 => R ((sI h1 0 7 (1 : Int32)).1 66 13) (sI h1 0 7 (1 : Int32)))) : AW GC l ad (d + 1) mX9_image 0 [(0, .ref (ad 0))] [] h (qi R) := by
  refine aw_aload_n dX9_image_0 rfl 0 rfl ?_
  refine aw_get dX9_image_1 shC0 ckX9 flX9_39 (v := .ref (ad 90)) rfl ?_
  refine aw_aload_n dX9_image_4 rfl 0 rfl ?_
  refine aw_get dX9_image_5 shC0 ckX9 flX9_32 (v := .ref (ad 66)) rfl ?_
  refine cvX8_copyFrom dX9_image_8 mlX9_91 isW_90.1 (Nat.le_of_ble_eq_true rfl) H (fun h1 H => ?_)
  refine aw_aload_n dX9_image_11 rfl 0 rfl ?_
  refine aw_iconst (v := 1) dX9_image_12 (by decide) ?_
  refine aw_putI dX9_image_13 shC0 ckX9 flX9_101 rfl (fun _ => rfl) (show narrow .boolean (.int (1 : Int32)) = .int (1 : Int32) by decide) (show fits .boolean (.int (1 : Int32)) = true by decide) ?_
  refine aw_aload_n dX9_image_16 rfl 0 rfl ?_
  refine aw_get dX9_image_17 shC0 ckX9 flX9_32 (v := .ref (ad 66)) rfl ?_
  refine aw_get dX9_image_20 isW_66.1 ckX8 flX9_218 (v := .int ((sI h1 0 7 (1 : Int32)).1 66 13)) rfl ?_
  exact aw_iret dX9_image_23 rfl ⟨_, rfl, H⟩
set_option maxRecDepth 8000 in
set_option maxHeartbeats 1000000 in
theorem bX9_back_0 {l : Launch} {ad : Nat → Nat} {d : Nat} {R : Int32 → aH → Prop}     (h : aH)
    (H : (¬ (h.1 0 7) = 0 → (AW GC l ad d mX8_copyFrom 0 [(0, .ref (ad 66)), (1, .ref (ad 90))] [] h (qv fun h1 => R ((sI h1 102 1 (0 : Int32)).1 66 13) (sI h1 102 1 (0 : Int32))))) ∧ ((h.1 0 7) = 0 → (R (-1 : Int32) h))) : AW GC l ad (d + 1) mX9_back 0 [(0, .ref (ad 0))] [] h (qi R) := by
  refine aw_aload_n dX9_back_0 rfl 0 rfl ?_
  refine aw_get dX9_back_1 shC0 ckX9 flX9_101 (v := .int (h.1 0 7)) rfl ?_
  refine aw_if_ne (tgt := 9) dX9_back_4 (by decide) (fun hc3 => ?_) (fun hc3 => ?_)
  · replace H := H.1 hc3
    refine aw_aload_n dX9_back_9 rfl 0 rfl ?_
    refine aw_get dX9_back_10 shC0 ckX9 flX9_32 (v := .ref (ad 66)) rfl ?_
    refine aw_aload_n dX9_back_13 rfl 0 rfl ?_
    refine aw_get dX9_back_14 shC0 ckX9 flX9_39 (v := .ref (ad 90)) rfl ?_
    refine cvX8_copyFrom dX9_back_17 mlX9_91 isW_66.1 (Nat.le_of_ble_eq_true rfl) H (fun h1 H => ?_)
    refine aw_aload_n dX9_back_20 rfl 0 rfl ?_
    refine aw_get dX9_back_21 shC0 ckX9 flX9_45 (v := .ref (ad 102)) rfl ?_
    refine aw_iconst (v := 0) dX9_back_24 (by decide) ?_
    refine aw_putI dX9_back_25 shC102 ckX2 flX9_98 rfl (fun _ => rfl) rfl rfl ?_
    refine aw_aload_n dX9_back_28 rfl 0 rfl ?_
    refine aw_get dX9_back_29 shC0 ckX9 flX9_32 (v := .ref (ad 66)) rfl ?_
    refine aw_get dX9_back_32 isW_66.1 ckX8 flX9_218 (v := .int ((sI h1 102 1 (0 : Int32)).1 66 13)) rfl ?_
    exact aw_iret dX9_back_35 rfl ⟨_, rfl, H⟩
  · replace H := H.2 hc3
    refine aw_iconst (v := (-1)) dX9_back_7 (by decide) ?_
    exact aw_iret dX9_back_8 rfl ⟨_, rfl, H⟩
set_option maxRecDepth 8000 in
set_option maxHeartbeats 1000000 in
theorem bX9_count_0 {l : Launch} {ad : Nat → Nat} {d : Nat} {R : Int32 → aH → Prop}   (x1 : Int32)  (h : aH)
    (H : (x1 = (0 : Int32) → (∀ y2 : Nat, y2 = h.2.2 0 3 → isS GC y2 ∧ (R (h.1 y2 11) h))) ∧ ((x1 = (1 : Int32) → (∀ y3 : Nat, y3 = h.2.2 0 3 → isS GC y3 ∧ (R (h.1 y3 12) h))) ∧ ((x1 = (2 : Int32) → (R (h.1 66 11) h)) ∧ ((x1 = (3 : Int32) → (∀ y4 : Nat, y4 = h.2.2 0 3 → isS GC y4 ∧ (R (h.1 y4 17) h))) ∧ ((x1 = (4 : Int32) → (R (h.1 66 13) h)) ∧ ((x1 = (5 : Int32) → (AW GC l ad d mX8_countOf 0 [(0, .ref (ad 66)), (1, .int (x1 - (4 : Int32)))] [] h (qi fun z6 h5 => R z6 h5))) ∧ ((x1 = (6 : Int32) → (AW GC l ad d mX8_countOf 0 [(0, .ref (ad 66)), (1, .int (x1 - (4 : Int32)))] [] h (qi fun z8 h7 => R z8 h7))) ∧ ((x1 = (7 : Int32) → (AW GC l ad d mX8_countOf 0 [(0, .ref (ad 66)), (1, .int (x1 - (4 : Int32)))] [] h (qi fun z10 h9 => R z10 h9))) ∧ ((x1 = (8 : Int32) → (AW GC l ad d mX8_countOf 0 [(0, .ref (ad 66)), (1, .int (x1 - (4 : Int32)))] [] h (qi fun z12 h11 => R z12 h11))) ∧ ((x1 = (9 : Int32) → (AW GC l ad d mJ6_bitCount_0f7a4 0 [(0, .int (h.1 66 12))] [] h (qi fun z14 h13 => R z14 h13))) ∧ ((x1 = (10 : Int32) → (AW GC l ad d mX8_owedInSum 0 [(0, .ref (ad 66))] [] h (qi fun z16 h15 => R z16 h15))) ∧ ((x1 = (11 : Int32) → (∀ y17 : Nat, y17 = h.2.2 0 3 → isS GC y17 ∧ (AW GC l ad d mX8_pursesInSum 0 [(0, .ref (ad 66)), (1, .int (h.1 y17 11))] [] h (qi fun z19 h18 => R z19 h18)))) ∧ ((x1 = (12 : Int32) → (R (h.1 346 5) h)) ∧ ((x1 = (13 : Int32) → (AW GC l ad d mX5_ruling 0 [(0, .ref (ad 346))] [] h (qi fun z21 h20 => R z21 h20))) ∧ ((x1 = (14 : Int32) → (R (h.1 102 1) h)) ∧ (¬ x1 = (0 : Int32) → ¬ x1 = (1 : Int32) → ¬ x1 = (2 : Int32) → ¬ x1 = (3 : Int32) → ¬ x1 = (4 : Int32) → ¬ x1 = (5 : Int32) → ¬ x1 = (6 : Int32) → ¬ x1 = (7 : Int32) → ¬ x1 = (8 : Int32) → ¬ x1 = (9 : Int32) → ¬ x1 = (10 : Int32) → ¬ x1 = (11 : Int32) → ¬ x1 = (12 : Int32) → ¬ x1 = (13 : Int32) → ¬ x1 = (14 : Int32) → (R (-1 : Int32) h))))))))))))))))) : AW GC l ad (d + 1) mX9_count 0 [(0, .ref (ad 0)), (1, .int x1)] [] h (qi R) := by
  refine aw_iload_n dX9_count_0 rfl 1 rfl ?_
  by_cases hx1_0 : x1 = (0 : Int32)
  · replace H := H.1 hx1_0
    refine aw_tableIn (off := 75) (tgt := 76) dX9_count_1 (by rw [hx1_0]; decide) (by rw [hx1_0]; decide) (by rw [hx1_0]; decide) (by decide) ?_
    refine aw_aload_n dX9_count_76 rfl 0 rfl ?_
    obtain ⟨y2, ey2⟩ : ∃ z, z = h.2.2 0 3 := ⟨_, rfl⟩
    obtain ⟨hy2, H⟩ := H y2 ey2
    refine aw_get dX9_count_77 shC0 ckX9 flX9_25 (v := .ref (ad y2)) (by rw [ey2]; rfl) ?_
    refine aw_get dX9_count_80 hy2.1 ckX6 flX9_117 (v := .int (h.1 y2 11)) rfl ?_
    exact aw_iret dX9_count_83 rfl ⟨_, rfl, H⟩
  by_cases hx1_1 : x1 = (1 : Int32)
  · replace H := H.2.1 hx1_1
    refine aw_tableIn (off := 83) (tgt := 84) dX9_count_1 (by rw [hx1_1]; decide) (by rw [hx1_1]; decide) (by rw [hx1_1]; decide) (by decide) ?_
    refine aw_aload_n dX9_count_84 rfl 0 rfl ?_
    obtain ⟨y3, ey3⟩ : ∃ z, z = h.2.2 0 3 := ⟨_, rfl⟩
    obtain ⟨hy3, H⟩ := H y3 ey3
    refine aw_get dX9_count_85 shC0 ckX9 flX9_25 (v := .ref (ad y3)) (by rw [ey3]; rfl) ?_
    refine aw_get dX9_count_88 hy3.1 ckX6 flX9_127 (v := .int (h.1 y3 12)) rfl ?_
    exact aw_iret dX9_count_91 rfl ⟨_, rfl, H⟩
  by_cases hx1_2 : x1 = (2 : Int32)
  · replace H := H.2.2.1 hx1_2
    refine aw_tableIn (off := 91) (tgt := 92) dX9_count_1 (by rw [hx1_2]; decide) (by rw [hx1_2]; decide) (by rw [hx1_2]; decide) (by decide) ?_
    refine aw_aload_n dX9_count_92 rfl 0 rfl ?_
    refine aw_get dX9_count_93 shC0 ckX9 flX9_32 (v := .ref (ad 66)) rfl ?_
    refine aw_get dX9_count_96 isW_66.1 ckX8 flX9_212 (v := .int (h.1 66 11)) rfl ?_
    exact aw_iret dX9_count_99 rfl ⟨_, rfl, H⟩
  by_cases hx1_3 : x1 = (3 : Int32)
  · replace H := H.2.2.2.1 hx1_3
    refine aw_tableIn (off := 99) (tgt := 100) dX9_count_1 (by rw [hx1_3]; decide) (by rw [hx1_3]; decide) (by rw [hx1_3]; decide) (by decide) ?_
    refine aw_aload_n dX9_count_100 rfl 0 rfl ?_
    obtain ⟨y4, ey4⟩ : ∃ z, z = h.2.2 0 3 := ⟨_, rfl⟩
    obtain ⟨hy4, H⟩ := H y4 ey4
    refine aw_get dX9_count_101 shC0 ckX9 flX9_25 (v := .ref (ad y4)) (by rw [ey4]; rfl) ?_
    refine aw_get dX9_count_104 hy4.1 ckX6 flX9_351 (v := .int (h.1 y4 17)) rfl ?_
    exact aw_iret dX9_count_107 rfl ⟨_, rfl, H⟩
  by_cases hx1_4 : x1 = (4 : Int32)
  · replace H := H.2.2.2.2.1 hx1_4
    refine aw_tableIn (off := 107) (tgt := 108) dX9_count_1 (by rw [hx1_4]; decide) (by rw [hx1_4]; decide) (by rw [hx1_4]; decide) (by decide) ?_
    refine aw_aload_n dX9_count_108 rfl 0 rfl ?_
    refine aw_get dX9_count_109 shC0 ckX9 flX9_32 (v := .ref (ad 66)) rfl ?_
    refine aw_get dX9_count_112 isW_66.1 ckX8 flX9_218 (v := .int (h.1 66 13)) rfl ?_
    exact aw_iret dX9_count_115 rfl ⟨_, rfl, H⟩
  by_cases hx1_5 : x1 = (5 : Int32)
  · replace H := H.2.2.2.2.2.1 hx1_5
    refine aw_tableIn (off := 115) (tgt := 116) dX9_count_1 (by rw [hx1_5]; decide) (by rw [hx1_5]; decide) (by rw [hx1_5]; decide) (by decide) ?_
    refine aw_aload_n dX9_count_116 rfl 0 rfl ?_
    refine aw_get dX9_count_117 shC0 ckX9 flX9_32 (v := .ref (ad 66)) rfl ?_
    refine aw_iload_n dX9_count_120 rfl 1 rfl ?_
    refine aw_iconst (v := 4) dX9_count_121 (by decide) ?_
    refine aw_isub dX9_count_122 ?_
    refine cvX8_countOf dX9_count_123 mlX9_256 isW_66.1 (Nat.le_of_ble_eq_true rfl) H (fun z6 h5 H => ?_)
    exact aw_iret dX9_count_126 rfl ⟨_, rfl, H⟩
  by_cases hx1_6 : x1 = (6 : Int32)
  · replace H := H.2.2.2.2.2.2.1 hx1_6
    refine aw_tableIn (off := 115) (tgt := 116) dX9_count_1 (by rw [hx1_6]; decide) (by rw [hx1_6]; decide) (by rw [hx1_6]; decide) (by decide) ?_
    refine aw_aload_n dX9_count_116 rfl 0 rfl ?_
    refine aw_get dX9_count_117 shC0 ckX9 flX9_32 (v := .ref (ad 66)) rfl ?_
    refine aw_iload_n dX9_count_120 rfl 1 rfl ?_
    refine aw_iconst (v := 4) dX9_count_121 (by decide) ?_
    refine aw_isub dX9_count_122 ?_
    refine cvX8_countOf dX9_count_123 mlX9_256 isW_66.1 (Nat.le_of_ble_eq_true rfl) H (fun z8 h7 H => ?_)
    exact aw_iret dX9_count_126 rfl ⟨_, rfl, H⟩
  by_cases hx1_7 : x1 = (7 : Int32)
  · replace H := H.2.2.2.2.2.2.2.1 hx1_7
    refine aw_tableIn (off := 115) (tgt := 116) dX9_count_1 (by rw [hx1_7]; decide) (by rw [hx1_7]; decide) (by rw [hx1_7]; decide) (by decide) ?_
    refine aw_aload_n dX9_count_116 rfl 0 rfl ?_
    refine aw_get dX9_count_117 shC0 ckX9 flX9_32 (v := .ref (ad 66)) rfl ?_
    refine aw_iload_n dX9_count_120 rfl 1 rfl ?_
    refine aw_iconst (v := 4) dX9_count_121 (by decide) ?_
    refine aw_isub dX9_count_122 ?_
    refine cvX8_countOf dX9_count_123 mlX9_256 isW_66.1 (Nat.le_of_ble_eq_true rfl) H (fun z10 h9 H => ?_)
    exact aw_iret dX9_count_126 rfl ⟨_, rfl, H⟩
  by_cases hx1_8 : x1 = (8 : Int32)
  · replace H := H.2.2.2.2.2.2.2.2.1 hx1_8
    refine aw_tableIn (off := 115) (tgt := 116) dX9_count_1 (by rw [hx1_8]; decide) (by rw [hx1_8]; decide) (by rw [hx1_8]; decide) (by decide) ?_
    refine aw_aload_n dX9_count_116 rfl 0 rfl ?_
    refine aw_get dX9_count_117 shC0 ckX9 flX9_32 (v := .ref (ad 66)) rfl ?_
    refine aw_iload_n dX9_count_120 rfl 1 rfl ?_
    refine aw_iconst (v := 4) dX9_count_121 (by decide) ?_
    refine aw_isub dX9_count_122 ?_
    refine cvX8_countOf dX9_count_123 mlX9_256 isW_66.1 (Nat.le_of_ble_eq_true rfl) H (fun z12 h11 H => ?_)
    exact aw_iret dX9_count_126 rfl ⟨_, rfl, H⟩
  by_cases hx1_9 : x1 = (9 : Int32)
  · replace H := H.2.2.2.2.2.2.2.2.2.1 hx1_9
    refine aw_tableIn (off := 126) (tgt := 127) dX9_count_1 (by rw [hx1_9]; decide) (by rw [hx1_9]; decide) (by rw [hx1_9]; decide) (by decide) ?_
    refine aw_aload_n dX9_count_127 rfl 0 rfl ?_
    refine aw_get dX9_count_128 shC0 ckX9 flX9_32 (v := .ref (ad 66)) rfl ?_
    refine aw_get dX9_count_131 isW_66.1 ckX8 flX9_250 (v := .int (h.1 66 12)) rfl ?_
    refine cvJ6_bitCount_0f7a4 stC dX9_count_134 mlX9_253 (Nat.le_of_ble_eq_true rfl) H (fun z14 h13 H => ?_)
    exact aw_iret dX9_count_137 rfl ⟨_, rfl, H⟩
  by_cases hx1_10 : x1 = (10 : Int32)
  · replace H := H.2.2.2.2.2.2.2.2.2.2.1 hx1_10
    refine aw_tableIn (off := 137) (tgt := 138) dX9_count_1 (by rw [hx1_10]; decide) (by rw [hx1_10]; decide) (by rw [hx1_10]; decide) (by decide) ?_
    refine aw_aload_n dX9_count_138 rfl 0 rfl ?_
    refine aw_get dX9_count_139 shC0 ckX9 flX9_32 (v := .ref (ad 66)) rfl ?_
    refine cvX8_owedInSum dX9_count_142 mlX9_354 isW_66.1 (Nat.le_of_ble_eq_true rfl) H (fun z16 h15 H => ?_)
    exact aw_iret dX9_count_145 rfl ⟨_, rfl, H⟩
  by_cases hx1_11 : x1 = (11 : Int32)
  · replace H := H.2.2.2.2.2.2.2.2.2.2.2.1 hx1_11
    refine aw_tableIn (off := 145) (tgt := 146) dX9_count_1 (by rw [hx1_11]; decide) (by rw [hx1_11]; decide) (by rw [hx1_11]; decide) (by decide) ?_
    refine aw_aload_n dX9_count_146 rfl 0 rfl ?_
    refine aw_get dX9_count_147 shC0 ckX9 flX9_32 (v := .ref (ad 66)) rfl ?_
    refine aw_aload_n dX9_count_150 rfl 0 rfl ?_
    obtain ⟨y17, ey17⟩ : ∃ z, z = h.2.2 0 3 := ⟨_, rfl⟩
    obtain ⟨hy17, H⟩ := H y17 ey17
    refine aw_get dX9_count_151 shC0 ckX9 flX9_25 (v := .ref (ad y17)) (by rw [ey17]; rfl) ?_
    refine aw_get dX9_count_154 hy17.1 ckX6 flX9_117 (v := .int (h.1 y17 11)) rfl ?_
    refine cvX8_pursesInSum dX9_count_157 mlX9_358 isW_66.1 (Nat.le_of_ble_eq_true rfl) H (fun z19 h18 H => ?_)
    exact aw_iret dX9_count_160 rfl ⟨_, rfl, H⟩
  by_cases hx1_12 : x1 = (12 : Int32)
  · replace H := H.2.2.2.2.2.2.2.2.2.2.2.2.1 hx1_12
    refine aw_tableIn (off := 160) (tgt := 161) dX9_count_1 (by rw [hx1_12]; decide) (by rw [hx1_12]; decide) (by rw [hx1_12]; decide) (by decide) ?_
    refine aw_aload_n dX9_count_161 rfl 0 rfl ?_
    refine aw_get dX9_count_162 shC0 ckX9 flX9_61 (v := .ref (ad 346)) rfl ?_
    refine aw_get dX9_count_165 shC346 ckX5 flX9_325 (v := .int (h.1 346 5)) rfl ?_
    exact aw_iret dX9_count_168 rfl ⟨_, rfl, H⟩
  by_cases hx1_13 : x1 = (13 : Int32)
  · replace H := H.2.2.2.2.2.2.2.2.2.2.2.2.2.1 hx1_13
    refine aw_tableIn (off := 168) (tgt := 169) dX9_count_1 (by rw [hx1_13]; decide) (by rw [hx1_13]; decide) (by rw [hx1_13]; decide) (by decide) ?_
    refine aw_aload_n dX9_count_169 rfl 0 rfl ?_
    refine aw_get dX9_count_170 shC0 ckX9 flX9_61 (v := .ref (ad 346)) rfl ?_
    refine cvX5_ruling dX9_count_173 mlX9_361 shC346 (Nat.le_of_ble_eq_true rfl) H (fun z21 h20 H => ?_)
    exact aw_iret dX9_count_176 rfl ⟨_, rfl, H⟩
  by_cases hx1_14 : x1 = (14 : Int32)
  · replace H := H.2.2.2.2.2.2.2.2.2.2.2.2.2.2.1 hx1_14
    refine aw_tableIn (off := 176) (tgt := 177) dX9_count_1 (by rw [hx1_14]; decide) (by rw [hx1_14]; decide) (by rw [hx1_14]; decide) (by decide) ?_
    refine aw_aload_n dX9_count_177 rfl 0 rfl ?_
    refine aw_get dX9_count_178 shC0 ckX9 flX9_45 (v := .ref (ad 102)) rfl ?_
    refine aw_get dX9_count_181 shC102 ckX2 flX9_98 (v := .int (h.1 102 1)) rfl ?_
    exact aw_iret dX9_count_184 rfl ⟨_, rfl, H⟩
  replace H := H.2.2.2.2.2.2.2.2.2.2.2.2.2.2.2 hx1_0 hx1_1 hx1_2 hx1_3 hx1_4 hx1_5 hx1_6 hx1_7 hx1_8 hx1_9 hx1_10 hx1_11 hx1_12 hx1_13 hx1_14
  have hx1_0e := tab_ne hx1_0 (a := 0) (by decide)
  have hx1_1e := tab_ne hx1_1 (a := 1) (by decide)
  have hx1_2e := tab_ne hx1_2 (a := 2) (by decide)
  have hx1_3e := tab_ne hx1_3 (a := 3) (by decide)
  have hx1_4e := tab_ne hx1_4 (a := 4) (by decide)
  have hx1_5e := tab_ne hx1_5 (a := 5) (by decide)
  have hx1_6e := tab_ne hx1_6 (a := 6) (by decide)
  have hx1_7e := tab_ne hx1_7 (a := 7) (by decide)
  have hx1_8e := tab_ne hx1_8 (a := 8) (by decide)
  have hx1_9e := tab_ne hx1_9 (a := 9) (by decide)
  have hx1_10e := tab_ne hx1_10 (a := 10) (by decide)
  have hx1_11e := tab_ne hx1_11 (a := 11) (by decide)
  have hx1_12e := tab_ne hx1_12 (a := 12) (by decide)
  have hx1_13e := tab_ne hx1_13 (a := 13) (by decide)
  have hx1_14e := tab_ne hx1_14 (a := 14) (by decide)
  refine aw_tableOut (tgt := 185) dX9_count_1 (by omega) (by decide) ?_
  refine aw_iconst (v := (-1)) dX9_count_185 (by decide) ?_
  exact aw_iret dX9_count_186 rfl ⟨_, rfl, H⟩
set_option maxRecDepth 8000 in
set_option maxHeartbeats 1000000 in
theorem bX9_isMan_0 {l : Launch} {ad : Nat → Nat} {d : Nat} {R : Int32 → aH → Prop}   (x1 : Int32)  (h : aH)
    (H : (x1 < 0 → (R (0 : Int32) h)) ∧ (¬ x1 < 0 → (∀ y1 : Nat, y1 = h.2.2 0 3 → isS GC y1 ∧ (((h.1 y1 11) ≤ x1 → (R (0 : Int32) h)) ∧ (¬ (h.1 y1 11) ≤ x1 → (R (1 : Int32) h)))))) : AW GC l ad d mX9_isMan 0 [(0, .ref (ad 0)), (1, .int x1)] [] h (qi R) := by
  refine aw_iload_n dX9_isMan_0 rfl 1 rfl ?_
  refine aw_if_lt (tgt := 19) dX9_isMan_1 (by decide) (fun hc3 => ?_) (fun hc3 => ?_)
  · replace H := H.1 hc3
    refine aw_iconst (v := 0) dX9_isMan_19 (by decide) ?_
    exact aw_zret dX9_isMan_20 rfl (by decide) ⟨_, rfl, H⟩
  · replace H := H.2 hc3
    refine aw_iload_n dX9_isMan_4 rfl 1 rfl ?_
    refine aw_aload_n dX9_isMan_5 rfl 0 rfl ?_
    obtain ⟨y1, ey1⟩ : ∃ z, z = h.2.2 0 3 := ⟨_, rfl⟩
    obtain ⟨hy1, H⟩ := H y1 ey1
    refine aw_get dX9_isMan_6 shC0 ckX9 flX9_25 (v := .ref (ad y1)) (by rw [ey1]; rfl) ?_
    refine aw_get dX9_isMan_9 hy1.1 ckX6 flX9_117 (v := .int (h.1 y1 11)) rfl ?_
    refine aw_icmp_ge (tgt := 19) dX9_isMan_12 (by decide) (fun hc2 => ?_) (fun hc2 => ?_)
    · replace H := H.1 hc2
      refine aw_iconst (v := 0) dX9_isMan_19 (by decide) ?_
      exact aw_zret dX9_isMan_20 rfl (by decide) ⟨_, rfl, H⟩
    · replace H := H.2 hc2
      refine aw_iconst (v := 1) dX9_isMan_15 (by decide) ?_
      refine aw_goto (tgt := 20) dX9_isMan_16 (by decide) ?_
      exact aw_zret dX9_isMan_20 rfl (by decide) ⟨_, rfl, H⟩
set_option maxRecDepth 8000 in
set_option maxHeartbeats 1000000 in
theorem bX9_isTusk_0 {l : Launch} {ad : Nat → Nat} {d : Nat} {R : Int32 → aH → Prop}   (x1 : Int32)  (h : aH)
    (H : (x1 < 0 → (R (0 : Int32) h)) ∧ (¬ x1 < 0 → (∀ y1 : Nat, y1 = h.2.2 0 3 → isS GC y1 ∧ (((h.1 y1 12) ≤ x1 → (R (0 : Int32) h)) ∧ (¬ (h.1 y1 12) ≤ x1 → (R (1 : Int32) h)))))) : AW GC l ad d mX9_isTusk 0 [(0, .ref (ad 0)), (1, .int x1)] [] h (qi R) := by
  refine aw_iload_n dX9_isTusk_0 rfl 1 rfl ?_
  refine aw_if_lt (tgt := 19) dX9_isTusk_1 (by decide) (fun hc3 => ?_) (fun hc3 => ?_)
  · replace H := H.1 hc3
    refine aw_iconst (v := 0) dX9_isTusk_19 (by decide) ?_
    exact aw_zret dX9_isTusk_20 rfl (by decide) ⟨_, rfl, H⟩
  · replace H := H.2 hc3
    refine aw_iload_n dX9_isTusk_4 rfl 1 rfl ?_
    refine aw_aload_n dX9_isTusk_5 rfl 0 rfl ?_
    obtain ⟨y1, ey1⟩ : ∃ z, z = h.2.2 0 3 := ⟨_, rfl⟩
    obtain ⟨hy1, H⟩ := H y1 ey1
    refine aw_get dX9_isTusk_6 shC0 ckX9 flX9_25 (v := .ref (ad y1)) (by rw [ey1]; rfl) ?_
    refine aw_get dX9_isTusk_9 hy1.1 ckX6 flX9_127 (v := .int (h.1 y1 12)) rfl ?_
    refine aw_icmp_ge (tgt := 19) dX9_isTusk_12 (by decide) (fun hc2 => ?_) (fun hc2 => ?_)
    · replace H := H.1 hc2
      refine aw_iconst (v := 0) dX9_isTusk_19 (by decide) ?_
      exact aw_zret dX9_isTusk_20 rfl (by decide) ⟨_, rfl, H⟩
    · replace H := H.2 hc2
      refine aw_iconst (v := 1) dX9_isTusk_15 (by decide) ?_
      refine aw_goto (tgt := 20) dX9_isTusk_16 (by decide) ?_
      exact aw_zret dX9_isTusk_20 rfl (by decide) ⟨_, rfl, H⟩
set_option maxRecDepth 8000 in
set_option maxHeartbeats 1000000 in
theorem bX9_isDebt_0 {l : Launch} {ad : Nat → Nat} {d : Nat} {R : Int32 → aH → Prop}   (x1 : Int32)  (h : aH)
    (H : (x1 < 0 → (R (0 : Int32) h)) ∧ (¬ x1 < 0 → (((h.1 66 11) ≤ x1 → (R (0 : Int32) h)) ∧ (¬ (h.1 66 11) ≤ x1 → (R (1 : Int32) h))))) : AW GC l ad d mX9_isDebt 0 [(0, .ref (ad 0)), (1, .int x1)] [] h (qi R) := by
  refine aw_iload_n dX9_isDebt_0 rfl 1 rfl ?_
  refine aw_if_lt (tgt := 19) dX9_isDebt_1 (by decide) (fun hc2 => ?_) (fun hc2 => ?_)
  · replace H := H.1 hc2
    refine aw_iconst (v := 0) dX9_isDebt_19 (by decide) ?_
    exact aw_zret dX9_isDebt_20 rfl (by decide) ⟨_, rfl, H⟩
  · replace H := H.2 hc2
    refine aw_iload_n dX9_isDebt_4 rfl 1 rfl ?_
    refine aw_aload_n dX9_isDebt_5 rfl 0 rfl ?_
    refine aw_get dX9_isDebt_6 shC0 ckX9 flX9_32 (v := .ref (ad 66)) rfl ?_
    refine aw_get dX9_isDebt_9 isW_66.1 ckX8 flX9_212 (v := .int (h.1 66 11)) rfl ?_
    refine aw_icmp_ge (tgt := 19) dX9_isDebt_12 (by decide) (fun hc1 => ?_) (fun hc1 => ?_)
    · replace H := H.1 hc1
      refine aw_iconst (v := 0) dX9_isDebt_19 (by decide) ?_
      exact aw_zret dX9_isDebt_20 rfl (by decide) ⟨_, rfl, H⟩
    · replace H := H.2 hc1
      refine aw_iconst (v := 1) dX9_isDebt_15 (by decide) ?_
      refine aw_goto (tgt := 20) dX9_isDebt_16 (by decide) ?_
      exact aw_zret dX9_isDebt_20 rfl (by decide) ⟨_, rfl, H⟩
set_option maxRecDepth 8000 in
set_option maxHeartbeats 1000000 in
theorem bX9_indexOf_0 {l : Launch} {ad : Nat → Nat} {d : Nat} {R : Int32 → aH → Prop} (a1 n1 : Nat) (ha1 : GC.2.2.2.1[a1]? = some (.inr (.int, n1))) (x0 : Int32) (x2 : Int32)  (h : aH)
    (H : AW GC l ad d mX9_indexOf 2 [(0, .int x0), (1, .ref (ad a1)), (2, .int x2), (3, .int (0 : Int32))] [] h (qi R)) : AW GC l ad d mX9_indexOf 0 [(0, .int x0), (1, .ref (ad a1)), (2, .int x2)] [] h (qi R) := by
  refine aw_iconst (v := 0) dX9_indexOf_0 (by decide) ?_
  refine aw_istore_n (ls' := [(3, .int (0 : Int32)), (0, .int x0), (1, .ref (ad a1)), (2, .int x2)]) dX9_indexOf_1 rfl (by decide) rfl ?_
  exact aw_ls [1, 2, 3, 0] rfl H
set_option maxRecDepth 8000 in
set_option maxHeartbeats 1000000 in
theorem bX9_indexOf_2 {l : Launch} {ad : Nat → Nat} {d : Nat} {R : Int32 → aH → Prop} (a1 n1 : Nat) (ha1 : GC.2.2.2.1[a1]? = some (.inr (.int, n1))) (x0 : Int32) (x2 : Int32) (x3 : Int32)  (h : aH)
    (H : (x2 ≤ x3 → (R (-1 : Int32) h)) ∧ (¬ x2 ≤ x3 → (((Int32.ofNat n1) ≤ x3 → (R (-1 : Int32) h)) ∧ (¬ (Int32.ofNat n1) ≤ x3 → (vp_in x3 n1 ∧ ((¬ (h.1 a1 x3.toNatClampNeg) = x0 → (AW GC l ad d mX9_indexOf 2 [(0, .int x0), (1, .ref (ad a1)), (2, .int x2), (3, .int (x3 + (1 : Int32)))] [] h (qi R))) ∧ ((h.1 a1 x3.toNatClampNeg) = x0 → (R x3 h)))))))) : AW GC l ad d mX9_indexOf 2 [(0, .int x0), (1, .ref (ad a1)), (2, .int x2), (3, .int x3)] [] h (qi R) := by
  refine aw_iload_n dX9_indexOf_2 rfl 3 rfl ?_
  refine aw_iload_n dX9_indexOf_3 rfl 2 rfl ?_
  refine aw_icmp_ge (tgt := 28) dX9_indexOf_4 (by decide) (fun hc4 => ?_) (fun hc4 => ?_)
  · replace H := H.1 hc4
    refine aw_iconst (v := (-1)) dX9_indexOf_28 (by decide) ?_
    exact aw_iret dX9_indexOf_29 rfl ⟨_, rfl, H⟩
  · replace H := H.2 hc4
    refine aw_iload_n dX9_indexOf_7 rfl 3 rfl ?_
    refine aw_aload_n dX9_indexOf_8 rfl 1 rfl ?_
    refine aw_alen (t0 := 0) dX9_indexOf_9 ha1 rfl ?_
    refine aw_icmp_ge (tgt := 28) dX9_indexOf_10 (by decide) (fun hc3 => ?_) (fun hc3 => ?_)
    · replace H := H.1 hc3
      refine aw_iconst (v := (-1)) dX9_indexOf_28 (by decide) ?_
      exact aw_iret dX9_indexOf_29 rfl ⟨_, rfl, H⟩
    · replace H := H.2 hc3
      refine aw_aload_n dX9_indexOf_13 rfl 1 rfl ?_
      refine aw_iload_n dX9_indexOf_14 rfl 3 rfl ?_
      obtain ⟨hi1, H⟩ := H
      refine aw_ialdK (t0 := 0) (j := x3.toNatClampNeg) dX9_indexOf_15 ha1 rfl rfl hi1 ?_
      refine aw_iload_n dX9_indexOf_16 rfl 0 rfl ?_
      refine aw_icmp_ne (tgt := 22) dX9_indexOf_17 (by decide) (fun hc2 => ?_) (fun hc2 => ?_)
      · replace H := H.1 hc2
        refine aw_inc (mm := (1)) (ls' := [(3, .int (x3 + (1 : Int32))), (0, .int x0), (1, .ref (ad a1)), (2, .int x2)]) dX9_indexOf_22 (by decide) (j := 3) rfl (by decide) rfl ?_
        refine aw_goto (tgt := 2) dX9_indexOf_25 (by decide) ?_
        exact aw_ls [1, 2, 3, 0] rfl H
      · replace H := H.2 hc2
        refine aw_iload_n dX9_indexOf_20 rfl 3 rfl ?_
        exact aw_iret dX9_indexOf_21 rfl ⟨_, rfl, H⟩
