set_option maxRecDepth 8000 in
set_option maxHeartbeats 1000000 in
theorem bX3_exchange_0 {l : Launch} {ad : Nat → Nat} {d : Nat} {R : Nat → aH → Prop} (v1 : Nat) (hv1 : isS GC v1)   (h : aH)
    (H : ∀ y1 : Nat, y1 = h.2.2 2 1 → isS GC y1 ∧ (R y1 (sR h 2 1 v1))) : AW GC l ad d mX3_exchange 0 [(0, .ref (ad 2)), (1, .ref (ad v1))] [] h (qr ad R) := by
  refine aw_aload_n dX3_exchange_0 rfl 0 rfl ?_
  obtain ⟨y1, ey1⟩ : ∃ z, z = h.2.2 2 1 := ⟨_, rfl⟩
  obtain ⟨hy1, H⟩ := H y1 ey1
  refine aw_get dX3_exchange_1 shC2 ckX3 flX3_21 (v := .ref (ad y1)) (by rw [ey1]; rfl) ?_
  refine aw_astore_n (ls' := [(2, .ref (ad y1)), (0, .ref (ad 2)), (1, .ref (ad v1))]) dX3_exchange_4 rfl (by decide) rfl ?_
  refine aw_aload_n dX3_exchange_5 rfl 1 rfl ?_
  refine aw_aload_n dX3_exchange_6 rfl 2 rfl ?_
  refine aw_putR dX3_exchange_7 shC2 ckX3 flX3_21 rfl (fun _ => rfl) rfl rfl ?_
  refine aw_aload_n dX3_exchange_10 rfl 0 rfl ?_
  exact aw_aret dX3_exchange_11 rfl ⟨_, rfl, H⟩
set_option maxRecDepth 8000 in
set_option maxHeartbeats 1000000 in
theorem bX3_read_0 {l : Launch} {ad : Nat → Nat} {d : Nat} {R : Int32 → aH → Prop} (a1 n1 : Nat) (ha1 : GC.2.2.2.1[a1]? = some (.inr (.int, n1))) (x2 : Int32)  (h : aH)
    (H : AW GC l ad d mX7_scan 0 [(0, .ref (ad 3)), (1, .ref (ad a1)), (2, .int x2)] [] h (qv fun h1 => ∀ y3 : Nat, y3 = h1.2.2 2 1 → isS GC y3 ∧ (AW GC l ad d mX6_empty 0 [(0, .ref (ad y3))] [] h1 (qv fun h4 => AW GC l ad (d + 1) mX3_read 33 [(0, .ref (ad 2)), (3, .int (0 : Int32))] [] (sI (sI (sI h4 2 2 (0 : Int32)) 2 3 (0 : Int32)) 2 4 (-1 : Int32)) (qi R))))) : AW GC l ad (d + 1) mX3_read 0 [(0, .ref (ad 2)), (1, .ref (ad a1)), (2, .int x2)] [] h (qi R) := by
  refine aw_aload_n dX3_read_0 rfl 0 rfl ?_
  refine aw_get dX3_read_1 shC2 ckX3 flX3_12 (v := .ref (ad 3)) rfl ?_
  refine aw_aload_n dX3_read_4 rfl 1 rfl ?_
  refine aw_iload_n dX3_read_5 rfl 2 rfl ?_
  refine cvX7_scan dX3_read_6 mlX3_29 shC3 (Nat.le_of_ble_eq_true rfl) H (fun h1 H => ?_)
  refine aw_aload_n dX3_read_9 rfl 0 rfl ?_
  obtain ⟨y3, ey3⟩ : ∃ z, z = h1.2.2 2 1 := ⟨_, rfl⟩
  obtain ⟨hy3, H⟩ := H y3 ey3
  refine aw_get dX3_read_10 shC2 ckX3 flX3_21 (v := .ref (ad y3)) (by rw [ey3]; rfl) ?_
  refine cvX6_empty dX3_read_13 mlX3_33 hy3.1 (Nat.le_of_ble_eq_true rfl) H (fun h4 H => ?_)
  refine aw_aload_n dX3_read_16 rfl 0 rfl ?_
  refine aw_iconst (v := 0) dX3_read_17 (by decide) ?_
  refine aw_putI dX3_read_18 shC2 ckX3 flX3_36 rfl (fun _ => rfl) rfl rfl ?_
  refine aw_aload_n dX3_read_21 rfl 0 rfl ?_
  refine aw_iconst (v := 0) dX3_read_22 (by decide) ?_
  refine aw_putI dX3_read_23 shC2 ckX3 flX3_39 rfl (fun _ => rfl) rfl rfl ?_
  refine aw_aload_n dX3_read_26 rfl 0 rfl ?_
  refine aw_iconst (v := (-1)) dX3_read_27 (by decide) ?_
  refine aw_putI dX3_read_28 shC2 ckX3 flX3_25 rfl (fun _ => rfl) rfl rfl ?_
  refine aw_iconst (v := 0) dX3_read_31 (by decide) ?_
  refine aw_istore_n (ls' := [(3, .int (0 : Int32)), (0, .ref (ad 2)), (1, .ref (ad a1)), (2, .int x2)]) dX3_read_32 rfl (by decide) rfl ?_
  exact aw_ls [1, 0] rfl H
set_option maxRecDepth 8000 in
set_option maxHeartbeats 1000000 in
theorem bX3_read_33 {l : Launch} {ad : Nat → Nat} {d : Nat} {R : Int32 → aH → Prop} (a1 n1 : Nat) (ha1 : GC.2.2.2.1[a1]? = some (.inr (.int, n1))) (x3 : Int32)  (h : aH)
    (H : ((700 : Int32) ≤ x3 → (AW GC l ad (d + 1) mX3_read 85 [(0, .ref (ad 2))] [] h (qi R))) ∧ (¬ (700 : Int32) ≤ x3 → ((¬ (h.1 2 3) = 0 → (AW GC l ad (d + 1) mX3_read 85 [(0, .ref (ad 2))] [] h (qi R))) ∧ ((h.1 2 3) = 0 → (AW GC l ad d mX3_kind 0 [(0, .ref (ad 2))] [] h (qi fun z2 h1 => (z2 = (36 : Int32) → (AW GC l ad (d + 1) mX3_read 85 [(0, .ref (ad 2))] [] h1 (qi R))) ∧ (¬ z2 = (36 : Int32) → (AW GC l ad d mX3_readLine 0 [(0, .ref (ad 2))] [] h1 (qv fun h3 => AW GC l ad d mX3_take 0 [(0, .ref (ad 2)), (1, .int (21 : Int32))] [] h3 (qv fun h5 => ∀ y7 : Nat, y7 = h5.2.2 2 1 → isS GC y7 ∧ (AW GC l ad (d + 1) mX3_read 33 [(0, .ref (ad 2)), (3, .int (x3 + (1 : Int32)))] [] (sI h5 y7 18 ((h5.1 y7 18) + (1 : Int32))) (qi R)))))))))))) : AW GC l ad (d + 1) mX3_read 33 [(0, .ref (ad 2)), (3, .int x3)] [] h (qi R) := by
  refine aw_iload_n dX3_read_33 rfl 1 rfl ?_
  refine aw_sipush (v := 700) dX3_read_34 (by decide) ?_
  refine aw_icmp_ge (tgt := 85) dX3_read_37 (by decide) (fun hc10 => ?_) (fun hc10 => ?_)
  · replace H := H.1 hc10
    exact aw_ls [0] rfl H
  · replace H := H.2 hc10
    refine aw_aload_n dX3_read_40 rfl 0 rfl ?_
    refine aw_get dX3_read_41 shC2 ckX3 flX3_39 (v := .int (h.1 2 3)) rfl ?_
    refine aw_if_ne (tgt := 85) dX3_read_44 (by decide) (fun hc9 => ?_) (fun hc9 => ?_)
    · replace H := H.1 hc9
      exact aw_ls [0] rfl H
    · replace H := H.2 hc9
      refine aw_aload_n dX3_read_47 rfl 0 rfl ?_
      refine cvX3_kind dX3_read_48 mlX3_42 shC2 (Nat.le_of_ble_eq_true rfl) H (fun z2 h1 H => ?_)
      refine aw_bipush (v := 36) dX3_read_51 (by decide) ?_
      refine aw_icmp_eq (tgt := 85) dX3_read_53 (by decide) (fun hc8 => ?_) (fun hc8 => ?_)
      · replace H := H.1 hc8
        exact aw_ls [0] rfl H
      · replace H := H.2 hc8
        refine aw_aload_n dX3_read_56 rfl 0 rfl ?_
        refine cvX3_readLine dX3_read_57 mlX3_46 shC2 (Nat.le_of_ble_eq_true rfl) H (fun h3 H => ?_)
        refine aw_aload_n dX3_read_60 rfl 0 rfl ?_
        refine aw_bipush (v := 21) dX3_read_61 (by decide) ?_
        refine cvX3_take dX3_read_63 mlX3_49 shC2 (Nat.le_of_ble_eq_true rfl) H (fun h5 H => ?_)
        refine aw_aload_n dX3_read_66 rfl 0 rfl ?_
        obtain ⟨y7, ey7⟩ : ∃ z, z = h5.2.2 2 1 := ⟨_, rfl⟩
        obtain ⟨hy7, H⟩ := H y7 ey7
        refine aw_get dX3_read_67 shC2 ckX3 flX3_21 (v := .ref (ad y7)) (by rw [ey7]; rfl) ?_
        refine aw_dup dX3_read_70 rfl ?_
        refine aw_get dX3_read_71 hy7.1 ckX6 flX3_53 (v := .int (h5.1 y7 18)) rfl ?_
        refine aw_iconst (v := 1) dX3_read_74 (by decide) ?_
        refine aw_iadd dX3_read_75 ?_
        refine aw_putI dX3_read_76 hy7.1 ckX6 flX3_53 rfl (fun _ => rfl) rfl rfl ?_
        refine aw_inc (mm := (1)) (ls' := [(3, .int (x3 + (1 : Int32))), (0, .ref (ad 2))]) dX3_read_79 (by decide) (j := 1) rfl (by decide) rfl ?_
        refine aw_goto (tgt := 33) dX3_read_82 (by decide) ?_
        exact aw_ls [1, 0] rfl H
set_option maxRecDepth 8000 in
set_option maxHeartbeats 1000000 in
theorem bX3_read_85 {l : Launch} {ad : Nat → Nat} {d : Nat} {R : Int32 → aH → Prop} (a1 n1 : Nat) (ha1 : GC.2.2.2.1[a1]? = some (.inr (.int, n1)))   (h : aH)
    (H : (¬ (h.1 2 3) = 0 → (R (0 : Int32) h)) ∧ ((h.1 2 3) = 0 → (R (1 : Int32) h))) : AW GC l ad (d + 1) mX3_read 85 [(0, .ref (ad 2))] [] h (qi R) := by
  refine aw_aload_n dX3_read_85 rfl 0 rfl ?_
  refine aw_get dX3_read_86 shC2 ckX3 flX3_39 (v := .int (h.1 2 3)) rfl ?_
  refine aw_if_ne (tgt := 96) dX3_read_89 (by decide) (fun hc1 => ?_) (fun hc1 => ?_)
  · replace H := H.1 hc1
    refine aw_iconst (v := 0) dX3_read_96 (by decide) ?_
    exact aw_zret dX3_read_97 rfl (by decide) ⟨_, rfl, H⟩
  · replace H := H.2 hc1
    refine aw_iconst (v := 1) dX3_read_92 (by decide) ?_
    refine aw_goto (tgt := 97) dX3_read_93 (by decide) ?_
    exact aw_zret dX3_read_97 rfl (by decide) ⟨_, rfl, H⟩
set_option maxRecDepth 8000 in
set_option maxHeartbeats 1000000 in
theorem bX3_kind_0 {l : Launch} {ad : Nat → Nat} {d : Nat} {R : Int32 → aH → Prop}     (h : aH)
    (H : ((h.1 2 2) < 0 → (R (36 : Int32) h)) ∧ (¬ (h.1 2 2) < 0 → (((701 : Int32) ≤ (h.1 2 2) → (R (36 : Int32) h)) ∧ (¬ (701 : Int32) ≤ (h.1 2 2) → (vp_in (h.1 2 2) 701 ∧ (R (h.1 4 (h.1 2 2).toNatClampNeg) h)))))) : AW GC l ad d mX3_kind 0 [(0, .ref (ad 2))] [] h (qi R) := by
  refine aw_aload_n dX3_kind_0 rfl 0 rfl ?_
  refine aw_get dX3_kind_1 shC2 ckX3 flX3_36 (v := .int (h.1 2 2)) rfl ?_
  refine aw_if_lt (tgt := 32) dX3_kind_4 (by decide) (fun hc3 => ?_) (fun hc3 => ?_)
  · replace H := H.1 hc3
    refine aw_bipush (v := 36) dX3_kind_32 (by decide) ?_
    exact aw_iret dX3_kind_34 rfl ⟨_, rfl, H⟩
  · replace H := H.2 hc3
    refine aw_aload_n dX3_kind_7 rfl 0 rfl ?_
    refine aw_get dX3_kind_8 shC2 ckX3 flX3_36 (v := .int (h.1 2 2)) rfl ?_
    refine aw_sipush (v := 701) dX3_kind_11 (by decide) ?_
    refine aw_icmp_ge (tgt := 32) dX3_kind_14 (by decide) (fun hc2 => ?_) (fun hc2 => ?_)
    · replace H := H.1 hc2
      refine aw_bipush (v := 36) dX3_kind_32 (by decide) ?_
      exact aw_iret dX3_kind_34 rfl ⟨_, rfl, H⟩
    · replace H := H.2 hc2
      refine aw_aload_n dX3_kind_17 rfl 0 rfl ?_
      refine aw_get dX3_kind_18 shC2 ckX3 flX3_12 (v := .ref (ad 3)) rfl ?_
      refine aw_get dX3_kind_21 shC3 ckX7 flX3_56 (v := .ref (ad 4)) rfl ?_
      refine aw_aload_n dX3_kind_24 rfl 0 rfl ?_
      refine aw_get dX3_kind_25 shC2 ckX3 flX3_36 (v := .int (h.1 2 2)) rfl ?_
      obtain ⟨hi1, H⟩ := H
      refine aw_ialdK (t0 := 0) (j := (h.1 2 2).toNatClampNeg) dX3_kind_28 shC4 rfl rfl hi1 ?_
      refine aw_goto (tgt := 34) dX3_kind_29 (by decide) ?_
      exact aw_iret dX3_kind_34 rfl ⟨_, rfl, H⟩
set_option maxRecDepth 8000 in
set_option maxHeartbeats 1000000 in
theorem bX3_value_0 {l : Launch} {ad : Nat → Nat} {d : Nat} {R : Int32 → aH → Prop}     (h : aH)
    (H : ((h.1 2 2) < 0 → (R (0 : Int32) h)) ∧ (¬ (h.1 2 2) < 0 → (((701 : Int32) ≤ (h.1 2 2) → (R (0 : Int32) h)) ∧ (¬ (701 : Int32) ≤ (h.1 2 2) → (vp_in (h.1 2 2) 701 ∧ (R (h.1 6 (h.1 2 2).toNatClampNeg) h)))))) : AW GC l ad d mX3_value 0 [(0, .ref (ad 2))] [] h (qi R) := by
  refine aw_aload_n dX3_value_0 rfl 0 rfl ?_
  refine aw_get dX3_value_1 shC2 ckX3 flX3_36 (v := .int (h.1 2 2)) rfl ?_
  refine aw_if_lt (tgt := 32) dX3_value_4 (by decide) (fun hc3 => ?_) (fun hc3 => ?_)
  · replace H := H.1 hc3
    refine aw_iconst (v := 0) dX3_value_32 (by decide) ?_
    exact aw_iret dX3_value_33 rfl ⟨_, rfl, H⟩
  · replace H := H.2 hc3
    refine aw_aload_n dX3_value_7 rfl 0 rfl ?_
    refine aw_get dX3_value_8 shC2 ckX3 flX3_36 (v := .int (h.1 2 2)) rfl ?_
    refine aw_sipush (v := 701) dX3_value_11 (by decide) ?_
    refine aw_icmp_ge (tgt := 32) dX3_value_14 (by decide) (fun hc2 => ?_) (fun hc2 => ?_)
    · replace H := H.1 hc2
      refine aw_iconst (v := 0) dX3_value_32 (by decide) ?_
      exact aw_iret dX3_value_33 rfl ⟨_, rfl, H⟩
    · replace H := H.2 hc2
      refine aw_aload_n dX3_value_17 rfl 0 rfl ?_
      refine aw_get dX3_value_18 shC2 ckX3 flX3_12 (v := .ref (ad 3)) rfl ?_
      refine aw_get dX3_value_21 shC3 ckX7 flX3_60 (v := .ref (ad 6)) rfl ?_
      refine aw_aload_n dX3_value_24 rfl 0 rfl ?_
      refine aw_get dX3_value_25 shC2 ckX3 flX3_36 (v := .int (h.1 2 2)) rfl ?_
      obtain ⟨hi1, H⟩ := H
      refine aw_ialdK (t0 := 0) (j := (h.1 2 2).toNatClampNeg) dX3_value_28 shC6 rfl rfl hi1 ?_
      refine aw_goto (tgt := 33) dX3_value_29 (by decide) ?_
      exact aw_iret dX3_value_33 rfl ⟨_, rfl, H⟩
set_option maxRecDepth 8000 in
set_option maxHeartbeats 1000000 in
theorem bX3_step_0 {l : Launch} {ad : Nat → Nat} {d : Nat} {R : aH → Prop}     (h : aH)
    (H : ((h.1 3 3) ≤ ((h.1 2 2) + (1 : Int32)) → (R h)) ∧ (¬ (h.1 3 3) ≤ ((h.1 2 2) + (1 : Int32)) → (R (sI h 2 2 ((h.1 2 2) + (1 : Int32)))))) : AW GC l ad d mX3_step 0 [(0, .ref (ad 2))] [] h (qv R) := by
  refine aw_aload_n dX3_step_0 rfl 0 rfl ?_
  refine aw_get dX3_step_1 shC2 ckX3 flX3_36 (v := .int (h.1 2 2)) rfl ?_
  refine aw_iconst (v := 1) dX3_step_4 (by decide) ?_
  refine aw_iadd dX3_step_5 ?_
  refine aw_aload_n dX3_step_6 rfl 0 rfl ?_
  refine aw_get dX3_step_7 shC2 ckX3 flX3_12 (v := .ref (ad 3)) rfl ?_
  refine aw_get dX3_step_10 shC3 ckX7 flX3_63 (v := .int (h.1 3 3)) rfl ?_
  refine aw_icmp_ge (tgt := 26) dX3_step_13 (by decide) (fun hc1 => ?_) (fun hc1 => ?_)
  · replace H := H.1 hc1
    exact aw_vret dX3_step_26 rfl ⟨rfl, H⟩
  · replace H := H.2 hc1
    refine aw_aload_n dX3_step_16 rfl 0 rfl ?_
    refine aw_dup dX3_step_17 rfl ?_
    refine aw_get dX3_step_18 shC2 ckX3 flX3_36 (v := .int (h.1 2 2)) rfl ?_
    refine aw_iconst (v := 1) dX3_step_21 (by decide) ?_
    refine aw_iadd dX3_step_22 ?_
    refine aw_putI dX3_step_23 shC2 ckX3 flX3_36 rfl (fun _ => rfl) rfl rfl ?_
    exact aw_vret dX3_step_26 rfl ⟨rfl, H⟩
set_option maxRecDepth 8000 in
set_option maxHeartbeats 1000000 in
theorem bX3_refuse_0 {l : Launch} {ad : Nat → Nat} {d : Nat} {R : aH → Prop}   (x1 : Int32)  (h : aH)
    (H : (¬ (h.1 2 3) = 0 → (R h)) ∧ ((h.1 2 3) = 0 → (((h.1 2 2) < 0 → (R h)) ∧ (¬ (h.1 2 2) < 0 → (((701 : Int32) ≤ (h.1 2 2) → (R h)) ∧ (¬ (701 : Int32) ≤ (h.1 2 2) → (vp_in ((sI h 2 3 x1).1 2 2) 701 ∧ (R (sI (sI h 2 3 x1) 2 4 ((sI h 2 3 x1).1 5 ((sI h 2 3 x1).1 2 2).toNatClampNeg)))))))))) : AW GC l ad d mX3_refuse 0 [(0, .ref (ad 2)), (1, .int x1)] [] h (qv R) := by
  refine aw_aload_n dX3_refuse_0 rfl 0 rfl ?_
  refine aw_get dX3_refuse_1 shC2 ckX3 flX3_39 (v := .int (h.1 2 3)) rfl ?_
  refine aw_if_ne (tgt := 45) dX3_refuse_4 (by decide) (fun hc4 => ?_) (fun hc4 => ?_)
  · replace H := H.1 hc4
    exact aw_vret dX3_refuse_45 rfl ⟨rfl, H⟩
  · replace H := H.2 hc4
    refine aw_aload_n dX3_refuse_7 rfl 0 rfl ?_
    refine aw_get dX3_refuse_8 shC2 ckX3 flX3_36 (v := .int (h.1 2 2)) rfl ?_
    refine aw_if_lt (tgt := 45) dX3_refuse_11 (by decide) (fun hc3 => ?_) (fun hc3 => ?_)
    · replace H := H.1 hc3
      exact aw_vret dX3_refuse_45 rfl ⟨rfl, H⟩
    · replace H := H.2 hc3
      refine aw_aload_n dX3_refuse_14 rfl 0 rfl ?_
      refine aw_get dX3_refuse_15 shC2 ckX3 flX3_36 (v := .int (h.1 2 2)) rfl ?_
      refine aw_sipush (v := 701) dX3_refuse_18 (by decide) ?_
      refine aw_icmp_ge (tgt := 45) dX3_refuse_21 (by decide) (fun hc2 => ?_) (fun hc2 => ?_)
      · replace H := H.1 hc2
        exact aw_vret dX3_refuse_45 rfl ⟨rfl, H⟩
      · replace H := H.2 hc2
        refine aw_aload_n dX3_refuse_24 rfl 0 rfl ?_
        refine aw_iload_n dX3_refuse_25 rfl 1 rfl ?_
        refine aw_putI dX3_refuse_26 shC2 ckX3 flX3_39 rfl (fun _ => rfl) rfl rfl ?_
        refine aw_aload_n dX3_refuse_29 rfl 0 rfl ?_
        refine aw_aload_n dX3_refuse_30 rfl 0 rfl ?_
        refine aw_get dX3_refuse_31 shC2 ckX3 flX3_12 (v := .ref (ad 3)) rfl ?_
        refine aw_get dX3_refuse_34 shC3 ckX7 flX3_66 (v := .ref (ad 5)) rfl ?_
        refine aw_aload_n dX3_refuse_37 rfl 0 rfl ?_
        refine aw_get dX3_refuse_38 shC2 ckX3 flX3_36 (v := .int ((sI h 2 3 x1).1 2 2)) rfl ?_
        obtain ⟨hi1, H⟩ := H
        refine aw_ialdK (t0 := 0) (j := ((sI h 2 3 x1).1 2 2).toNatClampNeg) dX3_refuse_41 shC5 rfl rfl hi1 ?_
        refine aw_putI dX3_refuse_42 shC2 ckX3 flX3_25 rfl (fun _ => rfl) rfl rfl ?_
        exact aw_vret dX3_refuse_45 rfl ⟨rfl, H⟩
set_option maxRecDepth 8000 in
set_option maxHeartbeats 1000000 in
theorem bX3_take_0 {l : Launch} {ad : Nat → Nat} {d : Nat} {R : aH → Prop}   (x1 : Int32)  (h : aH)
    (H : ((h.1 2 3) = 0 → (AW GC l ad d mX3_kind 0 [(0, .ref (ad 2))] [] h (qi fun z2 h1 => (¬ z2 = x1 → (AW GC l ad d mX3_refuse 0 [(0, .ref (ad 2)), (1, .int (1 : Int32))] [] h1 (qv fun h3 => R h3))) ∧ (z2 = x1 → (AW GC l ad d mX3_step 0 [(0, .ref (ad 2))] [] h1 (qv fun h5 => R h5)))))) ∧ (¬ (h.1 2 3) = 0 → (R h))) : AW GC l ad (d + 1) mX3_take 0 [(0, .ref (ad 2)), (1, .int x1)] [] h (qv R) := by
  refine aw_aload_n dX3_take_0 rfl 0 rfl ?_
  refine aw_get dX3_take_1 shC2 ckX3 flX3_39 (v := .int (h.1 2 3)) rfl ?_
  refine aw_if_eq (tgt := 8) dX3_take_4 (by decide) (fun hc8 => ?_) (fun hc8 => ?_)
  · replace H := H.1 hc8
    refine aw_aload_n dX3_take_8 rfl 0 rfl ?_
    refine cvX3_kind dX3_take_9 mlX3_42 shC2 (Nat.le_of_ble_eq_true rfl) H (fun z2 h1 H => ?_)
    refine aw_iload_n dX3_take_12 rfl 1 rfl ?_
    refine aw_icmp_ne (tgt := 23) dX3_take_13 (by decide) (fun hc7 => ?_) (fun hc7 => ?_)
    · replace H := H.1 hc7
      refine aw_aload_n dX3_take_23 rfl 0 rfl ?_
      refine aw_iconst (v := 1) dX3_take_24 (by decide) ?_
      refine cvX3_refuse dX3_take_25 mlX3_72 shC2 (Nat.le_of_ble_eq_true rfl) H (fun h3 H => ?_)
      exact aw_vret dX3_take_28 rfl ⟨rfl, H⟩
    · replace H := H.2 hc7
      refine aw_aload_n dX3_take_16 rfl 0 rfl ?_
      refine cvX3_step dX3_take_17 mlX3_69 shC2 (Nat.le_of_ble_eq_true rfl) H (fun h5 H => ?_)
      refine aw_goto (tgt := 28) dX3_take_20 (by decide) ?_
      exact aw_vret dX3_take_28 rfl ⟨rfl, H⟩
  · replace H := H.2 hc8
    exact aw_vret dX3_take_7 rfl ⟨rfl, H⟩
set_option maxRecDepth 8000 in
set_option maxHeartbeats 1000000 in
theorem bX3_readLine_0 {l : Launch} {ad : Nat → Nat} {d : Nat} {R : aH → Prop}     (h : aH)
    (H : AW GC l ad d mX3_kind 0 [(0, .ref (ad 2))] [] h (qi fun z2 h1 => (z2 = (0 : Int32) → (AW GC l ad d mX3_readMan 0 [(0, .ref (ad 2))] [] h1 (qv fun h4 => R h4))) ∧ ((z2 = (1 : Int32) → (AW GC l ad d mX3_readTusk 0 [(0, .ref (ad 2))] [] h1 (qv fun h6 => R h6))) ∧ ((z2 = (2 : Int32) → (AW GC l ad d mX3_readDebt 0 [(0, .ref (ad 2))] [] h1 (qv fun h8 => R h8))) ∧ ((z2 = (3 : Int32) → (AW GC l ad d mX3_readLeaning 0 [(0, .ref (ad 2))] [] h1 (qv fun h10 => R h10))) ∧ ((z2 = (4 : Int32) → (AW GC l ad d mX3_readDeath 0 [(0, .ref (ad 2))] [] h1 (qv fun h12 => R h12))) ∧ ((z2 = (5 : Int32) → (AW GC l ad d mX3_readRate 0 [(0, .ref (ad 2))] [] h1 (qv fun h14 => R h14))) ∧ ((z2 = (6 : Int32) → (AW GC l ad d mX3_readSeed 0 [(0, .ref (ad 2))] [] h1 (qv fun h16 => R h16))) ∧ ((z2 = (7 : Int32) → (AW GC l ad d mX3_readLaw 0 [(0, .ref (ad 2))] [] h1 (qv fun h18 => R h18))) ∧ (¬ z2 = (0 : Int32) → ¬ z2 = (1 : Int32) → ¬ z2 = (2 : Int32) → ¬ z2 = (3 : Int32) → ¬ z2 = (4 : Int32) → ¬ z2 = (5 : Int32) → ¬ z2 = (6 : Int32) → ¬ z2 = (7 : Int32) → (AW GC l ad d mX3_refuse 0 [(0, .ref (ad 2)), (1, .int (1 : Int32))] [] h1 (qv fun h20 => R h20)))))))))))) : AW GC l ad (d + 1) mX3_readLine 0 [(0, .ref (ad 2))] [] h (qv R) := by
  refine aw_aload_n dX3_readLine_0 rfl 0 rfl ?_
  refine cvX3_kind dX3_readLine_1 mlX3_42 shC2 (Nat.le_of_ble_eq_true rfl) H (fun z2 h1 H => ?_)
  by_cases hx3_0 : z2 = (0 : Int32)
  · replace H := H.1 hx3_0
    refine aw_tableIn (off := 48) (tgt := 52) dX3_readLine_4 (by rw [hx3_0]; decide) (by rw [hx3_0]; decide) (by rw [hx3_0]; decide) (by decide) ?_
    refine aw_aload_n dX3_readLine_52 rfl 0 rfl ?_
    refine cvX3_readMan dX3_readLine_53 mlX3_75 shC2 (Nat.le_of_ble_eq_true rfl) H (fun h4 H => ?_)
    refine aw_goto (tgt := 113) dX3_readLine_56 (by decide) ?_
    exact aw_vret dX3_readLine_113 rfl ⟨rfl, H⟩
  by_cases hx3_1 : z2 = (1 : Int32)
  · replace H := H.2.1 hx3_1
    refine aw_tableIn (off := 55) (tgt := 59) dX3_readLine_4 (by rw [hx3_1]; decide) (by rw [hx3_1]; decide) (by rw [hx3_1]; decide) (by decide) ?_
    refine aw_aload_n dX3_readLine_59 rfl 0 rfl ?_
    refine cvX3_readTusk dX3_readLine_60 mlX3_78 shC2 (Nat.le_of_ble_eq_true rfl) H (fun h6 H => ?_)
    refine aw_goto (tgt := 113) dX3_readLine_63 (by decide) ?_
    exact aw_vret dX3_readLine_113 rfl ⟨rfl, H⟩
  by_cases hx3_2 : z2 = (2 : Int32)
  · replace H := H.2.2.1 hx3_2
    refine aw_tableIn (off := 62) (tgt := 66) dX3_readLine_4 (by rw [hx3_2]; decide) (by rw [hx3_2]; decide) (by rw [hx3_2]; decide) (by decide) ?_
    refine aw_aload_n dX3_readLine_66 rfl 0 rfl ?_
    refine cvX3_readDebt dX3_readLine_67 mlX3_81 shC2 (Nat.le_of_ble_eq_true rfl) H (fun h8 H => ?_)
    refine aw_goto (tgt := 113) dX3_readLine_70 (by decide) ?_
    exact aw_vret dX3_readLine_113 rfl ⟨rfl, H⟩
  by_cases hx3_3 : z2 = (3 : Int32)
  · replace H := H.2.2.2.1 hx3_3
    refine aw_tableIn (off := 69) (tgt := 73) dX3_readLine_4 (by rw [hx3_3]; decide) (by rw [hx3_3]; decide) (by rw [hx3_3]; decide) (by decide) ?_
    refine aw_aload_n dX3_readLine_73 rfl 0 rfl ?_
    refine cvX3_readLeaning dX3_readLine_74 mlX3_84 shC2 (Nat.le_of_ble_eq_true rfl) H (fun h10 H => ?_)
    refine aw_goto (tgt := 113) dX3_readLine_77 (by decide) ?_
    exact aw_vret dX3_readLine_113 rfl ⟨rfl, H⟩
  by_cases hx3_4 : z2 = (4 : Int32)
  · replace H := H.2.2.2.2.1 hx3_4
    refine aw_tableIn (off := 76) (tgt := 80) dX3_readLine_4 (by rw [hx3_4]; decide) (by rw [hx3_4]; decide) (by rw [hx3_4]; decide) (by decide) ?_
    refine aw_aload_n dX3_readLine_80 rfl 0 rfl ?_
    refine cvX3_readDeath dX3_readLine_81 mlX3_87 shC2 (Nat.le_of_ble_eq_true rfl) H (fun h12 H => ?_)
    refine aw_goto (tgt := 113) dX3_readLine_84 (by decide) ?_
    exact aw_vret dX3_readLine_113 rfl ⟨rfl, H⟩
  by_cases hx3_5 : z2 = (5 : Int32)
  · replace H := H.2.2.2.2.2.1 hx3_5
    refine aw_tableIn (off := 83) (tgt := 87) dX3_readLine_4 (by rw [hx3_5]; decide) (by rw [hx3_5]; decide) (by rw [hx3_5]; decide) (by decide) ?_
    refine aw_aload_n dX3_readLine_87 rfl 0 rfl ?_
    refine cvX3_readRate dX3_readLine_88 mlX3_90 shC2 (Nat.le_of_ble_eq_true rfl) H (fun h14 H => ?_)
    refine aw_goto (tgt := 113) dX3_readLine_91 (by decide) ?_
    exact aw_vret dX3_readLine_113 rfl ⟨rfl, H⟩
  by_cases hx3_6 : z2 = (6 : Int32)
  · replace H := H.2.2.2.2.2.2.1 hx3_6
    refine aw_tableIn (off := 90) (tgt := 94) dX3_readLine_4 (by rw [hx3_6]; decide) (by rw [hx3_6]; decide) (by rw [hx3_6]; decide) (by decide) ?_
    refine aw_aload_n dX3_readLine_94 rfl 0 rfl ?_
    refine cvX3_readSeed dX3_readLine_95 mlX3_93 shC2 (Nat.le_of_ble_eq_true rfl) H (fun h16 H => ?_)
    refine aw_goto (tgt := 113) dX3_readLine_98 (by decide) ?_
    exact aw_vret dX3_readLine_113 rfl ⟨rfl, H⟩
  by_cases hx3_7 : z2 = (7 : Int32)
  · replace H := H.2.2.2.2.2.2.2.1 hx3_7
    refine aw_tableIn (off := 97) (tgt := 101) dX3_readLine_4 (by rw [hx3_7]; decide) (by rw [hx3_7]; decide) (by rw [hx3_7]; decide) (by decide) ?_
    refine aw_aload_n dX3_readLine_101 rfl 0 rfl ?_
    refine cvX3_readLaw dX3_readLine_102 mlX3_96 shC2 (Nat.le_of_ble_eq_true rfl) H (fun h18 H => ?_)
    refine aw_goto (tgt := 113) dX3_readLine_105 (by decide) ?_
    exact aw_vret dX3_readLine_113 rfl ⟨rfl, H⟩
  replace H := H.2.2.2.2.2.2.2.2 hx3_0 hx3_1 hx3_2 hx3_3 hx3_4 hx3_5 hx3_6 hx3_7
  have hx3_0e := tab_ne hx3_0 (a := 0) (by decide)
  have hx3_1e := tab_ne hx3_1 (a := 1) (by decide)
  have hx3_2e := tab_ne hx3_2 (a := 2) (by decide)
  have hx3_3e := tab_ne hx3_3 (a := 3) (by decide)
  have hx3_4e := tab_ne hx3_4 (a := 4) (by decide)
  have hx3_5e := tab_ne hx3_5 (a := 5) (by decide)
  have hx3_6e := tab_ne hx3_6 (a := 6) (by decide)
  have hx3_7e := tab_ne hx3_7 (a := 7) (by decide)
  refine aw_tableOut (tgt := 108) dX3_readLine_4 (by omega) (by decide) ?_
  refine aw_aload_n dX3_readLine_108 rfl 0 rfl ?_
  refine aw_iconst (v := 1) dX3_readLine_109 (by decide) ?_
  refine cvX3_refuse dX3_readLine_110 mlX3_72 shC2 (Nat.le_of_ble_eq_true rfl) H (fun h20 H => ?_)
  exact aw_vret dX3_readLine_113 rfl ⟨rfl, H⟩
set_option maxRecDepth 8000 in
set_option maxHeartbeats 1000000 in
theorem bX3_takeLineWord_0 {l : Launch} {ad : Nat → Nat} {d : Nat} {R : aH → Prop}   (x1 : Int32) (x2 : Int32)  (h : aH)
    (H : (x1 = 0 → (AW GC l ad d mX3_refuse 0 [(0, .ref (ad 2)), (1, .int x2)] [] h (qv fun h1 => R h1))) ∧ (¬ x1 = 0 → (AW GC l ad d mX3_step 0 [(0, .ref (ad 2))] [] h (qv fun h3 => R h3)))) : AW GC l ad (d + 1) mX3_takeLineWord 0 [(0, .ref (ad 2)), (1, .int x1), (2, .int x2)] [] h (qv R) := by
  refine aw_iload_n dX3_takeLineWord_0 rfl 1 rfl ?_
  refine aw_if_eq (tgt := 11) dX3_takeLineWord_1 (by decide) (fun hc5 => ?_) (fun hc5 => ?_)
  · replace H := H.1 hc5
    refine aw_aload_n dX3_takeLineWord_11 rfl 0 rfl ?_
    refine aw_iload_n dX3_takeLineWord_12 rfl 2 rfl ?_
    refine cvX3_refuse dX3_takeLineWord_13 mlX3_72 shC2 (Nat.le_of_ble_eq_true rfl) H (fun h1 H => ?_)
    exact aw_vret dX3_takeLineWord_16 rfl ⟨rfl, H⟩
  · replace H := H.2 hc5
    refine aw_aload_n dX3_takeLineWord_4 rfl 0 rfl ?_
    refine cvX3_step dX3_takeLineWord_5 mlX3_69 shC2 (Nat.le_of_ble_eq_true rfl) H (fun h3 H => ?_)
    refine aw_goto (tgt := 16) dX3_takeLineWord_8 (by decide) ?_
    exact aw_vret dX3_takeLineWord_16 rfl ⟨rfl, H⟩
set_option maxRecDepth 8000 in
set_option maxHeartbeats 1000000 in
theorem bX3_readMan_0 {l : Launch} {ad : Nat → Nat} {d : Nat} {R : aH → Prop}     (h : aH)
    (H : ∀ y1 : Nat, y1 = h.2.2 2 1 → isS GC y1 ∧ (((6 : Int32) ≤ (h.1 y1 11) → (AW GC l ad (d + 1) mX3_readMan 18 [(0, .ref (ad 2))] [.int (0 : Int32), .ref (ad 2)] h (qv R))) ∧ (¬ (6 : Int32) ≤ (h.1 y1 11) → (AW GC l ad (d + 1) mX3_readMan 18 [(0, .ref (ad 2))] [.int (1 : Int32), .ref (ad 2)] h (qv R))))) : AW GC l ad (d + 1) mX3_readMan 0 [(0, .ref (ad 2))] [] h (qv R) := by
  refine aw_aload_n dX3_readMan_0 rfl 0 rfl ?_
  refine aw_aload_n dX3_readMan_1 rfl 0 rfl ?_
  obtain ⟨y1, ey1⟩ : ∃ z, z = h.2.2 2 1 := ⟨_, rfl⟩
  obtain ⟨hy1, H⟩ := H y1 ey1
  refine aw_get dX3_readMan_2 shC2 ckX3 flX3_21 (v := .ref (ad y1)) (by rw [ey1]; rfl) ?_
  refine aw_get dX3_readMan_5 hy1.1 ckX6 flX3_99 (v := .int (h.1 y1 11)) rfl ?_
  refine aw_bipush (v := 6) dX3_readMan_8 (by decide) ?_
  refine aw_icmp_ge (tgt := 17) dX3_readMan_10 (by decide) (fun hc2 => ?_) (fun hc2 => ?_)
  · replace H := H.1 hc2
    refine aw_iconst (v := 0) dX3_readMan_17 (by decide) ?_
    exact aw_ls [0] rfl H
  · replace H := H.2 hc2
    refine aw_iconst (v := 1) dX3_readMan_13 (by decide) ?_
    refine aw_goto (tgt := 18) dX3_readMan_14 (by decide) ?_
    exact aw_ls [0] rfl H
set_option maxRecDepth 8000 in
set_option maxHeartbeats 1000000 in
theorem bX3_readMan_18 {l : Launch} {ad : Nat → Nat} {d : Nat} {R : aH → Prop}   (s0 : Int32)  (h : aH)
    (H : AW GC l ad d mX3_takeLineWord 0 [(0, .ref (ad 2)), (1, .int s0), (2, .int (2 : Int32))] [] h (qv fun h1 => ∀ y3 : Nat, y3 = h1.2.2 2 1 → isS GC y3 ∧ (AW GC l ad d mX3_takeNewName 0 [(0, .ref (ad 2)), (1, .ref (ad (y3 + 1))), (2, .int (h1.1 y3 11))] [] h1 (qi fun z5 h4 => AW GC l ad d mX3_takeNumber 0 [(0, .ref (ad 2)), (1, .int (0 : Int32)), (2, .int (999 : Int32))] [] h4 (qi fun z7 h6 => (¬ (h6.1 2 3) = 0 → (R h6)) ∧ ((h6.1 2 3) = 0 → (∀ y8 : Nat, y8 = h6.2.2 2 1 → isS GC y8 ∧ (AW GC l ad d mX6_addMan 0 [(0, .ref (ad y8)), (1, .int z5), (2, .int z7)] [] h6 (qv fun h9 => R h9))))))))) : AW GC l ad (d + 1) mX3_readMan 18 [(0, .ref (ad 2))] [.int s0, .ref (ad 2)] h (qv R) := by
  refine aw_iconst (v := 2) dX3_readMan_18 (by decide) ?_
  refine cvX3_takeLineWord dX3_readMan_19 mlX3_102 shC2 (Nat.le_of_ble_eq_true rfl) H (fun h1 H => ?_)
  refine aw_aload_n dX3_readMan_22 rfl 0 rfl ?_
  refine aw_aload_n dX3_readMan_23 rfl 0 rfl ?_
  obtain ⟨y3, ey3⟩ : ∃ z, z = h1.2.2 2 1 := ⟨_, rfl⟩
  obtain ⟨hy3, H⟩ := H y3 ey3
  refine aw_get dX3_readMan_24 shC2 ckX3 flX3_21 (v := .ref (ad y3)) (by rw [ey3]; rfl) ?_
  refine aw_get dX3_readMan_27 hy3.1 ckX6 flX3_106 (v := .ref (ad (y3 + 1))) rfl ?_
  refine aw_aload_n dX3_readMan_30 rfl 0 rfl ?_
  refine aw_get dX3_readMan_31 shC2 ckX3 flX3_21 (v := .ref (ad y3)) (by rw [ey3]; rfl) ?_
  refine aw_get dX3_readMan_34 hy3.1 ckX6 flX3_99 (v := .int (h1.1 y3 11)) rfl ?_
  refine cvX3_takeNewName dX3_readMan_37 mlX3_109 shC2 (Nat.le_of_ble_eq_true rfl) H (fun z5 h4 H => ?_)
  refine aw_istore_n (ls' := [(1, .int z5), (0, .ref (ad 2))]) dX3_readMan_40 rfl (by decide) rfl ?_
  refine aw_aload_n dX3_readMan_41 rfl 1 rfl ?_
  refine aw_iconst (v := 0) dX3_readMan_42 (by decide) ?_
  refine aw_sipush (v := 999) dX3_readMan_43 (by decide) ?_
  refine cvX3_takeNumber dX3_readMan_46 mlX3_113 shC2 (Nat.le_of_ble_eq_true rfl) H (fun z7 h6 H => ?_)
  refine aw_istore_n (ls' := [(2, .int z7), (1, .int z5), (0, .ref (ad 2))]) dX3_readMan_49 rfl (by decide) rfl ?_
  refine aw_aload_n dX3_readMan_50 rfl 2 rfl ?_
  refine aw_get dX3_readMan_51 shC2 ckX3 flX3_39 (v := .int (h6.1 2 3)) rfl ?_
  refine aw_if_ne (tgt := 66) dX3_readMan_54 (by decide) (fun hc11 => ?_) (fun hc11 => ?_)
  · replace H := H.1 hc11
    exact aw_vret dX3_readMan_66 rfl ⟨rfl, H⟩
  · replace H := H.2 hc11
    refine aw_aload_n dX3_readMan_57 rfl 2 rfl ?_
    obtain ⟨y8, ey8⟩ : ∃ z, z = h6.2.2 2 1 := ⟨_, rfl⟩
    obtain ⟨hy8, H⟩ := H y8 ey8
    refine aw_get dX3_readMan_58 shC2 ckX3 flX3_21 (v := .ref (ad y8)) (by rw [ey8]; rfl) ?_
    refine aw_iload_n dX3_readMan_61 rfl 1 rfl ?_
    refine aw_iload_n dX3_readMan_62 rfl 0 rfl ?_
    refine cvX6_addMan dX3_readMan_63 mlX3_117 hy8.1 (Nat.le_of_ble_eq_true rfl) H (fun h9 H => ?_)
    exact aw_vret dX3_readMan_66 rfl ⟨rfl, H⟩
set_option maxRecDepth 8000 in
set_option maxHeartbeats 1000000 in
theorem bX3_readTusk_0 {l : Launch} {ad : Nat → Nat} {d : Nat} {R : aH → Prop}     (h : aH)
    (H : ∀ y1 : Nat, y1 = h.2.2 2 1 → isS GC y1 ∧ (((6 : Int32) ≤ (h.1 y1 12) → (AW GC l ad (d + 1) mX3_readTusk 18 [(0, .ref (ad 2))] [.int (0 : Int32), .ref (ad 2)] h (qv R))) ∧ (¬ (6 : Int32) ≤ (h.1 y1 12) → (AW GC l ad (d + 1) mX3_readTusk 18 [(0, .ref (ad 2))] [.int (1 : Int32), .ref (ad 2)] h (qv R))))) : AW GC l ad (d + 1) mX3_readTusk 0 [(0, .ref (ad 2))] [] h (qv R) := by
  refine aw_aload_n dX3_readTusk_0 rfl 0 rfl ?_
  refine aw_aload_n dX3_readTusk_1 rfl 0 rfl ?_
  obtain ⟨y1, ey1⟩ : ∃ z, z = h.2.2 2 1 := ⟨_, rfl⟩
  obtain ⟨hy1, H⟩ := H y1 ey1
  refine aw_get dX3_readTusk_2 shC2 ckX3 flX3_21 (v := .ref (ad y1)) (by rw [ey1]; rfl) ?_
  refine aw_get dX3_readTusk_5 hy1.1 ckX6 flX3_121 (v := .int (h.1 y1 12)) rfl ?_
  refine aw_bipush (v := 6) dX3_readTusk_8 (by decide) ?_
  refine aw_icmp_ge (tgt := 17) dX3_readTusk_10 (by decide) (fun hc2 => ?_) (fun hc2 => ?_)
  · replace H := H.1 hc2
    refine aw_iconst (v := 0) dX3_readTusk_17 (by decide) ?_
    exact aw_ls [0] rfl H
  · replace H := H.2 hc2
    refine aw_iconst (v := 1) dX3_readTusk_13 (by decide) ?_
    refine aw_goto (tgt := 18) dX3_readTusk_14 (by decide) ?_
    exact aw_ls [0] rfl H
set_option maxRecDepth 8000 in
set_option maxHeartbeats 1000000 in
theorem bX3_readTusk_18 {l : Launch} {ad : Nat → Nat} {d : Nat} {R : aH → Prop}   (s0 : Int32)  (h : aH)
    (H : AW GC l ad d mX3_takeLineWord 0 [(0, .ref (ad 2)), (1, .int s0), (2, .int (2 : Int32))] [] h (qv fun h1 => ∀ y3 : Nat, y3 = h1.2.2 2 1 → isS GC y3 ∧ (AW GC l ad d mX3_takeNewName 0 [(0, .ref (ad 2)), (1, .ref (ad (y3 + 2))), (2, .int (h1.1 y3 12))] [] h1 (qi fun z5 h4 => AW GC l ad d mX3_takeNumber 0 [(0, .ref (ad 2)), (1, .int (0 : Int32)), (2, .int (99 : Int32))] [] h4 (qi fun z7 h6 => AW GC l ad d mX3_takeNumber 0 [(0, .ref (ad 2)), (1, .int (0 : Int32)), (2, .int (9 : Int32))] [] h6 (qi fun z9 h8 => (¬ (h8.1 2 3) = 0 → (R h8)) ∧ ((h8.1 2 3) = 0 → (∀ y10 : Nat, y10 = h8.2.2 2 1 → isS GC y10 ∧ (AW GC l ad d mX6_addTusk 0 [(0, .ref (ad y10)), (1, .int z5), (2, .int z7), (3, .int z9)] [] h8 (qv fun h11 => R h11)))))))))) : AW GC l ad (d + 1) mX3_readTusk 18 [(0, .ref (ad 2))] [.int s0, .ref (ad 2)] h (qv R) := by
  refine aw_iconst (v := 2) dX3_readTusk_18 (by decide) ?_
  refine cvX3_takeLineWord dX3_readTusk_19 mlX3_102 shC2 (Nat.le_of_ble_eq_true rfl) H (fun h1 H => ?_)
  refine aw_aload_n dX3_readTusk_22 rfl 0 rfl ?_
  refine aw_aload_n dX3_readTusk_23 rfl 0 rfl ?_
  obtain ⟨y3, ey3⟩ : ∃ z, z = h1.2.2 2 1 := ⟨_, rfl⟩
  obtain ⟨hy3, H⟩ := H y3 ey3
  refine aw_get dX3_readTusk_24 shC2 ckX3 flX3_21 (v := .ref (ad y3)) (by rw [ey3]; rfl) ?_
  refine aw_get dX3_readTusk_27 hy3.1 ckX6 flX3_124 (v := .ref (ad (y3 + 2))) rfl ?_
  refine aw_aload_n dX3_readTusk_30 rfl 0 rfl ?_
  refine aw_get dX3_readTusk_31 shC2 ckX3 flX3_21 (v := .ref (ad y3)) (by rw [ey3]; rfl) ?_
  refine aw_get dX3_readTusk_34 hy3.1 ckX6 flX3_121 (v := .int (h1.1 y3 12)) rfl ?_
  refine cvX3_takeNewName dX3_readTusk_37 mlX3_109 shC2 (Nat.le_of_ble_eq_true rfl) H (fun z5 h4 H => ?_)
  refine aw_istore_n (ls' := [(1, .int z5), (0, .ref (ad 2))]) dX3_readTusk_40 rfl (by decide) rfl ?_
  refine aw_aload_n dX3_readTusk_41 rfl 1 rfl ?_
  refine aw_iconst (v := 0) dX3_readTusk_42 (by decide) ?_
  refine aw_bipush (v := 99) dX3_readTusk_43 (by decide) ?_
  refine cvX3_takeNumber dX3_readTusk_45 mlX3_113 shC2 (Nat.le_of_ble_eq_true rfl) H (fun z7 h6 H => ?_)
  refine aw_istore_n (ls' := [(2, .int z7), (1, .int z5), (0, .ref (ad 2))]) dX3_readTusk_48 rfl (by decide) rfl ?_
  refine aw_aload_n dX3_readTusk_49 rfl 2 rfl ?_
  refine aw_iconst (v := 0) dX3_readTusk_50 (by decide) ?_
  refine aw_bipush (v := 9) dX3_readTusk_51 (by decide) ?_
  refine cvX3_takeNumber dX3_readTusk_53 mlX3_113 shC2 (Nat.le_of_ble_eq_true rfl) H (fun z9 h8 H => ?_)
  refine aw_istore_n (ls' := [(3, .int z9), (2, .int z7), (1, .int z5), (0, .ref (ad 2))]) dX3_readTusk_56 rfl (by decide) rfl ?_
  refine aw_aload_n dX3_readTusk_57 rfl 3 rfl ?_
  refine aw_get dX3_readTusk_58 shC2 ckX3 flX3_39 (v := .int (h8.1 2 3)) rfl ?_
  refine aw_if_ne (tgt := 74) dX3_readTusk_61 (by decide) (fun hc13 => ?_) (fun hc13 => ?_)
  · replace H := H.1 hc13
    exact aw_vret dX3_readTusk_74 rfl ⟨rfl, H⟩
  · replace H := H.2 hc13
    refine aw_aload_n dX3_readTusk_64 rfl 3 rfl ?_
    obtain ⟨y10, ey10⟩ : ∃ z, z = h8.2.2 2 1 := ⟨_, rfl⟩
    obtain ⟨hy10, H⟩ := H y10 ey10
    refine aw_get dX3_readTusk_65 shC2 ckX3 flX3_21 (v := .ref (ad y10)) (by rw [ey10]; rfl) ?_
    refine aw_iload_n dX3_readTusk_68 rfl 2 rfl ?_
    refine aw_iload_n dX3_readTusk_69 rfl 1 rfl ?_
    refine aw_iload_n dX3_readTusk_70 rfl 0 rfl ?_
    refine cvX6_addTusk dX3_readTusk_71 mlX3_127 hy10.1 (Nat.le_of_ble_eq_true rfl) H (fun h11 H => ?_)
    exact aw_vret dX3_readTusk_74 rfl ⟨rfl, H⟩
set_option maxRecDepth 8000 in
set_option maxHeartbeats 1000000 in
theorem bX3_readDebt_0 {l : Launch} {ad : Nat → Nat} {d : Nat} {R : aH → Prop}     (h : aH)
    (H : ∀ y1 : Nat, y1 = h.2.2 2 1 → isS GC y1 ∧ (((8 : Int32) ≤ (h.1 (y1 + 17) 11) → (AW GC l ad (d + 1) mX3_readDebt 21 [(0, .ref (ad 2))] [.int (0 : Int32), .ref (ad 2)] h (qv R))) ∧ (¬ (8 : Int32) ≤ (h.1 (y1 + 17) 11) → (AW GC l ad (d + 1) mX3_readDebt 21 [(0, .ref (ad 2))] [.int (1 : Int32), .ref (ad 2)] h (qv R))))) : AW GC l ad (d + 1) mX3_readDebt 0 [(0, .ref (ad 2))] [] h (qv R) := by
  refine aw_aload_n dX3_readDebt_0 rfl 0 rfl ?_
  refine aw_aload_n dX3_readDebt_1 rfl 0 rfl ?_
  obtain ⟨y1, ey1⟩ : ∃ z, z = h.2.2 2 1 := ⟨_, rfl⟩
  obtain ⟨hy1, H⟩ := H y1 ey1
  refine aw_get dX3_readDebt_2 shC2 ckX3 flX3_21 (v := .ref (ad y1)) (by rw [ey1]; rfl) ?_
  refine aw_get dX3_readDebt_5 hy1.1 ckX6 flX3_131 (v := .ref (ad (y1 + 17))) rfl ?_
  refine aw_get dX3_readDebt_8 hy1.2.2.2.2.2.1 ckX8 flX3_135 (v := .int (h.1 (y1 + 17) 11)) rfl ?_
  refine aw_bipush (v := 8) dX3_readDebt_11 (by decide) ?_
  refine aw_icmp_ge (tgt := 20) dX3_readDebt_13 (by decide) (fun hc2 => ?_) (fun hc2 => ?_)
  · replace H := H.1 hc2
    refine aw_iconst (v := 0) dX3_readDebt_20 (by decide) ?_
    exact aw_ls [0] rfl H
  · replace H := H.2 hc2
    refine aw_iconst (v := 1) dX3_readDebt_16 (by decide) ?_
    refine aw_goto (tgt := 21) dX3_readDebt_17 (by decide) ?_
    exact aw_ls [0] rfl H
set_option maxRecDepth 8000 in
set_option maxHeartbeats 1000000 in
theorem bX3_readDebt_21 {l : Launch} {ad : Nat → Nat} {d : Nat} {R : aH → Prop}   (s0 : Int32)  (h : aH)
    (H : AW GC l ad d mX3_takeLineWord 0 [(0, .ref (ad 2)), (1, .int s0), (2, .int (2 : Int32))] [] h (qv fun h1 => AW GC l ad d mX3_takeMan 0 [(0, .ref (ad 2)), (1, .int (-1 : Int32))] [] h1 (qi fun z4 h3 => AW GC l ad d mX3_takeMan 0 [(0, .ref (ad 2)), (1, .int z4)] [] h3 (qi fun z6 h5 => AW GC l ad d mX3_takeNumber 0 [(0, .ref (ad 2)), (1, .int (1 : Int32)), (2, .int (99 : Int32))] [] h5 (qi fun z8 h7 => AW GC l ad d mX3_takeTusk 0 [(0, .ref (ad 2)), (1, .int (-1 : Int32))] [] h7 (qi fun z10 h9 => AW GC l ad d mX3_takeNumber 0 [(0, .ref (ad 2)), (1, .int (0 : Int32)), (2, .int (99 : Int32))] [] h9 (qi fun z12 h11 => (¬ (h11.1 2 3) = 0 → (R h11)) ∧ ((h11.1 2 3) = 0 → (∀ y13 : Nat, y13 = h11.2.2 2 1 → isS GC y13 ∧ (AW GC l ad d mX8_addDebt 0 [(0, .ref (ad (y13 + 17))), (1, .int z4), (2, .int z6), (3, .int z8), (4, .int z10), (5, .int z12)] [] h11 (qv fun h14 => R h14))))))))))) : AW GC l ad (d + 1) mX3_readDebt 21 [(0, .ref (ad 2))] [.int s0, .ref (ad 2)] h (qv R) := by
  refine aw_iconst (v := 2) dX3_readDebt_21 (by decide) ?_
  refine cvX3_takeLineWord dX3_readDebt_22 mlX3_102 shC2 (Nat.le_of_ble_eq_true rfl) H (fun h1 H => ?_)
  refine aw_aload_n dX3_readDebt_25 rfl 0 rfl ?_
  refine aw_iconst (v := (-1)) dX3_readDebt_26 (by decide) ?_
  refine cvX3_takeMan dX3_readDebt_27 mlX3_140 shC2 (Nat.le_of_ble_eq_true rfl) H (fun z4 h3 H => ?_)
  refine aw_istore_n (ls' := [(1, .int z4), (0, .ref (ad 2))]) dX3_readDebt_30 rfl (by decide) rfl ?_
  refine aw_aload_n dX3_readDebt_31 rfl 1 rfl ?_
  refine aw_iload_n dX3_readDebt_32 rfl 0 rfl ?_
  refine cvX3_takeMan dX3_readDebt_33 mlX3_140 shC2 (Nat.le_of_ble_eq_true rfl) H (fun z6 h5 H => ?_)
  refine aw_istore_n (ls' := [(2, .int z6), (1, .int z4), (0, .ref (ad 2))]) dX3_readDebt_36 rfl (by decide) rfl ?_
  refine aw_aload_n dX3_readDebt_37 rfl 2 rfl ?_
  refine aw_iconst (v := 1) dX3_readDebt_38 (by decide) ?_
  refine aw_bipush (v := 99) dX3_readDebt_39 (by decide) ?_
  refine cvX3_takeNumber dX3_readDebt_41 mlX3_113 shC2 (Nat.le_of_ble_eq_true rfl) H (fun z8 h7 H => ?_)
  refine aw_istore_n (ls' := [(3, .int z8), (2, .int z6), (1, .int z4), (0, .ref (ad 2))]) dX3_readDebt_44 rfl (by decide) rfl ?_
  refine aw_aload_n dX3_readDebt_45 rfl 3 rfl ?_
  refine aw_iconst (v := (-1)) dX3_readDebt_46 (by decide) ?_
  refine cvX3_takeTusk dX3_readDebt_47 mlX3_144 shC2 (Nat.le_of_ble_eq_true rfl) H (fun z10 h9 H => ?_)
  refine aw_istore (ls' := [(4, .int z10), (3, .int z8), (2, .int z6), (1, .int z4), (0, .ref (ad 2))]) dX3_readDebt_50 (by decide) rfl ?_
  refine aw_aload_n dX3_readDebt_52 rfl 4 rfl ?_
  refine aw_iconst (v := 0) dX3_readDebt_53 (by decide) ?_
  refine aw_bipush (v := 99) dX3_readDebt_54 (by decide) ?_
  refine cvX3_takeNumber dX3_readDebt_56 mlX3_113 shC2 (Nat.le_of_ble_eq_true rfl) H (fun z12 h11 H => ?_)
  refine aw_istore (ls' := [(5, .int z12), (4, .int z10), (3, .int z8), (2, .int z6), (1, .int z4), (0, .ref (ad 2))]) dX3_readDebt_59 (by decide) rfl ?_
  refine aw_aload_n dX3_readDebt_61 rfl 5 rfl ?_
  refine aw_get dX3_readDebt_62 shC2 ckX3 flX3_39 (v := .int (h11.1 2 3)) rfl ?_
  refine aw_if_ne (tgt := 85) dX3_readDebt_65 (by decide) (fun hc16 => ?_) (fun hc16 => ?_)
  · replace H := H.1 hc16
    exact aw_vret dX3_readDebt_85 rfl ⟨rfl, H⟩
  · replace H := H.2 hc16
    refine aw_aload_n dX3_readDebt_68 rfl 5 rfl ?_
    obtain ⟨y13, ey13⟩ : ∃ z, z = h11.2.2 2 1 := ⟨_, rfl⟩
    obtain ⟨hy13, H⟩ := H y13 ey13
    refine aw_get dX3_readDebt_69 shC2 ckX3 flX3_21 (v := .ref (ad y13)) (by rw [ey13]; rfl) ?_
    refine aw_get dX3_readDebt_72 hy13.1 ckX6 flX3_131 (v := .ref (ad (y13 + 17))) rfl ?_
    refine aw_iload_n dX3_readDebt_75 rfl 4 rfl ?_
    refine aw_iload_n dX3_readDebt_76 rfl 3 rfl ?_
    refine aw_iload_n dX3_readDebt_77 rfl 2 rfl ?_
    refine aw_iload dX3_readDebt_78 1 rfl ?_
    refine aw_iload dX3_readDebt_80 0 rfl ?_
    refine cvX8_addDebt dX3_readDebt_82 mlX3_147 hy13.2.2.2.2.2.1 (Nat.le_of_ble_eq_true rfl) H (fun h14 H => ?_)
    exact aw_vret dX3_readDebt_85 rfl ⟨rfl, H⟩
set_option maxRecDepth 8000 in
set_option maxHeartbeats 1000000 in
theorem bX3_readLeaning_0 {l : Launch} {ad : Nat → Nat} {d : Nat} {R : aH → Prop}     (h : aH)
    (H : ∀ y1 : Nat, y1 = h.2.2 2 1 → isS GC y1 ∧ (((10 : Int32) ≤ (h.1 y1 13) → (AW GC l ad (d + 1) mX3_readLeaning 18 [(0, .ref (ad 2))] [.int (0 : Int32), .ref (ad 2)] h (qv R))) ∧ (¬ (10 : Int32) ≤ (h.1 y1 13) → (AW GC l ad (d + 1) mX3_readLeaning 18 [(0, .ref (ad 2))] [.int (1 : Int32), .ref (ad 2)] h (qv R))))) : AW GC l ad (d + 1) mX3_readLeaning 0 [(0, .ref (ad 2))] [] h (qv R) := by
  refine aw_aload_n dX3_readLeaning_0 rfl 0 rfl ?_
  refine aw_aload_n dX3_readLeaning_1 rfl 0 rfl ?_
  obtain ⟨y1, ey1⟩ : ∃ z, z = h.2.2 2 1 := ⟨_, rfl⟩
  obtain ⟨hy1, H⟩ := H y1 ey1
  refine aw_get dX3_readLeaning_2 shC2 ckX3 flX3_21 (v := .ref (ad y1)) (by rw [ey1]; rfl) ?_
  refine aw_get dX3_readLeaning_5 hy1.1 ckX6 flX3_151 (v := .int (h.1 y1 13)) rfl ?_
  refine aw_bipush (v := 10) dX3_readLeaning_8 (by decide) ?_
  refine aw_icmp_ge (tgt := 17) dX3_readLeaning_10 (by decide) (fun hc2 => ?_) (fun hc2 => ?_)
  · replace H := H.1 hc2
    refine aw_iconst (v := 0) dX3_readLeaning_17 (by decide) ?_
    exact aw_ls [0] rfl H
  · replace H := H.2 hc2
    refine aw_iconst (v := 1) dX3_readLeaning_13 (by decide) ?_
    refine aw_goto (tgt := 18) dX3_readLeaning_14 (by decide) ?_
    exact aw_ls [0] rfl H
set_option maxRecDepth 8000 in
set_option maxHeartbeats 1000000 in
theorem bX3_readLeaning_18 {l : Launch} {ad : Nat → Nat} {d : Nat} {R : aH → Prop}   (s0 : Int32)  (h : aH)
    (H : AW GC l ad d mX3_takeLineWord 0 [(0, .ref (ad 2)), (1, .int s0), (2, .int (2 : Int32))] [] h (qv fun h1 => AW GC l ad d mX3_takeTusk 0 [(0, .ref (ad 2)), (1, .int (-1 : Int32))] [] h1 (qi fun z4 h3 => AW GC l ad d mX3_takeTusk 0 [(0, .ref (ad 2)), (1, .int z4)] [] h3 (qi fun z6 h5 => AW GC l ad d mX3_takeNumber 0 [(0, .ref (ad 2)), (1, .int (0 : Int32)), (2, .int (99 : Int32))] [] h5 (qi fun z8 h7 => (¬ (h7.1 2 3) = 0 → (R h7)) ∧ ((h7.1 2 3) = 0 → (∀ y9 : Nat, y9 = h7.2.2 2 1 → isS GC y9 ∧ (AW GC l ad d mX6_addLeaning 0 [(0, .ref (ad y9)), (1, .int z4), (2, .int z6), (3, .int z8)] [] h7 (qv fun h10 => R h10))))))))) : AW GC l ad (d + 1) mX3_readLeaning 18 [(0, .ref (ad 2))] [.int s0, .ref (ad 2)] h (qv R) := by
  refine aw_iconst (v := 2) dX3_readLeaning_18 (by decide) ?_
  refine cvX3_takeLineWord dX3_readLeaning_19 mlX3_102 shC2 (Nat.le_of_ble_eq_true rfl) H (fun h1 H => ?_)
  refine aw_aload_n dX3_readLeaning_22 rfl 0 rfl ?_
  refine aw_iconst (v := (-1)) dX3_readLeaning_23 (by decide) ?_
  refine cvX3_takeTusk dX3_readLeaning_24 mlX3_144 shC2 (Nat.le_of_ble_eq_true rfl) H (fun z4 h3 H => ?_)
  refine aw_istore_n (ls' := [(1, .int z4), (0, .ref (ad 2))]) dX3_readLeaning_27 rfl (by decide) rfl ?_
  refine aw_aload_n dX3_readLeaning_28 rfl 1 rfl ?_
  refine aw_iload_n dX3_readLeaning_29 rfl 0 rfl ?_
  refine cvX3_takeTusk dX3_readLeaning_30 mlX3_144 shC2 (Nat.le_of_ble_eq_true rfl) H (fun z6 h5 H => ?_)
  refine aw_istore_n (ls' := [(2, .int z6), (1, .int z4), (0, .ref (ad 2))]) dX3_readLeaning_33 rfl (by decide) rfl ?_
  refine aw_aload_n dX3_readLeaning_34 rfl 2 rfl ?_
  refine aw_iconst (v := 0) dX3_readLeaning_35 (by decide) ?_
  refine aw_bipush (v := 99) dX3_readLeaning_36 (by decide) ?_
  refine cvX3_takeNumber dX3_readLeaning_38 mlX3_113 shC2 (Nat.le_of_ble_eq_true rfl) H (fun z8 h7 H => ?_)
  refine aw_istore_n (ls' := [(3, .int z8), (2, .int z6), (1, .int z4), (0, .ref (ad 2))]) dX3_readLeaning_41 rfl (by decide) rfl ?_
  refine aw_aload_n dX3_readLeaning_42 rfl 3 rfl ?_
  refine aw_get dX3_readLeaning_43 shC2 ckX3 flX3_39 (v := .int (h7.1 2 3)) rfl ?_
  refine aw_if_ne (tgt := 59) dX3_readLeaning_46 (by decide) (fun hc12 => ?_) (fun hc12 => ?_)
  · replace H := H.1 hc12
    exact aw_vret dX3_readLeaning_59 rfl ⟨rfl, H⟩
  · replace H := H.2 hc12
    refine aw_aload_n dX3_readLeaning_49 rfl 3 rfl ?_
    obtain ⟨y9, ey9⟩ : ∃ z, z = h7.2.2 2 1 := ⟨_, rfl⟩
    obtain ⟨hy9, H⟩ := H y9 ey9
    refine aw_get dX3_readLeaning_50 shC2 ckX3 flX3_21 (v := .ref (ad y9)) (by rw [ey9]; rfl) ?_
    refine aw_iload_n dX3_readLeaning_53 rfl 2 rfl ?_
    refine aw_iload_n dX3_readLeaning_54 rfl 1 rfl ?_
    refine aw_iload_n dX3_readLeaning_55 rfl 0 rfl ?_
    refine cvX6_addLeaning dX3_readLeaning_56 mlX3_154 hy9.1 (Nat.le_of_ble_eq_true rfl) H (fun h10 H => ?_)
    exact aw_vret dX3_readLeaning_59 rfl ⟨rfl, H⟩
set_option maxRecDepth 8000 in
set_option maxHeartbeats 1000000 in
theorem bX3_readDeath_0 {l : Launch} {ad : Nat → Nat} {d : Nat} {R : aH → Prop}     (h : aH)
    (H : AW GC l ad d mX3_step 0 [(0, .ref (ad 2))] [] h (qv fun h1 => ∀ y3 : Nat, y3 = h1.2.2 2 1 → isS GC y3 ∧ (AW GC l ad d mX3_toldIndex 0 [(0, .ref (ad 2)), (1, .ref (ad (y3 + 2))), (2, .int (h1.1 y3 12))] [] h1 (qi fun z5 h4 => (z5 < 0 → (AW GC l ad (d + 1) mX3_readDeath 37 [(0, .ref (ad 2)), (1, .int z5)] [] h4 (qv R))) ∧ (¬ z5 < 0 → (((6 : Int32) ≤ z5 → (AW GC l ad (d + 1) mX3_readDeath 37 [(0, .ref (ad 2)), (1, .int z5)] [] h4 (qv R))) ∧ (¬ (6 : Int32) ≤ z5 → (AW GC l ad (d + 1) mX3_readDeath 38 [(0, .ref (ad 2)), (1, .int z5)] [.int (1 : Int32)] h4 (qv R))))))))) : AW GC l ad (d + 1) mX3_readDeath 0 [(0, .ref (ad 2))] [] h (qv R) := by
  refine aw_aload_n dX3_readDeath_0 rfl 0 rfl ?_
  refine cvX3_step dX3_readDeath_1 mlX3_69 shC2 (Nat.le_of_ble_eq_true rfl) H (fun h1 H => ?_)
  refine aw_aload_n dX3_readDeath_4 rfl 0 rfl ?_
  refine aw_aload_n dX3_readDeath_5 rfl 0 rfl ?_
  obtain ⟨y3, ey3⟩ : ∃ z, z = h1.2.2 2 1 := ⟨_, rfl⟩
  obtain ⟨hy3, H⟩ := H y3 ey3
  refine aw_get dX3_readDeath_6 shC2 ckX3 flX3_21 (v := .ref (ad y3)) (by rw [ey3]; rfl) ?_
  refine aw_get dX3_readDeath_9 hy3.1 ckX6 flX3_124 (v := .ref (ad (y3 + 2))) rfl ?_
  refine aw_aload_n dX3_readDeath_12 rfl 0 rfl ?_
  refine aw_get dX3_readDeath_13 shC2 ckX3 flX3_21 (v := .ref (ad y3)) (by rw [ey3]; rfl) ?_
  refine aw_get dX3_readDeath_16 hy3.1 ckX6 flX3_121 (v := .int (h1.1 y3 12)) rfl ?_
  refine cvX3_toldIndex dX3_readDeath_19 mlX3_157 shC2 (Nat.le_of_ble_eq_true rfl) H (fun z5 h4 H => ?_)
  refine aw_istore_n (ls' := [(1, .int z5), (0, .ref (ad 2))]) dX3_readDeath_22 rfl (by decide) rfl ?_
  refine aw_iload_n dX3_readDeath_23 rfl 0 rfl ?_
  refine aw_if_lt (tgt := 37) dX3_readDeath_24 (by decide) (fun hc7 => ?_) (fun hc7 => ?_)
  · replace H := H.1 hc7
    exact aw_ls [1, 0] rfl H
  · replace H := H.2 hc7
    refine aw_iload_n dX3_readDeath_27 rfl 0 rfl ?_
    refine aw_bipush (v := 6) dX3_readDeath_28 (by decide) ?_
    refine aw_icmp_ge (tgt := 37) dX3_readDeath_30 (by decide) (fun hc6 => ?_) (fun hc6 => ?_)
    · replace H := H.1 hc6
      exact aw_ls [1, 0] rfl H
    · replace H := H.2 hc6
      refine aw_iconst (v := 1) dX3_readDeath_33 (by decide) ?_
      refine aw_goto (tgt := 38) dX3_readDeath_34 (by decide) ?_
      exact aw_ls [1, 0] rfl H
set_option maxRecDepth 8000 in
set_option maxHeartbeats 1000000 in
theorem bX3_readDeath_37 {l : Launch} {ad : Nat → Nat} {d : Nat} {R : aH → Prop}   (x1 : Int32)  (h : aH)
    (H : AW GC l ad (d + 1) mX3_readDeath 38 [(0, .ref (ad 2)), (1, .int x1)] [.int (0 : Int32)] h (qv R)) : AW GC l ad (d + 1) mX3_readDeath 37 [(0, .ref (ad 2)), (1, .int x1)] [] h (qv R) := by
  refine aw_iconst (v := 0) dX3_readDeath_37 (by decide) ?_
  exact aw_ls [0, 1] rfl H
set_option maxRecDepth 8000 in
set_option maxHeartbeats 1000000 in
theorem bX3_readDeath_38 {l : Launch} {ad : Nat → Nat} {d : Nat} {R : aH → Prop}   (x1 : Int32) (s0 : Int32)  (h : aH)
    (H : (s0 = 0 → (AW GC l ad (d + 1) mX3_readDeath 61 [(0, .ref (ad 2)), (1, .int x1), (2, .int s0)] [] h (qv R))) ∧ (¬ s0 = 0 → (∀ y1 : Nat, y1 = h.2.2 2 1 → isS GC y1 ∧ (vp_in x1 6 ∧ (((h.1 (y1 + 4) x1.toNatClampNeg) = (-1 : Int32) → (AW GC l ad (d + 1) mX3_readDeath 61 [(0, .ref (ad 2)), (1, .int x1), (2, .int s0)] [] h (qv R))) ∧ (¬ (h.1 (y1 + 4) x1.toNatClampNeg) = (-1 : Int32) → (AW GC l ad d mX3_refuse 0 [(0, .ref (ad 2)), (1, .int (3 : Int32))] [] h (qv fun h3 => AW GC l ad (d + 1) mX3_readDeath 61 [(0, .ref (ad 2)), (1, .int x1), (2, .int s0)] [] h3 (qv R))))))))) : AW GC l ad (d + 1) mX3_readDeath 38 [(0, .ref (ad 2)), (1, .int x1)] [.int s0] h (qv R) := by
  refine aw_istore_n (ls' := [(2, .int s0), (0, .ref (ad 2)), (1, .int x1)]) dX3_readDeath_38 rfl (by decide) rfl ?_
  refine aw_iload_n dX3_readDeath_39 rfl 0 rfl ?_
  refine aw_if_eq (tgt := 61) dX3_readDeath_40 (by decide) (fun hc6 => ?_) (fun hc6 => ?_)
  · replace H := H.1 hc6
    exact aw_ls [1, 2, 0] rfl H
  · replace H := H.2 hc6
    refine aw_aload_n dX3_readDeath_43 rfl 1 rfl ?_
    obtain ⟨y1, ey1⟩ : ∃ z, z = h.2.2 2 1 := ⟨_, rfl⟩
    obtain ⟨hy1, H⟩ := H y1 ey1
    refine aw_get dX3_readDeath_44 shC2 ckX3 flX3_21 (v := .ref (ad y1)) (by rw [ey1]; rfl) ?_
    refine aw_get dX3_readDeath_47 hy1.1 ckX6 flX3_160 (v := .ref (ad (y1 + 4))) rfl ?_
    refine aw_iload_n dX3_readDeath_50 rfl 2 rfl ?_
    obtain ⟨hi2, H⟩ := H
    refine aw_ialdK (t0 := 0) (j := x1.toNatClampNeg) dX3_readDeath_51 (hy1.2.1 3 (by decide)) rfl rfl hi2 ?_
    refine aw_iconst (v := (-1)) dX3_readDeath_52 (by decide) ?_
    refine aw_icmp_eq (tgt := 61) dX3_readDeath_53 (by decide) (fun hc5 => ?_) (fun hc5 => ?_)
    · replace H := H.1 hc5
      exact aw_ls [1, 2, 0] rfl H
    · replace H := H.2 hc5
      refine aw_aload_n dX3_readDeath_56 rfl 1 rfl ?_
      refine aw_iconst (v := 3) dX3_readDeath_57 (by decide) ?_
      refine cvX3_refuse dX3_readDeath_58 mlX3_72 shC2 (Nat.le_of_ble_eq_true rfl) H (fun h3 H => ?_)
      exact aw_ls [1, 2, 0] rfl H
set_option maxRecDepth 8000 in
set_option maxHeartbeats 1000000 in
theorem bX3_readDeath_61 {l : Launch} {ad : Nat → Nat} {d : Nat} {R : aH → Prop}   (x1 : Int32) (x2 : Int32)  (h : aH)
    (H : AW GC l ad d mX3_step 0 [(0, .ref (ad 2))] [] h (qv fun h1 => AW GC l ad d mX3_takeNumber 0 [(0, .ref (ad 2)), (1, .int (0 : Int32)), (2, .int (99 : Int32))] [] h1 (qi fun z4 h3 => (¬ (h3.1 2 3) = 0 → (R h3)) ∧ ((h3.1 2 3) = 0 → ((x2 = 0 → (R h3)) ∧ (¬ x2 = 0 → (∀ y5 : Nat, y5 = h3.2.2 2 1 → isS GC y5 ∧ (vp_in x1 6 ∧ (R (sI h3 (y5 + 4) x1.toNatClampNeg z4)))))))))) : AW GC l ad (d + 1) mX3_readDeath 61 [(0, .ref (ad 2)), (1, .int x1), (2, .int x2)] [] h (qv R) := by
  refine aw_aload_n dX3_readDeath_61 rfl 0 rfl ?_
  refine cvX3_step dX3_readDeath_62 mlX3_69 shC2 (Nat.le_of_ble_eq_true rfl) H (fun h1 H => ?_)
  refine aw_aload_n dX3_readDeath_65 rfl 0 rfl ?_
  refine aw_iconst (v := 0) dX3_readDeath_66 (by decide) ?_
  refine aw_bipush (v := 99) dX3_readDeath_67 (by decide) ?_
  refine cvX3_takeNumber dX3_readDeath_69 mlX3_113 shC2 (Nat.le_of_ble_eq_true rfl) H (fun z4 h3 H => ?_)
  refine aw_istore_n (ls' := [(3, .int z4), (0, .ref (ad 2)), (1, .int x1), (2, .int x2)]) dX3_readDeath_72 rfl (by decide) rfl ?_
  refine aw_aload_n dX3_readDeath_73 rfl 1 rfl ?_
  refine aw_get dX3_readDeath_74 shC2 ckX3 flX3_39 (v := .int (h3.1 2 3)) rfl ?_
  refine aw_if_ne (tgt := 94) dX3_readDeath_77 (by decide) (fun hc8 => ?_) (fun hc8 => ?_)
  · replace H := H.1 hc8
    exact aw_vret dX3_readDeath_94 rfl ⟨rfl, H⟩
  · replace H := H.2 hc8
    refine aw_iload_n dX3_readDeath_80 rfl 3 rfl ?_
    refine aw_if_eq (tgt := 94) dX3_readDeath_81 (by decide) (fun hc7 => ?_) (fun hc7 => ?_)
    · replace H := H.1 hc7
      exact aw_vret dX3_readDeath_94 rfl ⟨rfl, H⟩
    · replace H := H.2 hc7
      refine aw_aload_n dX3_readDeath_84 rfl 1 rfl ?_
      obtain ⟨y5, ey5⟩ : ∃ z, z = h3.2.2 2 1 := ⟨_, rfl⟩
      obtain ⟨hy5, H⟩ := H y5 ey5
      refine aw_get dX3_readDeath_85 shC2 ckX3 flX3_21 (v := .ref (ad y5)) (by rw [ey5]; rfl) ?_
      refine aw_get dX3_readDeath_88 hy5.1 ckX6 flX3_160 (v := .ref (ad (y5 + 4))) rfl ?_
      refine aw_iload_n dX3_readDeath_91 rfl 2 rfl ?_
      refine aw_iload_n dX3_readDeath_92 rfl 0 rfl ?_
      obtain ⟨hi6, H⟩ := H
      refine aw_iastK (t0 := 0) (j := x1.toNatClampNeg) dX3_readDeath_93 (hy5.2.1 3 (by decide)) rfl rfl hi6 ?_
      exact aw_vret dX3_readDeath_94 rfl ⟨rfl, H⟩
set_option maxRecDepth 8000 in
set_option maxHeartbeats 1000000 in
theorem bX3_readRate_0 {l : Launch} {ad : Nat → Nat} {d : Nat} {R : aH → Prop}     (h : aH)
    (H : ∀ y1 : Nat, y1 = h.2.2 2 1 → isS GC y1 ∧ ((¬ (h.1 y1 15) = 0 → (AW GC l ad (d + 1) mX3_readRate 16 [(0, .ref (ad 2))] [.int (0 : Int32), .ref (ad 2)] h (qv R))) ∧ ((h.1 y1 15) = 0 → (AW GC l ad (d + 1) mX3_readRate 16 [(0, .ref (ad 2))] [.int (1 : Int32), .ref (ad 2)] h (qv R))))) : AW GC l ad (d + 1) mX3_readRate 0 [(0, .ref (ad 2))] [] h (qv R) := by
  refine aw_aload_n dX3_readRate_0 rfl 0 rfl ?_
  refine aw_aload_n dX3_readRate_1 rfl 0 rfl ?_
  obtain ⟨y1, ey1⟩ : ∃ z, z = h.2.2 2 1 := ⟨_, rfl⟩
  obtain ⟨hy1, H⟩ := H y1 ey1
  refine aw_get dX3_readRate_2 shC2 ckX3 flX3_21 (v := .ref (ad y1)) (by rw [ey1]; rfl) ?_
  refine aw_get dX3_readRate_5 hy1.1 ckX6 flX3_163 (v := .int (h.1 y1 15)) rfl ?_
  refine aw_if_ne (tgt := 15) dX3_readRate_8 (by decide) (fun hc2 => ?_) (fun hc2 => ?_)
  · replace H := H.1 hc2
    refine aw_iconst (v := 0) dX3_readRate_15 (by decide) ?_
    exact aw_ls [0] rfl H
  · replace H := H.2 hc2
    refine aw_iconst (v := 1) dX3_readRate_11 (by decide) ?_
    refine aw_goto (tgt := 16) dX3_readRate_12 (by decide) ?_
    exact aw_ls [0] rfl H
set_option maxRecDepth 8000 in
set_option maxHeartbeats 1000000 in
theorem bX3_readRate_16 {l : Launch} {ad : Nat → Nat} {d : Nat} {R : aH → Prop}   (s0 : Int32)  (h : aH)
    (H : AW GC l ad d mX3_takeLineWord 0 [(0, .ref (ad 2)), (1, .int s0), (2, .int (3 : Int32))] [] h (qv fun h1 => ∀ y3 : Nat, y3 = h1.2.2 2 1 → isS GC y3 ∧ (AW GC l ad d mX3_takeNumber 0 [(0, .ref (ad 2)), (1, .int (0 : Int32)), (2, .int (100 : Int32))] [] h1 (qi fun z5 h4 => ∀ y6 : Nat, y6 = (sI h4 y3 14 z5).2.2 2 1 → isS GC y6 ∧ (R (sI (sI h4 y3 14 z5) y6 15 (1 : Int32))))))) : AW GC l ad (d + 1) mX3_readRate 16 [(0, .ref (ad 2))] [.int s0, .ref (ad 2)] h (qv R) := by
  refine aw_iconst (v := 3) dX3_readRate_16 (by decide) ?_
  refine cvX3_takeLineWord dX3_readRate_17 mlX3_102 shC2 (Nat.le_of_ble_eq_true rfl) H (fun h1 H => ?_)
  refine aw_aload_n dX3_readRate_20 rfl 0 rfl ?_
  obtain ⟨y3, ey3⟩ : ∃ z, z = h1.2.2 2 1 := ⟨_, rfl⟩
  obtain ⟨hy3, H⟩ := H y3 ey3
  refine aw_get dX3_readRate_21 shC2 ckX3 flX3_21 (v := .ref (ad y3)) (by rw [ey3]; rfl) ?_
  refine aw_aload_n dX3_readRate_24 rfl 0 rfl ?_
  refine aw_iconst (v := 0) dX3_readRate_25 (by decide) ?_
  refine aw_bipush (v := 100) dX3_readRate_26 (by decide) ?_
  refine cvX3_takeNumber dX3_readRate_28 mlX3_113 shC2 (Nat.le_of_ble_eq_true rfl) H (fun z5 h4 H => ?_)
  refine aw_putI dX3_readRate_31 hy3.1 ckX6 flX3_167 rfl (fun _ => rfl) rfl rfl ?_
  refine aw_aload_n dX3_readRate_34 rfl 0 rfl ?_
  obtain ⟨y6, ey6⟩ : ∃ z, z = (sI h4 y3 14 z5).2.2 2 1 := ⟨_, rfl⟩
  obtain ⟨hy6, H⟩ := H y6 ey6
  refine aw_get dX3_readRate_35 shC2 ckX3 flX3_21 (v := .ref (ad y6)) (by rw [ey6]; rfl) ?_
  refine aw_iconst (v := 1) dX3_readRate_38 (by decide) ?_
  refine aw_putI dX3_readRate_39 hy6.1 ckX6 flX3_163 rfl (fun _ => rfl) (show narrow .boolean (.int (1 : Int32)) = .int (1 : Int32) by decide) (show fits .boolean (.int (1 : Int32)) = true by decide) ?_
  exact aw_vret dX3_readRate_42 rfl ⟨rfl, H⟩
set_option maxRecDepth 8000 in
set_option maxHeartbeats 1000000 in
theorem bX3_readSeed_0 {l : Launch} {ad : Nat → Nat} {d : Nat} {R : aH → Prop}     (h : aH)
    (H : ∀ y1 : Nat, y1 = h.2.2 2 1 → isS GC y1 ∧ ((¬ (h.1 y1 16) = 0 → (AW GC l ad (d + 1) mX3_readSeed 16 [(0, .ref (ad 2))] [.int (0 : Int32), .ref (ad 2)] h (qv R))) ∧ ((h.1 y1 16) = 0 → (AW GC l ad (d + 1) mX3_readSeed 16 [(0, .ref (ad 2))] [.int (1 : Int32), .ref (ad 2)] h (qv R))))) : AW GC l ad (d + 1) mX3_readSeed 0 [(0, .ref (ad 2))] [] h (qv R) := by
  refine aw_aload_n dX3_readSeed_0 rfl 0 rfl ?_
  refine aw_aload_n dX3_readSeed_1 rfl 0 rfl ?_
  obtain ⟨y1, ey1⟩ : ∃ z, z = h.2.2 2 1 := ⟨_, rfl⟩
  obtain ⟨hy1, H⟩ := H y1 ey1
  refine aw_get dX3_readSeed_2 shC2 ckX3 flX3_21 (v := .ref (ad y1)) (by rw [ey1]; rfl) ?_
  refine aw_get dX3_readSeed_5 hy1.1 ckX6 flX3_170 (v := .int (h.1 y1 16)) rfl ?_
  refine aw_if_ne (tgt := 15) dX3_readSeed_8 (by decide) (fun hc2 => ?_) (fun hc2 => ?_)
  · replace H := H.1 hc2
    refine aw_iconst (v := 0) dX3_readSeed_15 (by decide) ?_
    exact aw_ls [0] rfl H
  · replace H := H.2 hc2
    refine aw_iconst (v := 1) dX3_readSeed_11 (by decide) ?_
    refine aw_goto (tgt := 16) dX3_readSeed_12 (by decide) ?_
    exact aw_ls [0] rfl H
set_option maxRecDepth 8000 in
set_option maxHeartbeats 1000000 in
theorem bX3_readSeed_16 {l : Launch} {ad : Nat → Nat} {d : Nat} {R : aH → Prop}   (s0 : Int32)  (h : aH)
    (H : AW GC l ad d mX3_takeLineWord 0 [(0, .ref (ad 2)), (1, .int s0), (2, .int (3 : Int32))] [] h (qv fun h1 => ∀ y3 : Nat, y3 = h1.2.2 2 1 → isS GC y3 ∧ (AW GC l ad d mX3_takeNumber 0 [(0, .ref (ad 2)), (1, .int (0 : Int32)), (2, .int (99999 : Int32))] [] h1 (qi fun z5 h4 => ∀ y6 : Nat, y6 = (sI h4 (y3 + 17) 14 z5).2.2 2 1 → isS GC y6 ∧ (R (sI (sI h4 (y3 + 17) 14 z5) y6 16 (1 : Int32))))))) : AW GC l ad (d + 1) mX3_readSeed 16 [(0, .ref (ad 2))] [.int s0, .ref (ad 2)] h (qv R) := by
  refine aw_iconst (v := 3) dX3_readSeed_16 (by decide) ?_
  refine cvX3_takeLineWord dX3_readSeed_17 mlX3_102 shC2 (Nat.le_of_ble_eq_true rfl) H (fun h1 H => ?_)
  refine aw_aload_n dX3_readSeed_20 rfl 0 rfl ?_
  obtain ⟨y3, ey3⟩ : ∃ z, z = h1.2.2 2 1 := ⟨_, rfl⟩
  obtain ⟨hy3, H⟩ := H y3 ey3
  refine aw_get dX3_readSeed_21 shC2 ckX3 flX3_21 (v := .ref (ad y3)) (by rw [ey3]; rfl) ?_
  refine aw_get dX3_readSeed_24 hy3.1 ckX6 flX3_131 (v := .ref (ad (y3 + 17))) rfl ?_
  refine aw_aload_n dX3_readSeed_27 rfl 0 rfl ?_
  refine aw_iconst (v := 0) dX3_readSeed_28 (by decide) ?_
  refine aw_ldc dX3_readSeed_29 coX3_173 ?_
  refine cvX3_takeNumber dX3_readSeed_31 mlX3_113 shC2 (Nat.le_of_ble_eq_true rfl) H (fun z5 h4 H => ?_)
  refine aw_putI dX3_readSeed_34 hy3.2.2.2.2.2.1 ckX8 flX3_174 rfl (fun _ => rfl) rfl rfl ?_
  refine aw_aload_n dX3_readSeed_37 rfl 0 rfl ?_
  obtain ⟨y6, ey6⟩ : ∃ z, z = (sI h4 (y3 + 17) 14 z5).2.2 2 1 := ⟨_, rfl⟩
  obtain ⟨hy6, H⟩ := H y6 ey6
  refine aw_get dX3_readSeed_38 shC2 ckX3 flX3_21 (v := .ref (ad y6)) (by rw [ey6]; rfl) ?_
  refine aw_iconst (v := 1) dX3_readSeed_41 (by decide) ?_
  refine aw_putI dX3_readSeed_42 hy6.1 ckX6 flX3_170 rfl (fun _ => rfl) (show narrow .boolean (.int (1 : Int32)) = .int (1 : Int32) by decide) (show fits .boolean (.int (1 : Int32)) = true by decide) ?_
  exact aw_vret dX3_readSeed_45 rfl ⟨rfl, H⟩
set_option maxRecDepth 8000 in
set_option maxHeartbeats 1000000 in
theorem bX3_readLaw_0 {l : Launch} {ad : Nat → Nat} {d : Nat} {R : aH → Prop}     (h : aH)
    (H : AW GC l ad d mX3_step 0 [(0, .ref (ad 2))] [] h (qv fun h1 => ∀ y3 : Nat, y3 = h1.2.2 2 1 → isS GC y3 ∧ (AW GC l ad d mX3_kind 0 [(0, .ref (ad 2))] [] h1 (qi fun z5 h4 => (¬ z5 = (9 : Int32) → (AW GC l ad d mX3_kind 0 [(0, .ref (ad 2))] [] h4 (qi fun z7 h6 => (¬ z7 = (10 : Int32) → (AW GC l ad d mX3_kind 0 [(0, .ref (ad 2))] [] h6 (qi fun z9 h8 => (z9 = (8 : Int32) → (AW GC l ad (d + 1) mX3_readLaw 66 [(0, .ref (ad 2)), (1, .ref (ad (y3 + 8)))] [] h8 (qv R))) ∧ (¬ z9 = (8 : Int32) → (AW GC l ad d mX3_refuse 0 [(0, .ref (ad 2)), (1, .int (1 : Int32))] [] h8 (qv fun h10 => AW GC l ad (d + 1) mX3_readLaw 66 [(0, .ref (ad 2)), (1, .ref (ad (y3 + 8)))] [] h10 (qv R))))))) ∧ (z7 = (10 : Int32) → (∀ y13 : Nat, y13 = h6.2.2 2 1 → isS GC y13 ∧ (AW GC l ad (d + 1) mX3_readLaw 66 [(0, .ref (ad 2)), (1, .ref (ad (y13 + 14)))] [] h6 (qv R))))))) ∧ (z5 = (9 : Int32) → (∀ y15 : Nat, y15 = h4.2.2 2 1 → isS GC y15 ∧ (AW GC l ad (d + 1) mX3_readLaw 66 [(0, .ref (ad 2)), (1, .ref (ad (y15 + 11)))] [] h4 (qv R)))))))) : AW GC l ad (d + 1) mX3_readLaw 0 [(0, .ref (ad 2))] [] h (qv R) := by
  refine aw_aload_n dX3_readLaw_0 rfl 0 rfl ?_
  refine cvX3_step dX3_readLaw_1 mlX3_69 shC2 (Nat.le_of_ble_eq_true rfl) H (fun h1 H => ?_)
  refine aw_aload_n dX3_readLaw_4 rfl 0 rfl ?_
  obtain ⟨y3, ey3⟩ : ∃ z, z = h1.2.2 2 1 := ⟨_, rfl⟩
  obtain ⟨hy3, H⟩ := H y3 ey3
  refine aw_get dX3_readLaw_5 shC2 ckX3 flX3_21 (v := .ref (ad y3)) (by rw [ey3]; rfl) ?_
  refine aw_get dX3_readLaw_8 hy3.1 ckX6 flX3_177 (v := .ref (ad (y3 + 8))) rfl ?_
  refine aw_astore_n (ls' := [(1, .ref (ad (y3 + 8))), (0, .ref (ad 2))]) dX3_readLaw_11 rfl (by decide) rfl ?_
  refine aw_aload_n dX3_readLaw_12 rfl 1 rfl ?_
  refine cvX3_kind dX3_readLaw_13 mlX3_42 shC2 (Nat.le_of_ble_eq_true rfl) H (fun z5 h4 H => ?_)
  refine aw_bipush (v := 9) dX3_readLaw_16 (by decide) ?_
  refine aw_icmp_ne (tgt := 32) dX3_readLaw_18 (by decide) (fun hc16 => ?_) (fun hc16 => ?_)
  · replace H := H.1 hc16
    refine aw_aload_n dX3_readLaw_32 rfl 1 rfl ?_
    refine cvX3_kind dX3_readLaw_33 mlX3_42 shC2 (Nat.le_of_ble_eq_true rfl) H (fun z7 h6 H => ?_)
    refine aw_bipush (v := 10) dX3_readLaw_36 (by decide) ?_
    refine aw_icmp_ne (tgt := 52) dX3_readLaw_38 (by decide) (fun hc14 => ?_) (fun hc14 => ?_)
    · replace H := H.1 hc14
      refine aw_aload_n dX3_readLaw_52 rfl 1 rfl ?_
      refine cvX3_kind dX3_readLaw_53 mlX3_42 shC2 (Nat.le_of_ble_eq_true rfl) H (fun z9 h8 H => ?_)
      refine aw_bipush (v := 8) dX3_readLaw_56 (by decide) ?_
      refine aw_icmp_eq (tgt := 66) dX3_readLaw_58 (by decide) (fun hc12 => ?_) (fun hc12 => ?_)
      · replace H := H.1 hc12
        exact aw_ls [1, 0] rfl H
      · replace H := H.2 hc12
        refine aw_aload_n dX3_readLaw_61 rfl 1 rfl ?_
        refine aw_iconst (v := 1) dX3_readLaw_62 (by decide) ?_
        refine cvX3_refuse dX3_readLaw_63 mlX3_72 shC2 (Nat.le_of_ble_eq_true rfl) H (fun h10 H => ?_)
        exact aw_ls [1, 0] rfl H
    · replace H := H.2 hc14
      refine aw_aload_n dX3_readLaw_41 rfl 1 rfl ?_
      obtain ⟨y13, ey13⟩ : ∃ z, z = h6.2.2 2 1 := ⟨_, rfl⟩
      obtain ⟨hy13, H⟩ := H y13 ey13
      refine aw_get dX3_readLaw_42 shC2 ckX3 flX3_21 (v := .ref (ad y13)) (by rw [ey13]; rfl) ?_
      refine aw_get dX3_readLaw_45 hy13.1 ckX6 flX3_184 (v := .ref (ad (y13 + 14))) rfl ?_
      refine aw_astore_n (ls' := [(1, .ref (ad (y13 + 14))), (0, .ref (ad 2))]) dX3_readLaw_48 rfl (by decide) rfl ?_
      refine aw_goto (tgt := 66) dX3_readLaw_49 (by decide) ?_
      exact aw_ls [1, 0] rfl H
  · replace H := H.2 hc16
    refine aw_aload_n dX3_readLaw_21 rfl 1 rfl ?_
    obtain ⟨y15, ey15⟩ : ∃ z, z = h4.2.2 2 1 := ⟨_, rfl⟩
    obtain ⟨hy15, H⟩ := H y15 ey15
    refine aw_get dX3_readLaw_22 shC2 ckX3 flX3_21 (v := .ref (ad y15)) (by rw [ey15]; rfl) ?_
    refine aw_get dX3_readLaw_25 hy15.1 ckX6 flX3_181 (v := .ref (ad (y15 + 11))) rfl ?_
    refine aw_astore_n (ls' := [(1, .ref (ad (y15 + 11))), (0, .ref (ad 2))]) dX3_readLaw_28 rfl (by decide) rfl ?_
    refine aw_goto (tgt := 66) dX3_readLaw_29 (by decide) ?_
    exact aw_ls [1, 0] rfl H
set_option maxRecDepth 8000 in
set_option maxHeartbeats 1000000 in
theorem bX3_readLaw_66 {l : Launch} {ad : Nat → Nat} {d : Nat} {R : aH → Prop}   (r1 : Nat) (hr1 : isL GC r1) (h : aH)
    (H : ((h.1 r1 2) ≤ 0 → (AW GC l ad (d + 1) mX3_readLaw 78 [(0, .ref (ad 2)), (1, .ref (ad r1))] [] h (qv R))) ∧ (¬ (h.1 r1 2) ≤ 0 → (AW GC l ad d mX3_refuse 0 [(0, .ref (ad 2)), (1, .int (3 : Int32))] [] h (qv fun h1 => AW GC l ad (d + 1) mX3_readLaw 78 [(0, .ref (ad 2)), (1, .ref (ad r1))] [] h1 (qv R))))) : AW GC l ad (d + 1) mX3_readLaw 66 [(0, .ref (ad 2)), (1, .ref (ad r1))] [] h (qv R) := by
  refine aw_aload_n dX3_readLaw_66 rfl 1 rfl ?_
  refine aw_get dX3_readLaw_67 hr1.1 ckX1 flX3_187 (v := .int (h.1 r1 2)) rfl ?_
  refine aw_if_le (tgt := 78) dX3_readLaw_70 (by decide) (fun hc3 => ?_) (fun hc3 => ?_)
  · replace H := H.1 hc3
    exact aw_ls [0, 1] rfl H
  · replace H := H.2 hc3
    refine aw_aload_n dX3_readLaw_73 rfl 0 rfl ?_
    refine aw_iconst (v := 3) dX3_readLaw_74 (by decide) ?_
    refine cvX3_refuse dX3_readLaw_75 mlX3_72 shC2 (Nat.le_of_ble_eq_true rfl) H (fun h1 H => ?_)
    exact aw_ls [0, 1] rfl H
set_option maxRecDepth 8000 in
set_option maxHeartbeats 1000000 in
theorem bX3_readLaw_78 {l : Launch} {ad : Nat → Nat} {d : Nat} {R : aH → Prop}   (r1 : Nat) (hr1 : isL GC r1) (h : aH)
    (H : AW GC l ad d mX3_step 0 [(0, .ref (ad 2))] [] h (qv fun h1 => AW GC l ad d mX3_readLevel 0 [(0, .ref (ad 2)), (1, .int (0 : Int32)), (2, .int (0 : Int32)), (3, .ref (ad r1))] [] h1 (qv fun h3 => R h3))) : AW GC l ad (d + 1) mX3_readLaw 78 [(0, .ref (ad 2)), (1, .ref (ad r1))] [] h (qv R) := by
  refine aw_aload_n dX3_readLaw_78 rfl 0 rfl ?_
  refine cvX3_step dX3_readLaw_79 mlX3_69 shC2 (Nat.le_of_ble_eq_true rfl) H (fun h1 H => ?_)
  refine aw_aload_n dX3_readLaw_82 rfl 0 rfl ?_
  refine aw_iconst (v := 0) dX3_readLaw_83 (by decide) ?_
  refine aw_iconst (v := 0) dX3_readLaw_84 (by decide) ?_
  refine aw_aload_n dX3_readLaw_85 rfl 1 rfl ?_
  refine cvX3_readLevel dX3_readLaw_86 mlX3_192 shC2 (Nat.le_of_ble_eq_true rfl) H (fun h3 H => ?_)
  exact aw_vret dX3_readLaw_89 rfl ⟨rfl, H⟩
set_option maxRecDepth 8000 in
set_option maxHeartbeats 1000000 in
theorem bX3_takeNewName_0 {l : Launch} {ad : Nat → Nat} {d : Nat} {R : Int32 → aH → Prop} (a1 n1 : Nat) (ha1 : GC.2.2.2.1[a1]? = some (.inr (.int, n1))) (x2 : Int32)  (h : aH)
    (H : ((h.1 2 3) = 0 → (AW GC l ad d mX3_kind 0 [(0, .ref (ad 2))] [] h (qi fun z2 h1 => (z2 = (35 : Int32) → (AW GC l ad d mX3_value 0 [(0, .ref (ad 2))] [] h1 (qi fun z4 h3 => AW GC l ad d mX9_indexOf 0 [(0, .int z4), (1, .ref (ad a1)), (2, .int x2)] [] h3 (qi fun z6 h5 => (z6 = (-1 : Int32) → (AW GC l ad (d + 1) mX3_takeNewName 44 [(0, .ref (ad 2))] [] h5 (qi R))) ∧ (¬ z6 = (-1 : Int32) → (AW GC l ad d mX3_refuse 0 [(0, .ref (ad 2)), (1, .int (3 : Int32))] [] h5 (qv fun h7 => AW GC l ad (d + 1) mX3_takeNewName 44 [(0, .ref (ad 2))] [] h7 (qi R)))))))) ∧ (¬ z2 = (35 : Int32) → (AW GC l ad d mX3_refuse 0 [(0, .ref (ad 2)), (1, .int (1 : Int32))] [] h1 (qv fun h10 => AW GC l ad (d + 1) mX3_takeNewName 44 [(0, .ref (ad 2))] [] h10 (qi R))))))) ∧ (¬ (h.1 2 3) = 0 → (R (-1 : Int32) h))) : AW GC l ad (d + 1) mX3_takeNewName 0 [(0, .ref (ad 2)), (1, .ref (ad a1)), (2, .int x2)] [] h (qi R) := by
  refine aw_aload_n dX3_takeNewName_0 rfl 0 rfl ?_
  refine aw_get dX3_takeNewName_1 shC2 ckX3 flX3_39 (v := .int (h.1 2 3)) rfl ?_
  refine aw_if_eq (tgt := 9) dX3_takeNewName_4 (by decide) (fun hc13 => ?_) (fun hc13 => ?_)
  · replace H := H.1 hc13
    refine aw_aload_n dX3_takeNewName_9 rfl 0 rfl ?_
    refine cvX3_kind dX3_takeNewName_10 mlX3_42 shC2 (Nat.le_of_ble_eq_true rfl) H (fun z2 h1 H => ?_)
    refine aw_bipush (v := 35) dX3_takeNewName_13 (by decide) ?_
    refine aw_icmp_eq (tgt := 26) dX3_takeNewName_15 (by decide) (fun hc12 => ?_) (fun hc12 => ?_)
    · replace H := H.1 hc12
      refine aw_aload_n dX3_takeNewName_26 rfl 0 rfl ?_
      refine cvX3_value dX3_takeNewName_27 mlX3_196 shC2 (Nat.le_of_ble_eq_true rfl) H (fun z4 h3 H => ?_)
      refine aw_aload_n dX3_takeNewName_30 rfl 1 rfl ?_
      refine aw_iload_n dX3_takeNewName_31 rfl 2 rfl ?_
      refine cnX9_indexOf dX3_takeNewName_32 (fun _ _ hz => hz.2) (Nat.le_of_ble_eq_true rfl) H (fun z6 h5 H => ?_)
      refine aw_iconst (v := (-1)) dX3_takeNewName_35 (by decide) ?_
      refine aw_icmp_eq (tgt := 44) dX3_takeNewName_36 (by decide) (fun hc9 => ?_) (fun hc9 => ?_)
      · replace H := H.1 hc9
        exact aw_ls [0] rfl H
      · replace H := H.2 hc9
        refine aw_aload_n dX3_takeNewName_39 rfl 0 rfl ?_
        refine aw_iconst (v := 3) dX3_takeNewName_40 (by decide) ?_
        refine cvX3_refuse dX3_takeNewName_41 mlX3_72 shC2 (Nat.le_of_ble_eq_true rfl) H (fun h7 H => ?_)
        exact aw_ls [0] rfl H
    · replace H := H.2 hc12
      refine aw_aload_n dX3_takeNewName_18 rfl 0 rfl ?_
      refine aw_iconst (v := 1) dX3_takeNewName_19 (by decide) ?_
      refine cvX3_refuse dX3_takeNewName_20 mlX3_72 shC2 (Nat.le_of_ble_eq_true rfl) H (fun h10 H => ?_)
      refine aw_goto (tgt := 44) dX3_takeNewName_23 (by decide) ?_
      exact aw_ls [0] rfl H
  · replace H := H.2 hc13
    refine aw_iconst (v := (-1)) dX3_takeNewName_7 (by decide) ?_
    exact aw_iret dX3_takeNewName_8 rfl ⟨_, rfl, H⟩
set_option maxRecDepth 8000 in
set_option maxHeartbeats 1000000 in
theorem bX3_takeNewName_44 {l : Launch} {ad : Nat → Nat} {d : Nat} {R : Int32 → aH → Prop} (a1 n1 : Nat) (ha1 : GC.2.2.2.1[a1]? = some (.inr (.int, n1)))   (h : aH)
    (H : AW GC l ad d mX3_value 0 [(0, .ref (ad 2))] [] h (qi fun z2 h1 => AW GC l ad d mX3_step 0 [(0, .ref (ad 2))] [] h1 (qv fun h3 => R z2 h3))) : AW GC l ad (d + 1) mX3_takeNewName 44 [(0, .ref (ad 2))] [] h (qi R) := by
  refine aw_aload_n dX3_takeNewName_44 rfl 0 rfl ?_
  refine cvX3_value dX3_takeNewName_45 mlX3_196 shC2 (Nat.le_of_ble_eq_true rfl) H (fun z2 h1 H => ?_)
  refine aw_istore_n (ls' := [(3, .int z2), (0, .ref (ad 2))]) dX3_takeNewName_48 rfl (by decide) rfl ?_
  refine aw_aload_n dX3_takeNewName_49 rfl 1 rfl ?_
  refine cvX3_step dX3_takeNewName_50 mlX3_69 shC2 (Nat.le_of_ble_eq_true rfl) H (fun h3 H => ?_)
  refine aw_iload_n dX3_takeNewName_53 rfl 0 rfl ?_
  exact aw_iret dX3_takeNewName_54 rfl ⟨_, rfl, H⟩
set_option maxRecDepth 8000 in
set_option maxHeartbeats 1000000 in
theorem bX3_takeMan_0 {l : Launch} {ad : Nat → Nat} {d : Nat} {R : Int32 → aH → Prop}   (x1 : Int32)  (h : aH)
    (H : ∀ y1 : Nat, y1 = h.2.2 2 1 → isS GC y1 ∧ (AW GC l ad d mX3_takeToldName 0 [(0, .ref (ad 2)), (1, .ref (ad (y1 + 1))), (2, .int (h.1 y1 11)), (3, .int x1)] [] h (qi fun z3 h2 => R z3 h2))) : AW GC l ad (d + 1) mX3_takeMan 0 [(0, .ref (ad 2)), (1, .int x1)] [] h (qi R) := by
  refine aw_aload_n dX3_takeMan_0 rfl 0 rfl ?_
  refine aw_aload_n dX3_takeMan_1 rfl 0 rfl ?_
  obtain ⟨y1, ey1⟩ : ∃ z, z = h.2.2 2 1 := ⟨_, rfl⟩
  obtain ⟨hy1, H⟩ := H y1 ey1
  refine aw_get dX3_takeMan_2 shC2 ckX3 flX3_21 (v := .ref (ad y1)) (by rw [ey1]; rfl) ?_
  refine aw_get dX3_takeMan_5 hy1.1 ckX6 flX3_106 (v := .ref (ad (y1 + 1))) rfl ?_
  refine aw_aload_n dX3_takeMan_8 rfl 0 rfl ?_
  refine aw_get dX3_takeMan_9 shC2 ckX3 flX3_21 (v := .ref (ad y1)) (by rw [ey1]; rfl) ?_
  refine aw_get dX3_takeMan_12 hy1.1 ckX6 flX3_99 (v := .int (h.1 y1 11)) rfl ?_
  refine aw_iload_n dX3_takeMan_15 rfl 1 rfl ?_
  refine cvX3_takeToldName dX3_takeMan_16 mlX3_203 shC2 (Nat.le_of_ble_eq_true rfl) H (fun z3 h2 H => ?_)
  exact aw_iret dX3_takeMan_19 rfl ⟨_, rfl, H⟩
set_option maxRecDepth 8000 in
set_option maxHeartbeats 1000000 in
theorem bX3_takeTusk_0 {l : Launch} {ad : Nat → Nat} {d : Nat} {R : Int32 → aH → Prop}   (x1 : Int32)  (h : aH)
    (H : ∀ y1 : Nat, y1 = h.2.2 2 1 → isS GC y1 ∧ (AW GC l ad d mX3_takeToldName 0 [(0, .ref (ad 2)), (1, .ref (ad (y1 + 2))), (2, .int (h.1 y1 12)), (3, .int x1)] [] h (qi fun z3 h2 => R z3 h2))) : AW GC l ad (d + 1) mX3_takeTusk 0 [(0, .ref (ad 2)), (1, .int x1)] [] h (qi R) := by
  refine aw_aload_n dX3_takeTusk_0 rfl 0 rfl ?_
  refine aw_aload_n dX3_takeTusk_1 rfl 0 rfl ?_
  obtain ⟨y1, ey1⟩ : ∃ z, z = h.2.2 2 1 := ⟨_, rfl⟩
  obtain ⟨hy1, H⟩ := H y1 ey1
  refine aw_get dX3_takeTusk_2 shC2 ckX3 flX3_21 (v := .ref (ad y1)) (by rw [ey1]; rfl) ?_
  refine aw_get dX3_takeTusk_5 hy1.1 ckX6 flX3_124 (v := .ref (ad (y1 + 2))) rfl ?_
  refine aw_aload_n dX3_takeTusk_8 rfl 0 rfl ?_
  refine aw_get dX3_takeTusk_9 shC2 ckX3 flX3_21 (v := .ref (ad y1)) (by rw [ey1]; rfl) ?_
  refine aw_get dX3_takeTusk_12 hy1.1 ckX6 flX3_121 (v := .int (h.1 y1 12)) rfl ?_
  refine aw_iload_n dX3_takeTusk_15 rfl 1 rfl ?_
  refine cvX3_takeToldName dX3_takeTusk_16 mlX3_203 shC2 (Nat.le_of_ble_eq_true rfl) H (fun z3 h2 H => ?_)
  exact aw_iret dX3_takeTusk_19 rfl ⟨_, rfl, H⟩
set_option maxRecDepth 8000 in
set_option maxHeartbeats 1000000 in
theorem bX3_takeToldName_0 {l : Launch} {ad : Nat → Nat} {d : Nat} {R : Int32 → aH → Prop} (a1 n1 : Nat) (ha1 : GC.2.2.2.1[a1]? = some (.inr (.int, n1))) (x2 : Int32) (x3 : Int32)  (h : aH)
    (H : AW GC l ad d mX3_toldIndex 0 [(0, .ref (ad 2)), (1, .ref (ad a1)), (2, .int x2)] [] h (qi fun z2 h1 => (z2 = (-1 : Int32) → (AW GC l ad (d + 1) mX3_takeToldName 25 [(0, .ref (ad 2)), (4, .int z2)] [] h1 (qi R))) ∧ (¬ z2 = (-1 : Int32) → ((¬ z2 = x3 → (AW GC l ad (d + 1) mX3_takeToldName 25 [(0, .ref (ad 2)), (4, .int z2)] [] h1 (qi R))) ∧ (z2 = x3 → (AW GC l ad d mX3_refuse 0 [(0, .ref (ad 2)), (1, .int (5 : Int32))] [] h1 (qv fun h3 => AW GC l ad (d + 1) mX3_takeToldName 25 [(0, .ref (ad 2)), (4, .int z2)] [] h3 (qi R)))))))) : AW GC l ad (d + 1) mX3_takeToldName 0 [(0, .ref (ad 2)), (1, .ref (ad a1)), (2, .int x2), (3, .int x3)] [] h (qi R) := by
  refine aw_aload_n dX3_takeToldName_0 rfl 0 rfl ?_
  refine aw_aload_n dX3_takeToldName_1 rfl 1 rfl ?_
  refine aw_iload_n dX3_takeToldName_2 rfl 2 rfl ?_
  refine cvX3_toldIndex dX3_takeToldName_3 mlX3_157 shC2 (Nat.le_of_ble_eq_true rfl) H (fun z2 h1 H => ?_)
  refine aw_istore (ls' := [(4, .int z2), (0, .ref (ad 2)), (1, .ref (ad a1)), (2, .int x2), (3, .int x3)]) dX3_takeToldName_6 (by decide) rfl ?_
  refine aw_iload dX3_takeToldName_8 0 rfl ?_
  refine aw_iconst (v := (-1)) dX3_takeToldName_10 (by decide) ?_
  refine aw_icmp_eq (tgt := 25) dX3_takeToldName_11 (by decide) (fun hc6 => ?_) (fun hc6 => ?_)
  · replace H := H.1 hc6
    exact aw_ls [1, 0] rfl H
  · replace H := H.2 hc6
    refine aw_iload dX3_takeToldName_14 0 rfl ?_
    refine aw_iload_n dX3_takeToldName_16 rfl 4 rfl ?_
    refine aw_icmp_ne (tgt := 25) dX3_takeToldName_17 (by decide) (fun hc5 => ?_) (fun hc5 => ?_)
    · replace H := H.1 hc5
      exact aw_ls [1, 0] rfl H
    · replace H := H.2 hc5
      refine aw_aload_n dX3_takeToldName_20 rfl 1 rfl ?_
      refine aw_iconst (v := 5) dX3_takeToldName_21 (by decide) ?_
      refine cvX3_refuse dX3_takeToldName_22 mlX3_72 shC2 (Nat.le_of_ble_eq_true rfl) H (fun h3 H => ?_)
      exact aw_ls [1, 0] rfl H
set_option maxRecDepth 8000 in
set_option maxHeartbeats 1000000 in
theorem bX3_takeToldName_25 {l : Launch} {ad : Nat → Nat} {d : Nat} {R : Int32 → aH → Prop} (a1 n1 : Nat) (ha1 : GC.2.2.2.1[a1]? = some (.inr (.int, n1))) (x4 : Int32)  (h : aH)
    (H : AW GC l ad d mX3_step 0 [(0, .ref (ad 2))] [] h (qv fun h1 => R x4 h1)) : AW GC l ad (d + 1) mX3_takeToldName 25 [(0, .ref (ad 2)), (4, .int x4)] [] h (qi R) := by
  refine aw_aload_n dX3_takeToldName_25 rfl 0 rfl ?_
  refine cvX3_step dX3_takeToldName_26 mlX3_69 shC2 (Nat.le_of_ble_eq_true rfl) H (fun h1 H => ?_)
  refine aw_iload dX3_takeToldName_29 1 rfl ?_
  exact aw_iret dX3_takeToldName_31 rfl ⟨_, rfl, H⟩
set_option maxRecDepth 8000 in
set_option maxHeartbeats 1000000 in
theorem bX3_toldIndex_0 {l : Launch} {ad : Nat → Nat} {d : Nat} {R : Int32 → aH → Prop} (a1 n1 : Nat) (ha1 : GC.2.2.2.1[a1]? = some (.inr (.int, n1))) (x2 : Int32)  (h : aH)
    (H : ((h.1 2 3) = 0 → (AW GC l ad d mX3_kind 0 [(0, .ref (ad 2))] [] h (qi fun z2 h1 => (z2 = (35 : Int32) → (AW GC l ad d mX3_value 0 [(0, .ref (ad 2))] [] h1 (qi fun z4 h3 => AW GC l ad d mX9_indexOf 0 [(0, .int z4), (1, .ref (ad a1)), (2, .int x2)] [] h3 (qi fun z6 h5 => (¬ z6 = (-1 : Int32) → (R z6 h5)) ∧ (z6 = (-1 : Int32) → (AW GC l ad d mX3_refuse 0 [(0, .ref (ad 2)), (1, .int (4 : Int32))] [] h5 (qv fun h7 => R z6 h7))))))) ∧ (¬ z2 = (35 : Int32) → (AW GC l ad d mX3_refuse 0 [(0, .ref (ad 2)), (1, .int (1 : Int32))] [] h1 (qv fun h10 => R (-1 : Int32) h10)))))) ∧ (¬ (h.1 2 3) = 0 → (R (-1 : Int32) h))) : AW GC l ad (d + 1) mX3_toldIndex 0 [(0, .ref (ad 2)), (1, .ref (ad a1)), (2, .int x2)] [] h (qi R) := by
  refine aw_aload_n dX3_toldIndex_0 rfl 0 rfl ?_
  refine aw_get dX3_toldIndex_1 shC2 ckX3 flX3_39 (v := .int (h.1 2 3)) rfl ?_
  refine aw_if_eq (tgt := 9) dX3_toldIndex_4 (by decide) (fun hc13 => ?_) (fun hc13 => ?_)
  · replace H := H.1 hc13
    refine aw_aload_n dX3_toldIndex_9 rfl 0 rfl ?_
    refine cvX3_kind dX3_toldIndex_10 mlX3_42 shC2 (Nat.le_of_ble_eq_true rfl) H (fun z2 h1 H => ?_)
    refine aw_bipush (v := 35) dX3_toldIndex_13 (by decide) ?_
    refine aw_icmp_eq (tgt := 25) dX3_toldIndex_15 (by decide) (fun hc12 => ?_) (fun hc12 => ?_)
    · replace H := H.1 hc12
      refine aw_aload_n dX3_toldIndex_25 rfl 0 rfl ?_
      refine cvX3_value dX3_toldIndex_26 mlX3_196 shC2 (Nat.le_of_ble_eq_true rfl) H (fun z4 h3 H => ?_)
      refine aw_aload_n dX3_toldIndex_29 rfl 1 rfl ?_
      refine aw_iload_n dX3_toldIndex_30 rfl 2 rfl ?_
      refine cnX9_indexOf dX3_toldIndex_31 (fun _ _ hz => hz.2) (Nat.le_of_ble_eq_true rfl) H (fun z6 h5 H => ?_)
      refine aw_istore_n (ls' := [(3, .int z6), (0, .ref (ad 2)), (1, .ref (ad a1)), (2, .int x2)]) dX3_toldIndex_34 rfl (by decide) rfl ?_
      refine aw_iload_n dX3_toldIndex_35 rfl 0 rfl ?_
      refine aw_iconst (v := (-1)) dX3_toldIndex_36 (by decide) ?_
      refine aw_icmp_ne (tgt := 45) dX3_toldIndex_37 (by decide) (fun hc9 => ?_) (fun hc9 => ?_)
      · replace H := H.1 hc9
        refine aw_iload_n dX3_toldIndex_45 rfl 0 rfl ?_
        exact aw_iret dX3_toldIndex_46 rfl ⟨_, rfl, H⟩
      · replace H := H.2 hc9
        refine aw_aload_n dX3_toldIndex_40 rfl 1 rfl ?_
        refine aw_iconst (v := 4) dX3_toldIndex_41 (by decide) ?_
        refine cvX3_refuse dX3_toldIndex_42 mlX3_72 shC2 (Nat.le_of_ble_eq_true rfl) H (fun h7 H => ?_)
        refine aw_iload_n dX3_toldIndex_45 rfl 0 rfl ?_
        exact aw_iret dX3_toldIndex_46 rfl ⟨_, rfl, H⟩
    · replace H := H.2 hc12
      refine aw_aload_n dX3_toldIndex_18 rfl 0 rfl ?_
      refine aw_iconst (v := 1) dX3_toldIndex_19 (by decide) ?_
      refine cvX3_refuse dX3_toldIndex_20 mlX3_72 shC2 (Nat.le_of_ble_eq_true rfl) H (fun h10 H => ?_)
      refine aw_iconst (v := (-1)) dX3_toldIndex_23 (by decide) ?_
      exact aw_iret dX3_toldIndex_24 rfl ⟨_, rfl, H⟩
  · replace H := H.2 hc13
    refine aw_iconst (v := (-1)) dX3_toldIndex_7 (by decide) ?_
    exact aw_iret dX3_toldIndex_8 rfl ⟨_, rfl, H⟩
set_option maxRecDepth 8000 in
set_option maxHeartbeats 1000000 in
theorem bX3_takeNumber_0 {l : Launch} {ad : Nat → Nat} {d : Nat} {R : Int32 → aH → Prop}   (x1 : Int32) (x2 : Int32)  (h : aH)
    (H : ((h.1 2 3) = 0 → (AW GC l ad d mX3_value 0 [(0, .ref (ad 2))] [] h (qi fun z2 h1 => AW GC l ad d mX3_kind 0 [(0, .ref (ad 2))] [] h1 (qi fun z4 h3 => (z4 = (34 : Int32) → ((z2 < x1 → (AW GC l ad (d + 1) mX3_takeNumber 41 [(0, .ref (ad 2)), (3, .int z2)] [] h3 (qi R))) ∧ (¬ z2 < x1 → ((z2 ≤ x2 → (AW GC l ad (d + 1) mX3_takeNumber 46 [(0, .ref (ad 2)), (3, .int z2)] [] h3 (qi R))) ∧ (¬ z2 ≤ x2 → (AW GC l ad (d + 1) mX3_takeNumber 41 [(0, .ref (ad 2)), (3, .int z2)] [] h3 (qi R))))))) ∧ (¬ z4 = (34 : Int32) → (AW GC l ad d mX3_refuse 0 [(0, .ref (ad 2)), (1, .int (1 : Int32))] [] h3 (qv fun h7 => AW GC l ad (d + 1) mX3_takeNumber 46 [(0, .ref (ad 2)), (3, .int z2)] [] h7 (qi R)))))))) ∧ (¬ (h.1 2 3) = 0 → (R (0 : Int32) h))) : AW GC l ad (d + 1) mX3_takeNumber 0 [(0, .ref (ad 2)), (1, .int x1), (2, .int x2)] [] h (qi R) := by
  refine aw_aload_n dX3_takeNumber_0 rfl 0 rfl ?_
  refine aw_get dX3_takeNumber_1 shC2 ckX3 flX3_39 (v := .int (h.1 2 3)) rfl ?_
  refine aw_if_eq (tgt := 9) dX3_takeNumber_4 (by decide) (fun hc10 => ?_) (fun hc10 => ?_)
  · replace H := H.1 hc10
    refine aw_aload_n dX3_takeNumber_9 rfl 0 rfl ?_
    refine cvX3_value dX3_takeNumber_10 mlX3_196 shC2 (Nat.le_of_ble_eq_true rfl) H (fun z2 h1 H => ?_)
    refine aw_istore_n (ls' := [(3, .int z2), (0, .ref (ad 2)), (1, .int x1), (2, .int x2)]) dX3_takeNumber_13 rfl (by decide) rfl ?_
    refine aw_aload_n dX3_takeNumber_14 rfl 1 rfl ?_
    refine cvX3_kind dX3_takeNumber_15 mlX3_42 shC2 (Nat.le_of_ble_eq_true rfl) H (fun z4 h3 H => ?_)
    refine aw_bipush (v := 34) dX3_takeNumber_18 (by decide) ?_
    refine aw_icmp_eq (tgt := 31) dX3_takeNumber_20 (by decide) (fun hc9 => ?_) (fun hc9 => ?_)
    · replace H := H.1 hc9
      refine aw_iload_n dX3_takeNumber_31 rfl 0 rfl ?_
      refine aw_iload_n dX3_takeNumber_32 rfl 2 rfl ?_
      refine aw_icmp_lt (tgt := 41) dX3_takeNumber_33 (by decide) (fun hc6 => ?_) (fun hc6 => ?_)
      · replace H := H.1 hc6
        exact aw_ls [1, 0] rfl H
      · replace H := H.2 hc6
        refine aw_iload_n dX3_takeNumber_36 rfl 0 rfl ?_
        refine aw_iload_n dX3_takeNumber_37 rfl 3 rfl ?_
        refine aw_icmp_le (tgt := 46) dX3_takeNumber_38 (by decide) (fun hc5 => ?_) (fun hc5 => ?_)
        · replace H := H.1 hc5
          exact aw_ls [1, 0] rfl H
        · replace H := H.2 hc5
          exact aw_ls [1, 0] rfl H
    · replace H := H.2 hc9
      refine aw_aload_n dX3_takeNumber_23 rfl 1 rfl ?_
      refine aw_iconst (v := 1) dX3_takeNumber_24 (by decide) ?_
      refine cvX3_refuse dX3_takeNumber_25 mlX3_72 shC2 (Nat.le_of_ble_eq_true rfl) H (fun h7 H => ?_)
      refine aw_goto (tgt := 46) dX3_takeNumber_28 (by decide) ?_
      exact aw_ls [1, 0] rfl H
  · replace H := H.2 hc10
    refine aw_iconst (v := 0) dX3_takeNumber_7 (by decide) ?_
    exact aw_iret dX3_takeNumber_8 rfl ⟨_, rfl, H⟩
set_option maxRecDepth 8000 in
set_option maxHeartbeats 1000000 in
theorem bX3_takeNumber_41 {l : Launch} {ad : Nat → Nat} {d : Nat} {R : Int32 → aH → Prop}   (x3 : Int32)  (h : aH)
    (H : AW GC l ad d mX3_refuse 0 [(0, .ref (ad 2)), (1, .int (2 : Int32))] [] h (qv fun h1 => AW GC l ad (d + 1) mX3_takeNumber 46 [(0, .ref (ad 2)), (3, .int x3)] [] h1 (qi R))) : AW GC l ad (d + 1) mX3_takeNumber 41 [(0, .ref (ad 2)), (3, .int x3)] [] h (qi R) := by
  refine aw_aload_n dX3_takeNumber_41 rfl 0 rfl ?_
  refine aw_iconst (v := 2) dX3_takeNumber_42 (by decide) ?_
  refine cvX3_refuse dX3_takeNumber_43 mlX3_72 shC2 (Nat.le_of_ble_eq_true rfl) H (fun h1 H => ?_)
  exact aw_ls [0, 1] rfl H
set_option maxRecDepth 8000 in
set_option maxHeartbeats 1000000 in
theorem bX3_takeNumber_46 {l : Launch} {ad : Nat → Nat} {d : Nat} {R : Int32 → aH → Prop}   (x3 : Int32)  (h : aH)
    (H : AW GC l ad d mX3_step 0 [(0, .ref (ad 2))] [] h (qv fun h1 => R x3 h1)) : AW GC l ad (d + 1) mX3_takeNumber 46 [(0, .ref (ad 2)), (3, .int x3)] [] h (qi R) := by
  refine aw_aload_n dX3_takeNumber_46 rfl 0 rfl ?_
  refine cvX3_step dX3_takeNumber_47 mlX3_69 shC2 (Nat.le_of_ble_eq_true rfl) H (fun h1 H => ?_)
  refine aw_iload_n dX3_takeNumber_50 rfl 1 rfl ?_
  exact aw_iret dX3_takeNumber_51 rfl ⟨_, rfl, H⟩
set_option maxRecDepth 8000 in
set_option maxHeartbeats 1000000 in
theorem bX3_takeKnot_0 {l : Launch} {ad : Nat → Nat} {d : Nat} {R : aH → Prop}     (h : aH)
    (H : ∀ y1 : Nat, y1 = h.2.2 2 1 → isS GC y1 ∧ (((h.1 y1 17) < (64 : Int32) → (AW GC l ad (d + 1) mX3_takeKnot 17 [(0, .ref (ad 2))] [] h (qv R))) ∧ (¬ (h.1 y1 17) < (64 : Int32) → (AW GC l ad d mX3_refuse 0 [(0, .ref (ad 2)), (1, .int (2 : Int32))] [] h (qv fun h2 => AW GC l ad (d + 1) mX3_takeKnot 17 [(0, .ref (ad 2))] [] h2 (qv R)))))) : AW GC l ad (d + 1) mX3_takeKnot 0 [(0, .ref (ad 2))] [] h (qv R) := by
  refine aw_aload_n dX3_takeKnot_0 rfl 0 rfl ?_
  obtain ⟨y1, ey1⟩ : ∃ z, z = h.2.2 2 1 := ⟨_, rfl⟩
  obtain ⟨hy1, H⟩ := H y1 ey1
  refine aw_get dX3_takeKnot_1 shC2 ckX3 flX3_21 (v := .ref (ad y1)) (by rw [ey1]; rfl) ?_
  refine aw_get dX3_takeKnot_4 hy1.1 ckX6 flX3_207 (v := .int (h.1 y1 17)) rfl ?_
  refine aw_bipush (v := 64) dX3_takeKnot_7 (by decide) ?_
  refine aw_icmp_lt (tgt := 17) dX3_takeKnot_9 (by decide) (fun hc4 => ?_) (fun hc4 => ?_)
  · replace H := H.1 hc4
    exact aw_ls [0] rfl H
  · replace H := H.2 hc4
    refine aw_aload_n dX3_takeKnot_12 rfl 0 rfl ?_
    refine aw_iconst (v := 2) dX3_takeKnot_13 (by decide) ?_
    refine cvX3_refuse dX3_takeKnot_14 mlX3_72 shC2 (Nat.le_of_ble_eq_true rfl) H (fun h2 H => ?_)
    exact aw_ls [0] rfl H
set_option maxRecDepth 8000 in
set_option maxHeartbeats 1000000 in
theorem bX3_takeKnot_17 {l : Launch} {ad : Nat → Nat} {d : Nat} {R : aH → Prop}     (h : aH)
    (H : ∀ y1 : Nat, y1 = h.2.2 2 1 → isS GC y1 ∧ (AW GC l ad d mX3_step 0 [(0, .ref (ad 2))] [] (sI h y1 17 ((h.1 y1 17) + (1 : Int32))) (qv fun h2 => R h2))) : AW GC l ad (d + 1) mX3_takeKnot 17 [(0, .ref (ad 2))] [] h (qv R) := by
  refine aw_aload_n dX3_takeKnot_17 rfl 0 rfl ?_
  obtain ⟨y1, ey1⟩ : ∃ z, z = h.2.2 2 1 := ⟨_, rfl⟩
  obtain ⟨hy1, H⟩ := H y1 ey1
  refine aw_get dX3_takeKnot_18 shC2 ckX3 flX3_21 (v := .ref (ad y1)) (by rw [ey1]; rfl) ?_
  refine aw_dup dX3_takeKnot_21 rfl ?_
  refine aw_get dX3_takeKnot_22 hy1.1 ckX6 flX3_207 (v := .int (h.1 y1 17)) rfl ?_
  refine aw_iconst (v := 1) dX3_takeKnot_25 (by decide) ?_
  refine aw_iadd dX3_takeKnot_26 ?_
  refine aw_putI dX3_takeKnot_27 hy1.1 ckX6 flX3_207 rfl (fun _ => rfl) rfl rfl ?_
  refine aw_aload_n dX3_takeKnot_30 rfl 0 rfl ?_
  refine cvX3_step dX3_takeKnot_31 mlX3_69 shC2 (Nat.le_of_ble_eq_true rfl) H (fun h2 H => ?_)
  exact aw_vret dX3_takeKnot_34 rfl ⟨rfl, H⟩
set_option maxRecDepth 8000 in
set_option maxHeartbeats 1000000 in
theorem bX3_readLevel_0 {l : Launch} {ad : Nat → Nat} {d : Nat} {R : aH → Prop} (v3 : Nat) (hv3 : isL GC v3) (x1 : Int32) (x2 : Int32)  (h : aH)
    (H : (x1 < (6 : Int32) → ((¬ x1 = (2 : Int32) → (AW GC l ad (d + 1) mX3_readLevel 26 [(0, .ref (ad 2)), (1, .int x1), (2, .int x2), (3, .ref (ad v3))] [.int (0 : Int32)] h (qv R))) ∧ (x1 = (2 : Int32) → (AW GC l ad d mX3_takeNots 0 [(0, .ref (ad 2))] [] h (qi fun z2 h1 => AW GC l ad (d + 1) mX3_readLevel 26 [(0, .ref (ad 2)), (1, .int x1), (2, .int x2), (3, .ref (ad v3))] [.int z2] h1 (qv R)))))) ∧ (¬ x1 < (6 : Int32) → (AW GC l ad d mX3_readPart 0 [(0, .ref (ad 2)), (1, .int x2), (2, .ref (ad v3))] [] h (qv fun h4 => R h4)))) : AW GC l ad (d + 1) mX3_readLevel 0 [(0, .ref (ad 2)), (1, .int x1), (2, .int x2), (3, .ref (ad v3))] [] h (qv R) := by
  refine aw_iload_n dX3_readLevel_0 rfl 1 rfl ?_
  refine aw_bipush (v := 6) dX3_readLevel_1 (by decide) ?_
  refine aw_icmp_lt (tgt := 13) dX3_readLevel_3 (by decide) (fun hc6 => ?_) (fun hc6 => ?_)
  · replace H := H.1 hc6
    refine aw_iload_n dX3_readLevel_13 rfl 1 rfl ?_
    refine aw_iconst (v := 2) dX3_readLevel_14 (by decide) ?_
    refine aw_icmp_ne (tgt := 25) dX3_readLevel_15 (by decide) (fun hc3 => ?_) (fun hc3 => ?_)
    · replace H := H.1 hc3
      refine aw_iconst (v := 0) dX3_readLevel_25 (by decide) ?_
      exact aw_ls [0, 1, 2, 3] rfl H
    · replace H := H.2 hc3
      refine aw_aload_n dX3_readLevel_18 rfl 0 rfl ?_
      refine cvX3_takeNots dX3_readLevel_19 mlX3_214 shC2 (Nat.le_of_ble_eq_true rfl) H (fun z2 h1 H => ?_)
      refine aw_goto (tgt := 26) dX3_readLevel_22 (by decide) ?_
      exact aw_ls [0, 1, 2, 3] rfl H
  · replace H := H.2 hc6
    refine aw_aload_n dX3_readLevel_6 rfl 0 rfl ?_
    refine aw_iload_n dX3_readLevel_7 rfl 2 rfl ?_
    refine aw_aload_n dX3_readLevel_8 rfl 3 rfl ?_
    refine cvX3_readPart dX3_readLevel_9 mlX3_210 shC2 (Nat.le_of_ble_eq_true rfl) H (fun h4 H => ?_)
    exact aw_vret dX3_readLevel_12 rfl ⟨rfl, H⟩
set_option maxRecDepth 8000 in
set_option maxHeartbeats 1000000 in
theorem bX3_readLevel_26 {l : Launch} {ad : Nat → Nat} {d : Nat} {R : aH → Prop} (v3 : Nat) (hv3 : isL GC v3) (x1 : Int32) (x2 : Int32) (s0 : Int32)  (h : aH)
    (H : AW GC l ad d mX3_readLevel 0 [(0, .ref (ad 2)), (1, .int (x1 + (1 : Int32))), (2, .int x2), (3, .ref (ad v3))] [] h (qv fun h1 => (¬ x1 = (3 : Int32) → (AW GC l ad (d + 1) mX3_readLevel 53 [(0, .ref (ad 2)), (1, .int x1), (2, .int x2), (3, .ref (ad v3)), (4, .int s0), (5, .int (64 : Int32)), (6, .int (0 : Int32))] [] h1 (qv R))) ∧ (x1 = (3 : Int32) → (AW GC l ad (d + 1) mX3_readLevel 53 [(0, .ref (ad 2)), (1, .int x1), (2, .int x2), (3, .ref (ad v3)), (4, .int s0), (5, .int (1 : Int32)), (6, .int (0 : Int32))] [] h1 (qv R))))) : AW GC l ad (d + 1) mX3_readLevel 26 [(0, .ref (ad 2)), (1, .int x1), (2, .int x2), (3, .ref (ad v3))] [.int s0] h (qv R) := by
  refine aw_istore (ls' := [(4, .int s0), (0, .ref (ad 2)), (1, .int x1), (2, .int x2), (3, .ref (ad v3))]) dX3_readLevel_26 (by decide) rfl ?_
  refine aw_aload_n dX3_readLevel_28 rfl 1 rfl ?_
  refine aw_iload_n dX3_readLevel_29 rfl 2 rfl ?_
  refine aw_iconst (v := 1) dX3_readLevel_30 (by decide) ?_
  refine aw_iadd dX3_readLevel_31 ?_
  refine aw_iload_n dX3_readLevel_32 rfl 3 rfl ?_
  refine aw_aload_n dX3_readLevel_33 rfl 4 rfl ?_
  refine cvX3_readLevel dX3_readLevel_34 mlX3_192 shC2 (Nat.le_of_ble_eq_true rfl) H (fun h1 H => ?_)
  refine aw_iload_n dX3_readLevel_37 rfl 2 rfl ?_
  refine aw_iconst (v := 3) dX3_readLevel_38 (by decide) ?_
  refine aw_icmp_ne (tgt := 46) dX3_readLevel_39 (by decide) (fun hc3 => ?_) (fun hc3 => ?_)
  · replace H := H.1 hc3
    refine aw_bipush (v := 64) dX3_readLevel_46 (by decide) ?_
    refine aw_istore (ls' := [(5, .int (64 : Int32)), (4, .int s0), (0, .ref (ad 2)), (1, .int x1), (2, .int x2), (3, .ref (ad v3))]) dX3_readLevel_48 (by decide) rfl ?_
    refine aw_iconst (v := 0) dX3_readLevel_50 (by decide) ?_
    refine aw_istore (ls' := [(6, .int (0 : Int32)), (5, .int (64 : Int32)), (4, .int s0), (0, .ref (ad 2)), (1, .int x1), (2, .int x2), (3, .ref (ad v3))]) dX3_readLevel_51 (by decide) rfl ?_
    exact aw_ls [3, 4, 5, 6, 2, 1, 0] rfl H
  · replace H := H.2 hc3
    refine aw_iconst (v := 1) dX3_readLevel_42 (by decide) ?_
    refine aw_goto (tgt := 48) dX3_readLevel_43 (by decide) ?_
    refine aw_istore (ls' := [(5, .int (1 : Int32)), (4, .int s0), (0, .ref (ad 2)), (1, .int x1), (2, .int x2), (3, .ref (ad v3))]) dX3_readLevel_48 (by decide) rfl ?_
    refine aw_iconst (v := 0) dX3_readLevel_50 (by decide) ?_
    refine aw_istore (ls' := [(6, .int (0 : Int32)), (5, .int (1 : Int32)), (4, .int s0), (0, .ref (ad 2)), (1, .int x1), (2, .int x2), (3, .ref (ad v3))]) dX3_readLevel_51 (by decide) rfl ?_
    exact aw_ls [3, 4, 5, 6, 2, 1, 0] rfl H
set_option maxRecDepth 8000 in
set_option maxHeartbeats 1000000 in
theorem bX3_readLevel_53 {l : Launch} {ad : Nat → Nat} {d : Nat} {R : aH → Prop} (v3 : Nat) (hv3 : isL GC v3) (x1 : Int32) (x2 : Int32) (x4 : Int32) (x5 : Int32) (x6 : Int32)  (h : aH)
    (H : (x5 ≤ x6 → (AW GC l ad (d + 1) mX3_readLevel 112 [(3, .ref (ad v3)), (4, .int x4), (6, .int (0 : Int32))] [] h (qv R))) ∧ (¬ x5 ≤ x6 → ((¬ (h.1 2 3) = 0 → (AW GC l ad (d + 1) mX3_readLevel 112 [(3, .ref (ad v3)), (4, .int x4), (6, .int (0 : Int32))] [] h (qv R))) ∧ ((h.1 2 3) = 0 → (AW GC l ad d mX3_kind 0 [(0, .ref (ad 2))] [] h (qi fun z2 h1 => AW GC l ad d mX3_levelOf 0 [(0, .int z2)] [] h1 (qi fun z4 h3 => (¬ z4 = x1 → (AW GC l ad (d + 1) mX3_readLevel 112 [(3, .ref (ad v3)), (4, .int x4), (6, .int (0 : Int32))] [] h3 (qv R))) ∧ (z4 = x1 → (AW GC l ad d mX3_kind 0 [(0, .ref (ad 2))] [] h3 (qi fun z6 h5 => AW GC l ad d mX3_takeKnot 0 [(0, .ref (ad 2))] [] h5 (qv fun h7 => AW GC l ad d mX3_readLevel 0 [(0, .ref (ad 2)), (1, .int (x1 + (1 : Int32))), (2, .int x2), (3, .ref (ad v3))] [] h7 (qv fun h9 => AW GC l ad d mX1_add 0 [(0, .ref (ad v3)), (1, .int z6)] [] h9 (qv fun h11 => AW GC l ad (d + 1) mX3_readLevel 53 [(0, .ref (ad 2)), (1, .int x1), (2, .int x2), (3, .ref (ad v3)), (4, .int x4), (5, .int x5), (6, .int (x6 + (1 : Int32)))] [] h11 (qv R)))))))))))))) : AW GC l ad (d + 1) mX3_readLevel 53 [(0, .ref (ad 2)), (1, .int x1), (2, .int x2), (3, .ref (ad v3)), (4, .int x4), (5, .int x5), (6, .int x6)] [] h (qv R) := by
  refine aw_iload dX3_readLevel_53 6 rfl ?_
  refine aw_iload dX3_readLevel_55 5 rfl ?_
  refine aw_icmp_ge (tgt := 109) dX3_readLevel_57 (by decide) (fun hc15 => ?_) (fun hc15 => ?_)
  · replace H := H.1 hc15
    refine aw_iconst (v := 0) dX3_readLevel_109 (by decide) ?_
    refine aw_istore (ls' := [(6, .int (0 : Int32)), (0, .ref (ad 2)), (1, .int x1), (2, .int x2), (3, .ref (ad v3)), (4, .int x4), (5, .int x5)]) dX3_readLevel_110 (by decide) rfl ?_
    exact aw_ls [4, 5, 0] rfl H
  · replace H := H.2 hc15
    refine aw_aload_n dX3_readLevel_60 rfl 0 rfl ?_
    refine aw_get dX3_readLevel_61 shC2 ckX3 flX3_39 (v := .int (h.1 2 3)) rfl ?_
    refine aw_if_ne (tgt := 109) dX3_readLevel_64 (by decide) (fun hc14 => ?_) (fun hc14 => ?_)
    · replace H := H.1 hc14
      refine aw_iconst (v := 0) dX3_readLevel_109 (by decide) ?_
      refine aw_istore (ls' := [(6, .int (0 : Int32)), (0, .ref (ad 2)), (1, .int x1), (2, .int x2), (3, .ref (ad v3)), (4, .int x4), (5, .int x5)]) dX3_readLevel_110 (by decide) rfl ?_
      exact aw_ls [4, 5, 0] rfl H
    · replace H := H.2 hc14
      refine aw_aload_n dX3_readLevel_67 rfl 0 rfl ?_
      refine cvX3_kind dX3_readLevel_68 mlX3_42 shC2 (Nat.le_of_ble_eq_true rfl) H (fun z2 h1 H => ?_)
      refine cvX3_levelOf dX3_readLevel_71 mlX3_217 (Nat.le_of_ble_eq_true rfl) H (fun z4 h3 H => ?_)
      refine aw_iload_n dX3_readLevel_74 rfl 1 rfl ?_
      refine aw_icmp_ne (tgt := 109) dX3_readLevel_75 (by decide) (fun hc13 => ?_) (fun hc13 => ?_)
      · replace H := H.1 hc13
        refine aw_iconst (v := 0) dX3_readLevel_109 (by decide) ?_
        refine aw_istore (ls' := [(6, .int (0 : Int32)), (0, .ref (ad 2)), (1, .int x1), (2, .int x2), (3, .ref (ad v3)), (4, .int x4), (5, .int x5)]) dX3_readLevel_110 (by decide) rfl ?_
        exact aw_ls [4, 5, 0] rfl H
      · replace H := H.2 hc13
        refine aw_aload_n dX3_readLevel_78 rfl 0 rfl ?_
        refine cvX3_kind dX3_readLevel_79 mlX3_42 shC2 (Nat.le_of_ble_eq_true rfl) H (fun z6 h5 H => ?_)
        refine aw_istore (ls' := [(7, .int z6), (0, .ref (ad 2)), (1, .int x1), (2, .int x2), (3, .ref (ad v3)), (4, .int x4), (5, .int x5), (6, .int x6)]) dX3_readLevel_82 (by decide) rfl ?_
        refine aw_aload_n dX3_readLevel_84 rfl 1 rfl ?_
        refine cvX3_takeKnot dX3_readLevel_85 mlX3_220 shC2 (Nat.le_of_ble_eq_true rfl) H (fun h7 H => ?_)
        refine aw_aload_n dX3_readLevel_88 rfl 1 rfl ?_
        refine aw_iload_n dX3_readLevel_89 rfl 2 rfl ?_
        refine aw_iconst (v := 1) dX3_readLevel_90 (by decide) ?_
        refine aw_iadd dX3_readLevel_91 ?_
        refine aw_iload_n dX3_readLevel_92 rfl 3 rfl ?_
        refine aw_aload_n dX3_readLevel_93 rfl 4 rfl ?_
        refine cvX3_readLevel dX3_readLevel_94 mlX3_192 shC2 (Nat.le_of_ble_eq_true rfl) H (fun h9 H => ?_)
        refine aw_aload_n dX3_readLevel_97 rfl 4 rfl ?_
        refine aw_iload dX3_readLevel_98 0 rfl ?_
        refine cvX1_add dX3_readLevel_100 mlX3_223 hv3.1 (Nat.le_of_ble_eq_true rfl) H (fun h11 H => ?_)
        refine aw_inc (mm := (1)) (ls' := [(6, .int (x6 + (1 : Int32))), (7, .int z6), (0, .ref (ad 2)), (1, .int x1), (2, .int x2), (3, .ref (ad v3)), (4, .int x4), (5, .int x5)]) dX3_readLevel_103 (by decide) (j := 7) rfl (by decide) rfl ?_
        refine aw_goto (tgt := 53) dX3_readLevel_106 (by decide) ?_
        exact aw_ls [2, 3, 4, 5, 6, 7, 0] rfl H
set_option maxRecDepth 8000 in
set_option maxHeartbeats 1000000 in
theorem bX3_readLevel_112 {l : Launch} {ad : Nat → Nat} {d : Nat} {R : aH → Prop} (v3 : Nat) (hv3 : isL GC v3) (x4 : Int32) (x6 : Int32)  (h : aH)
    (H : (x4 ≤ x6 → (R h)) ∧ (¬ x4 ≤ x6 → (AW GC l ad d mX1_add 0 [(0, .ref (ad v3)), (1, .int (11 : Int32))] [] h (qv fun h1 => AW GC l ad (d + 1) mX3_readLevel 112 [(3, .ref (ad v3)), (4, .int x4), (6, .int (x6 + (1 : Int32)))] [] h1 (qv R))))) : AW GC l ad (d + 1) mX3_readLevel 112 [(3, .ref (ad v3)), (4, .int x4), (6, .int x6)] [] h (qv R) := by
  refine aw_iload dX3_readLevel_112 2 rfl ?_
  refine aw_iload dX3_readLevel_114 1 rfl ?_
  refine aw_icmp_ge (tgt := 131) dX3_readLevel_116 (by decide) (fun hc3 => ?_) (fun hc3 => ?_)
  · replace H := H.1 hc3
    exact aw_vret dX3_readLevel_131 rfl ⟨rfl, H⟩
  · replace H := H.2 hc3
    refine aw_aload_n dX3_readLevel_119 rfl 0 rfl ?_
    refine aw_bipush (v := 11) dX3_readLevel_120 (by decide) ?_
    refine cvX1_add dX3_readLevel_122 mlX3_223 hv3.1 (Nat.le_of_ble_eq_true rfl) H (fun h1 H => ?_)
    refine aw_inc (mm := (1)) (ls' := [(6, .int (x6 + (1 : Int32))), (3, .ref (ad v3)), (4, .int x4)]) dX3_readLevel_125 (by decide) (j := 2) rfl (by decide) rfl ?_
    refine aw_goto (tgt := 112) dX3_readLevel_128 (by decide) ?_
    exact aw_ls [1, 2, 0] rfl H
set_option maxRecDepth 8000 in
set_option maxHeartbeats 1000000 in
theorem bX3_takeNots_0 {l : Launch} {ad : Nat → Nat} {d : Nat} {R : Int32 → aH → Prop}     (h : aH)
    (H : AW GC l ad (d + 1) mX3_takeNots 2 [(0, .ref (ad 2)), (1, .int (0 : Int32))] [] h (qi R)) : AW GC l ad (d + 1) mX3_takeNots 0 [(0, .ref (ad 2))] [] h (qi R) := by
  refine aw_iconst (v := 0) dX3_takeNots_0 (by decide) ?_
  refine aw_istore_n (ls' := [(1, .int (0 : Int32)), (0, .ref (ad 2))]) dX3_takeNots_1 rfl (by decide) rfl ?_
  exact aw_ls [1, 0] rfl H
set_option maxRecDepth 8000 in
set_option maxHeartbeats 1000000 in
theorem bX3_takeNots_2 {l : Launch} {ad : Nat → Nat} {d : Nat} {R : Int32 → aH → Prop}   (x1 : Int32)  (h : aH)
    (H : ((64 : Int32) < x1 → (R x1 h)) ∧ (¬ (64 : Int32) < x1 → ((¬ (h.1 2 3) = 0 → (R x1 h)) ∧ ((h.1 2 3) = 0 → (AW GC l ad d mX3_kind 0 [(0, .ref (ad 2))] [] h (qi fun z2 h1 => (¬ z2 = (11 : Int32) → (R x1 h1)) ∧ (z2 = (11 : Int32) → (AW GC l ad d mX3_takeKnot 0 [(0, .ref (ad 2))] [] h1 (qv fun h3 => AW GC l ad (d + 1) mX3_takeNots 2 [(0, .ref (ad 2)), (1, .int (x1 + (1 : Int32)))] [] h3 (qi R)))))))))) : AW GC l ad (d + 1) mX3_takeNots 2 [(0, .ref (ad 2)), (1, .int x1)] [] h (qi R) := by
  refine aw_iload_n dX3_takeNots_2 rfl 1 rfl ?_
  refine aw_bipush (v := 64) dX3_takeNots_3 (by decide) ?_
  refine aw_icmp_gt (tgt := 34) dX3_takeNots_5 (by decide) (fun hc7 => ?_) (fun hc7 => ?_)
  · replace H := H.1 hc7
    refine aw_iload_n dX3_takeNots_34 rfl 1 rfl ?_
    exact aw_iret dX3_takeNots_35 rfl ⟨_, rfl, H⟩
  · replace H := H.2 hc7
    refine aw_aload_n dX3_takeNots_8 rfl 0 rfl ?_
    refine aw_get dX3_takeNots_9 shC2 ckX3 flX3_39 (v := .int (h.1 2 3)) rfl ?_
    refine aw_if_ne (tgt := 34) dX3_takeNots_12 (by decide) (fun hc6 => ?_) (fun hc6 => ?_)
    · replace H := H.1 hc6
      refine aw_iload_n dX3_takeNots_34 rfl 1 rfl ?_
      exact aw_iret dX3_takeNots_35 rfl ⟨_, rfl, H⟩
    · replace H := H.2 hc6
      refine aw_aload_n dX3_takeNots_15 rfl 0 rfl ?_
      refine cvX3_kind dX3_takeNots_16 mlX3_42 shC2 (Nat.le_of_ble_eq_true rfl) H (fun z2 h1 H => ?_)
      refine aw_bipush (v := 11) dX3_takeNots_19 (by decide) ?_
      refine aw_icmp_ne (tgt := 34) dX3_takeNots_21 (by decide) (fun hc5 => ?_) (fun hc5 => ?_)
      · replace H := H.1 hc5
        refine aw_iload_n dX3_takeNots_34 rfl 1 rfl ?_
        exact aw_iret dX3_takeNots_35 rfl ⟨_, rfl, H⟩
      · replace H := H.2 hc5
        refine aw_aload_n dX3_takeNots_24 rfl 0 rfl ?_
        refine cvX3_takeKnot dX3_takeNots_25 mlX3_220 shC2 (Nat.le_of_ble_eq_true rfl) H (fun h3 H => ?_)
        refine aw_inc (mm := (1)) (ls' := [(1, .int (x1 + (1 : Int32))), (0, .ref (ad 2))]) dX3_takeNots_28 (by decide) (j := 1) rfl (by decide) rfl ?_
        refine aw_goto (tgt := 2) dX3_takeNots_31 (by decide) ?_
        exact aw_ls [1, 0] rfl H
set_option maxRecDepth 8000 in
set_option maxHeartbeats 1000000 in
theorem bX3_levelOf_0 {l : Launch} {ad : Nat → Nat} {d : Nat} {R : Int32 → aH → Prop}   (x0 : Int32)  (h : aH)
    (H : (x0 = (12 : Int32) → (R (1 : Int32) h)) ∧ ((x0 = (13 : Int32) → (R (0 : Int32) h)) ∧ ((x0 = (14 : Int32) → (R (-1 : Int32) h)) ∧ ((x0 = (15 : Int32) → (R (-1 : Int32) h)) ∧ ((x0 = (16 : Int32) → (R (-1 : Int32) h)) ∧ ((x0 = (17 : Int32) → (R (-1 : Int32) h)) ∧ ((x0 = (18 : Int32) → (R (-1 : Int32) h)) ∧ ((x0 = (19 : Int32) → (R (-1 : Int32) h)) ∧ ((x0 = (20 : Int32) → (R (-1 : Int32) h)) ∧ ((x0 = (21 : Int32) → (R (-1 : Int32) h)) ∧ ((x0 = (22 : Int32) → (R (-1 : Int32) h)) ∧ ((x0 = (23 : Int32) → (R (-1 : Int32) h)) ∧ ((x0 = (24 : Int32) → (R (4 : Int32) h)) ∧ ((x0 = (25 : Int32) → (R (4 : Int32) h)) ∧ ((x0 = (26 : Int32) → (R (5 : Int32) h)) ∧ ((x0 = (27 : Int32) → (R (5 : Int32) h)) ∧ ((x0 = (28 : Int32) → (R (3 : Int32) h)) ∧ ((x0 = (29 : Int32) → (R (3 : Int32) h)) ∧ ((x0 = (30 : Int32) → (R (3 : Int32) h)) ∧ ((x0 = (31 : Int32) → (R (3 : Int32) h)) ∧ ((x0 = (32 : Int32) → (R (3 : Int32) h)) ∧ ((x0 = (33 : Int32) → (R (3 : Int32) h)) ∧ (¬ x0 = (12 : Int32) → ¬ x0 = (13 : Int32) → ¬ x0 = (14 : Int32) → ¬ x0 = (15 : Int32) → ¬ x0 = (16 : Int32) → ¬ x0 = (17 : Int32) → ¬ x0 = (18 : Int32) → ¬ x0 = (19 : Int32) → ¬ x0 = (20 : Int32) → ¬ x0 = (21 : Int32) → ¬ x0 = (22 : Int32) → ¬ x0 = (23 : Int32) → ¬ x0 = (24 : Int32) → ¬ x0 = (25 : Int32) → ¬ x0 = (26 : Int32) → ¬ x0 = (27 : Int32) → ¬ x0 = (28 : Int32) → ¬ x0 = (29 : Int32) → ¬ x0 = (30 : Int32) → ¬ x0 = (31 : Int32) → ¬ x0 = (32 : Int32) → ¬ x0 = (33 : Int32) → (R (-1 : Int32) h)))))))))))))))))))))))) : AW GC l ad d mX3_levelOf 0 [(0, .int x0)] [] h (qi R) := by
  refine aw_iload_n dX3_levelOf_0 rfl 0 rfl ?_
  by_cases hx1_0 : x0 = (12 : Int32)
  · replace H := H.1 hx1_0
    refine aw_tableIn (off := 105) (tgt := 106) dX3_levelOf_1 (by rw [hx1_0]; decide) (by rw [hx1_0]; decide) (by rw [hx1_0]; decide) (by decide) ?_
    refine aw_iconst (v := 1) dX3_levelOf_106 (by decide) ?_
    exact aw_iret dX3_levelOf_107 rfl ⟨_, rfl, H⟩
  by_cases hx1_1 : x0 = (13 : Int32)
  · replace H := H.2.1 hx1_1
    refine aw_tableIn (off := 103) (tgt := 104) dX3_levelOf_1 (by rw [hx1_1]; decide) (by rw [hx1_1]; decide) (by rw [hx1_1]; decide) (by decide) ?_
    refine aw_iconst (v := 0) dX3_levelOf_104 (by decide) ?_
    exact aw_iret dX3_levelOf_105 rfl ⟨_, rfl, H⟩
  by_cases hx1_2 : x0 = (14 : Int32)
  · replace H := H.2.2.1 hx1_2
    refine aw_tableIn (off := 113) (tgt := 114) dX3_levelOf_1 (by rw [hx1_2]; decide) (by rw [hx1_2]; decide) (by rw [hx1_2]; decide) (by decide) ?_
    refine aw_iconst (v := (-1)) dX3_levelOf_114 (by decide) ?_
    exact aw_iret dX3_levelOf_115 rfl ⟨_, rfl, H⟩
  by_cases hx1_3 : x0 = (15 : Int32)
  · replace H := H.2.2.2.1 hx1_3
    refine aw_tableIn (off := 113) (tgt := 114) dX3_levelOf_1 (by rw [hx1_3]; decide) (by rw [hx1_3]; decide) (by rw [hx1_3]; decide) (by decide) ?_
    refine aw_iconst (v := (-1)) dX3_levelOf_114 (by decide) ?_
    exact aw_iret dX3_levelOf_115 rfl ⟨_, rfl, H⟩
  by_cases hx1_4 : x0 = (16 : Int32)
  · replace H := H.2.2.2.2.1 hx1_4
    refine aw_tableIn (off := 113) (tgt := 114) dX3_levelOf_1 (by rw [hx1_4]; decide) (by rw [hx1_4]; decide) (by rw [hx1_4]; decide) (by decide) ?_
    refine aw_iconst (v := (-1)) dX3_levelOf_114 (by decide) ?_
    exact aw_iret dX3_levelOf_115 rfl ⟨_, rfl, H⟩
  by_cases hx1_5 : x0 = (17 : Int32)
  · replace H := H.2.2.2.2.2.1 hx1_5
    refine aw_tableIn (off := 113) (tgt := 114) dX3_levelOf_1 (by rw [hx1_5]; decide) (by rw [hx1_5]; decide) (by rw [hx1_5]; decide) (by decide) ?_
    refine aw_iconst (v := (-1)) dX3_levelOf_114 (by decide) ?_
    exact aw_iret dX3_levelOf_115 rfl ⟨_, rfl, H⟩
  by_cases hx1_6 : x0 = (18 : Int32)
  · replace H := H.2.2.2.2.2.2.1 hx1_6
    refine aw_tableIn (off := 113) (tgt := 114) dX3_levelOf_1 (by rw [hx1_6]; decide) (by rw [hx1_6]; decide) (by rw [hx1_6]; decide) (by decide) ?_
    refine aw_iconst (v := (-1)) dX3_levelOf_114 (by decide) ?_
    exact aw_iret dX3_levelOf_115 rfl ⟨_, rfl, H⟩
  by_cases hx1_7 : x0 = (19 : Int32)
  · replace H := H.2.2.2.2.2.2.2.1 hx1_7
    refine aw_tableIn (off := 113) (tgt := 114) dX3_levelOf_1 (by rw [hx1_7]; decide) (by rw [hx1_7]; decide) (by rw [hx1_7]; decide) (by decide) ?_
    refine aw_iconst (v := (-1)) dX3_levelOf_114 (by decide) ?_
    exact aw_iret dX3_levelOf_115 rfl ⟨_, rfl, H⟩
  by_cases hx1_8 : x0 = (20 : Int32)
  · replace H := H.2.2.2.2.2.2.2.2.1 hx1_8
    refine aw_tableIn (off := 113) (tgt := 114) dX3_levelOf_1 (by rw [hx1_8]; decide) (by rw [hx1_8]; decide) (by rw [hx1_8]; decide) (by decide) ?_
    refine aw_iconst (v := (-1)) dX3_levelOf_114 (by decide) ?_
    exact aw_iret dX3_levelOf_115 rfl ⟨_, rfl, H⟩
  by_cases hx1_9 : x0 = (21 : Int32)
  · replace H := H.2.2.2.2.2.2.2.2.2.1 hx1_9
    refine aw_tableIn (off := 113) (tgt := 114) dX3_levelOf_1 (by rw [hx1_9]; decide) (by rw [hx1_9]; decide) (by rw [hx1_9]; decide) (by decide) ?_
    refine aw_iconst (v := (-1)) dX3_levelOf_114 (by decide) ?_
    exact aw_iret dX3_levelOf_115 rfl ⟨_, rfl, H⟩
  by_cases hx1_10 : x0 = (22 : Int32)
  · replace H := H.2.2.2.2.2.2.2.2.2.2.1 hx1_10
    refine aw_tableIn (off := 113) (tgt := 114) dX3_levelOf_1 (by rw [hx1_10]; decide) (by rw [hx1_10]; decide) (by rw [hx1_10]; decide) (by decide) ?_
    refine aw_iconst (v := (-1)) dX3_levelOf_114 (by decide) ?_
    exact aw_iret dX3_levelOf_115 rfl ⟨_, rfl, H⟩
  by_cases hx1_11 : x0 = (23 : Int32)
  · replace H := H.2.2.2.2.2.2.2.2.2.2.2.1 hx1_11
    refine aw_tableIn (off := 113) (tgt := 114) dX3_levelOf_1 (by rw [hx1_11]; decide) (by rw [hx1_11]; decide) (by rw [hx1_11]; decide) (by decide) ?_
    refine aw_iconst (v := (-1)) dX3_levelOf_114 (by decide) ?_
    exact aw_iret dX3_levelOf_115 rfl ⟨_, rfl, H⟩
  by_cases hx1_12 : x0 = (24 : Int32)
  · replace H := H.2.2.2.2.2.2.2.2.2.2.2.2.1 hx1_12
    refine aw_tableIn (off := 109) (tgt := 110) dX3_levelOf_1 (by rw [hx1_12]; decide) (by rw [hx1_12]; decide) (by rw [hx1_12]; decide) (by decide) ?_
    refine aw_iconst (v := 4) dX3_levelOf_110 (by decide) ?_
    exact aw_iret dX3_levelOf_111 rfl ⟨_, rfl, H⟩
  by_cases hx1_13 : x0 = (25 : Int32)
  · replace H := H.2.2.2.2.2.2.2.2.2.2.2.2.2.1 hx1_13
    refine aw_tableIn (off := 109) (tgt := 110) dX3_levelOf_1 (by rw [hx1_13]; decide) (by rw [hx1_13]; decide) (by rw [hx1_13]; decide) (by decide) ?_
    refine aw_iconst (v := 4) dX3_levelOf_110 (by decide) ?_
    exact aw_iret dX3_levelOf_111 rfl ⟨_, rfl, H⟩
  by_cases hx1_14 : x0 = (26 : Int32)
  · replace H := H.2.2.2.2.2.2.2.2.2.2.2.2.2.2.1 hx1_14
    refine aw_tableIn (off := 111) (tgt := 112) dX3_levelOf_1 (by rw [hx1_14]; decide) (by rw [hx1_14]; decide) (by rw [hx1_14]; decide) (by decide) ?_
    refine aw_iconst (v := 5) dX3_levelOf_112 (by decide) ?_
    exact aw_iret dX3_levelOf_113 rfl ⟨_, rfl, H⟩
  by_cases hx1_15 : x0 = (27 : Int32)
  · replace H := H.2.2.2.2.2.2.2.2.2.2.2.2.2.2.2.1 hx1_15
    refine aw_tableIn (off := 111) (tgt := 112) dX3_levelOf_1 (by rw [hx1_15]; decide) (by rw [hx1_15]; decide) (by rw [hx1_15]; decide) (by decide) ?_
    refine aw_iconst (v := 5) dX3_levelOf_112 (by decide) ?_
    exact aw_iret dX3_levelOf_113 rfl ⟨_, rfl, H⟩
  by_cases hx1_16 : x0 = (28 : Int32)
  · replace H := H.2.2.2.2.2.2.2.2.2.2.2.2.2.2.2.2.1 hx1_16
    refine aw_tableIn (off := 107) (tgt := 108) dX3_levelOf_1 (by rw [hx1_16]; decide) (by rw [hx1_16]; decide) (by rw [hx1_16]; decide) (by decide) ?_
    refine aw_iconst (v := 3) dX3_levelOf_108 (by decide) ?_
    exact aw_iret dX3_levelOf_109 rfl ⟨_, rfl, H⟩
  by_cases hx1_17 : x0 = (29 : Int32)
  · replace H := H.2.2.2.2.2.2.2.2.2.2.2.2.2.2.2.2.2.1 hx1_17
    refine aw_tableIn (off := 107) (tgt := 108) dX3_levelOf_1 (by rw [hx1_17]; decide) (by rw [hx1_17]; decide) (by rw [hx1_17]; decide) (by decide) ?_
    refine aw_iconst (v := 3) dX3_levelOf_108 (by decide) ?_
    exact aw_iret dX3_levelOf_109 rfl ⟨_, rfl, H⟩
  by_cases hx1_18 : x0 = (30 : Int32)
  · replace H := H.2.2.2.2.2.2.2.2.2.2.2.2.2.2.2.2.2.2.1 hx1_18
    refine aw_tableIn (off := 107) (tgt := 108) dX3_levelOf_1 (by rw [hx1_18]; decide) (by rw [hx1_18]; decide) (by rw [hx1_18]; decide) (by decide) ?_
    refine aw_iconst (v := 3) dX3_levelOf_108 (by decide) ?_
    exact aw_iret dX3_levelOf_109 rfl ⟨_, rfl, H⟩
  by_cases hx1_19 : x0 = (31 : Int32)
  · replace H := H.2.2.2.2.2.2.2.2.2.2.2.2.2.2.2.2.2.2.2.1 hx1_19
    refine aw_tableIn (off := 107) (tgt := 108) dX3_levelOf_1 (by rw [hx1_19]; decide) (by rw [hx1_19]; decide) (by rw [hx1_19]; decide) (by decide) ?_
    refine aw_iconst (v := 3) dX3_levelOf_108 (by decide) ?_
    exact aw_iret dX3_levelOf_109 rfl ⟨_, rfl, H⟩
  by_cases hx1_20 : x0 = (32 : Int32)
  · replace H := H.2.2.2.2.2.2.2.2.2.2.2.2.2.2.2.2.2.2.2.2.1 hx1_20
    refine aw_tableIn (off := 107) (tgt := 108) dX3_levelOf_1 (by rw [hx1_20]; decide) (by rw [hx1_20]; decide) (by rw [hx1_20]; decide) (by decide) ?_
    refine aw_iconst (v := 3) dX3_levelOf_108 (by decide) ?_
    exact aw_iret dX3_levelOf_109 rfl ⟨_, rfl, H⟩
  by_cases hx1_21 : x0 = (33 : Int32)
  · replace H := H.2.2.2.2.2.2.2.2.2.2.2.2.2.2.2.2.2.2.2.2.2.1 hx1_21
    refine aw_tableIn (off := 107) (tgt := 108) dX3_levelOf_1 (by rw [hx1_21]; decide) (by rw [hx1_21]; decide) (by rw [hx1_21]; decide) (by decide) ?_
    refine aw_iconst (v := 3) dX3_levelOf_108 (by decide) ?_
    exact aw_iret dX3_levelOf_109 rfl ⟨_, rfl, H⟩
  replace H := H.2.2.2.2.2.2.2.2.2.2.2.2.2.2.2.2.2.2.2.2.2.2 hx1_0 hx1_1 hx1_2 hx1_3 hx1_4 hx1_5 hx1_6 hx1_7 hx1_8 hx1_9 hx1_10 hx1_11 hx1_12 hx1_13 hx1_14 hx1_15 hx1_16 hx1_17 hx1_18 hx1_19 hx1_20 hx1_21
  have hx1_0e := tab_ne hx1_0 (a := 12) (by decide)
  have hx1_1e := tab_ne hx1_1 (a := 13) (by decide)
  have hx1_2e := tab_ne hx1_2 (a := 14) (by decide)
  have hx1_3e := tab_ne hx1_3 (a := 15) (by decide)
  have hx1_4e := tab_ne hx1_4 (a := 16) (by decide)
  have hx1_5e := tab_ne hx1_5 (a := 17) (by decide)
  have hx1_6e := tab_ne hx1_6 (a := 18) (by decide)
  have hx1_7e := tab_ne hx1_7 (a := 19) (by decide)
  have hx1_8e := tab_ne hx1_8 (a := 20) (by decide)
  have hx1_9e := tab_ne hx1_9 (a := 21) (by decide)
  have hx1_10e := tab_ne hx1_10 (a := 22) (by decide)
  have hx1_11e := tab_ne hx1_11 (a := 23) (by decide)
  have hx1_12e := tab_ne hx1_12 (a := 24) (by decide)
  have hx1_13e := tab_ne hx1_13 (a := 25) (by decide)
  have hx1_14e := tab_ne hx1_14 (a := 26) (by decide)
  have hx1_15e := tab_ne hx1_15 (a := 27) (by decide)
  have hx1_16e := tab_ne hx1_16 (a := 28) (by decide)
  have hx1_17e := tab_ne hx1_17 (a := 29) (by decide)
  have hx1_18e := tab_ne hx1_18 (a := 30) (by decide)
  have hx1_19e := tab_ne hx1_19 (a := 31) (by decide)
  have hx1_20e := tab_ne hx1_20 (a := 32) (by decide)
  have hx1_21e := tab_ne hx1_21 (a := 33) (by decide)
  refine aw_tableOut (tgt := 114) dX3_levelOf_1 (by omega) (by decide) ?_
  refine aw_iconst (v := (-1)) dX3_levelOf_114 (by decide) ?_
  exact aw_iret dX3_levelOf_115 rfl ⟨_, rfl, H⟩
set_option maxRecDepth 8000 in
set_option maxHeartbeats 1000000 in
theorem bX3_readPart_0 {l : Launch} {ad : Nat → Nat} {d : Nat} {R : aH → Prop} (v2 : Nat) (hv2 : isL GC v2) (x1 : Int32)  (h : aH)
    (H : ((h.1 2 3) = 0 → (AW GC l ad d mX3_kind 0 [(0, .ref (ad 2))] [] h (qi fun z2 h1 => (¬ z2 = (22 : Int32) → ((¬ z2 = (34 : Int32) → (AW GC l ad (d + 1) mX3_readPart 53 [(0, .ref (ad 2)), (1, .int x1), (2, .ref (ad v2)), (3, .int z2)] [] h1 (qv R))) ∧ (z2 = (34 : Int32) → (AW GC l ad d mX3_value 0 [(0, .ref (ad 2))] [] h1 (qi fun z4 h3 => (z4 ≤ (9999 : Int32) → (AW GC l ad (d + 1) mX3_readPart 53 [(0, .ref (ad 2)), (1, .int x1), (2, .ref (ad v2)), (3, .int z2)] [] h3 (qv R))) ∧ (¬ z4 ≤ (9999 : Int32) → (AW GC l ad (d + 1) mX3_readPart 54 [(0, .ref (ad 2)), (1, .int x1), (2, .ref (ad v2)), (3, .int z2)] [.int (1 : Int32)] h3 (qv R)))))))) ∧ (z2 = (22 : Int32) → ((x1 < (8 : Int32) → (AW GC l ad (d + 1) mX3_readPart 54 [(0, .ref (ad 2)), (1, .int x1), (2, .ref (ad v2)), (3, .int z2)] [.int (0 : Int32)] h1 (qv R))) ∧ (¬ x1 < (8 : Int32) → (AW GC l ad (d + 1) mX3_readPart 54 [(0, .ref (ad 2)), (1, .int x1), (2, .ref (ad v2)), (3, .int z2)] [.int (1 : Int32)] h1 (qv R)))))))) ∧ (¬ (h.1 2 3) = 0 → (R h))) : AW GC l ad (d + 1) mX3_readPart 0 [(0, .ref (ad 2)), (1, .int x1), (2, .ref (ad v2))] [] h (qv R) := by
  refine aw_aload_n dX3_readPart_0 rfl 0 rfl ?_
  refine aw_get dX3_readPart_1 shC2 ckX3 flX3_39 (v := .int (h.1 2 3)) rfl ?_
  refine aw_if_eq (tgt := 8) dX3_readPart_4 (by decide) (fun hc9 => ?_) (fun hc9 => ?_)
  · replace H := H.1 hc9
    refine aw_aload_n dX3_readPart_8 rfl 0 rfl ?_
    refine cvX3_kind dX3_readPart_9 mlX3_42 shC2 (Nat.le_of_ble_eq_true rfl) H (fun z2 h1 H => ?_)
    refine aw_istore_n (ls' := [(3, .int z2), (0, .ref (ad 2)), (1, .int x1), (2, .ref (ad v2))]) dX3_readPart_12 rfl (by decide) rfl ?_
    refine aw_iload_n dX3_readPart_13 rfl 0 rfl ?_
    refine aw_bipush (v := 22) dX3_readPart_14 (by decide) ?_
    refine aw_icmp_ne (tgt := 33) dX3_readPart_16 (by decide) (fun hc8 => ?_) (fun hc8 => ?_)
    · replace H := H.1 hc8
      refine aw_iload_n dX3_readPart_33 rfl 0 rfl ?_
      refine aw_bipush (v := 34) dX3_readPart_34 (by decide) ?_
      refine aw_icmp_ne (tgt := 53) dX3_readPart_36 (by decide) (fun hc6 => ?_) (fun hc6 => ?_)
      · replace H := H.1 hc6
        exact aw_ls [1, 2, 3, 0] rfl H
      · replace H := H.2 hc6
        refine aw_aload_n dX3_readPart_39 rfl 1 rfl ?_
        refine cvX3_value dX3_readPart_40 mlX3_196 shC2 (Nat.le_of_ble_eq_true rfl) H (fun z4 h3 H => ?_)
        refine aw_sipush (v := 9999) dX3_readPart_43 (by decide) ?_
        refine aw_icmp_le (tgt := 53) dX3_readPart_46 (by decide) (fun hc5 => ?_) (fun hc5 => ?_)
        · replace H := H.1 hc5
          exact aw_ls [1, 2, 3, 0] rfl H
        · replace H := H.2 hc5
          refine aw_iconst (v := 1) dX3_readPart_49 (by decide) ?_
          refine aw_goto (tgt := 54) dX3_readPart_50 (by decide) ?_
          exact aw_ls [1, 2, 3, 0] rfl H
    · replace H := H.2 hc8
      refine aw_iload_n dX3_readPart_19 rfl 2 rfl ?_
      refine aw_bipush (v := 8) dX3_readPart_20 (by decide) ?_
      refine aw_icmp_lt (tgt := 29) dX3_readPart_22 (by decide) (fun hc7 => ?_) (fun hc7 => ?_)
      · replace H := H.1 hc7
        refine aw_iconst (v := 0) dX3_readPart_29 (by decide) ?_
        refine aw_goto (tgt := 54) dX3_readPart_30 (by decide) ?_
        exact aw_ls [1, 2, 3, 0] rfl H
      · replace H := H.2 hc7
        refine aw_iconst (v := 1) dX3_readPart_25 (by decide) ?_
        refine aw_goto (tgt := 54) dX3_readPart_26 (by decide) ?_
        exact aw_ls [1, 2, 3, 0] rfl H
  · replace H := H.2 hc9
    exact aw_vret dX3_readPart_7 rfl ⟨rfl, H⟩
set_option maxRecDepth 8000 in
set_option maxHeartbeats 1000000 in
theorem bX3_readPart_53 {l : Launch} {ad : Nat → Nat} {d : Nat} {R : aH → Prop} (v2 : Nat) (hv2 : isL GC v2) (x1 : Int32) (x3 : Int32)  (h : aH)
    (H : AW GC l ad (d + 1) mX3_readPart 54 [(0, .ref (ad 2)), (1, .int x1), (2, .ref (ad v2)), (3, .int x3)] [.int (0 : Int32)] h (qv R)) : AW GC l ad (d + 1) mX3_readPart 53 [(0, .ref (ad 2)), (1, .int x1), (2, .ref (ad v2)), (3, .int x3)] [] h (qv R) := by
  refine aw_iconst (v := 0) dX3_readPart_53 (by decide) ?_
  exact aw_ls [0, 1, 2, 3] rfl H
set_option maxRecDepth 8000 in
set_option maxHeartbeats 1000000 in
theorem bX3_readPart_54 {l : Launch} {ad : Nat → Nat} {d : Nat} {R : aH → Prop} (v2 : Nat) (hv2 : isL GC v2) (x1 : Int32) (x3 : Int32) (s0 : Int32)  (h : aH)
    (H : (s0 = 0 → ((¬ x3 = (22 : Int32) → ((¬ x3 = (34 : Int32) → ((x3 < (14 : Int32) → (AW GC l ad (d + 1) mX3_readPart 145 [(0, .ref (ad 2))] [] h (qv R))) ∧ (¬ x3 < (14 : Int32) → (((20 : Int32) < x3 → (AW GC l ad (d + 1) mX3_readPart 145 [(0, .ref (ad 2))] [] h (qv R))) ∧ (¬ (20 : Int32) < x3 → (AW GC l ad d mX1_add 0 [(0, .ref (ad v2)), (1, .int x3)] [] h (qv fun h1 => AW GC l ad d mX3_takeKnot 0 [(0, .ref (ad 2))] [] h1 (qv fun h3 => R h3)))))))) ∧ (x3 = (34 : Int32) → (AW GC l ad d mX3_value 0 [(0, .ref (ad 2))] [] h (qi fun z8 h7 => AW GC l ad d mX1_add 0 [(0, .ref (ad v2)), (1, .int ((64 : Int32) + z8))] [] h7 (qv fun h9 => AW GC l ad d mX3_takeKnot 0 [(0, .ref (ad 2))] [] h9 (qv fun h11 => R h11))))))) ∧ (x3 = (22 : Int32) → (AW GC l ad d mX3_step 0 [(0, .ref (ad 2))] [] h (qv fun h14 => AW GC l ad d mX3_readLevel 0 [(0, .ref (ad 2)), (1, .int (0 : Int32)), (2, .int (x1 + (1 : Int32))), (3, .ref (ad v2))] [] h14 (qv fun h16 => AW GC l ad d mX3_take 0 [(0, .ref (ad 2)), (1, .int (23 : Int32))] [] h16 (qv fun h18 => R h18))))))) ∧ (¬ s0 = 0 → (AW GC l ad d mX3_refuse 0 [(0, .ref (ad 2)), (1, .int (2 : Int32))] [] h (qv fun h21 => R h21)))) : AW GC l ad (d + 1) mX3_readPart 54 [(0, .ref (ad 2)), (1, .int x1), (2, .ref (ad v2)), (3, .int x3)] [.int s0] h (qv R) := by
  refine aw_istore (ls' := [(4, .int s0), (0, .ref (ad 2)), (1, .int x1), (2, .ref (ad v2)), (3, .int x3)]) dX3_readPart_54 (by decide) rfl ?_
  refine aw_iload dX3_readPart_56 0 rfl ?_
  refine aw_if_eq (tgt := 69) dX3_readPart_58 (by decide) (fun hc23 => ?_) (fun hc23 => ?_)
  · replace H := H.1 hc23
    refine aw_iload_n dX3_readPart_69 rfl 4 rfl ?_
    refine aw_bipush (v := 22) dX3_readPart_70 (by decide) ?_
    refine aw_icmp_ne (tgt := 97) dX3_readPart_72 (by decide) (fun hc20 => ?_) (fun hc20 => ?_)
    · replace H := H.1 hc20
      refine aw_iload_n dX3_readPart_97 rfl 4 rfl ?_
      refine aw_bipush (v := 34) dX3_readPart_98 (by decide) ?_
      refine aw_icmp_ne (tgt := 121) dX3_readPart_100 (by decide) (fun hc13 => ?_) (fun hc13 => ?_)
      · replace H := H.1 hc13
        refine aw_iload_n dX3_readPart_121 rfl 4 rfl ?_
        refine aw_bipush (v := 14) dX3_readPart_122 (by decide) ?_
        refine aw_icmp_lt (tgt := 145) dX3_readPart_124 (by decide) (fun hc6 => ?_) (fun hc6 => ?_)
        · replace H := H.1 hc6
          exact aw_ls [1] rfl H
        · replace H := H.2 hc6
          refine aw_iload_n dX3_readPart_127 rfl 4 rfl ?_
          refine aw_bipush (v := 20) dX3_readPart_128 (by decide) ?_
          refine aw_icmp_gt (tgt := 145) dX3_readPart_130 (by decide) (fun hc5 => ?_) (fun hc5 => ?_)
          · replace H := H.1 hc5
            exact aw_ls [1] rfl H
          · replace H := H.2 hc5
            refine aw_aload_n dX3_readPart_133 rfl 3 rfl ?_
            refine aw_iload_n dX3_readPart_134 rfl 4 rfl ?_
            refine cvX1_add dX3_readPart_135 mlX3_223 hv2.1 (Nat.le_of_ble_eq_true rfl) H (fun h1 H => ?_)
            refine aw_aload_n dX3_readPart_138 rfl 1 rfl ?_
            refine cvX3_takeKnot dX3_readPart_139 mlX3_220 shC2 (Nat.le_of_ble_eq_true rfl) H (fun h3 H => ?_)
            refine aw_goto (tgt := 150) dX3_readPart_142 (by decide) ?_
            exact aw_vret dX3_readPart_150 rfl ⟨rfl, H⟩
      · replace H := H.2 hc13
        refine aw_aload_n dX3_readPart_103 rfl 3 rfl ?_
        refine aw_bipush (v := 64) dX3_readPart_104 (by decide) ?_
        refine aw_aload_n dX3_readPart_106 rfl 1 rfl ?_
        refine cvX3_value dX3_readPart_107 mlX3_196 shC2 (Nat.le_of_ble_eq_true rfl) H (fun z8 h7 H => ?_)
        refine aw_iadd dX3_readPart_110 ?_
        refine cvX1_add dX3_readPart_111 mlX3_223 hv2.1 (Nat.le_of_ble_eq_true rfl) H (fun h9 H => ?_)
        refine aw_aload_n dX3_readPart_114 rfl 1 rfl ?_
        refine cvX3_takeKnot dX3_readPart_115 mlX3_220 shC2 (Nat.le_of_ble_eq_true rfl) H (fun h11 H => ?_)
        refine aw_goto (tgt := 150) dX3_readPart_118 (by decide) ?_
        exact aw_vret dX3_readPart_150 rfl ⟨rfl, H⟩
    · replace H := H.2 hc20
      refine aw_aload_n dX3_readPart_75 rfl 1 rfl ?_
      refine cvX3_step dX3_readPart_76 mlX3_69 shC2 (Nat.le_of_ble_eq_true rfl) H (fun h14 H => ?_)
      refine aw_aload_n dX3_readPart_79 rfl 1 rfl ?_
      refine aw_iconst (v := 0) dX3_readPart_80 (by decide) ?_
      refine aw_iload_n dX3_readPart_81 rfl 2 rfl ?_
      refine aw_iconst (v := 1) dX3_readPart_82 (by decide) ?_
      refine aw_iadd dX3_readPart_83 ?_
      refine aw_aload_n dX3_readPart_84 rfl 3 rfl ?_
      refine cvX3_readLevel dX3_readPart_85 mlX3_192 shC2 (Nat.le_of_ble_eq_true rfl) H (fun h16 H => ?_)
      refine aw_aload_n dX3_readPart_88 rfl 1 rfl ?_
      refine aw_bipush (v := 23) dX3_readPart_89 (by decide) ?_
      refine cvX3_take dX3_readPart_91 mlX3_49 shC2 (Nat.le_of_ble_eq_true rfl) H (fun h18 H => ?_)
      refine aw_goto (tgt := 150) dX3_readPart_94 (by decide) ?_
      exact aw_vret dX3_readPart_150 rfl ⟨rfl, H⟩
  · replace H := H.2 hc23
    refine aw_aload_n dX3_readPart_61 rfl 1 rfl ?_
    refine aw_iconst (v := 2) dX3_readPart_62 (by decide) ?_
    refine cvX3_refuse dX3_readPart_63 mlX3_72 shC2 (Nat.le_of_ble_eq_true rfl) H (fun h21 H => ?_)
    refine aw_goto (tgt := 150) dX3_readPart_66 (by decide) ?_
    exact aw_vret dX3_readPart_150 rfl ⟨rfl, H⟩
set_option maxRecDepth 8000 in
set_option maxHeartbeats 1000000 in
theorem bX3_readPart_145 {l : Launch} {ad : Nat → Nat} {d : Nat} {R : aH → Prop} (v2 : Nat) (hv2 : isL GC v2)   (h : aH)
    (H : AW GC l ad d mX3_refuse 0 [(0, .ref (ad 2)), (1, .int (1 : Int32))] [] h (qv fun h1 => R h1)) : AW GC l ad (d + 1) mX3_readPart 145 [(0, .ref (ad 2))] [] h (qv R) := by
  refine aw_aload_n dX3_readPart_145 rfl 0 rfl ?_
  refine aw_iconst (v := 1) dX3_readPart_146 (by decide) ?_
  refine cvX3_refuse dX3_readPart_147 mlX3_72 shC2 (Nat.le_of_ble_eq_true rfl) H (fun h1 H => ?_)
  exact aw_vret dX3_readPart_150 rfl ⟨rfl, H⟩
set_option maxRecDepth 8000 in
set_option maxHeartbeats 1000000 in
theorem bX7_scan_0 {l : Launch} {ad : Nat → Nat} {d : Nat} {R : aH → Prop} (a1 n1 : Nat) (ha1 : GC.2.2.2.1[a1]? = some (.inr (.int, n1))) (x2 : Int32)  (h : aH)
    (H : AW GC l ad (d + 1) mX7_scan 10 [(0, .ref (ad 3)), (1, .ref (ad a1)), (2, .int x2), (3, .int (0 : Int32)), (4, .int (0 : Int32))] [] (sI h 3 3 (0 : Int32)) (qv R)) : AW GC l ad (d + 1) mX7_scan 0 [(0, .ref (ad 3)), (1, .ref (ad a1)), (2, .int x2)] [] h (qv R) := by
  refine aw_aload_n dX7_scan_0 rfl 0 rfl ?_
  refine aw_iconst (v := 0) dX7_scan_1 (by decide) ?_
  refine aw_putI dX7_scan_2 shC3 ckX7 flX7_40 rfl (fun _ => rfl) rfl rfl ?_
  refine aw_iconst (v := 0) dX7_scan_5 (by decide) ?_
  refine aw_istore_n (ls' := [(3, .int (0 : Int32)), (0, .ref (ad 3)), (1, .ref (ad a1)), (2, .int x2)]) dX7_scan_6 rfl (by decide) rfl ?_
  refine aw_iconst (v := 0) dX7_scan_7 (by decide) ?_
  refine aw_istore (ls' := [(4, .int (0 : Int32)), (3, .int (0 : Int32)), (0, .ref (ad 3)), (1, .ref (ad a1)), (2, .int x2)]) dX7_scan_8 (by decide) rfl ?_
  exact aw_ls [2, 3, 4, 1, 0] rfl H
set_option maxRecDepth 8000 in
set_option maxHeartbeats 1000000 in
theorem bX7_scan_10 {l : Launch} {ad : Nat → Nat} {d : Nat} {R : aH → Prop} (a1 n1 : Nat) (ha1 : GC.2.2.2.1[a1]? = some (.inr (.int, n1))) (x2 : Int32) (x3 : Int32) (x4 : Int32)  (h : aH)
    (H : ((700 : Int32) ≤ x4 → (AW GC l ad (d + 1) mX7_scan 106 [(0, .ref (ad 3)), (2, .int x2)] [] h (qv R))) ∧ (¬ (700 : Int32) ≤ x4 → ((x2 ≤ x3 → (AW GC l ad (d + 1) mX7_scan 106 [(0, .ref (ad 3)), (2, .int x2)] [] h (qv R))) ∧ (¬ x2 ≤ x3 → (((Int32.ofNat n1) ≤ x3 → (AW GC l ad (d + 1) mX7_scan 106 [(0, .ref (ad 3)), (2, .int x2)] [] h (qv R))) ∧ (¬ (Int32.ofNat n1) ≤ x3 → (vp_in x3 n1 ∧ (((h.1 a1 x3.toNatClampNeg) = (10 : Int32) → (AW GC l ad (d + 1) mX7_scan 10 [(0, .ref (ad 3)), (1, .ref (ad a1)), (2, .int x2), (3, .int (x3 + (1 : Int32))), (4, .int (x4 + (1 : Int32)))] [] h (qv R))) ∧ (¬ (h.1 a1 x3.toNatClampNeg) = (10 : Int32) → ((¬ (h.1 a1 x3.toNatClampNeg) = (32 : Int32) → (AW GC l ad d mX7_isLetter 0 [(0, .int (h.1 a1 x3.toNatClampNeg))] [] h (qi fun z3 h2 => (z3 = 0 → (AW GC l ad d mX7_isDigit 0 [(0, .int (h.1 a1 x3.toNatClampNeg))] [] h2 (qi fun z5 h4 => (z5 = 0 → (AW GC l ad d mX7_scanSign 0 [(0, .ref (ad 3)), (1, .ref (ad a1)), (2, .int x3), (3, .int x2)] [] h4 (qi fun z7 h6 => AW GC l ad (d + 1) mX7_scan 10 [(0, .ref (ad 3)), (1, .ref (ad a1)), (2, .int x2), (3, .int z7), (4, .int (x4 + (1 : Int32)))] [] h6 (qv R)))) ∧ (¬ z5 = 0 → (AW GC l ad d mX7_scanNumber 0 [(0, .ref (ad 3)), (1, .ref (ad a1)), (2, .int x3), (3, .int x2)] [] h4 (qi fun z9 h8 => AW GC l ad (d + 1) mX7_scan 10 [(0, .ref (ad 3)), (1, .ref (ad a1)), (2, .int x2), (3, .int z9), (4, .int (x4 + (1 : Int32)))] [] h8 (qv R))))))) ∧ (¬ z3 = 0 → (AW GC l ad d mX7_scanWord 0 [(0, .ref (ad 3)), (1, .ref (ad a1)), (2, .int x3), (3, .int x2)] [] h2 (qi fun z12 h11 => AW GC l ad (d + 1) mX7_scan 10 [(0, .ref (ad 3)), (1, .ref (ad a1)), (2, .int x2), (3, .int z12), (4, .int (x4 + (1 : Int32)))] [] h11 (qv R))))))) ∧ ((h.1 a1 x3.toNatClampNeg) = (32 : Int32) → (AW GC l ad (d + 1) mX7_scan 10 [(0, .ref (ad 3)), (1, .ref (ad a1)), (2, .int x2), (3, .int (x3 + (1 : Int32))), (4, .int (x4 + (1 : Int32)))] [] h (qv R))))))))))))) : AW GC l ad (d + 1) mX7_scan 10 [(0, .ref (ad 3)), (1, .ref (ad a1)), (2, .int x2), (3, .int x3), (4, .int x4)] [] h (qv R) := by
  refine aw_iload dX7_scan_10 4 rfl ?_
  refine aw_sipush (v := 700) dX7_scan_12 (by decide) ?_
  refine aw_icmp_ge (tgt := 106) dX7_scan_15 (by decide) (fun hc18 => ?_) (fun hc18 => ?_)
  · replace H := H.1 hc18
    exact aw_ls [0, 2] rfl H
  · replace H := H.2 hc18
    refine aw_iload_n dX7_scan_18 rfl 3 rfl ?_
    refine aw_iload_n dX7_scan_19 rfl 2 rfl ?_
    refine aw_icmp_ge (tgt := 106) dX7_scan_20 (by decide) (fun hc17 => ?_) (fun hc17 => ?_)
    · replace H := H.1 hc17
      exact aw_ls [0, 2] rfl H
    · replace H := H.2 hc17
      refine aw_iload_n dX7_scan_23 rfl 3 rfl ?_
      refine aw_aload_n dX7_scan_24 rfl 1 rfl ?_
      refine aw_alen (t0 := 0) dX7_scan_25 ha1 rfl ?_
      refine aw_icmp_ge (tgt := 106) dX7_scan_26 (by decide) (fun hc16 => ?_) (fun hc16 => ?_)
      · replace H := H.1 hc16
        exact aw_ls [0, 2] rfl H
      · replace H := H.2 hc16
        refine aw_aload_n dX7_scan_29 rfl 1 rfl ?_
        refine aw_iload_n dX7_scan_30 rfl 3 rfl ?_
        obtain ⟨hi1, H⟩ := H
        refine aw_ialdK (t0 := 0) (j := x3.toNatClampNeg) dX7_scan_31 ha1 rfl rfl hi1 ?_
        refine aw_istore (ls' := [(5, .int (h.1 a1 x3.toNatClampNeg)), (0, .ref (ad 3)), (1, .ref (ad a1)), (2, .int x2), (3, .int x3), (4, .int x4)]) dX7_scan_32 (by decide) rfl ?_
        refine aw_iload dX7_scan_34 0 rfl ?_
        refine aw_bipush (v := 10) dX7_scan_36 (by decide) ?_
        refine aw_icmp_eq (tgt := 48) dX7_scan_38 (by decide) (fun hc15 => ?_) (fun hc15 => ?_)
        · replace H := H.1 hc15
          refine aw_inc (mm := (1)) (ls' := [(3, .int (x3 + (1 : Int32))), (5, .int (h.1 a1 x3.toNatClampNeg)), (0, .ref (ad 3)), (1, .ref (ad a1)), (2, .int x2), (4, .int x4)]) dX7_scan_48 (by decide) (j := 4) rfl (by decide) rfl ?_
          refine aw_goto (tgt := 100) dX7_scan_51 (by decide) ?_
          refine aw_inc (mm := (1)) (ls' := [(4, .int (x4 + (1 : Int32))), (3, .int (x3 + (1 : Int32))), (5, .int (h.1 a1 x3.toNatClampNeg)), (0, .ref (ad 3)), (1, .ref (ad a1)), (2, .int x2)]) dX7_scan_100 (by decide) (j := 5) rfl (by decide) rfl ?_
          refine aw_goto (tgt := 10) dX7_scan_103 (by decide) ?_
          exact aw_ls [3, 4, 5, 1, 0] rfl H
        · replace H := H.2 hc15
          refine aw_iload dX7_scan_41 0 rfl ?_
          refine aw_bipush (v := 32) dX7_scan_43 (by decide) ?_
          refine aw_icmp_ne (tgt := 54) dX7_scan_45 (by decide) (fun hc14 => ?_) (fun hc14 => ?_)
          · replace H := H.1 hc14
            refine aw_iload dX7_scan_54 0 rfl ?_
            refine cvX7_isLetter dX7_scan_56 mlX7_44 (Nat.le_of_ble_eq_true rfl) H (fun z3 h2 H => ?_)
            refine aw_if_eq (tgt := 73) dX7_scan_59 (by decide) (fun hc13 => ?_) (fun hc13 => ?_)
            · replace H := H.1 hc13
              refine aw_iload dX7_scan_73 0 rfl ?_
              refine cvX7_isDigit dX7_scan_75 mlX7_52 (Nat.le_of_ble_eq_true rfl) H (fun z5 h4 H => ?_)
              refine aw_if_eq (tgt := 92) dX7_scan_78 (by decide) (fun hc10 => ?_) (fun hc10 => ?_)
              · replace H := H.1 hc10
                refine aw_aload_n dX7_scan_92 rfl 1 rfl ?_
                refine aw_aload_n dX7_scan_93 rfl 2 rfl ?_
                refine aw_iload_n dX7_scan_94 rfl 4 rfl ?_
                refine aw_iload_n dX7_scan_95 rfl 3 rfl ?_
                refine cvX7_scanSign dX7_scan_96 mlX7_58 shC3 (Nat.le_of_ble_eq_true rfl) H (fun z7 h6 H => ?_)
                refine aw_istore_n (ls' := [(3, .int z7), (5, .int (h.1 a1 x3.toNatClampNeg)), (0, .ref (ad 3)), (1, .ref (ad a1)), (2, .int x2), (4, .int x4)]) dX7_scan_99 rfl (by decide) rfl ?_
                refine aw_inc (mm := (1)) (ls' := [(4, .int (x4 + (1 : Int32))), (3, .int z7), (5, .int (h.1 a1 x3.toNatClampNeg)), (0, .ref (ad 3)), (1, .ref (ad a1)), (2, .int x2)]) dX7_scan_100 (by decide) (j := 5) rfl (by decide) rfl ?_
                refine aw_goto (tgt := 10) dX7_scan_103 (by decide) ?_
                exact aw_ls [3, 4, 5, 1, 0] rfl H
              · replace H := H.2 hc10
                refine aw_aload_n dX7_scan_81 rfl 1 rfl ?_
                refine aw_aload_n dX7_scan_82 rfl 2 rfl ?_
                refine aw_iload_n dX7_scan_83 rfl 4 rfl ?_
                refine aw_iload_n dX7_scan_84 rfl 3 rfl ?_
                refine cvX7_scanNumber dX7_scan_85 mlX7_55 shC3 (Nat.le_of_ble_eq_true rfl) H (fun z9 h8 H => ?_)
                refine aw_istore_n (ls' := [(3, .int z9), (5, .int (h.1 a1 x3.toNatClampNeg)), (0, .ref (ad 3)), (1, .ref (ad a1)), (2, .int x2), (4, .int x4)]) dX7_scan_88 rfl (by decide) rfl ?_
                refine aw_goto (tgt := 100) dX7_scan_89 (by decide) ?_
                refine aw_inc (mm := (1)) (ls' := [(4, .int (x4 + (1 : Int32))), (3, .int z9), (5, .int (h.1 a1 x3.toNatClampNeg)), (0, .ref (ad 3)), (1, .ref (ad a1)), (2, .int x2)]) dX7_scan_100 (by decide) (j := 5) rfl (by decide) rfl ?_
                refine aw_goto (tgt := 10) dX7_scan_103 (by decide) ?_
                exact aw_ls [3, 4, 5, 1, 0] rfl H
            · replace H := H.2 hc13
              refine aw_aload_n dX7_scan_62 rfl 1 rfl ?_
              refine aw_aload_n dX7_scan_63 rfl 2 rfl ?_
              refine aw_iload_n dX7_scan_64 rfl 4 rfl ?_
              refine aw_iload_n dX7_scan_65 rfl 3 rfl ?_
              refine cvX7_scanWord dX7_scan_66 mlX7_48 shC3 (Nat.le_of_ble_eq_true rfl) H (fun z12 h11 H => ?_)
              refine aw_istore_n (ls' := [(3, .int z12), (5, .int (h.1 a1 x3.toNatClampNeg)), (0, .ref (ad 3)), (1, .ref (ad a1)), (2, .int x2), (4, .int x4)]) dX7_scan_69 rfl (by decide) rfl ?_
              refine aw_goto (tgt := 100) dX7_scan_70 (by decide) ?_
              refine aw_inc (mm := (1)) (ls' := [(4, .int (x4 + (1 : Int32))), (3, .int z12), (5, .int (h.1 a1 x3.toNatClampNeg)), (0, .ref (ad 3)), (1, .ref (ad a1)), (2, .int x2)]) dX7_scan_100 (by decide) (j := 5) rfl (by decide) rfl ?_
              refine aw_goto (tgt := 10) dX7_scan_103 (by decide) ?_
              exact aw_ls [3, 4, 5, 1, 0] rfl H
          · replace H := H.2 hc14
            refine aw_inc (mm := (1)) (ls' := [(3, .int (x3 + (1 : Int32))), (5, .int (h.1 a1 x3.toNatClampNeg)), (0, .ref (ad 3)), (1, .ref (ad a1)), (2, .int x2), (4, .int x4)]) dX7_scan_48 (by decide) (j := 4) rfl (by decide) rfl ?_
            refine aw_goto (tgt := 100) dX7_scan_51 (by decide) ?_
            refine aw_inc (mm := (1)) (ls' := [(4, .int (x4 + (1 : Int32))), (3, .int (x3 + (1 : Int32))), (5, .int (h.1 a1 x3.toNatClampNeg)), (0, .ref (ad 3)), (1, .ref (ad a1)), (2, .int x2)]) dX7_scan_100 (by decide) (j := 5) rfl (by decide) rfl ?_
            refine aw_goto (tgt := 10) dX7_scan_103 (by decide) ?_
            exact aw_ls [3, 4, 5, 1, 0] rfl H
set_option maxRecDepth 8000 in
set_option maxHeartbeats 1000000 in
theorem bX7_scan_106 {l : Launch} {ad : Nat → Nat} {d : Nat} {R : aH → Prop} (a1 n1 : Nat) (ha1 : GC.2.2.2.1[a1]? = some (.inr (.int, n1))) (x2 : Int32)  (h : aH)
    (H : AW GC l ad d mX7_add 0 [(0, .ref (ad 3)), (1, .int (36 : Int32)), (2, .int x2), (3, .int (0 : Int32))] [] h (qv fun h1 => R h1)) : AW GC l ad (d + 1) mX7_scan 106 [(0, .ref (ad 3)), (2, .int x2)] [] h (qv R) := by
  refine aw_aload_n dX7_scan_106 rfl 0 rfl ?_
  refine aw_bipush (v := 36) dX7_scan_107 (by decide) ?_
  refine aw_iload_n dX7_scan_109 rfl 1 rfl ?_
  refine aw_iconst (v := 0) dX7_scan_110 (by decide) ?_
  refine cvX7_add dX7_scan_111 mlX7_61 shC3 (Nat.le_of_ble_eq_true rfl) H (fun h1 H => ?_)
  exact aw_vret dX7_scan_114 rfl ⟨rfl, H⟩
set_option maxRecDepth 8000 in
set_option maxHeartbeats 1000000 in
theorem bX7_add_0 {l : Launch} {ad : Nat → Nat} {d : Nat} {R : aH → Prop}   (x1 : Int32) (x2 : Int32) (x3 : Int32)  (h : aH)
    (H : ((701 : Int32) ≤ (h.1 3 3) → (R h)) ∧ (¬ (701 : Int32) ≤ (h.1 3 3) → (vp_in (h.1 3 3) 701 ∧ (vp_in ((sI h 4 (h.1 3 3).toNatClampNeg x1).1 3 3) 701 ∧ (vp_in ((sI (sI h 4 (h.1 3 3).toNatClampNeg x1) 5 ((sI h 4 (h.1 3 3).toNatClampNeg x1).1 3 3).toNatClampNeg x2).1 3 3) 701 ∧ (∀ h4 : aH, h4 = (sI (sI (sI h 4 (h.1 3 3).toNatClampNeg x1) 5 ((sI h 4 (h.1 3 3).toNatClampNeg x1).1 3 3).toNatClampNeg x2) 6 ((sI (sI h 4 (h.1 3 3).toNatClampNeg x1) 5 ((sI h 4 (h.1 3 3).toNatClampNeg x1).1 3 3).toNatClampNeg x2).1 3 3).toNatClampNeg x3) → (R (sI h4 3 3 ((h4.1 3 3) + (1 : Int32)))))))))) : AW GC l ad d mX7_add 0 [(0, .ref (ad 3)), (1, .int x1), (2, .int x2), (3, .int x3)] [] h (qv R) := by
  refine aw_aload_n dX7_add_0 rfl 0 rfl ?_
  refine aw_get dX7_add_1 shC3 ckX7 flX7_40 (v := .int (h.1 3 3)) rfl ?_
  refine aw_sipush (v := 701) dX7_add_4 (by decide) ?_
  refine aw_icmp_ge (tgt := 50) dX7_add_7 (by decide) (fun hc5 => ?_) (fun hc5 => ?_)
  · replace H := H.1 hc5
    exact aw_vret dX7_add_50 rfl ⟨rfl, H⟩
  · replace H := H.2 hc5
    refine aw_aload_n dX7_add_10 rfl 0 rfl ?_
    refine aw_get dX7_add_11 shC3 ckX7 flX7_11 (v := .ref (ad 4)) rfl ?_
    refine aw_aload_n dX7_add_14 rfl 0 rfl ?_
    refine aw_get dX7_add_15 shC3 ckX7 flX7_40 (v := .int (h.1 3 3)) rfl ?_
    refine aw_iload_n dX7_add_18 rfl 1 rfl ?_
    obtain ⟨hi1, H⟩ := H
    refine aw_iastK (t0 := 0) (j := (h.1 3 3).toNatClampNeg) dX7_add_19 shC4 rfl rfl hi1 ?_
    refine aw_aload_n dX7_add_20 rfl 0 rfl ?_
    refine aw_get dX7_add_21 shC3 ckX7 flX7_15 (v := .ref (ad 5)) rfl ?_
    refine aw_aload_n dX7_add_24 rfl 0 rfl ?_
    refine aw_get dX7_add_25 shC3 ckX7 flX7_40 (v := .int ((sI h 4 (h.1 3 3).toNatClampNeg x1).1 3 3)) rfl ?_
    refine aw_iload_n dX7_add_28 rfl 2 rfl ?_
    obtain ⟨hi2, H⟩ := H
    refine aw_iastK (t0 := 0) (j := ((sI h 4 (h.1 3 3).toNatClampNeg x1).1 3 3).toNatClampNeg) dX7_add_29 shC5 rfl rfl hi2 ?_
    refine aw_aload_n dX7_add_30 rfl 0 rfl ?_
    refine aw_get dX7_add_31 shC3 ckX7 flX7_18 (v := .ref (ad 6)) rfl ?_
    refine aw_aload_n dX7_add_34 rfl 0 rfl ?_
    refine aw_get dX7_add_35 shC3 ckX7 flX7_40 (v := .int ((sI (sI h 4 (h.1 3 3).toNatClampNeg x1) 5 ((sI h 4 (h.1 3 3).toNatClampNeg x1).1 3 3).toNatClampNeg x2).1 3 3)) rfl ?_
    refine aw_iload_n dX7_add_38 rfl 3 rfl ?_
    obtain ⟨hi3, H⟩ := H
    refine aw_iastK (t0 := 0) (j := ((sI (sI h 4 (h.1 3 3).toNatClampNeg x1) 5 ((sI h 4 (h.1 3 3).toNatClampNeg x1).1 3 3).toNatClampNeg x2).1 3 3).toNatClampNeg) dX7_add_39 shC6 rfl rfl hi3 ?_
    refine aw_toph (fun h4 eh4 => ?_)
    replace H := H h4 eh4
    refine aw_aload_n dX7_add_40 rfl 0 rfl ?_
    refine aw_dup dX7_add_41 rfl ?_
    refine aw_get dX7_add_42 shC3 ckX7 flX7_40 (v := .int (h4.1 3 3)) rfl ?_
    refine aw_iconst (v := 1) dX7_add_45 (by decide) ?_
    refine aw_iadd dX7_add_46 ?_
    refine aw_putI dX7_add_47 shC3 ckX7 flX7_40 rfl (fun _ => rfl) rfl rfl ?_
    exact aw_vret dX7_add_50 rfl ⟨rfl, H⟩
set_option maxRecDepth 8000 in
set_option maxHeartbeats 1000000 in
theorem bX7_scanWord_0 {l : Launch} {ad : Nat → Nat} {d : Nat} {R : Int32 → aH → Prop} (a1 n1 : Nat) (ha1 : GC.2.2.2.1[a1]? = some (.inr (.int, n1))) (x2 : Int32) (x3 : Int32)  (h : aH)
    (H : AW GC l ad (d + 1) mX7_scanWord 6 [(0, .ref (ad 3)), (1, .ref (ad a1)), (2, .int x2), (3, .int x3), (4, .int (0 : Int32)), (5, .int x2)] [] h (qi R)) : AW GC l ad (d + 1) mX7_scanWord 0 [(0, .ref (ad 3)), (1, .ref (ad a1)), (2, .int x2), (3, .int x3)] [] h (qi R) := by
  refine aw_iconst (v := 0) dX7_scanWord_0 (by decide) ?_
  refine aw_istore (ls' := [(4, .int (0 : Int32)), (0, .ref (ad 3)), (1, .ref (ad a1)), (2, .int x2), (3, .int x3)]) dX7_scanWord_1 (by decide) rfl ?_
  refine aw_iload_n dX7_scanWord_3 rfl 3 rfl ?_
  refine aw_istore (ls' := [(5, .int x2), (4, .int (0 : Int32)), (0, .ref (ad 3)), (1, .ref (ad a1)), (2, .int x2), (3, .int x3)]) dX7_scanWord_4 (by decide) rfl ?_
  exact aw_ls [2, 3, 4, 5, 1, 0] rfl H
set_option maxRecDepth 8000 in
set_option maxHeartbeats 1000000 in
theorem bX7_scanWord_6 {l : Launch} {ad : Nat → Nat} {d : Nat} {R : Int32 → aH → Prop} (a1 n1 : Nat) (ha1 : GC.2.2.2.1[a1]? = some (.inr (.int, n1))) (x2 : Int32) (x3 : Int32) (x4 : Int32) (x5 : Int32)  (h : aH)
    (H : (x3 ≤ x5 → (AW GC l ad (d + 1) mX7_scanWord 51 [(0, .ref (ad 3)), (2, .int x2), (4, .int x4), (5, .int x5)] [] h (qi R))) ∧ (¬ x3 ≤ x5 → (((Int32.ofNat n1) ≤ x5 → (AW GC l ad (d + 1) mX7_scanWord 51 [(0, .ref (ad 3)), (2, .int x2), (4, .int x4), (5, .int x5)] [] h (qi R))) ∧ (¬ (Int32.ofNat n1) ≤ x5 → (vp_in x5 n1 ∧ (AW GC l ad d mX7_isLetter 0 [(0, .int (h.1 a1 x5.toNatClampNeg))] [] h (qi fun z3 h2 => (z3 = 0 → (AW GC l ad (d + 1) mX7_scanWord 51 [(0, .ref (ad 3)), (2, .int x2), (4, .int x4), (5, .int x5)] [] h2 (qi R))) ∧ (¬ z3 = 0 → (∀ t4 : Int32, t4 = ((x4 <<< ((5 : Int32) &&& 31)) ||| (((h2.1 a1 x5.toNatClampNeg) - (97 : Int32)) + (1 : Int32))) → (AW GC l ad (d + 1) mX7_scanWord 6 [(0, .ref (ad 3)), (1, .ref (ad a1)), (2, .int x2), (3, .int x3), (4, .int t4), (5, .int (x5 + (1 : Int32)))] [] h2 (qi R))))))))))) : AW GC l ad (d + 1) mX7_scanWord 6 [(0, .ref (ad 3)), (1, .ref (ad a1)), (2, .int x2), (3, .int x3), (4, .int x4), (5, .int x5)] [] h (qi R) := by
  refine aw_iload dX7_scanWord_6 5 rfl ?_
  refine aw_iload_n dX7_scanWord_8 rfl 3 rfl ?_
  refine aw_icmp_ge (tgt := 51) dX7_scanWord_9 (by decide) (fun hc7 => ?_) (fun hc7 => ?_)
  · replace H := H.1 hc7
    exact aw_ls [0, 2, 4, 5] rfl H
  · replace H := H.2 hc7
    refine aw_iload dX7_scanWord_12 5 rfl ?_
    refine aw_aload_n dX7_scanWord_14 rfl 1 rfl ?_
    refine aw_alen (t0 := 0) dX7_scanWord_15 ha1 rfl ?_
    refine aw_icmp_ge (tgt := 51) dX7_scanWord_16 (by decide) (fun hc6 => ?_) (fun hc6 => ?_)
    · replace H := H.1 hc6
      exact aw_ls [0, 2, 4, 5] rfl H
    · replace H := H.2 hc6
      refine aw_aload_n dX7_scanWord_19 rfl 1 rfl ?_
      refine aw_iload dX7_scanWord_20 5 rfl ?_
      obtain ⟨hi1, H⟩ := H
      refine aw_ialdK (t0 := 0) (j := x5.toNatClampNeg) dX7_scanWord_22 ha1 rfl rfl hi1 ?_
      refine cvX7_isLetter dX7_scanWord_23 mlX7_44 (Nat.le_of_ble_eq_true rfl) H (fun z3 h2 H => ?_)
      refine aw_if_eq (tgt := 51) dX7_scanWord_26 (by decide) (fun hc5 => ?_) (fun hc5 => ?_)
      · replace H := H.1 hc5
        exact aw_ls [0, 2, 4, 5] rfl H
      · replace H := H.2 hc5
        refine aw_iload dX7_scanWord_29 4 rfl ?_
        refine aw_iconst (v := 5) dX7_scanWord_31 (by decide) ?_
        refine aw_ishl dX7_scanWord_32 ?_
        refine aw_aload_n dX7_scanWord_33 rfl 1 rfl ?_
        refine aw_iload dX7_scanWord_34 5 rfl ?_
        refine aw_ialdK (t0 := 0) (j := x5.toNatClampNeg) dX7_scanWord_36 ha1 rfl rfl hi1 ?_
        refine aw_bipush (v := 97) dX7_scanWord_37 (by decide) ?_
        refine aw_isub dX7_scanWord_39 ?_
        refine aw_iconst (v := 1) dX7_scanWord_40 (by decide) ?_
        refine aw_iadd dX7_scanWord_41 ?_
        refine aw_ior dX7_scanWord_42 ?_
        refine aw_topi (fun t4 et4 => ?_)
        replace H := H t4 et4
        refine aw_istore (ls' := [(4, .int t4), (0, .ref (ad 3)), (1, .ref (ad a1)), (2, .int x2), (3, .int x3), (5, .int x5)]) dX7_scanWord_43 (by decide) rfl ?_
        refine aw_inc (mm := (1)) (ls' := [(5, .int (x5 + (1 : Int32))), (4, .int t4), (0, .ref (ad 3)), (1, .ref (ad a1)), (2, .int x2), (3, .int x3)]) dX7_scanWord_45 (by decide) (j := 5) rfl (by decide) rfl ?_
        refine aw_goto (tgt := 6) dX7_scanWord_48 (by decide) ?_
        exact aw_ls [2, 3, 4, 5, 1, 0] rfl H
set_option maxRecDepth 8000 in
set_option maxHeartbeats 1000000 in
theorem bX7_scanWord_51 {l : Launch} {ad : Nat → Nat} {d : Nat} {R : Int32 → aH → Prop} (a1 n1 : Nat) (ha1 : GC.2.2.2.1[a1]? = some (.inr (.int, n1))) (x2 : Int32) (x4 : Int32) (x5 : Int32)  (h : aH)
    (H : ((x5 - x2) ≤ (6 : Int32) → (∀ t1 : Int32, t1 = (x4 <<< (((5 : Int32) * ((6 : Int32) - (x5 - x2))) &&& 31)) → (AW GC l ad d mX9_indexOf 0 [(0, .int t1), (1, .ref (ad 7)), (2, .int (Int32.ofNat 21))] [] h (qi fun z3 h2 => (¬ z3 = (-1 : Int32) → (AW GC l ad (d + 1) mX7_scanWord 117 [(2, .int x2), (4, .int t1), (5, .int x5)] [.int z3, .ref (ad 3)] h2 (qi R))) ∧ (z3 = (-1 : Int32) → (AW GC l ad (d + 1) mX7_scanWord 117 [(2, .int x2), (4, .int t1), (5, .int x5)] [.int (35 : Int32), .ref (ad 3)] h2 (qi R))))))) ∧ (¬ (x5 - x2) ≤ (6 : Int32) → (AW GC l ad d mX7_add 0 [(0, .ref (ad 3)), (1, .int (37 : Int32)), (2, .int x2), (3, .int (0 : Int32))] [] h (qv fun h5 => R x5 h5)))) : AW GC l ad (d + 1) mX7_scanWord 51 [(0, .ref (ad 3)), (2, .int x2), (4, .int x4), (5, .int x5)] [] h (qi R) := by
  refine aw_iload dX7_scanWord_51 3 rfl ?_
  refine aw_iload_n dX7_scanWord_53 rfl 1 rfl ?_
  refine aw_isub dX7_scanWord_54 ?_
  refine aw_istore (ls' := [(6, .int (x5 - x2)), (0, .ref (ad 3)), (2, .int x2), (4, .int x4), (5, .int x5)]) dX7_scanWord_55 (by decide) rfl ?_
  refine aw_iload dX7_scanWord_57 0 rfl ?_
  refine aw_bipush (v := 6) dX7_scanWord_59 (by decide) ?_
  refine aw_icmp_le (tgt := 75) dX7_scanWord_61 (by decide) (fun hc7 => ?_) (fun hc7 => ?_)
  · replace H := H.1 hc7
    refine aw_iload dX7_scanWord_75 3 rfl ?_
    refine aw_iconst (v := 5) dX7_scanWord_77 (by decide) ?_
    refine aw_bipush (v := 6) dX7_scanWord_78 (by decide) ?_
    refine aw_iload dX7_scanWord_80 0 rfl ?_
    refine aw_isub dX7_scanWord_82 ?_
    refine aw_imul dX7_scanWord_83 ?_
    refine aw_ishl dX7_scanWord_84 ?_
    refine aw_topi (fun t1 et1 => ?_)
    replace H := H t1 et1
    refine aw_istore (ls' := [(4, .int t1), (6, .int (x5 - x2)), (0, .ref (ad 3)), (2, .int x2), (5, .int x5)]) dX7_scanWord_85 (by decide) rfl ?_
    refine aw_iload dX7_scanWord_87 0 rfl ?_
    refine aw_aload_n dX7_scanWord_89 rfl 2 rfl ?_
    refine aw_get dX7_scanWord_90 shC3 ckX7 flX7_21 (v := .ref (ad 7)) rfl ?_
    refine aw_aload_n dX7_scanWord_93 rfl 2 rfl ?_
    refine aw_get dX7_scanWord_94 shC3 ckX7 flX7_21 (v := .ref (ad 7)) rfl ?_
    refine aw_alen (t0 := 0) dX7_scanWord_97 shC7 rfl ?_
    refine cnX9_indexOf dX7_scanWord_98 (fun _ _ hz => hz.1) (Nat.le_of_ble_eq_true rfl) H (fun z3 h2 H => ?_)
    refine aw_istore (ls' := [(7, .int z3), (4, .int t1), (6, .int (x5 - x2)), (0, .ref (ad 3)), (2, .int x2), (5, .int x5)]) dX7_scanWord_101 (by decide) rfl ?_
    refine aw_aload_n dX7_scanWord_103 rfl 3 rfl ?_
    refine aw_iload dX7_scanWord_104 0 rfl ?_
    refine aw_iconst (v := (-1)) dX7_scanWord_106 (by decide) ?_
    refine aw_icmp_ne (tgt := 115) dX7_scanWord_107 (by decide) (fun hc4 => ?_) (fun hc4 => ?_)
    · replace H := H.1 hc4
      refine aw_iload dX7_scanWord_115 0 rfl ?_
      exact aw_ls [4, 1, 5] rfl H
    · replace H := H.2 hc4
      refine aw_bipush (v := 35) dX7_scanWord_110 (by decide) ?_
      refine aw_goto (tgt := 117) dX7_scanWord_112 (by decide) ?_
      exact aw_ls [4, 1, 5] rfl H
  · replace H := H.2 hc7
    refine aw_aload_n dX7_scanWord_64 rfl 1 rfl ?_
    refine aw_bipush (v := 37) dX7_scanWord_65 (by decide) ?_
    refine aw_iload_n dX7_scanWord_67 rfl 2 rfl ?_
    refine aw_iconst (v := 0) dX7_scanWord_68 (by decide) ?_
    refine cvX7_add dX7_scanWord_69 mlX7_61 shC3 (Nat.le_of_ble_eq_true rfl) H (fun h5 H => ?_)
    refine aw_iload dX7_scanWord_72 4 rfl ?_
    exact aw_iret dX7_scanWord_74 rfl ⟨_, rfl, H⟩
set_option maxRecDepth 8000 in
set_option maxHeartbeats 1000000 in
theorem bX7_scanWord_117 {l : Launch} {ad : Nat → Nat} {d : Nat} {R : Int32 → aH → Prop} (a1 n1 : Nat) (ha1 : GC.2.2.2.1[a1]? = some (.inr (.int, n1))) (x2 : Int32) (x4 : Int32) (x5 : Int32) (s0 : Int32)  (h : aH)
    (H : AW GC l ad d mX7_add 0 [(0, .ref (ad 3)), (1, .int s0), (2, .int x2), (3, .int x4)] [] h (qv fun h1 => R x5 h1)) : AW GC l ad (d + 1) mX7_scanWord 117 [(2, .int x2), (4, .int x4), (5, .int x5)] [.int s0, .ref (ad 3)] h (qi R) := by
  refine aw_iload_n dX7_scanWord_117 rfl 0 rfl ?_
  refine aw_iload dX7_scanWord_118 1 rfl ?_
  refine cvX7_add dX7_scanWord_120 mlX7_61 shC3 (Nat.le_of_ble_eq_true rfl) H (fun h1 H => ?_)
  refine aw_iload dX7_scanWord_123 2 rfl ?_
  exact aw_iret dX7_scanWord_125 rfl ⟨_, rfl, H⟩
set_option maxRecDepth 8000 in
set_option maxHeartbeats 1000000 in
theorem bX7_scanNumber_0 {l : Launch} {ad : Nat → Nat} {d : Nat} {R : Int32 → aH → Prop} (a1 n1 : Nat) (ha1 : GC.2.2.2.1[a1]? = some (.inr (.int, n1))) (x2 : Int32) (x3 : Int32)  (h : aH)
    (H : AW GC l ad (d + 1) mX7_scanNumber 6 [(0, .ref (ad 3)), (1, .ref (ad a1)), (2, .int x2), (3, .int x3), (4, .int (0 : Int32)), (5, .int x2)] [] h (qi R)) : AW GC l ad (d + 1) mX7_scanNumber 0 [(0, .ref (ad 3)), (1, .ref (ad a1)), (2, .int x2), (3, .int x3)] [] h (qi R) := by
  refine aw_iconst (v := 0) dX7_scanNumber_0 (by decide) ?_
  refine aw_istore (ls' := [(4, .int (0 : Int32)), (0, .ref (ad 3)), (1, .ref (ad a1)), (2, .int x2), (3, .int x3)]) dX7_scanNumber_1 (by decide) rfl ?_
  refine aw_iload_n dX7_scanNumber_3 rfl 3 rfl ?_
  refine aw_istore (ls' := [(5, .int x2), (4, .int (0 : Int32)), (0, .ref (ad 3)), (1, .ref (ad a1)), (2, .int x2), (3, .int x3)]) dX7_scanNumber_4 (by decide) rfl ?_
  exact aw_ls [2, 3, 4, 5, 1, 0] rfl H
set_option maxRecDepth 8000 in
set_option maxHeartbeats 1000000 in
theorem bX7_scanNumber_6 {l : Launch} {ad : Nat → Nat} {d : Nat} {R : Int32 → aH → Prop} (a1 n1 : Nat) (ha1 : GC.2.2.2.1[a1]? = some (.inr (.int, n1))) (x2 : Int32) (x3 : Int32) (x4 : Int32) (x5 : Int32)  (h : aH)
    (H : (x3 ≤ x5 → (AW GC l ad (d + 1) mX7_scanNumber 55 [(0, .ref (ad 3)), (2, .int x2), (4, .int x4), (5, .int x5)] [] h (qi R))) ∧ (¬ x3 ≤ x5 → (((Int32.ofNat n1) ≤ x5 → (AW GC l ad (d + 1) mX7_scanNumber 55 [(0, .ref (ad 3)), (2, .int x2), (4, .int x4), (5, .int x5)] [] h (qi R))) ∧ (¬ (Int32.ofNat n1) ≤ x5 → (vp_in x5 n1 ∧ (AW GC l ad d mX7_isDigit 0 [(0, .int (h.1 a1 x5.toNatClampNeg))] [] h (qi fun z3 h2 => (z3 = 0 → (AW GC l ad (d + 1) mX7_scanNumber 55 [(0, .ref (ad 3)), (2, .int x2), (4, .int x4), (5, .int x5)] [] h2 (qi R))) ∧ (¬ z3 = 0 → (∀ t4 : Int32, t4 = (if (((x4 * (10 : Int32)) + (h2.1 a1 x5.toNatClampNeg)) - (48 : Int32)) < (1000000 : Int32) then (((x4 * (10 : Int32)) + (h2.1 a1 x5.toNatClampNeg)) - (48 : Int32)) else (1000000 : Int32)) → (AW GC l ad (d + 1) mX7_scanNumber 6 [(0, .ref (ad 3)), (1, .ref (ad a1)), (2, .int x2), (3, .int x3), (4, .int t4), (5, .int (x5 + (1 : Int32)))] [] h2 (qi R))))))))))) : AW GC l ad (d + 1) mX7_scanNumber 6 [(0, .ref (ad 3)), (1, .ref (ad a1)), (2, .int x2), (3, .int x3), (4, .int x4), (5, .int x5)] [] h (qi R) := by
  refine aw_iload dX7_scanNumber_6 5 rfl ?_
  refine aw_iload_n dX7_scanNumber_8 rfl 3 rfl ?_
  refine aw_icmp_ge (tgt := 55) dX7_scanNumber_9 (by decide) (fun hc7 => ?_) (fun hc7 => ?_)
  · replace H := H.1 hc7
    exact aw_ls [0, 2, 4, 5] rfl H
  · replace H := H.2 hc7
    refine aw_iload dX7_scanNumber_12 5 rfl ?_
    refine aw_aload_n dX7_scanNumber_14 rfl 1 rfl ?_
    refine aw_alen (t0 := 0) dX7_scanNumber_15 ha1 rfl ?_
    refine aw_icmp_ge (tgt := 55) dX7_scanNumber_16 (by decide) (fun hc6 => ?_) (fun hc6 => ?_)
    · replace H := H.1 hc6
      exact aw_ls [0, 2, 4, 5] rfl H
    · replace H := H.2 hc6
      refine aw_aload_n dX7_scanNumber_19 rfl 1 rfl ?_
      refine aw_iload dX7_scanNumber_20 5 rfl ?_
      obtain ⟨hi1, H⟩ := H
      refine aw_ialdK (t0 := 0) (j := x5.toNatClampNeg) dX7_scanNumber_22 ha1 rfl rfl hi1 ?_
      refine cvX7_isDigit dX7_scanNumber_23 mlX7_52 (Nat.le_of_ble_eq_true rfl) H (fun z3 h2 H => ?_)
      refine aw_if_eq (tgt := 55) dX7_scanNumber_26 (by decide) (fun hc5 => ?_) (fun hc5 => ?_)
      · replace H := H.1 hc5
        exact aw_ls [0, 2, 4, 5] rfl H
      · replace H := H.2 hc5
        refine aw_ldc dX7_scanNumber_29 coX7_69 ?_
        refine aw_iload dX7_scanNumber_31 4 rfl ?_
        refine aw_bipush (v := 10) dX7_scanNumber_33 (by decide) ?_
        refine aw_imul dX7_scanNumber_35 ?_
        refine aw_aload_n dX7_scanNumber_36 rfl 1 rfl ?_
        refine aw_iload dX7_scanNumber_37 5 rfl ?_
        refine aw_ialdK (t0 := 0) (j := x5.toNatClampNeg) dX7_scanNumber_39 ha1 rfl rfl hi1 ?_
        refine aw_iadd dX7_scanNumber_40 ?_
        refine aw_bipush (v := 48) dX7_scanNumber_41 (by decide) ?_
        refine aw_isub dX7_scanNumber_43 ?_
        refine aw_mmin dX7_scanNumber_44 mlX7_70 (Nat.le_of_ble_eq_true rfl) ?_
        refine aw_topi (fun t4 et4 => ?_)
        replace H := H t4 et4
        refine aw_istore (ls' := [(4, .int t4), (0, .ref (ad 3)), (1, .ref (ad a1)), (2, .int x2), (3, .int x3), (5, .int x5)]) dX7_scanNumber_47 (by decide) rfl ?_
        refine aw_inc (mm := (1)) (ls' := [(5, .int (x5 + (1 : Int32))), (4, .int t4), (0, .ref (ad 3)), (1, .ref (ad a1)), (2, .int x2), (3, .int x3)]) dX7_scanNumber_49 (by decide) (j := 5) rfl (by decide) rfl ?_
        refine aw_goto (tgt := 6) dX7_scanNumber_52 (by decide) ?_
        exact aw_ls [2, 3, 4, 5, 1, 0] rfl H
set_option maxRecDepth 8000 in
set_option maxHeartbeats 1000000 in
theorem bX7_scanNumber_55 {l : Launch} {ad : Nat → Nat} {d : Nat} {R : Int32 → aH → Prop} (a1 n1 : Nat) (ha1 : GC.2.2.2.1[a1]? = some (.inr (.int, n1))) (x2 : Int32) (x4 : Int32) (x5 : Int32)  (h : aH)
    (H : AW GC l ad d mX7_add 0 [(0, .ref (ad 3)), (1, .int (34 : Int32)), (2, .int x2), (3, .int x4)] [] h (qv fun h1 => R x5 h1)) : AW GC l ad (d + 1) mX7_scanNumber 55 [(0, .ref (ad 3)), (2, .int x2), (4, .int x4), (5, .int x5)] [] h (qi R) := by
  refine aw_aload_n dX7_scanNumber_55 rfl 0 rfl ?_
  refine aw_bipush (v := 34) dX7_scanNumber_56 (by decide) ?_
  refine aw_iload_n dX7_scanNumber_58 rfl 1 rfl ?_
  refine aw_iload dX7_scanNumber_59 2 rfl ?_
  refine cvX7_add dX7_scanNumber_61 mlX7_61 shC3 (Nat.le_of_ble_eq_true rfl) H (fun h1 H => ?_)
  refine aw_iload dX7_scanNumber_64 3 rfl ?_
  exact aw_iret dX7_scanNumber_66 rfl ⟨_, rfl, H⟩
set_option maxRecDepth 8000 in
set_option maxHeartbeats 1000000 in
theorem bX7_scanSign_0 {l : Launch} {ad : Nat → Nat} {d : Nat} {R : Int32 → aH → Prop} (a1 n1 : Nat) (ha1 : GC.2.2.2.1[a1]? = some (.inr (.int, n1))) (x2 : Int32) (x3 : Int32)  (h : aH)
    (H : ((Int32.ofNat n1) ≤ x2 → (AW GC l ad (d + 1) mX7_scanSign 13 [(0, .ref (ad 3)), (1, .ref (ad a1)), (2, .int x2), (3, .int x3)] [.int (0 : Int32)] h (qi R))) ∧ (¬ (Int32.ofNat n1) ≤ x2 → (vp_in x2 n1 ∧ (AW GC l ad (d + 1) mX7_scanSign 13 [(0, .ref (ad 3)), (1, .ref (ad a1)), (2, .int x2), (3, .int x3)] [.int (h.1 a1 x2.toNatClampNeg)] h (qi R))))) : AW GC l ad (d + 1) mX7_scanSign 0 [(0, .ref (ad 3)), (1, .ref (ad a1)), (2, .int x2), (3, .int x3)] [] h (qi R) := by
  refine aw_iload_n dX7_scanSign_0 rfl 2 rfl ?_
  refine aw_aload_n dX7_scanSign_1 rfl 1 rfl ?_
  refine aw_alen (t0 := 0) dX7_scanSign_2 ha1 rfl ?_
  refine aw_icmp_ge (tgt := 12) dX7_scanSign_3 (by decide) (fun hc2 => ?_) (fun hc2 => ?_)
  · replace H := H.1 hc2
    refine aw_iconst (v := 0) dX7_scanSign_12 (by decide) ?_
    exact aw_ls [0, 1, 2, 3] rfl H
  · replace H := H.2 hc2
    refine aw_aload_n dX7_scanSign_6 rfl 1 rfl ?_
    refine aw_iload_n dX7_scanSign_7 rfl 2 rfl ?_
    obtain ⟨hi1, H⟩ := H
    refine aw_ialdK (t0 := 0) (j := x2.toNatClampNeg) dX7_scanSign_8 ha1 rfl rfl hi1 ?_
    refine aw_goto (tgt := 13) dX7_scanSign_9 (by decide) ?_
    exact aw_ls [0, 1, 2, 3] rfl H
set_option maxRecDepth 8000 in
set_option maxHeartbeats 1000000 in
theorem bX7_scanSign_13 {l : Launch} {ad : Nat → Nat} {d : Nat} {R : Int32 → aH → Prop} (a1 n1 : Nat) (ha1 : GC.2.2.2.1[a1]? = some (.inr (.int, n1))) (x2 : Int32) (x3 : Int32) (s0 : Int32)  (h : aH)
    (H : (x3 ≤ (x2 + (1 : Int32)) → (AW GC l ad (d + 1) mX7_scanSign 38 [(0, .ref (ad 3)), (2, .int x2), (4, .int s0)] [] h (qi R))) ∧ (¬ x3 ≤ (x2 + (1 : Int32)) → (((Int32.ofNat n1) ≤ (x2 + (1 : Int32)) → (AW GC l ad (d + 1) mX7_scanSign 38 [(0, .ref (ad 3)), (2, .int x2), (4, .int s0)] [] h (qi R))) ∧ (¬ (Int32.ofNat n1) ≤ (x2 + (1 : Int32)) → (vp_in (x2 + (1 : Int32)) n1 ∧ (AW GC l ad (d + 1) mX7_scanSign 39 [(0, .ref (ad 3)), (2, .int x2), (4, .int s0)] [.int (h.1 a1 (x2 + (1 : Int32)).toNatClampNeg)] h (qi R))))))) : AW GC l ad (d + 1) mX7_scanSign 13 [(0, .ref (ad 3)), (1, .ref (ad a1)), (2, .int x2), (3, .int x3)] [.int s0] h (qi R) := by
  refine aw_istore (ls' := [(4, .int s0), (0, .ref (ad 3)), (1, .ref (ad a1)), (2, .int x2), (3, .int x3)]) dX7_scanSign_13 (by decide) rfl ?_
  refine aw_iload_n dX7_scanSign_15 rfl 3 rfl ?_
  refine aw_iconst (v := 1) dX7_scanSign_16 (by decide) ?_
  refine aw_iadd dX7_scanSign_17 ?_
  refine aw_iload_n dX7_scanSign_18 rfl 4 rfl ?_
  refine aw_icmp_ge (tgt := 38) dX7_scanSign_19 (by decide) (fun hc3 => ?_) (fun hc3 => ?_)
  · replace H := H.1 hc3
    exact aw_ls [1, 3, 0] rfl H
  · replace H := H.2 hc3
    refine aw_iload_n dX7_scanSign_22 rfl 3 rfl ?_
    refine aw_iconst (v := 1) dX7_scanSign_23 (by decide) ?_
    refine aw_iadd dX7_scanSign_24 ?_
    refine aw_aload_n dX7_scanSign_25 rfl 2 rfl ?_
    refine aw_alen (t0 := 0) dX7_scanSign_26 ha1 rfl ?_
    refine aw_icmp_ge (tgt := 38) dX7_scanSign_27 (by decide) (fun hc2 => ?_) (fun hc2 => ?_)
    · replace H := H.1 hc2
      exact aw_ls [1, 3, 0] rfl H
    · replace H := H.2 hc2
      refine aw_aload_n dX7_scanSign_30 rfl 2 rfl ?_
      refine aw_iload_n dX7_scanSign_31 rfl 3 rfl ?_
      refine aw_iconst (v := 1) dX7_scanSign_32 (by decide) ?_
      refine aw_iadd dX7_scanSign_33 ?_
      obtain ⟨hi1, H⟩ := H
      refine aw_ialdK (t0 := 0) (j := (x2 + (1 : Int32)).toNatClampNeg) dX7_scanSign_34 ha1 rfl rfl hi1 ?_
      refine aw_goto (tgt := 39) dX7_scanSign_35 (by decide) ?_
      exact aw_ls [1, 3, 0] rfl H
set_option maxRecDepth 8000 in
set_option maxHeartbeats 1000000 in
theorem bX7_scanSign_38 {l : Launch} {ad : Nat → Nat} {d : Nat} {R : Int32 → aH → Prop} (a1 n1 : Nat) (ha1 : GC.2.2.2.1[a1]? = some (.inr (.int, n1))) (x2 : Int32) (x4 : Int32)  (h : aH)
    (H : AW GC l ad (d + 1) mX7_scanSign 39 [(0, .ref (ad 3)), (2, .int x2), (4, .int x4)] [.int (0 : Int32)] h (qi R)) : AW GC l ad (d + 1) mX7_scanSign 38 [(0, .ref (ad 3)), (2, .int x2), (4, .int x4)] [] h (qi R) := by
  refine aw_iconst (v := 0) dX7_scanSign_38 (by decide) ?_
  exact aw_ls [0, 1, 2] rfl H
set_option maxRecDepth 8000 in
set_option maxHeartbeats 1000000 in
theorem bX7_scanSign_39 {l : Launch} {ad : Nat → Nat} {d : Nat} {R : Int32 → aH → Prop} (a1 n1 : Nat) (ha1 : GC.2.2.2.1[a1]? = some (.inr (.int, n1))) (x2 : Int32) (x4 : Int32) (s0 : Int32)  (h : aH)
    (H : AW GC l ad d mX7_pairKind 0 [(0, .int x4), (1, .int s0)] [] h (qi fun z2 h1 => (z2 = (37 : Int32) → (AW GC l ad d mX7_signKind 0 [(0, .int x4)] [] h1 (qi fun z4 h3 => AW GC l ad d mX7_add 0 [(0, .ref (ad 3)), (1, .int z4), (2, .int x2), (3, .int (0 : Int32))] [] h3 (qv fun h5 => R (x2 + (1 : Int32)) h5)))) ∧ (¬ z2 = (37 : Int32) → (AW GC l ad d mX7_add 0 [(0, .ref (ad 3)), (1, .int z2), (2, .int x2), (3, .int (0 : Int32))] [] h1 (qv fun h7 => R (x2 + (2 : Int32)) h7))))) : AW GC l ad (d + 1) mX7_scanSign 39 [(0, .ref (ad 3)), (2, .int x2), (4, .int x4)] [.int s0] h (qi R) := by
  refine aw_istore (ls' := [(5, .int s0), (0, .ref (ad 3)), (2, .int x2), (4, .int x4)]) dX7_scanSign_39 (by decide) rfl ?_
  refine aw_iload dX7_scanSign_41 3 rfl ?_
  refine aw_iload dX7_scanSign_43 0 rfl ?_
  refine cvX7_pairKind dX7_scanSign_45 mlX7_76 (Nat.le_of_ble_eq_true rfl) H (fun z2 h1 H => ?_)
  refine aw_istore (ls' := [(6, .int z2), (5, .int s0), (0, .ref (ad 3)), (2, .int x2), (4, .int x4)]) dX7_scanSign_48 (by decide) rfl ?_
  refine aw_iload dX7_scanSign_50 0 rfl ?_
  refine aw_bipush (v := 37) dX7_scanSign_52 (by decide) ?_
  refine aw_icmp_eq (tgt := 69) dX7_scanSign_54 (by decide) (fun hc9 => ?_) (fun hc9 => ?_)
  · replace H := H.1 hc9
    refine aw_aload_n dX7_scanSign_69 rfl 2 rfl ?_
    refine aw_iload dX7_scanSign_70 4 rfl ?_
    refine cvX7_signKind dX7_scanSign_72 mlX7_79 (Nat.le_of_ble_eq_true rfl) H (fun z4 h3 H => ?_)
    refine aw_iload_n dX7_scanSign_75 rfl 3 rfl ?_
    refine aw_iconst (v := 0) dX7_scanSign_76 (by decide) ?_
    refine cvX7_add dX7_scanSign_77 mlX7_61 shC3 (Nat.le_of_ble_eq_true rfl) H (fun h5 H => ?_)
    refine aw_iload_n dX7_scanSign_80 rfl 3 rfl ?_
    refine aw_iconst (v := 1) dX7_scanSign_81 (by decide) ?_
    refine aw_iadd dX7_scanSign_82 ?_
    exact aw_iret dX7_scanSign_83 rfl ⟨_, rfl, H⟩
  · replace H := H.2 hc9
    refine aw_aload_n dX7_scanSign_57 rfl 2 rfl ?_
    refine aw_iload dX7_scanSign_58 0 rfl ?_
    refine aw_iload_n dX7_scanSign_60 rfl 3 rfl ?_
    refine aw_iconst (v := 0) dX7_scanSign_61 (by decide) ?_
    refine cvX7_add dX7_scanSign_62 mlX7_61 shC3 (Nat.le_of_ble_eq_true rfl) H (fun h7 H => ?_)
    refine aw_iload_n dX7_scanSign_65 rfl 3 rfl ?_
    refine aw_iconst (v := 2) dX7_scanSign_66 (by decide) ?_
    refine aw_iadd dX7_scanSign_67 ?_
    exact aw_iret dX7_scanSign_68 rfl ⟨_, rfl, H⟩
set_option maxRecDepth 8000 in
set_option maxHeartbeats 1000000 in
theorem bX7_pairKind_0 {l : Launch} {ad : Nat → Nat} {d : Nat} {R : Int32 → aH → Prop}   (x0 : Int32) (x1 : Int32)  (h : aH)
    (H : (¬ x0 = (60 : Int32) → (AW GC l ad d mX7_pairKind 15 [(0, .int x0), (1, .int x1)] [] h (qi R))) ∧ (x0 = (60 : Int32) → ((¬ x1 = (61 : Int32) → (AW GC l ad d mX7_pairKind 15 [(0, .int x0), (1, .int x1)] [] h (qi R))) ∧ (x1 = (61 : Int32) → (R (29 : Int32) h))))) : AW GC l ad d mX7_pairKind 0 [(0, .int x0), (1, .int x1)] [] h (qi R) := by
  refine aw_iload_n dX7_pairKind_0 rfl 0 rfl ?_
  refine aw_bipush (v := 60) dX7_pairKind_1 (by decide) ?_
  refine aw_icmp_ne (tgt := 15) dX7_pairKind_3 (by decide) (fun hc2 => ?_) (fun hc2 => ?_)
  · replace H := H.1 hc2
    exact aw_ls [0, 1] rfl H
  · replace H := H.2 hc2
    refine aw_iload_n dX7_pairKind_6 rfl 1 rfl ?_
    refine aw_bipush (v := 61) dX7_pairKind_7 (by decide) ?_
    refine aw_icmp_ne (tgt := 15) dX7_pairKind_9 (by decide) (fun hc1 => ?_) (fun hc1 => ?_)
    · replace H := H.1 hc1
      exact aw_ls [0, 1] rfl H
    · replace H := H.2 hc1
      refine aw_bipush (v := 29) dX7_pairKind_12 (by decide) ?_
      exact aw_iret dX7_pairKind_14 rfl ⟨_, rfl, H⟩
set_option maxRecDepth 8000 in
set_option maxHeartbeats 1000000 in
theorem bX7_pairKind_15 {l : Launch} {ad : Nat → Nat} {d : Nat} {R : Int32 → aH → Prop}   (x0 : Int32) (x1 : Int32)  (h : aH)
    (H : (¬ x0 = (60 : Int32) → (AW GC l ad d mX7_pairKind 30 [(0, .int x0), (1, .int x1)] [] h (qi R))) ∧ (x0 = (60 : Int32) → ((¬ x1 = (62 : Int32) → (AW GC l ad d mX7_pairKind 30 [(0, .int x0), (1, .int x1)] [] h (qi R))) ∧ (x1 = (62 : Int32) → (R (31 : Int32) h))))) : AW GC l ad d mX7_pairKind 15 [(0, .int x0), (1, .int x1)] [] h (qi R) := by
  refine aw_iload_n dX7_pairKind_15 rfl 0 rfl ?_
  refine aw_bipush (v := 60) dX7_pairKind_16 (by decide) ?_
  refine aw_icmp_ne (tgt := 30) dX7_pairKind_18 (by decide) (fun hc2 => ?_) (fun hc2 => ?_)
  · replace H := H.1 hc2
    exact aw_ls [0, 1] rfl H
  · replace H := H.2 hc2
    refine aw_iload_n dX7_pairKind_21 rfl 1 rfl ?_
    refine aw_bipush (v := 62) dX7_pairKind_22 (by decide) ?_
    refine aw_icmp_ne (tgt := 30) dX7_pairKind_24 (by decide) (fun hc1 => ?_) (fun hc1 => ?_)
    · replace H := H.1 hc1
      exact aw_ls [0, 1] rfl H
    · replace H := H.2 hc1
      refine aw_bipush (v := 31) dX7_pairKind_27 (by decide) ?_
      exact aw_iret dX7_pairKind_29 rfl ⟨_, rfl, H⟩
set_option maxRecDepth 8000 in
set_option maxHeartbeats 1000000 in
theorem bX7_pairKind_30 {l : Launch} {ad : Nat → Nat} {d : Nat} {R : Int32 → aH → Prop}   (x0 : Int32) (x1 : Int32)  (h : aH)
    (H : (¬ x0 = (62 : Int32) → (R (37 : Int32) h)) ∧ (x0 = (62 : Int32) → ((¬ x1 = (61 : Int32) → (R (37 : Int32) h)) ∧ (x1 = (61 : Int32) → (R (32 : Int32) h))))) : AW GC l ad d mX7_pairKind 30 [(0, .int x0), (1, .int x1)] [] h (qi R) := by
  refine aw_iload_n dX7_pairKind_30 rfl 0 rfl ?_
  refine aw_bipush (v := 62) dX7_pairKind_31 (by decide) ?_
  refine aw_icmp_ne (tgt := 47) dX7_pairKind_33 (by decide) (fun hc2 => ?_) (fun hc2 => ?_)
  · replace H := H.1 hc2
    refine aw_bipush (v := 37) dX7_pairKind_47 (by decide) ?_
    exact aw_iret dX7_pairKind_49 rfl ⟨_, rfl, H⟩
  · replace H := H.2 hc2
    refine aw_iload_n dX7_pairKind_36 rfl 1 rfl ?_
    refine aw_bipush (v := 61) dX7_pairKind_37 (by decide) ?_
    refine aw_icmp_ne (tgt := 47) dX7_pairKind_39 (by decide) (fun hc1 => ?_) (fun hc1 => ?_)
    · replace H := H.1 hc1
      refine aw_bipush (v := 37) dX7_pairKind_47 (by decide) ?_
      exact aw_iret dX7_pairKind_49 rfl ⟨_, rfl, H⟩
    · replace H := H.2 hc1
      refine aw_bipush (v := 32) dX7_pairKind_42 (by decide) ?_
      refine aw_goto (tgt := 49) dX7_pairKind_44 (by decide) ?_
      exact aw_iret dX7_pairKind_49 rfl ⟨_, rfl, H⟩
set_option maxRecDepth 8000 in
set_option maxHeartbeats 1000000 in
theorem bX7_signKind_0 {l : Launch} {ad : Nat → Nat} {d : Nat} {R : Int32 → aH → Prop}   (x0 : Int32)  (h : aH)
    (H : (x0 = (40 : Int32) → (R (22 : Int32) h)) ∧ ((x0 = (41 : Int32) → (R (23 : Int32) h)) ∧ ((x0 = (42 : Int32) → (R (26 : Int32) h)) ∧ ((x0 = (43 : Int32) → (R (24 : Int32) h)) ∧ ((x0 = (44 : Int32) → (R (37 : Int32) h)) ∧ ((x0 = (45 : Int32) → (R (25 : Int32) h)) ∧ ((x0 = (46 : Int32) → (R (37 : Int32) h)) ∧ ((x0 = (47 : Int32) → (R (27 : Int32) h)) ∧ ((x0 = (48 : Int32) → (R (37 : Int32) h)) ∧ ((x0 = (49 : Int32) → (R (37 : Int32) h)) ∧ ((x0 = (50 : Int32) → (R (37 : Int32) h)) ∧ ((x0 = (51 : Int32) → (R (37 : Int32) h)) ∧ ((x0 = (52 : Int32) → (R (37 : Int32) h)) ∧ ((x0 = (53 : Int32) → (R (37 : Int32) h)) ∧ ((x0 = (54 : Int32) → (R (37 : Int32) h)) ∧ ((x0 = (55 : Int32) → (R (37 : Int32) h)) ∧ ((x0 = (56 : Int32) → (R (37 : Int32) h)) ∧ ((x0 = (57 : Int32) → (R (37 : Int32) h)) ∧ ((x0 = (58 : Int32) → (R (37 : Int32) h)) ∧ ((x0 = (59 : Int32) → (R (21 : Int32) h)) ∧ ((x0 = (60 : Int32) → (R (28 : Int32) h)) ∧ ((x0 = (61 : Int32) → (R (30 : Int32) h)) ∧ ((x0 = (62 : Int32) → (R (33 : Int32) h)) ∧ (¬ x0 = (40 : Int32) → ¬ x0 = (41 : Int32) → ¬ x0 = (42 : Int32) → ¬ x0 = (43 : Int32) → ¬ x0 = (44 : Int32) → ¬ x0 = (45 : Int32) → ¬ x0 = (46 : Int32) → ¬ x0 = (47 : Int32) → ¬ x0 = (48 : Int32) → ¬ x0 = (49 : Int32) → ¬ x0 = (50 : Int32) → ¬ x0 = (51 : Int32) → ¬ x0 = (52 : Int32) → ¬ x0 = (53 : Int32) → ¬ x0 = (54 : Int32) → ¬ x0 = (55 : Int32) → ¬ x0 = (56 : Int32) → ¬ x0 = (57 : Int32) → ¬ x0 = (58 : Int32) → ¬ x0 = (59 : Int32) → ¬ x0 = (60 : Int32) → ¬ x0 = (61 : Int32) → ¬ x0 = (62 : Int32) → (R (37 : Int32) h))))))))))))))))))))))))) : AW GC l ad d mX7_signKind 0 [(0, .int x0)] [] h (qi R) := by
  refine aw_iload_n dX7_signKind_0 rfl 0 rfl ?_
  by_cases hx1_0 : x0 = (40 : Int32)
  · replace H := H.1 hx1_0
    refine aw_tableIn (off := 110) (tgt := 111) dX7_signKind_1 (by rw [hx1_0]; decide) (by rw [hx1_0]; decide) (by rw [hx1_0]; decide) (by decide) ?_
    refine aw_bipush (v := 22) dX7_signKind_111 (by decide) ?_
    exact aw_iret dX7_signKind_113 rfl ⟨_, rfl, H⟩
  by_cases hx1_1 : x0 = (41 : Int32)
  · replace H := H.2.1 hx1_1
    refine aw_tableIn (off := 113) (tgt := 114) dX7_signKind_1 (by rw [hx1_1]; decide) (by rw [hx1_1]; decide) (by rw [hx1_1]; decide) (by decide) ?_
    refine aw_bipush (v := 23) dX7_signKind_114 (by decide) ?_
    exact aw_iret dX7_signKind_116 rfl ⟨_, rfl, H⟩
  by_cases hx1_2 : x0 = (42 : Int32)
  · replace H := H.2.2.1 hx1_2
    refine aw_tableIn (off := 122) (tgt := 123) dX7_signKind_1 (by rw [hx1_2]; decide) (by rw [hx1_2]; decide) (by rw [hx1_2]; decide) (by decide) ?_
    refine aw_bipush (v := 26) dX7_signKind_123 (by decide) ?_
    exact aw_iret dX7_signKind_125 rfl ⟨_, rfl, H⟩
  by_cases hx1_3 : x0 = (43 : Int32)
  · replace H := H.2.2.2.1 hx1_3
    refine aw_tableIn (off := 116) (tgt := 117) dX7_signKind_1 (by rw [hx1_3]; decide) (by rw [hx1_3]; decide) (by rw [hx1_3]; decide) (by decide) ?_
    refine aw_bipush (v := 24) dX7_signKind_117 (by decide) ?_
    exact aw_iret dX7_signKind_119 rfl ⟨_, rfl, H⟩
  by_cases hx1_4 : x0 = (44 : Int32)
  · replace H := H.2.2.2.2.1 hx1_4
    refine aw_tableIn (off := 137) (tgt := 138) dX7_signKind_1 (by rw [hx1_4]; decide) (by rw [hx1_4]; decide) (by rw [hx1_4]; decide) (by decide) ?_
    refine aw_bipush (v := 37) dX7_signKind_138 (by decide) ?_
    exact aw_iret dX7_signKind_140 rfl ⟨_, rfl, H⟩
  by_cases hx1_5 : x0 = (45 : Int32)
  · replace H := H.2.2.2.2.2.1 hx1_5
    refine aw_tableIn (off := 119) (tgt := 120) dX7_signKind_1 (by rw [hx1_5]; decide) (by rw [hx1_5]; decide) (by rw [hx1_5]; decide) (by decide) ?_
    refine aw_bipush (v := 25) dX7_signKind_120 (by decide) ?_
    exact aw_iret dX7_signKind_122 rfl ⟨_, rfl, H⟩
  by_cases hx1_6 : x0 = (46 : Int32)
  · replace H := H.2.2.2.2.2.2.1 hx1_6
    refine aw_tableIn (off := 137) (tgt := 138) dX7_signKind_1 (by rw [hx1_6]; decide) (by rw [hx1_6]; decide) (by rw [hx1_6]; decide) (by decide) ?_
    refine aw_bipush (v := 37) dX7_signKind_138 (by decide) ?_
    exact aw_iret dX7_signKind_140 rfl ⟨_, rfl, H⟩
  by_cases hx1_7 : x0 = (47 : Int32)
  · replace H := H.2.2.2.2.2.2.2.1 hx1_7
    refine aw_tableIn (off := 125) (tgt := 126) dX7_signKind_1 (by rw [hx1_7]; decide) (by rw [hx1_7]; decide) (by rw [hx1_7]; decide) (by decide) ?_
    refine aw_bipush (v := 27) dX7_signKind_126 (by decide) ?_
    exact aw_iret dX7_signKind_128 rfl ⟨_, rfl, H⟩
  by_cases hx1_8 : x0 = (48 : Int32)
  · replace H := H.2.2.2.2.2.2.2.2.1 hx1_8
    refine aw_tableIn (off := 137) (tgt := 138) dX7_signKind_1 (by rw [hx1_8]; decide) (by rw [hx1_8]; decide) (by rw [hx1_8]; decide) (by decide) ?_
    refine aw_bipush (v := 37) dX7_signKind_138 (by decide) ?_
    exact aw_iret dX7_signKind_140 rfl ⟨_, rfl, H⟩
  by_cases hx1_9 : x0 = (49 : Int32)
  · replace H := H.2.2.2.2.2.2.2.2.2.1 hx1_9
    refine aw_tableIn (off := 137) (tgt := 138) dX7_signKind_1 (by rw [hx1_9]; decide) (by rw [hx1_9]; decide) (by rw [hx1_9]; decide) (by decide) ?_
    refine aw_bipush (v := 37) dX7_signKind_138 (by decide) ?_
    exact aw_iret dX7_signKind_140 rfl ⟨_, rfl, H⟩
  by_cases hx1_10 : x0 = (50 : Int32)
  · replace H := H.2.2.2.2.2.2.2.2.2.2.1 hx1_10
    refine aw_tableIn (off := 137) (tgt := 138) dX7_signKind_1 (by rw [hx1_10]; decide) (by rw [hx1_10]; decide) (by rw [hx1_10]; decide) (by decide) ?_
    refine aw_bipush (v := 37) dX7_signKind_138 (by decide) ?_
    exact aw_iret dX7_signKind_140 rfl ⟨_, rfl, H⟩
  by_cases hx1_11 : x0 = (51 : Int32)
  · replace H := H.2.2.2.2.2.2.2.2.2.2.2.1 hx1_11
    refine aw_tableIn (off := 137) (tgt := 138) dX7_signKind_1 (by rw [hx1_11]; decide) (by rw [hx1_11]; decide) (by rw [hx1_11]; decide) (by decide) ?_
    refine aw_bipush (v := 37) dX7_signKind_138 (by decide) ?_
    exact aw_iret dX7_signKind_140 rfl ⟨_, rfl, H⟩
  by_cases hx1_12 : x0 = (52 : Int32)
  · replace H := H.2.2.2.2.2.2.2.2.2.2.2.2.1 hx1_12
    refine aw_tableIn (off := 137) (tgt := 138) dX7_signKind_1 (by rw [hx1_12]; decide) (by rw [hx1_12]; decide) (by rw [hx1_12]; decide) (by decide) ?_
    refine aw_bipush (v := 37) dX7_signKind_138 (by decide) ?_
    exact aw_iret dX7_signKind_140 rfl ⟨_, rfl, H⟩
  by_cases hx1_13 : x0 = (53 : Int32)
  · replace H := H.2.2.2.2.2.2.2.2.2.2.2.2.2.1 hx1_13
    refine aw_tableIn (off := 137) (tgt := 138) dX7_signKind_1 (by rw [hx1_13]; decide) (by rw [hx1_13]; decide) (by rw [hx1_13]; decide) (by decide) ?_
    refine aw_bipush (v := 37) dX7_signKind_138 (by decide) ?_
    exact aw_iret dX7_signKind_140 rfl ⟨_, rfl, H⟩
  by_cases hx1_14 : x0 = (54 : Int32)
  · replace H := H.2.2.2.2.2.2.2.2.2.2.2.2.2.2.1 hx1_14
    refine aw_tableIn (off := 137) (tgt := 138) dX7_signKind_1 (by rw [hx1_14]; decide) (by rw [hx1_14]; decide) (by rw [hx1_14]; decide) (by decide) ?_
    refine aw_bipush (v := 37) dX7_signKind_138 (by decide) ?_
    exact aw_iret dX7_signKind_140 rfl ⟨_, rfl, H⟩
  by_cases hx1_15 : x0 = (55 : Int32)
  · replace H := H.2.2.2.2.2.2.2.2.2.2.2.2.2.2.2.1 hx1_15
    refine aw_tableIn (off := 137) (tgt := 138) dX7_signKind_1 (by rw [hx1_15]; decide) (by rw [hx1_15]; decide) (by rw [hx1_15]; decide) (by decide) ?_
    refine aw_bipush (v := 37) dX7_signKind_138 (by decide) ?_
    exact aw_iret dX7_signKind_140 rfl ⟨_, rfl, H⟩
  by_cases hx1_16 : x0 = (56 : Int32)
  · replace H := H.2.2.2.2.2.2.2.2.2.2.2.2.2.2.2.2.1 hx1_16
    refine aw_tableIn (off := 137) (tgt := 138) dX7_signKind_1 (by rw [hx1_16]; decide) (by rw [hx1_16]; decide) (by rw [hx1_16]; decide) (by decide) ?_
    refine aw_bipush (v := 37) dX7_signKind_138 (by decide) ?_
    exact aw_iret dX7_signKind_140 rfl ⟨_, rfl, H⟩
  by_cases hx1_17 : x0 = (57 : Int32)
  · replace H := H.2.2.2.2.2.2.2.2.2.2.2.2.2.2.2.2.2.1 hx1_17
    refine aw_tableIn (off := 137) (tgt := 138) dX7_signKind_1 (by rw [hx1_17]; decide) (by rw [hx1_17]; decide) (by rw [hx1_17]; decide) (by decide) ?_
    refine aw_bipush (v := 37) dX7_signKind_138 (by decide) ?_
    exact aw_iret dX7_signKind_140 rfl ⟨_, rfl, H⟩
  by_cases hx1_18 : x0 = (58 : Int32)
  · replace H := H.2.2.2.2.2.2.2.2.2.2.2.2.2.2.2.2.2.2.1 hx1_18
    refine aw_tableIn (off := 137) (tgt := 138) dX7_signKind_1 (by rw [hx1_18]; decide) (by rw [hx1_18]; decide) (by rw [hx1_18]; decide) (by decide) ?_
    refine aw_bipush (v := 37) dX7_signKind_138 (by decide) ?_
    exact aw_iret dX7_signKind_140 rfl ⟨_, rfl, H⟩
  by_cases hx1_19 : x0 = (59 : Int32)
  · replace H := H.2.2.2.2.2.2.2.2.2.2.2.2.2.2.2.2.2.2.2.1 hx1_19
    refine aw_tableIn (off := 107) (tgt := 108) dX7_signKind_1 (by rw [hx1_19]; decide) (by rw [hx1_19]; decide) (by rw [hx1_19]; decide) (by decide) ?_
    refine aw_bipush (v := 21) dX7_signKind_108 (by decide) ?_
    exact aw_iret dX7_signKind_110 rfl ⟨_, rfl, H⟩
  by_cases hx1_20 : x0 = (60 : Int32)
  · replace H := H.2.2.2.2.2.2.2.2.2.2.2.2.2.2.2.2.2.2.2.2.1 hx1_20
    refine aw_tableIn (off := 128) (tgt := 129) dX7_signKind_1 (by rw [hx1_20]; decide) (by rw [hx1_20]; decide) (by rw [hx1_20]; decide) (by decide) ?_
    refine aw_bipush (v := 28) dX7_signKind_129 (by decide) ?_
    exact aw_iret dX7_signKind_131 rfl ⟨_, rfl, H⟩
  by_cases hx1_21 : x0 = (61 : Int32)
  · replace H := H.2.2.2.2.2.2.2.2.2.2.2.2.2.2.2.2.2.2.2.2.2.1 hx1_21
    refine aw_tableIn (off := 131) (tgt := 132) dX7_signKind_1 (by rw [hx1_21]; decide) (by rw [hx1_21]; decide) (by rw [hx1_21]; decide) (by decide) ?_
    refine aw_bipush (v := 30) dX7_signKind_132 (by decide) ?_
    exact aw_iret dX7_signKind_134 rfl ⟨_, rfl, H⟩
  by_cases hx1_22 : x0 = (62 : Int32)
  · replace H := H.2.2.2.2.2.2.2.2.2.2.2.2.2.2.2.2.2.2.2.2.2.2.1 hx1_22
    refine aw_tableIn (off := 134) (tgt := 135) dX7_signKind_1 (by rw [hx1_22]; decide) (by rw [hx1_22]; decide) (by rw [hx1_22]; decide) (by decide) ?_
    refine aw_bipush (v := 33) dX7_signKind_135 (by decide) ?_
    exact aw_iret dX7_signKind_137 rfl ⟨_, rfl, H⟩
  replace H := H.2.2.2.2.2.2.2.2.2.2.2.2.2.2.2.2.2.2.2.2.2.2.2 hx1_0 hx1_1 hx1_2 hx1_3 hx1_4 hx1_5 hx1_6 hx1_7 hx1_8 hx1_9 hx1_10 hx1_11 hx1_12 hx1_13 hx1_14 hx1_15 hx1_16 hx1_17 hx1_18 hx1_19 hx1_20 hx1_21 hx1_22
  have hx1_0e := tab_ne hx1_0 (a := 40) (by decide)
  have hx1_1e := tab_ne hx1_1 (a := 41) (by decide)
  have hx1_2e := tab_ne hx1_2 (a := 42) (by decide)
  have hx1_3e := tab_ne hx1_3 (a := 43) (by decide)
  have hx1_4e := tab_ne hx1_4 (a := 44) (by decide)
  have hx1_5e := tab_ne hx1_5 (a := 45) (by decide)
  have hx1_6e := tab_ne hx1_6 (a := 46) (by decide)
  have hx1_7e := tab_ne hx1_7 (a := 47) (by decide)
  have hx1_8e := tab_ne hx1_8 (a := 48) (by decide)
  have hx1_9e := tab_ne hx1_9 (a := 49) (by decide)
  have hx1_10e := tab_ne hx1_10 (a := 50) (by decide)
  have hx1_11e := tab_ne hx1_11 (a := 51) (by decide)
  have hx1_12e := tab_ne hx1_12 (a := 52) (by decide)
  have hx1_13e := tab_ne hx1_13 (a := 53) (by decide)
  have hx1_14e := tab_ne hx1_14 (a := 54) (by decide)
  have hx1_15e := tab_ne hx1_15 (a := 55) (by decide)
  have hx1_16e := tab_ne hx1_16 (a := 56) (by decide)
  have hx1_17e := tab_ne hx1_17 (a := 57) (by decide)
  have hx1_18e := tab_ne hx1_18 (a := 58) (by decide)
  have hx1_19e := tab_ne hx1_19 (a := 59) (by decide)
  have hx1_20e := tab_ne hx1_20 (a := 60) (by decide)
  have hx1_21e := tab_ne hx1_21 (a := 61) (by decide)
  have hx1_22e := tab_ne hx1_22 (a := 62) (by decide)
  refine aw_tableOut (tgt := 138) dX7_signKind_1 (by omega) (by decide) ?_
  refine aw_bipush (v := 37) dX7_signKind_138 (by decide) ?_
  exact aw_iret dX7_signKind_140 rfl ⟨_, rfl, H⟩
set_option maxRecDepth 8000 in
set_option maxHeartbeats 1000000 in
theorem bX7_isLetter_0 {l : Launch} {ad : Nat → Nat} {d : Nat} {R : Int32 → aH → Prop}   (x0 : Int32)  (h : aH)
    (H : (x0 < (97 : Int32) → (R (0 : Int32) h)) ∧ (¬ x0 < (97 : Int32) → (((122 : Int32) < x0 → (R (0 : Int32) h)) ∧ (¬ (122 : Int32) < x0 → (R (1 : Int32) h))))) : AW GC l ad d mX7_isLetter 0 [(0, .int x0)] [] h (qi R) := by
  refine aw_iload_n dX7_isLetter_0 rfl 0 rfl ?_
  refine aw_bipush (v := 97) dX7_isLetter_1 (by decide) ?_
  refine aw_icmp_lt (tgt := 16) dX7_isLetter_3 (by decide) (fun hc2 => ?_) (fun hc2 => ?_)
  · replace H := H.1 hc2
    refine aw_iconst (v := 0) dX7_isLetter_16 (by decide) ?_
    exact aw_zret dX7_isLetter_17 rfl (by decide) ⟨_, rfl, H⟩
  · replace H := H.2 hc2
    refine aw_iload_n dX7_isLetter_6 rfl 0 rfl ?_
    refine aw_bipush (v := 122) dX7_isLetter_7 (by decide) ?_
    refine aw_icmp_gt (tgt := 16) dX7_isLetter_9 (by decide) (fun hc1 => ?_) (fun hc1 => ?_)
    · replace H := H.1 hc1
      refine aw_iconst (v := 0) dX7_isLetter_16 (by decide) ?_
      exact aw_zret dX7_isLetter_17 rfl (by decide) ⟨_, rfl, H⟩
    · replace H := H.2 hc1
      refine aw_iconst (v := 1) dX7_isLetter_12 (by decide) ?_
      refine aw_goto (tgt := 17) dX7_isLetter_13 (by decide) ?_
      exact aw_zret dX7_isLetter_17 rfl (by decide) ⟨_, rfl, H⟩
set_option maxRecDepth 8000 in
set_option maxHeartbeats 1000000 in
theorem bX7_isDigit_0 {l : Launch} {ad : Nat → Nat} {d : Nat} {R : Int32 → aH → Prop}   (x0 : Int32)  (h : aH)
    (H : (x0 < (48 : Int32) → (R (0 : Int32) h)) ∧ (¬ x0 < (48 : Int32) → (((57 : Int32) < x0 → (R (0 : Int32) h)) ∧ (¬ (57 : Int32) < x0 → (R (1 : Int32) h))))) : AW GC l ad d mX7_isDigit 0 [(0, .int x0)] [] h (qi R) := by
  refine aw_iload_n dX7_isDigit_0 rfl 0 rfl ?_
  refine aw_bipush (v := 48) dX7_isDigit_1 (by decide) ?_
  refine aw_icmp_lt (tgt := 16) dX7_isDigit_3 (by decide) (fun hc2 => ?_) (fun hc2 => ?_)
  · replace H := H.1 hc2
    refine aw_iconst (v := 0) dX7_isDigit_16 (by decide) ?_
    exact aw_zret dX7_isDigit_17 rfl (by decide) ⟨_, rfl, H⟩
  · replace H := H.2 hc2
    refine aw_iload_n dX7_isDigit_6 rfl 0 rfl ?_
    refine aw_bipush (v := 57) dX7_isDigit_7 (by decide) ?_
    refine aw_icmp_gt (tgt := 16) dX7_isDigit_9 (by decide) (fun hc1 => ?_) (fun hc1 => ?_)
    · replace H := H.1 hc1
      refine aw_iconst (v := 0) dX7_isDigit_16 (by decide) ?_
      exact aw_zret dX7_isDigit_17 rfl (by decide) ⟨_, rfl, H⟩
    · replace H := H.2 hc1
      refine aw_iconst (v := 1) dX7_isDigit_12 (by decide) ?_
      refine aw_goto (tgt := 17) dX7_isDigit_13 (by decide) ?_
      exact aw_zret dX7_isDigit_17 rfl (by decide) ⟨_, rfl, H⟩
