set_option maxRecDepth 8000 in
set_option maxHeartbeats 1000000 in
theorem bX10_lean_0 {adK adV : Nat → Nat} {l : Launch} {ad : Nat → Nat} {d : Nat} {R : Int32 → aH → Prop}   (x1 : Int32) (x2 : Int32)  (h : aH)
    (H : AW (GM adK adV) l ad d mX10_isTusk 0 [(0, .ref (ad 0)), (1, .int x1)] [] (sI h 0 0 (0 : Int32)) (qi fun z2 h1 => (z2 = 0 → (R (-1 : Int32) h1)) ∧ (¬ z2 = 0 → (AW (GM adK adV) l ad d mX10_isTusk 0 [(0, .ref (ad 0)), (1, .int x2)] [] h1 (qi fun z4 h3 => (z4 = 0 → (R (-1 : Int32) h3)) ∧ (¬ z4 = 0 → ((x1 = x2 → (R (-1 : Int32) h3)) ∧ (¬ x1 = x2 → (AW (GM adK adV) l ad d mX10_isAlive 0 [(0, .ref (ad 0)), (1, .int (0 : Int32)), (2, .int x1)] [] h3 (qi fun z6 h5 => (z6 = 0 → (R (-1 : Int32) h5)) ∧ (¬ z6 = 0 → (AW (GM adK adV) l ad d mX10_isAlive 0 [(0, .ref (ad 0)), (1, .int (0 : Int32)), (2, .int x2)] [] h5 (qi fun z8 h7 => (¬ z8 = 0 → (AW (GM adK adV) l ad d mX10_keepNow 0 [(0, .ref (ad 0))] [] h7 (qv fun h9 => AW (GM adK adV) l ad d mX10_leans 0 [(0, .ref (ad 0)), (1, .int (0 : Int32)), (2, .int x1), (3, .int x2)] [] h9 (qi fun z12 h11 => R z12 h11)))) ∧ (z8 = 0 → (R (-1 : Int32) h7))))))))))))))) : AW (GM adK adV) l ad (d + 1) mX10_lean 0 [(0, .ref (ad 0)), (1, .int x1), (2, .int x2)] [] h (qi R) := by
  refine aw_aload_n dX10_lean_0 rfl 0 rfl ?_
  refine aw_iconst (v := 0) dX10_lean_1 (by decide) ?_
  refine aw_putI dX10_lean_2 shM0 ckX10 flX10_160 rfl (fun _ => rfl) rfl rfl ?_
  refine aw_aload_n dX10_lean_5 rfl 0 rfl ?_
  refine aw_iload_n dX10_lean_6 rfl 1 rfl ?_
  refine cvX10_isTusk dX10_lean_7 mlX10_466 shM0 (Nat.le_of_ble_eq_true rfl) H (fun z2 h1 H => ?_)
  refine aw_if_eq (tgt := 44) dX10_lean_10 (by decide) (fun hc17 => ?_) (fun hc17 => ?_)
  · replace H := H.1 hc17
    refine aw_iconst (v := (-1)) dX10_lean_44 (by decide) ?_
    exact aw_iret dX10_lean_45 rfl ⟨_, rfl, H⟩
  · replace H := H.2 hc17
    refine aw_aload_n dX10_lean_13 rfl 0 rfl ?_
    refine aw_iload_n dX10_lean_14 rfl 2 rfl ?_
    refine cvX10_isTusk dX10_lean_15 mlX10_466 shM0 (Nat.le_of_ble_eq_true rfl) H (fun z4 h3 H => ?_)
    refine aw_if_eq (tgt := 44) dX10_lean_18 (by decide) (fun hc16 => ?_) (fun hc16 => ?_)
    · replace H := H.1 hc16
      refine aw_iconst (v := (-1)) dX10_lean_44 (by decide) ?_
      exact aw_iret dX10_lean_45 rfl ⟨_, rfl, H⟩
    · replace H := H.2 hc16
      refine aw_iload_n dX10_lean_21 rfl 1 rfl ?_
      refine aw_iload_n dX10_lean_22 rfl 2 rfl ?_
      refine aw_icmp_eq (tgt := 44) dX10_lean_23 (by decide) (fun hc15 => ?_) (fun hc15 => ?_)
      · replace H := H.1 hc15
        refine aw_iconst (v := (-1)) dX10_lean_44 (by decide) ?_
        exact aw_iret dX10_lean_45 rfl ⟨_, rfl, H⟩
      · replace H := H.2 hc15
        refine aw_aload_n dX10_lean_26 rfl 0 rfl ?_
        refine aw_iconst (v := 0) dX10_lean_27 (by decide) ?_
        refine aw_iload_n dX10_lean_28 rfl 1 rfl ?_
        refine cvX10_isAlive dX10_lean_29 mlX10_391 shM0 (Nat.le_of_ble_eq_true rfl) H (fun z6 h5 H => ?_)
        refine aw_if_eq (tgt := 44) dX10_lean_32 (by decide) (fun hc14 => ?_) (fun hc14 => ?_)
        · replace H := H.1 hc14
          refine aw_iconst (v := (-1)) dX10_lean_44 (by decide) ?_
          exact aw_iret dX10_lean_45 rfl ⟨_, rfl, H⟩
        · replace H := H.2 hc14
          refine aw_aload_n dX10_lean_35 rfl 0 rfl ?_
          refine aw_iconst (v := 0) dX10_lean_36 (by decide) ?_
          refine aw_iload_n dX10_lean_37 rfl 2 rfl ?_
          refine cvX10_isAlive dX10_lean_38 mlX10_391 shM0 (Nat.le_of_ble_eq_true rfl) H (fun z8 h7 H => ?_)
          refine aw_if_ne (tgt := 46) dX10_lean_41 (by decide) (fun hc13 => ?_) (fun hc13 => ?_)
          · replace H := H.1 hc13
            refine aw_aload_n dX10_lean_46 rfl 0 rfl ?_
            refine cvX10_keepNow dX10_lean_47 mlX10_476 shM0 (Nat.le_of_ble_eq_true rfl) H (fun h9 H => ?_)
            refine aw_aload_n dX10_lean_50 rfl 0 rfl ?_
            refine aw_iconst (v := 0) dX10_lean_51 (by decide) ?_
            refine aw_iload_n dX10_lean_52 rfl 1 rfl ?_
            refine aw_iload_n dX10_lean_53 rfl 2 rfl ?_
            refine cvX10_leans dX10_lean_54 mlX10_433 shM0 (Nat.le_of_ble_eq_true rfl) H (fun z12 h11 H => ?_)
            exact aw_iret dX10_lean_57 rfl ⟨_, rfl, H⟩
          · replace H := H.2 hc13
            refine aw_iconst (v := (-1)) dX10_lean_44 (by decide) ?_
            exact aw_iret dX10_lean_45 rfl ⟨_, rfl, H⟩
set_option maxRecDepth 8000 in
set_option maxHeartbeats 1000000 in
theorem bX10_pay_0 {adK adV : Nat → Nat} {l : Launch} {ad : Nat → Nat} {d : Nat} {R : Int32 → aH → Prop}   (x1 : Int32)  (h : aH)
    (H : AW (GM adK adV) l ad d mX10_isDebt 0 [(0, .ref (ad 0)), (1, .int x1)] [] (sI h 0 0 (0 : Int32)) (qi fun z2 h1 => (¬ z2 = 0 → (AW (GM adK adV) l ad d mX10_hasIt 0 [(0, .ref (ad 0)), (1, .int (0 : Int32)), (2, .int x1)] [] h1 (qi fun z4 h3 => (¬ z4 = 0 → (AW (GM adK adV) l ad d mX10_keepNow 0 [(0, .ref (ad 0))] [] h3 (qv fun h5 => AW (GM adK adV) l ad d mX10_pays 0 [(0, .ref (ad 0)), (1, .int (0 : Int32)), (2, .int x1)] [] h5 (qi fun z8 h7 => R z8 h7)))) ∧ (z4 = 0 → (R (-2 : Int32) h3))))) ∧ (z2 = 0 → (R (-1 : Int32) h1)))) : AW (GM adK adV) l ad (d + 1) mX10_pay 0 [(0, .ref (ad 0)), (1, .int x1)] [] h (qi R) := by
  refine aw_aload_n dX10_pay_0 rfl 0 rfl ?_
  refine aw_iconst (v := 0) dX10_pay_1 (by decide) ?_
  refine aw_putI dX10_pay_2 shM0 ckX10 flX10_160 rfl (fun _ => rfl) rfl rfl ?_
  refine aw_aload_n dX10_pay_5 rfl 0 rfl ?_
  refine aw_iload_n dX10_pay_6 rfl 1 rfl ?_
  refine cvX10_isDebt dX10_pay_7 mlX10_456 shM0 (Nat.le_of_ble_eq_true rfl) H (fun z2 h1 H => ?_)
  refine aw_if_ne (tgt := 15) dX10_pay_10 (by decide) (fun hc10 => ?_) (fun hc10 => ?_)
  · replace H := H.1 hc10
    refine aw_aload_n dX10_pay_15 rfl 0 rfl ?_
    refine aw_iconst (v := 0) dX10_pay_16 (by decide) ?_
    refine aw_iload_n dX10_pay_17 rfl 1 rfl ?_
    refine cvX10_hasIt dX10_pay_18 mlX10_408 shM0 (Nat.le_of_ble_eq_true rfl) H (fun z4 h3 H => ?_)
    refine aw_if_ne (tgt := 27) dX10_pay_21 (by decide) (fun hc9 => ?_) (fun hc9 => ?_)
    · replace H := H.1 hc9
      refine aw_aload_n dX10_pay_27 rfl 0 rfl ?_
      refine cvX10_keepNow dX10_pay_28 mlX10_476 shM0 (Nat.le_of_ble_eq_true rfl) H (fun h5 H => ?_)
      refine aw_aload_n dX10_pay_31 rfl 0 rfl ?_
      refine aw_iconst (v := 0) dX10_pay_32 (by decide) ?_
      refine aw_iload_n dX10_pay_33 rfl 1 rfl ?_
      refine cvX10_pays dX10_pay_34 mlX10_440 shM0 (Nat.le_of_ble_eq_true rfl) H (fun z8 h7 H => ?_)
      exact aw_iret dX10_pay_37 rfl ⟨_, rfl, H⟩
    · replace H := H.2 hc9
      refine aw_bipush (v := (-2)) dX10_pay_24 (by decide) ?_
      exact aw_iret dX10_pay_26 rfl ⟨_, rfl, H⟩
  · replace H := H.2 hc10
    refine aw_iconst (v := (-1)) dX10_pay_13 (by decide) ?_
    exact aw_iret dX10_pay_14 rfl ⟨_, rfl, H⟩
set_option maxRecDepth 8000 in
set_option maxHeartbeats 1000000 in
theorem bX10_gift_0 {adK adV : Nat → Nat} {l : Launch} {ad : Nat → Nat} {d : Nat} {R : Int32 → aH → Prop}   (x1 : Int32) (x2 : Int32)  (h : aH)
    (H : AW (GM adK adV) l ad d mX10_isMan 0 [(0, .ref (ad 0)), (1, .int x1)] [] (sI h 0 0 (0 : Int32)) (qi fun z2 h1 => (z2 = 0 → (R (-1 : Int32) h1)) ∧ (¬ z2 = 0 → ((x2 < (1 : Int32) → (R (-1 : Int32) h1)) ∧ (¬ x2 < (1 : Int32) → (((99 : Int32) < x2 → (R (-1 : Int32) h1)) ∧ (¬ (99 : Int32) < x2 → (vp_in x1 138 ∧ ((((h1.1 27 x1.toNatClampNeg) + x2) ≤ (99999 : Int32) → (AW (GM adK adV) l ad d mX10_keepNow 0 [(0, .ref (ad 0))] [] h1 (qv fun h4 => R ((sI h4 27 x1.toNatClampNeg ((h4.1 27 x1.toNatClampNeg) + x2)).1 27 x1.toNatClampNeg) (sI h4 27 x1.toNatClampNeg ((h4.1 27 x1.toNatClampNeg) + x2))))) ∧ (¬ ((h1.1 27 x1.toNatClampNeg) + x2) ≤ (99999 : Int32) → (R (-1 : Int32) h1))))))))))) : AW (GM adK adV) l ad (d + 1) mX10_gift 0 [(0, .ref (ad 0)), (1, .int x1), (2, .int x2)] [] h (qi R) := by
  refine aw_aload_n dX10_gift_0 rfl 0 rfl ?_
  refine aw_iconst (v := 0) dX10_gift_1 (by decide) ?_
  refine aw_putI dX10_gift_2 shM0 ckX10 flX10_160 rfl (fun _ => rfl) rfl rfl ?_
  refine aw_aload_n dX10_gift_5 rfl 0 rfl ?_
  refine aw_iload_n dX10_gift_6 rfl 1 rfl ?_
  refine cvX10_isMan dX10_gift_7 mlX10_459 shM0 (Nat.le_of_ble_eq_true rfl) H (fun z2 h1 H => ?_)
  refine aw_if_eq (tgt := 37) dX10_gift_10 (by decide) (fun hc9 => ?_) (fun hc9 => ?_)
  · replace H := H.1 hc9
    refine aw_iconst (v := (-1)) dX10_gift_37 (by decide) ?_
    exact aw_iret dX10_gift_38 rfl ⟨_, rfl, H⟩
  · replace H := H.2 hc9
    refine aw_iload_n dX10_gift_13 rfl 2 rfl ?_
    refine aw_iconst (v := 1) dX10_gift_14 (by decide) ?_
    refine aw_icmp_lt (tgt := 37) dX10_gift_15 (by decide) (fun hc8 => ?_) (fun hc8 => ?_)
    · replace H := H.1 hc8
      refine aw_iconst (v := (-1)) dX10_gift_37 (by decide) ?_
      exact aw_iret dX10_gift_38 rfl ⟨_, rfl, H⟩
    · replace H := H.2 hc8
      refine aw_iload_n dX10_gift_18 rfl 2 rfl ?_
      refine aw_bipush (v := 99) dX10_gift_19 (by decide) ?_
      refine aw_icmp_gt (tgt := 37) dX10_gift_21 (by decide) (fun hc7 => ?_) (fun hc7 => ?_)
      · replace H := H.1 hc7
        refine aw_iconst (v := (-1)) dX10_gift_37 (by decide) ?_
        exact aw_iret dX10_gift_38 rfl ⟨_, rfl, H⟩
      · replace H := H.2 hc7
        refine aw_aload_n dX10_gift_24 rfl 0 rfl ?_
        refine aw_get dX10_gift_25 shM0 ckX10 flX10_93 (v := .ref (ad 27)) rfl ?_
        refine aw_iload_n dX10_gift_28 rfl 1 rfl ?_
        obtain ⟨hi3, H⟩ := H
        refine aw_ialdK (t0 := 0) (j := x1.toNatClampNeg) dX10_gift_29 shM27 rfl rfl hi3 ?_
        refine aw_iload_n dX10_gift_30 rfl 2 rfl ?_
        refine aw_iadd dX10_gift_31 ?_
        refine aw_ldc dX10_gift_32 coX10_198 ?_
        refine aw_icmp_le (tgt := 39) dX10_gift_34 (by decide) (fun hc6 => ?_) (fun hc6 => ?_)
        · replace H := H.1 hc6
          refine aw_aload_n dX10_gift_39 rfl 0 rfl ?_
          refine cvX10_keepNow dX10_gift_40 mlX10_476 shM0 (Nat.le_of_ble_eq_true rfl) H (fun h4 H => ?_)
          refine aw_aload_n dX10_gift_43 rfl 0 rfl ?_
          refine aw_get dX10_gift_44 shM0 ckX10 flX10_93 (v := .ref (ad 27)) rfl ?_
          refine aw_iload_n dX10_gift_47 rfl 1 rfl ?_
          refine aw_dup2 dX10_gift_48 rfl rfl ?_
          refine aw_ialdK (t0 := 0) (j := x1.toNatClampNeg) dX10_gift_49 shM27 rfl rfl hi3 ?_
          refine aw_iload_n dX10_gift_50 rfl 2 rfl ?_
          refine aw_iadd dX10_gift_51 ?_
          refine aw_iastK (t0 := 0) (j := x1.toNatClampNeg) dX10_gift_52 shM27 rfl rfl hi3 ?_
          refine aw_aload_n dX10_gift_53 rfl 0 rfl ?_
          refine aw_get dX10_gift_54 shM0 ckX10 flX10_93 (v := .ref (ad 27)) rfl ?_
          refine aw_iload_n dX10_gift_57 rfl 1 rfl ?_
          refine aw_ialdK (t0 := 0) (j := x1.toNatClampNeg) dX10_gift_58 shM27 rfl rfl hi3 ?_
          exact aw_iret dX10_gift_59 rfl ⟨_, rfl, H⟩
        · replace H := H.2 hc6
          refine aw_iconst (v := (-1)) dX10_gift_37 (by decide) ?_
          exact aw_iret dX10_gift_38 rfl ⟨_, rfl, H⟩
set_option maxRecDepth 8000 in
set_option maxHeartbeats 1000000 in
theorem bX10_go_0 {adK adV : Nat → Nat} {l : Launch} {ad : Nat → Nat} {d : Nat} {R : Int32 → aH → Prop}   (x1 : Int32)  (h : aH)
    (H : (x1 < 0 → (R (-1 : Int32) (sI h 0 0 (0 : Int32)))) ∧ (¬ x1 < 0 → (((99 : Int32) < x1 → (R (-1 : Int32) (sI h 0 0 (0 : Int32)))) ∧ (¬ (99 : Int32) < x1 → (((((sI h 0 0 (0 : Int32)).1 23 0) + x1) ≤ (9900 : Int32) → ((x1 ≤ 0 → (AW (GM adK adV) l ad (d + 1) mX10_go 42 [(0, .ref (ad 0)), (1, .int x1), (2, .int (0 : Int32))] [] (sI h 0 0 (0 : Int32)) (qi R))) ∧ (¬ x1 ≤ 0 → (AW (GM adK adV) l ad (d + 1) mX10_go 42 [(0, .ref (ad 0)), (1, .int x1), (2, .int (0 : Int32))] [] (sI (sI h 0 0 (0 : Int32)) 0 53 (0 : Int32)) (qi R))))) ∧ (¬ (((sI h 0 0 (0 : Int32)).1 23 0) + x1) ≤ (9900 : Int32) → (R (-1 : Int32) (sI h 0 0 (0 : Int32))))))))) : AW (GM adK adV) l ad (d + 1) mX10_go 0 [(0, .ref (ad 0)), (1, .int x1)] [] h (qi R) := by
  refine aw_aload_n dX10_go_0 rfl 0 rfl ?_
  refine aw_iconst (v := 0) dX10_go_1 (by decide) ?_
  refine aw_putI dX10_go_2 shM0 ckX10 flX10_160 rfl (fun _ => rfl) rfl rfl ?_
  refine aw_iload_n dX10_go_5 rfl 1 rfl ?_
  refine aw_if_lt (tgt := 29) dX10_go_6 (by decide) (fun hc4 => ?_) (fun hc4 => ?_)
  · replace H := H.1 hc4
    refine aw_iconst (v := (-1)) dX10_go_29 (by decide) ?_
    exact aw_iret dX10_go_30 rfl ⟨_, rfl, H⟩
  · replace H := H.2 hc4
    refine aw_iload_n dX10_go_9 rfl 1 rfl ?_
    refine aw_bipush (v := 99) dX10_go_10 (by decide) ?_
    refine aw_icmp_gt (tgt := 29) dX10_go_12 (by decide) (fun hc3 => ?_) (fun hc3 => ?_)
    · replace H := H.1 hc3
      refine aw_iconst (v := (-1)) dX10_go_29 (by decide) ?_
      exact aw_iret dX10_go_30 rfl ⟨_, rfl, H⟩
    · replace H := H.2 hc3
      refine aw_aload_n dX10_go_15 rfl 0 rfl ?_
      refine aw_get dX10_go_16 shM0 ckX10 flX10_81 (v := .ref (ad 23)) rfl ?_
      refine aw_iconst (v := 0) dX10_go_19 (by decide) ?_
      refine aw_ialdK (t0 := 0) (j := 0) dX10_go_20 shM23 rfl (by decide) (vp_inK (by decide) (by decide)) ?_
      refine aw_iload_n dX10_go_21 rfl 1 rfl ?_
      refine aw_iadd dX10_go_22 ?_
      refine aw_sipush (v := 9900) dX10_go_23 (by decide) ?_
      refine aw_icmp_le (tgt := 31) dX10_go_26 (by decide) (fun hc2 => ?_) (fun hc2 => ?_)
      · replace H := H.1 hc2
        refine aw_iload_n dX10_go_31 rfl 1 rfl ?_
        refine aw_if_le (tgt := 40) dX10_go_32 (by decide) (fun hc1 => ?_) (fun hc1 => ?_)
        · replace H := H.1 hc1
          refine aw_iconst (v := 0) dX10_go_40 (by decide) ?_
          refine aw_istore_n (ls' := [(2, .int (0 : Int32)), (0, .ref (ad 0)), (1, .int x1)]) dX10_go_41 rfl (by decide) rfl ?_
          exact aw_ls [1, 2, 0] rfl H
        · replace H := H.2 hc1
          refine aw_aload_n dX10_go_35 rfl 0 rfl ?_
          refine aw_iconst (v := 0) dX10_go_36 (by decide) ?_
          refine aw_putI dX10_go_37 shM0 ckX10 flX10_332 rfl (fun _ => rfl) rfl rfl ?_
          refine aw_iconst (v := 0) dX10_go_40 (by decide) ?_
          refine aw_istore_n (ls' := [(2, .int (0 : Int32)), (0, .ref (ad 0)), (1, .int x1)]) dX10_go_41 rfl (by decide) rfl ?_
          exact aw_ls [1, 2, 0] rfl H
      · replace H := H.2 hc2
        refine aw_iconst (v := (-1)) dX10_go_29 (by decide) ?_
        exact aw_iret dX10_go_30 rfl ⟨_, rfl, H⟩
set_option maxRecDepth 8000 in
set_option maxHeartbeats 1000000 in
theorem bX10_go_42 {adK adV : Nat → Nat} {l : Launch} {ad : Nat → Nat} {d : Nat} {R : Int32 → aH → Prop}   (x1 : Int32) (x2 : Int32)  (h : aH)
    (H : (x1 ≤ x2 → (R (h.1 23 0) h)) ∧ (¬ x1 ≤ x2 → (AW (GM adK adV) l ad d mX10_passes 0 [(0, .ref (ad 0)), (1, .int (0 : Int32)), (2, .int (1 : Int32))] [] h (qv fun h1 => AW (GM adK adV) l ad (d + 1) mX10_go 42 [(0, .ref (ad 0)), (1, .int x1), (2, .int (x2 + (1 : Int32)))] [] h1 (qi R))))) : AW (GM adK adV) l ad (d + 1) mX10_go 42 [(0, .ref (ad 0)), (1, .int x1), (2, .int x2)] [] h (qi R) := by
  refine aw_iload_n dX10_go_42 rfl 2 rfl ?_
  refine aw_iload_n dX10_go_43 rfl 1 rfl ?_
  refine aw_icmp_ge (tgt := 59) dX10_go_44 (by decide) (fun hc3 => ?_) (fun hc3 => ?_)
  · replace H := H.1 hc3
    refine aw_aload_n dX10_go_59 rfl 0 rfl ?_
    refine aw_get dX10_go_60 shM0 ckX10 flX10_81 (v := .ref (ad 23)) rfl ?_
    refine aw_iconst (v := 0) dX10_go_63 (by decide) ?_
    refine aw_ialdK (t0 := 0) (j := 0) dX10_go_64 shM23 rfl (by decide) (vp_inK (by decide) (by decide)) ?_
    exact aw_iret dX10_go_65 rfl ⟨_, rfl, H⟩
  · replace H := H.2 hc3
    refine aw_aload_n dX10_go_47 rfl 0 rfl ?_
    refine aw_iconst (v := 0) dX10_go_48 (by decide) ?_
    refine aw_iconst (v := 1) dX10_go_49 (by decide) ?_
    refine cvX10_passes dX10_go_50 mlX10_447 shM0 (Nat.le_of_ble_eq_true rfl) H (fun h1 H => ?_)
    refine aw_inc (mm := (1)) (ls' := [(2, .int (x2 + (1 : Int32))), (0, .ref (ad 0)), (1, .int x1)]) dX10_go_53 (by decide) (j := 2) rfl (by decide) rfl ?_
    refine aw_goto (tgt := 42) dX10_go_56 (by decide) ?_
    exact aw_ls [1, 2, 0] rfl H
set_option maxRecDepth 8000 in
set_option maxHeartbeats 1000000 in
theorem bX10_ahead_0 {adK adV : Nat → Nat} {l : Launch} {ad : Nat → Nat} {d : Nat} {R : Int32 → aH → Prop}   (x1 : Int32) (x2 : Int32) (x3 : Int32)  (h : aH)
    (H : (x1 < 0 → (R (-1 : Int32) (sI h 0 0 (0 : Int32)))) ∧ (¬ x1 < 0 → (((99 : Int32) < x1 → (R (-1 : Int32) (sI h 0 0 (0 : Int32)))) ∧ (¬ (99 : Int32) < x1 → ((x2 < 0 → (R (-1 : Int32) (sI h 0 0 (0 : Int32)))) ∧ (¬ x2 < 0 → (((4 : Int32) < x2 → (R (-1 : Int32) (sI h 0 0 (0 : Int32)))) ∧ (¬ (4 : Int32) < x2 → ((¬ x2 = (3 : Int32) → (AW (GM adK adV) l ad (d + 1) mX10_ahead 39 [(0, .ref (ad 0)), (1, .int x1), (2, .int x2), (3, .int x3)] [] (sI h 0 0 (0 : Int32)) (qi R))) ∧ (x2 = (3 : Int32) → (AW (GM adK adV) l ad d mX10_isMan 0 [(0, .ref (ad 0)), (1, .int x3)] [] (sI h 0 0 (0 : Int32)) (qi fun z2 h1 => (¬ z2 = 0 → (AW (GM adK adV) l ad (d + 1) mX10_ahead 39 [(0, .ref (ad 0)), (1, .int x1), (2, .int x2), (3, .int x3)] [] h1 (qi R))) ∧ (z2 = 0 → (R (-1 : Int32) h1)))))))))))))) : AW (GM adK adV) l ad (d + 1) mX10_ahead 0 [(0, .ref (ad 0)), (1, .int x1), (2, .int x2), (3, .int x3)] [] h (qi R) := by
  refine aw_aload_n dX10_ahead_0 rfl 0 rfl ?_
  refine aw_iconst (v := 0) dX10_ahead_1 (by decide) ?_
  refine aw_putI dX10_ahead_2 shM0 ckX10 flX10_160 rfl (fun _ => rfl) rfl rfl ?_
  refine aw_iload_n dX10_ahead_5 rfl 1 rfl ?_
  refine aw_if_lt (tgt := 37) dX10_ahead_6 (by decide) (fun hc8 => ?_) (fun hc8 => ?_)
  · replace H := H.1 hc8
    refine aw_iconst (v := (-1)) dX10_ahead_37 (by decide) ?_
    exact aw_iret dX10_ahead_38 rfl ⟨_, rfl, H⟩
  · replace H := H.2 hc8
    refine aw_iload_n dX10_ahead_9 rfl 1 rfl ?_
    refine aw_bipush (v := 99) dX10_ahead_10 (by decide) ?_
    refine aw_icmp_gt (tgt := 37) dX10_ahead_12 (by decide) (fun hc7 => ?_) (fun hc7 => ?_)
    · replace H := H.1 hc7
      refine aw_iconst (v := (-1)) dX10_ahead_37 (by decide) ?_
      exact aw_iret dX10_ahead_38 rfl ⟨_, rfl, H⟩
    · replace H := H.2 hc7
      refine aw_iload_n dX10_ahead_15 rfl 2 rfl ?_
      refine aw_if_lt (tgt := 37) dX10_ahead_16 (by decide) (fun hc6 => ?_) (fun hc6 => ?_)
      · replace H := H.1 hc6
        refine aw_iconst (v := (-1)) dX10_ahead_37 (by decide) ?_
        exact aw_iret dX10_ahead_38 rfl ⟨_, rfl, H⟩
      · replace H := H.2 hc6
        refine aw_iload_n dX10_ahead_19 rfl 2 rfl ?_
        refine aw_iconst (v := 4) dX10_ahead_20 (by decide) ?_
        refine aw_icmp_gt (tgt := 37) dX10_ahead_21 (by decide) (fun hc5 => ?_) (fun hc5 => ?_)
        · replace H := H.1 hc5
          refine aw_iconst (v := (-1)) dX10_ahead_37 (by decide) ?_
          exact aw_iret dX10_ahead_38 rfl ⟨_, rfl, H⟩
        · replace H := H.2 hc5
          refine aw_iload_n dX10_ahead_24 rfl 2 rfl ?_
          refine aw_iconst (v := 3) dX10_ahead_25 (by decide) ?_
          refine aw_icmp_ne (tgt := 39) dX10_ahead_26 (by decide) (fun hc4 => ?_) (fun hc4 => ?_)
          · replace H := H.1 hc4
            exact aw_ls [0, 1, 2, 3] rfl H
          · replace H := H.2 hc4
            refine aw_aload_n dX10_ahead_29 rfl 0 rfl ?_
            refine aw_iload_n dX10_ahead_30 rfl 3 rfl ?_
            refine cvX10_isMan dX10_ahead_31 mlX10_459 shM0 (Nat.le_of_ble_eq_true rfl) H (fun z2 h1 H => ?_)
            refine aw_if_ne (tgt := 39) dX10_ahead_34 (by decide) (fun hc3 => ?_) (fun hc3 => ?_)
            · replace H := H.1 hc3
              exact aw_ls [0, 1, 2, 3] rfl H
            · replace H := H.2 hc3
              refine aw_iconst (v := (-1)) dX10_ahead_37 (by decide) ?_
              exact aw_iret dX10_ahead_38 rfl ⟨_, rfl, H⟩
set_option maxRecDepth 8000 in
set_option maxHeartbeats 1000000 in
theorem bX10_ahead_39 {adK adV : Nat → Nat} {l : Launch} {ad : Nat → Nat} {d : Nat} {R : Int32 → aH → Prop}   (x1 : Int32) (x2 : Int32) (x3 : Int32)  (h : aH)
    (H : AW (GM adK adV) l ad d mX10_runs 0 [(0, .ref (ad 0)), (1, .int x1)] [] h (qv fun h1 => (x2 = (0 : Int32) → (AW (GM adK adV) l ad d mX10_manyOf 0 [(0, .ref (ad 0)), (1, .int (1 : Int32)), (2, .int (2 : Int32))] [] h1 (qi fun z5 h4 => AW (GM adK adV) l ad d mX10_manyOf 0 [(0, .ref (ad 0)), (1, .int (0 : Int32)), (2, .int (2 : Int32))] [] h4 (qi fun z7 h6 => R (z5 - z7) h6)))) ∧ ((x2 = (1 : Int32) → (AW (GM adK adV) l ad d mX10_manyOf 0 [(0, .ref (ad 0)), (1, .int (1 : Int32)), (2, .int (3 : Int32))] [] h1 (qi fun z9 h8 => AW (GM adK adV) l ad d mX10_manyOf 0 [(0, .ref (ad 0)), (1, .int (0 : Int32)), (2, .int (3 : Int32))] [] h8 (qi fun z11 h10 => R (z9 - z11) h10)))) ∧ ((x2 = (2 : Int32) → (AW (GM adK adV) l ad d mX10_manyOf 0 [(0, .ref (ad 0)), (1, .int (1 : Int32)), (2, .int (4 : Int32))] [] h1 (qi fun z13 h12 => AW (GM adK adV) l ad d mX10_manyOf 0 [(0, .ref (ad 0)), (1, .int (0 : Int32)), (2, .int (4 : Int32))] [] h12 (qi fun z15 h14 => R (z13 - z15) h14)))) ∧ ((x2 = (3 : Int32) → (vp_in ((6 : Int32) + x3) 138 ∧ (R (h1.1 27 ((6 : Int32) + x3).toNatClampNeg) h1))) ∧ (¬ x2 = (0 : Int32) → ¬ x2 = (1 : Int32) → ¬ x2 = (2 : Int32) → ¬ x2 = (3 : Int32) → (AW (GM adK adV) l ad d mX10_bitsOf 0 [(0, .int (h1.1 26 1))] [] h1 (qi fun z18 h17 => R z18 h17)))))))) : AW (GM adK adV) l ad (d + 1) mX10_ahead 39 [(0, .ref (ad 0)), (1, .int x1), (2, .int x2), (3, .int x3)] [] h (qi R) := by
  refine aw_aload_n dX10_ahead_39 rfl 0 rfl ?_
  refine aw_iload_n dX10_ahead_40 rfl 1 rfl ?_
  refine cvX10_runs dX10_ahead_41 mlX10_479 shM0 (Nat.le_of_ble_eq_true rfl) H (fun h1 H => ?_)
  refine aw_iload_n dX10_ahead_44 rfl 2 rfl ?_
  by_cases hx3_0 : x2 = (0 : Int32)
  · replace H := H.1 hx3_0
    refine aw_tableIn (off := 31) (tgt := 76) dX10_ahead_45 (by rw [hx3_0]; decide) (by rw [hx3_0]; decide) (by rw [hx3_0]; decide) (by decide) ?_
    refine aw_aload_n dX10_ahead_76 rfl 0 rfl ?_
    refine aw_iconst (v := 1) dX10_ahead_77 (by decide) ?_
    refine aw_iconst (v := 2) dX10_ahead_78 (by decide) ?_
    refine cvX10_manyOf dX10_ahead_79 mlX10_482 shM0 (Nat.le_of_ble_eq_true rfl) H (fun z5 h4 H => ?_)
    refine aw_aload_n dX10_ahead_82 rfl 0 rfl ?_
    refine aw_iconst (v := 0) dX10_ahead_83 (by decide) ?_
    refine aw_iconst (v := 2) dX10_ahead_84 (by decide) ?_
    refine cvX10_manyOf dX10_ahead_85 mlX10_482 shM0 (Nat.le_of_ble_eq_true rfl) H (fun z7 h6 H => ?_)
    refine aw_isub dX10_ahead_88 ?_
    exact aw_iret dX10_ahead_89 rfl ⟨_, rfl, H⟩
  by_cases hx3_1 : x2 = (1 : Int32)
  · replace H := H.2.1 hx3_1
    refine aw_tableIn (off := 45) (tgt := 90) dX10_ahead_45 (by rw [hx3_1]; decide) (by rw [hx3_1]; decide) (by rw [hx3_1]; decide) (by decide) ?_
    refine aw_aload_n dX10_ahead_90 rfl 0 rfl ?_
    refine aw_iconst (v := 1) dX10_ahead_91 (by decide) ?_
    refine aw_iconst (v := 3) dX10_ahead_92 (by decide) ?_
    refine cvX10_manyOf dX10_ahead_93 mlX10_482 shM0 (Nat.le_of_ble_eq_true rfl) H (fun z9 h8 H => ?_)
    refine aw_aload_n dX10_ahead_96 rfl 0 rfl ?_
    refine aw_iconst (v := 0) dX10_ahead_97 (by decide) ?_
    refine aw_iconst (v := 3) dX10_ahead_98 (by decide) ?_
    refine cvX10_manyOf dX10_ahead_99 mlX10_482 shM0 (Nat.le_of_ble_eq_true rfl) H (fun z11 h10 H => ?_)
    refine aw_isub dX10_ahead_102 ?_
    exact aw_iret dX10_ahead_103 rfl ⟨_, rfl, H⟩
  by_cases hx3_2 : x2 = (2 : Int32)
  · replace H := H.2.2.1 hx3_2
    refine aw_tableIn (off := 59) (tgt := 104) dX10_ahead_45 (by rw [hx3_2]; decide) (by rw [hx3_2]; decide) (by rw [hx3_2]; decide) (by decide) ?_
    refine aw_aload_n dX10_ahead_104 rfl 0 rfl ?_
    refine aw_iconst (v := 1) dX10_ahead_105 (by decide) ?_
    refine aw_iconst (v := 4) dX10_ahead_106 (by decide) ?_
    refine cvX10_manyOf dX10_ahead_107 mlX10_482 shM0 (Nat.le_of_ble_eq_true rfl) H (fun z13 h12 H => ?_)
    refine aw_aload_n dX10_ahead_110 rfl 0 rfl ?_
    refine aw_iconst (v := 0) dX10_ahead_111 (by decide) ?_
    refine aw_iconst (v := 4) dX10_ahead_112 (by decide) ?_
    refine cvX10_manyOf dX10_ahead_113 mlX10_482 shM0 (Nat.le_of_ble_eq_true rfl) H (fun z15 h14 H => ?_)
    refine aw_isub dX10_ahead_116 ?_
    exact aw_iret dX10_ahead_117 rfl ⟨_, rfl, H⟩
  by_cases hx3_3 : x2 = (3 : Int32)
  · replace H := H.2.2.2.1 hx3_3
    refine aw_tableIn (off := 73) (tgt := 118) dX10_ahead_45 (by rw [hx3_3]; decide) (by rw [hx3_3]; decide) (by rw [hx3_3]; decide) (by decide) ?_
    refine aw_aload_n dX10_ahead_118 rfl 0 rfl ?_
    refine aw_get dX10_ahead_119 shM0 ckX10 flX10_93 (v := .ref (ad 27)) rfl ?_
    refine aw_bipush (v := 6) dX10_ahead_122 (by decide) ?_
    refine aw_iload_n dX10_ahead_124 rfl 3 rfl ?_
    refine aw_iadd dX10_ahead_125 ?_
    obtain ⟨hi16, H⟩ := H
    refine aw_ialdK (t0 := 0) (j := ((6 : Int32) + x3).toNatClampNeg) dX10_ahead_126 shM27 rfl rfl hi16 ?_
    exact aw_iret dX10_ahead_127 rfl ⟨_, rfl, H⟩
  replace H := H.2.2.2.2 hx3_0 hx3_1 hx3_2 hx3_3
  have hx3_0e := tab_ne hx3_0 (a := 0) (by decide)
  have hx3_1e := tab_ne hx3_1 (a := 1) (by decide)
  have hx3_2e := tab_ne hx3_2 (a := 2) (by decide)
  have hx3_3e := tab_ne hx3_3 (a := 3) (by decide)
  refine aw_tableOut (tgt := 128) dX10_ahead_45 (by omega) (by decide) ?_
  refine aw_aload_n dX10_ahead_128 rfl 0 rfl ?_
  refine aw_get dX10_ahead_129 shM0 ckX10 flX10_90 (v := .ref (ad 26)) rfl ?_
  refine aw_iconst (v := 1) dX10_ahead_132 (by decide) ?_
  refine aw_ialdK (t0 := 0) (j := 1) dX10_ahead_133 shM26 rfl (by decide) (vp_inK (by decide) (by decide)) ?_
  refine cvX10_bitsOf dX10_ahead_134 mlX10_361 (Nat.le_of_ble_eq_true rfl) H (fun z18 h17 H => ?_)
  exact aw_iret dX10_ahead_137 rfl ⟨_, rfl, H⟩
set_option maxRecDepth 8000 in
set_option maxHeartbeats 1000000 in
theorem bX10_ends_0 {adK adV : Nat → Nat} {l : Launch} {ad : Nat → Nat} {d : Nat} {R : Int32 → aH → Prop}   (x1 : Int32)  (h : aH)
    (H : AW (GM adK adV) l ad d mX10_isDebt 0 [(0, .ref (ad 0)), (1, .int x1)] [] (sI h 0 0 (0 : Int32)) (qi fun z2 h1 => (¬ z2 = 0 → (AW (GM adK adV) l ad d mX10_copies 0 [(0, .ref (ad 0)), (1, .int (1 : Int32)), (2, .int (0 : Int32))] [] h1 (qv fun h3 => AW (GM adK adV) l ad (d + 1) mX10_ends 23 [(0, .ref (ad 0)), (1, .int x1), (2, .int (0 : Int32))] [] h3 (qi R)))) ∧ (z2 = 0 → (R (-1 : Int32) h1)))) : AW (GM adK adV) l ad (d + 1) mX10_ends 0 [(0, .ref (ad 0)), (1, .int x1)] [] h (qi R) := by
  refine aw_aload_n dX10_ends_0 rfl 0 rfl ?_
  refine aw_iconst (v := 0) dX10_ends_1 (by decide) ?_
  refine aw_putI dX10_ends_2 shM0 ckX10 flX10_160 rfl (fun _ => rfl) rfl rfl ?_
  refine aw_aload_n dX10_ends_5 rfl 0 rfl ?_
  refine aw_iload_n dX10_ends_6 rfl 1 rfl ?_
  refine cvX10_isDebt dX10_ends_7 mlX10_456 shM0 (Nat.le_of_ble_eq_true rfl) H (fun z2 h1 H => ?_)
  refine aw_if_ne (tgt := 15) dX10_ends_10 (by decide) (fun hc5 => ?_) (fun hc5 => ?_)
  · replace H := H.1 hc5
    refine aw_aload_n dX10_ends_15 rfl 0 rfl ?_
    refine aw_iconst (v := 1) dX10_ends_16 (by decide) ?_
    refine aw_iconst (v := 0) dX10_ends_17 (by decide) ?_
    refine cvX10_copies dX10_ends_18 mlX10_450 shM0 (Nat.le_of_ble_eq_true rfl) H (fun h3 H => ?_)
    refine aw_iconst (v := 0) dX10_ends_21 (by decide) ?_
    refine aw_istore_n (ls' := [(2, .int (0 : Int32)), (0, .ref (ad 0)), (1, .int x1)]) dX10_ends_22 rfl (by decide) rfl ?_
    exact aw_ls [1, 2, 0] rfl H
  · replace H := H.2 hc5
    refine aw_iconst (v := (-1)) dX10_ends_13 (by decide) ?_
    exact aw_iret dX10_ends_14 rfl ⟨_, rfl, H⟩
set_option maxRecDepth 8000 in
set_option maxHeartbeats 1000000 in
theorem bX10_ends_23 {adK adV : Nat → Nat} {l : Launch} {ad : Nat → Nat} {d : Nat} {R : Int32 → aH → Prop}   (x1 : Int32) (x2 : Int32)  (h : aH)
    (H : ((99 : Int32) < x2 → (R (-2 : Int32) h)) ∧ (¬ (99 : Int32) < x2 → (vp_in ((8 : Int32) + x1) 184 ∧ (((h.1 35 ((8 : Int32) + x1).toNatClampNeg) ≤ (1 : Int32) → (AW (GM adK adV) l ad d mX10_passes 0 [(0, .ref (ad 0)), (1, .int (1 : Int32)), (2, .int (0 : Int32))] [] h (qv fun h2 => AW (GM adK adV) l ad (d + 1) mX10_ends 23 [(0, .ref (ad 0)), (1, .int x1), (2, .int (x2 + (1 : Int32)))] [] h2 (qi R)))) ∧ (¬ (h.1 35 ((8 : Int32) + x1).toNatClampNeg) ≤ (1 : Int32) → (R x2 h)))))) : AW (GM adK adV) l ad (d + 1) mX10_ends 23 [(0, .ref (ad 0)), (1, .int x1), (2, .int x2)] [] h (qi R) := by
  refine aw_iload_n dX10_ends_23 rfl 2 rfl ?_
  refine aw_bipush (v := 99) dX10_ends_24 (by decide) ?_
  refine aw_icmp_gt (tgt := 56) dX10_ends_26 (by decide) (fun hc5 => ?_) (fun hc5 => ?_)
  · replace H := H.1 hc5
    refine aw_bipush (v := (-2)) dX10_ends_56 (by decide) ?_
    exact aw_iret dX10_ends_58 rfl ⟨_, rfl, H⟩
  · replace H := H.2 hc5
    refine aw_aload_n dX10_ends_29 rfl 0 rfl ?_
    refine aw_get dX10_ends_30 shM0 ckX10 flX10_117 (v := .ref (ad 35)) rfl ?_
    refine aw_bipush (v := 8) dX10_ends_33 (by decide) ?_
    refine aw_iload_n dX10_ends_35 rfl 1 rfl ?_
    refine aw_iadd dX10_ends_36 ?_
    obtain ⟨hi1, H⟩ := H
    refine aw_ialdK (t0 := 0) (j := ((8 : Int32) + x1).toNatClampNeg) dX10_ends_37 shM35 rfl rfl hi1 ?_
    refine aw_iconst (v := 1) dX10_ends_38 (by decide) ?_
    refine aw_icmp_le (tgt := 44) dX10_ends_39 (by decide) (fun hc4 => ?_) (fun hc4 => ?_)
    · replace H := H.1 hc4
      refine aw_aload_n dX10_ends_44 rfl 0 rfl ?_
      refine aw_iconst (v := 1) dX10_ends_45 (by decide) ?_
      refine aw_iconst (v := 0) dX10_ends_46 (by decide) ?_
      refine cvX10_passes dX10_ends_47 mlX10_447 shM0 (Nat.le_of_ble_eq_true rfl) H (fun h2 H => ?_)
      refine aw_inc (mm := (1)) (ls' := [(2, .int (x2 + (1 : Int32))), (0, .ref (ad 0)), (1, .int x1)]) dX10_ends_50 (by decide) (j := 2) rfl (by decide) rfl ?_
      refine aw_goto (tgt := 23) dX10_ends_53 (by decide) ?_
      exact aw_ls [1, 2, 0] rfl H
    · replace H := H.2 hc4
      refine aw_iload_n dX10_ends_42 rfl 2 rfl ?_
      exact aw_iret dX10_ends_43 rfl ⟨_, rfl, H⟩
set_option maxRecDepth 8000 in
set_option maxHeartbeats 1000000 in
theorem bX10_isEven_0 {adK adV : Nat → Nat} {l : Launch} {ad : Nat → Nat} {d : Nat} {R : Int32 → aH → Prop}   (x1 : Int32)  (h : aH)
    (H : AW (GM adK adV) l ad (d + 1) mX10_isEven 4 [(0, .ref (ad 0)), (1, .int x1), (2, .int (0 : Int32)), (3, .int (0 : Int32))] [] h (qi R)) : AW (GM adK adV) l ad (d + 1) mX10_isEven 0 [(0, .ref (ad 0)), (1, .int x1)] [] h (qi R) := by
  refine aw_iconst (v := 0) dX10_isEven_0 (by decide) ?_
  refine aw_istore_n (ls' := [(2, .int (0 : Int32)), (0, .ref (ad 0)), (1, .int x1)]) dX10_isEven_1 rfl (by decide) rfl ?_
  refine aw_iconst (v := 0) dX10_isEven_2 (by decide) ?_
  refine aw_istore_n (ls' := [(3, .int (0 : Int32)), (2, .int (0 : Int32)), (0, .ref (ad 0)), (1, .int x1)]) dX10_isEven_3 rfl (by decide) rfl ?_
  exact aw_ls [2, 3, 1, 0] rfl H
set_option maxRecDepth 8000 in
set_option maxHeartbeats 1000000 in
theorem bX10_isEven_4 {adK adV : Nat → Nat} {l : Launch} {ad : Nat → Nat} {d : Nat} {R : Int32 → aH → Prop}   (x1 : Int32) (x2 : Int32) (x3 : Int32)  (h : aH)
    (H : ((h.1 2 0) ≤ x3 → ((¬ x2 = 0 → (R (0 : Int32) h)) ∧ (x2 = 0 → (R (1 : Int32) h)))) ∧ (¬ (h.1 2 0) ≤ x3 → ((¬ ((x1 >>> (x3 &&& 31)) &&& (1 : Int32)) = (1 : Int32) → (AW (GM adK adV) l ad (d + 1) mX10_isEven 4 [(0, .ref (ad 0)), (1, .int x1), (2, .int (x2 + (0 : Int32))), (3, .int (x3 + (1 : Int32)))] [] h (qi R))) ∧ (((x1 >>> (x3 &&& 31)) &&& (1 : Int32)) = (1 : Int32) → (AW (GM adK adV) l ad d mX10_netOf 0 [(0, .ref (ad 0)), (1, .int x3)] [] h (qi fun z3 h2 => AW (GM adK adV) l ad (d + 1) mX10_isEven 4 [(0, .ref (ad 0)), (1, .int x1), (2, .int (x2 + z3)), (3, .int (x3 + (1 : Int32)))] [] h2 (qi R))))))) : AW (GM adK adV) l ad (d + 1) mX10_isEven 4 [(0, .ref (ad 0)), (1, .int x1), (2, .int x2), (3, .int x3)] [] h (qi R) := by
  refine aw_iload_n dX10_isEven_4 rfl 3 rfl ?_
  refine aw_aload_n dX10_isEven_5 rfl 0 rfl ?_
  refine aw_get dX10_isEven_6 shM0 ckX10 flX10_13 (v := .ref (ad 2)) rfl ?_
  refine aw_iconst (v := 0) dX10_isEven_9 (by decide) ?_
  refine aw_ialdK (t0 := 0) (j := 0) dX10_isEven_10 shM2 rfl (by decide) (vp_inK (by decide) (by decide)) ?_
  refine aw_icmp_ge (tgt := 41) dX10_isEven_11 (by decide) (fun hc5 => ?_) (fun hc5 => ?_)
  · replace H := H.1 hc5
    refine aw_iload_n dX10_isEven_41 rfl 2 rfl ?_
    refine aw_if_ne (tgt := 49) dX10_isEven_42 (by decide) (fun hc1 => ?_) (fun hc1 => ?_)
    · replace H := H.1 hc1
      refine aw_iconst (v := 0) dX10_isEven_49 (by decide) ?_
      exact aw_zret dX10_isEven_50 rfl (by decide) ⟨_, rfl, H⟩
    · replace H := H.2 hc1
      refine aw_iconst (v := 1) dX10_isEven_45 (by decide) ?_
      refine aw_goto (tgt := 50) dX10_isEven_46 (by decide) ?_
      exact aw_zret dX10_isEven_50 rfl (by decide) ⟨_, rfl, H⟩
  · replace H := H.2 hc5
    refine aw_iload_n dX10_isEven_14 rfl 2 rfl ?_
    refine aw_iload_n dX10_isEven_15 rfl 1 rfl ?_
    refine aw_iload_n dX10_isEven_16 rfl 3 rfl ?_
    refine aw_ishr dX10_isEven_17 ?_
    refine aw_iconst (v := 1) dX10_isEven_18 (by decide) ?_
    refine aw_iand dX10_isEven_19 ?_
    refine aw_iconst (v := 1) dX10_isEven_20 (by decide) ?_
    refine aw_icmp_ne (tgt := 32) dX10_isEven_21 (by decide) (fun hc4 => ?_) (fun hc4 => ?_)
    · replace H := H.1 hc4
      refine aw_iconst (v := 0) dX10_isEven_32 (by decide) ?_
      refine aw_iadd dX10_isEven_33 ?_
      refine aw_istore_n (ls' := [(2, .int (x2 + (0 : Int32))), (0, .ref (ad 0)), (1, .int x1), (3, .int x3)]) dX10_isEven_34 rfl (by decide) rfl ?_
      refine aw_inc (mm := (1)) (ls' := [(3, .int (x3 + (1 : Int32))), (2, .int (x2 + (0 : Int32))), (0, .ref (ad 0)), (1, .int x1)]) dX10_isEven_35 (by decide) (j := 3) rfl (by decide) rfl ?_
      refine aw_goto (tgt := 4) dX10_isEven_38 (by decide) ?_
      exact aw_ls [2, 3, 1, 0] rfl H
    · replace H := H.2 hc4
      refine aw_aload_n dX10_isEven_24 rfl 0 rfl ?_
      refine aw_iload_n dX10_isEven_25 rfl 3 rfl ?_
      refine cvX10_netOf dX10_isEven_26 mlX10_463 shM0 (Nat.le_of_ble_eq_true rfl) H (fun z3 h2 H => ?_)
      refine aw_goto (tgt := 33) dX10_isEven_29 (by decide) ?_
      refine aw_iadd dX10_isEven_33 ?_
      refine aw_istore_n (ls' := [(2, .int (x2 + z3)), (0, .ref (ad 0)), (1, .int x1), (3, .int x3)]) dX10_isEven_34 rfl (by decide) rfl ?_
      refine aw_inc (mm := (1)) (ls' := [(3, .int (x3 + (1 : Int32))), (2, .int (x2 + z3)), (0, .ref (ad 0)), (1, .int x1)]) dX10_isEven_35 (by decide) (j := 3) rfl (by decide) rfl ?_
      refine aw_goto (tgt := 4) dX10_isEven_38 (by decide) ?_
      exact aw_ls [2, 3, 1, 0] rfl H
set_option maxRecDepth 8000 in
set_option maxHeartbeats 1000000 in
theorem bX10_clear_0 {adK adV : Nat → Nat} {l : Launch} {ad : Nat → Nat} {d : Nat} {R : Int32 → aH → Prop}     (h : aH)
    (H : AW (GM adK adV) l ad (d + 1) mX10_clear 9 [(0, .ref (ad 0)), (1, .int (0 : Int32)), (2, .int (0 : Int32))] [] (sI h 0 0 (0 : Int32)) (qi R)) : AW (GM adK adV) l ad (d + 1) mX10_clear 0 [(0, .ref (ad 0))] [] h (qi R) := by
  refine aw_aload_n dX10_clear_0 rfl 0 rfl ?_
  refine aw_iconst (v := 0) dX10_clear_1 (by decide) ?_
  refine aw_putI dX10_clear_2 shM0 ckX10 flX10_160 rfl (fun _ => rfl) rfl rfl ?_
  refine aw_iconst (v := 0) dX10_clear_5 (by decide) ?_
  refine aw_istore_n (ls' := [(1, .int (0 : Int32)), (0, .ref (ad 0))]) dX10_clear_6 rfl (by decide) rfl ?_
  refine aw_iconst (v := 0) dX10_clear_7 (by decide) ?_
  refine aw_istore_n (ls' := [(2, .int (0 : Int32)), (1, .int (0 : Int32)), (0, .ref (ad 0))]) dX10_clear_8 rfl (by decide) rfl ?_
  exact aw_ls [2, 1, 0] rfl H
set_option maxRecDepth 8000 in
set_option maxHeartbeats 1000000 in
theorem bX10_clear_9 {adK adV : Nat → Nat} {l : Launch} {ad : Nat → Nat} {d : Nat} {R : Int32 → aH → Prop}   (x1 : Int32) (x2 : Int32)  (h : aH)
    (H : ((h.1 2 0) ≤ x2 → (AW (GM adK adV) l ad (d + 1) mX10_clear 45 [(0, .ref (ad 0)), (1, .int x1), (2, .int (0 : Int32))] [] h (qi R))) ∧ (¬ (h.1 2 0) ≤ x2 → (AW (GM adK adV) l ad d mX10_netOf 0 [(0, .ref (ad 0)), (1, .int x2)] [] h (qi fun z2 h1 => ∀ t3 : Int32, t3 = (if z2 = 0 then (0 : Int32) else ((1 : Int32) <<< (x2 &&& 31))) → (AW (GM adK adV) l ad (d + 1) mX10_clear 9 [(0, .ref (ad 0)), (1, .int (x1 ||| t3)), (2, .int (x2 + (1 : Int32)))] [] h1 (qi R)))))) : AW (GM adK adV) l ad (d + 1) mX10_clear 9 [(0, .ref (ad 0)), (1, .int x1), (2, .int x2)] [] h (qi R) := by
  refine aw_iload_n dX10_clear_9 rfl 2 rfl ?_
  refine aw_aload_n dX10_clear_10 rfl 0 rfl ?_
  refine aw_get dX10_clear_11 shM0 ckX10 flX10_13 (v := .ref (ad 2)) rfl ?_
  refine aw_iconst (v := 0) dX10_clear_14 (by decide) ?_
  refine aw_ialdK (t0 := 0) (j := 0) dX10_clear_15 shM2 rfl (by decide) (vp_inK (by decide) (by decide)) ?_
  refine aw_icmp_ge (tgt := 43) dX10_clear_16 (by decide) (fun hc6 => ?_) (fun hc6 => ?_)
  · replace H := H.1 hc6
    refine aw_iconst (v := 0) dX10_clear_43 (by decide) ?_
    refine aw_istore_n (ls' := [(2, .int (0 : Int32)), (0, .ref (ad 0)), (1, .int x1)]) dX10_clear_44 rfl (by decide) rfl ?_
    exact aw_ls [1, 2, 0] rfl H
  · replace H := H.2 hc6
    refine aw_iload_n dX10_clear_19 rfl 1 rfl ?_
    refine aw_aload_n dX10_clear_20 rfl 0 rfl ?_
    refine aw_iload_n dX10_clear_21 rfl 2 rfl ?_
    refine cvX10_netOf dX10_clear_22 mlX10_463 shM0 (Nat.le_of_ble_eq_true rfl) H (fun z2 h1 H => ?_)
    have H : True ∧ ∀ t3 : Int32, t3 = (if z2 = 0 then (0 : Int32) else ((1 : Int32) <<< (x2 &&& 31))) → (AW (GM adK adV) l ad (d + 1) mX10_clear 9 [(0, .ref (ad 0)), (1, .int (x1 ||| t3)), (2, .int (x2 + (1 : Int32)))] [] h1 (qi R)) := ⟨trivial, H⟩
    have K4 : ∀ t3 : Int32, (AW (GM adK adV) l ad (d + 1) mX10_clear 9 [(0, .ref (ad 0)), (1, .int (x1 ||| t3)), (2, .int (x2 + (1 : Int32)))] [] h1 (qi R)) → AW (GM adK adV) l ad (d + 1) mX10_clear 35 [(0, .ref (ad 0)), (1, .int x1), (2, .int x2)] [.int t3, .int x1] h1 (qi R) := by
      intro t3 H
      refine aw_ior dX10_clear_35 ?_
      refine aw_istore_n (ls' := [(1, .int (x1 ||| t3)), (0, .ref (ad 0)), (2, .int x2)]) dX10_clear_36 rfl (by decide) rfl ?_
      refine aw_inc (mm := (1)) (ls' := [(2, .int (x2 + (1 : Int32))), (1, .int (x1 ||| t3)), (0, .ref (ad 0))]) dX10_clear_37 (by decide) (j := 2) rfl (by decide) rfl ?_
      refine aw_goto (tgt := 9) dX10_clear_40 (by decide) ?_
      exact aw_ls [2, 1, 0] rfl H
    refine aw_if_eq (tgt := 34) dX10_clear_25 (by decide) (fun hc5 => ?_) (fun hc5 => ?_)
    · refine aw_iconst (v := (0)) dX10_clear_34 (by decide) ?_
      exact K4 _ (H.2 _ (by simp only [if_pos hc5]))
    · refine aw_iconst (v := (1)) dX10_clear_28 (by decide) ?_
      refine aw_iload_n dX10_clear_29 rfl 2 rfl ?_
      refine aw_ishl dX10_clear_30 ?_
      refine aw_goto (tgt := 35) dX10_clear_31 (by decide) ?_
      exact K4 _ (H.2 _ (by simp only [if_neg hc5]))
set_option maxRecDepth 8000 in
set_option maxHeartbeats 1000000 in
theorem bX10_clear_45 {adK adV : Nat → Nat} {l : Launch} {ad : Nat → Nat} {d : Nat} {R : Int32 → aH → Prop}   (x1 : Int32) (x2 : Int32)  (h : aH)
    (H : (x1 < x2 → (AW (GM adK adV) l ad d mX10_bitsOf 0 [(0, .int x1)] [] h (qi fun z2 h1 => vp_in x1 64 ∧ (R (z2 - (h1.1 37 x1.toNatClampNeg)) h1)))) ∧ (¬ x1 < x2 → (vp_in x2 64 ∧ (AW (GM adK adV) l ad (d + 1) mX10_clear 59 [(0, .ref (ad 0)), (1, .int x1), (2, .int x2), (3, .int (1 : Int32))] [] (sI h 37 x2.toNatClampNeg (0 : Int32)) (qi R))))) : AW (GM adK adV) l ad (d + 1) mX10_clear 45 [(0, .ref (ad 0)), (1, .int x1), (2, .int x2)] [] h (qi R) := by
  refine aw_iload_n dX10_clear_45 rfl 2 rfl ?_
  refine aw_iload_n dX10_clear_46 rfl 1 rfl ?_
  refine aw_icmp_gt (tgt := 127) dX10_clear_47 (by decide) (fun hc5 => ?_) (fun hc5 => ?_)
  · replace H := H.1 hc5
    refine aw_iload_n dX10_clear_127 rfl 1 rfl ?_
    refine cvX10_bitsOf dX10_clear_128 mlX10_361 (Nat.le_of_ble_eq_true rfl) H (fun z2 h1 H => ?_)
    refine aw_aload_n dX10_clear_131 rfl 0 rfl ?_
    refine aw_get dX10_clear_132 shM0 ckX10 flX10_126 (v := .ref (ad 37)) rfl ?_
    refine aw_iload_n dX10_clear_135 rfl 1 rfl ?_
    obtain ⟨hi3, H⟩ := H
    refine aw_ialdK (t0 := 0) (j := x1.toNatClampNeg) dX10_clear_136 shM37 rfl rfl hi3 ?_
    refine aw_isub dX10_clear_137 ?_
    exact aw_iret dX10_clear_138 rfl ⟨_, rfl, H⟩
  · replace H := H.2 hc5
    refine aw_aload_n dX10_clear_50 rfl 0 rfl ?_
    refine aw_get dX10_clear_51 shM0 ckX10 flX10_126 (v := .ref (ad 37)) rfl ?_
    refine aw_iload_n dX10_clear_54 rfl 2 rfl ?_
    refine aw_iconst (v := 0) dX10_clear_55 (by decide) ?_
    obtain ⟨hi4, H⟩ := H
    refine aw_iastK (t0 := 0) (j := x2.toNatClampNeg) dX10_clear_56 shM37 rfl rfl hi4 ?_
    refine aw_iconst (v := 1) dX10_clear_57 (by decide) ?_
    refine aw_istore_n (ls' := [(3, .int (1 : Int32)), (0, .ref (ad 0)), (1, .int x1), (2, .int x2)]) dX10_clear_58 rfl (by decide) rfl ?_
    exact aw_ls [1, 2, 3, 0] rfl H
set_option maxRecDepth 8000 in
set_option maxHeartbeats 1000000 in
theorem bX10_clear_59 {adK adV : Nat → Nat} {l : Launch} {ad : Nat → Nat} {d : Nat} {R : Int32 → aH → Prop}   (x1 : Int32) (x2 : Int32) (x3 : Int32)  (h : aH)
    (H : (x2 < x3 → (AW (GM adK adV) l ad (d + 1) mX10_clear 45 [(0, .ref (ad 0)), (1, .int x1), (2, .int (x2 + (1 : Int32)))] [] h (qi R))) ∧ (¬ x2 < x3 → ((¬ (x2 &&& (x1 ^^^ (-1 : Int32))) = 0 → (AW (GM adK adV) l ad (d + 1) mX10_clear 45 [(0, .ref (ad 0)), (1, .int x1), (2, .int (x2 + (1 : Int32)))] [] h (qi R))) ∧ ((x2 &&& (x1 ^^^ (-1 : Int32))) = 0 → ((¬ (x3 &&& (x2 ^^^ (-1 : Int32))) = 0 → (AW (GM adK adV) l ad (d + 1) mX10_clear 59 [(0, .ref (ad 0)), (1, .int x1), (2, .int x2), (3, .int (x3 + (1 : Int32)))] [] h (qi R))) ∧ ((x3 &&& (x2 ^^^ (-1 : Int32))) = 0 → (AW (GM adK adV) l ad d mX10_isEven 0 [(0, .ref (ad 0)), (1, .int x3)] [] h (qi fun z2 h1 => (z2 = 0 → (AW (GM adK adV) l ad (d + 1) mX10_clear 59 [(0, .ref (ad 0)), (1, .int x1), (2, .int x2), (3, .int (x3 + (1 : Int32)))] [] h1 (qi R))) ∧ (¬ z2 = 0 → (vp_in x2 64 ∧ (vp_in (x2 &&& (x3 ^^^ (-1 : Int32))) 64 ∧ (∀ h5 : aH, h5 = (sI h1 37 x2.toNatClampNeg (if (h1.1 37 x2.toNatClampNeg) < ((1 : Int32) + (h1.1 37 (x2 &&& (x3 ^^^ (-1 : Int32))).toNatClampNeg)) then ((1 : Int32) + (h1.1 37 (x2 &&& (x3 ^^^ (-1 : Int32))).toNatClampNeg)) else (h1.1 37 x2.toNatClampNeg))) → (AW (GM adK adV) l ad (d + 1) mX10_clear 59 [(0, .ref (ad 0)), (1, .int x1), (2, .int x2), (3, .int (x3 + (1 : Int32)))] [] h5 (qi R)))))))))))))) : AW (GM adK adV) l ad (d + 1) mX10_clear 59 [(0, .ref (ad 0)), (1, .int x1), (2, .int x2), (3, .int x3)] [] h (qi R) := by
  refine aw_iload_n dX10_clear_59 rfl 3 rfl ?_
  refine aw_iload_n dX10_clear_60 rfl 2 rfl ?_
  refine aw_icmp_gt (tgt := 121) dX10_clear_61 (by decide) (fun hc9 => ?_) (fun hc9 => ?_)
  · replace H := H.1 hc9
    refine aw_inc (mm := (1)) (ls' := [(2, .int (x2 + (1 : Int32))), (0, .ref (ad 0)), (1, .int x1), (3, .int x3)]) dX10_clear_121 (by decide) (j := 2) rfl (by decide) rfl ?_
    refine aw_goto (tgt := 45) dX10_clear_124 (by decide) ?_
    exact aw_ls [1, 2, 0] rfl H
  · replace H := H.2 hc9
    refine aw_iload_n dX10_clear_64 rfl 2 rfl ?_
    refine aw_iload_n dX10_clear_65 rfl 1 rfl ?_
    refine aw_iconst (v := (-1)) dX10_clear_66 (by decide) ?_
    refine aw_ixor dX10_clear_67 ?_
    refine aw_iand dX10_clear_68 ?_
    refine aw_if_ne (tgt := 121) dX10_clear_69 (by decide) (fun hc8 => ?_) (fun hc8 => ?_)
    · replace H := H.1 hc8
      refine aw_inc (mm := (1)) (ls' := [(2, .int (x2 + (1 : Int32))), (0, .ref (ad 0)), (1, .int x1), (3, .int x3)]) dX10_clear_121 (by decide) (j := 2) rfl (by decide) rfl ?_
      refine aw_goto (tgt := 45) dX10_clear_124 (by decide) ?_
      exact aw_ls [1, 2, 0] rfl H
    · replace H := H.2 hc8
      refine aw_iload_n dX10_clear_72 rfl 3 rfl ?_
      refine aw_iload_n dX10_clear_73 rfl 2 rfl ?_
      refine aw_iconst (v := (-1)) dX10_clear_74 (by decide) ?_
      refine aw_ixor dX10_clear_75 ?_
      refine aw_iand dX10_clear_76 ?_
      refine aw_if_ne (tgt := 115) dX10_clear_77 (by decide) (fun hc7 => ?_) (fun hc7 => ?_)
      · replace H := H.1 hc7
        refine aw_inc (mm := (1)) (ls' := [(3, .int (x3 + (1 : Int32))), (0, .ref (ad 0)), (1, .int x1), (2, .int x2)]) dX10_clear_115 (by decide) (j := 3) rfl (by decide) rfl ?_
        refine aw_goto (tgt := 59) dX10_clear_118 (by decide) ?_
        exact aw_ls [1, 2, 3, 0] rfl H
      · replace H := H.2 hc7
        refine aw_aload_n dX10_clear_80 rfl 0 rfl ?_
        refine aw_iload_n dX10_clear_81 rfl 3 rfl ?_
        refine cvX10_isEven dX10_clear_82 mlX10_485 shM0 (Nat.le_of_ble_eq_true rfl) H (fun z2 h1 H => ?_)
        refine aw_if_eq (tgt := 115) dX10_clear_85 (by decide) (fun hc6 => ?_) (fun hc6 => ?_)
        · replace H := H.1 hc6
          refine aw_inc (mm := (1)) (ls' := [(3, .int (x3 + (1 : Int32))), (0, .ref (ad 0)), (1, .int x1), (2, .int x2)]) dX10_clear_115 (by decide) (j := 3) rfl (by decide) rfl ?_
          refine aw_goto (tgt := 59) dX10_clear_118 (by decide) ?_
          exact aw_ls [1, 2, 3, 0] rfl H
        · replace H := H.2 hc6
          refine aw_aload_n dX10_clear_88 rfl 0 rfl ?_
          refine aw_get dX10_clear_89 shM0 ckX10 flX10_126 (v := .ref (ad 37)) rfl ?_
          refine aw_iload_n dX10_clear_92 rfl 2 rfl ?_
          refine aw_aload_n dX10_clear_93 rfl 0 rfl ?_
          refine aw_get dX10_clear_94 shM0 ckX10 flX10_126 (v := .ref (ad 37)) rfl ?_
          refine aw_iload_n dX10_clear_97 rfl 2 rfl ?_
          obtain ⟨hi3, H⟩ := H
          refine aw_ialdK (t0 := 0) (j := x2.toNatClampNeg) dX10_clear_98 shM37 rfl rfl hi3 ?_
          refine aw_iconst (v := 1) dX10_clear_99 (by decide) ?_
          refine aw_aload_n dX10_clear_100 rfl 0 rfl ?_
          refine aw_get dX10_clear_101 shM0 ckX10 flX10_126 (v := .ref (ad 37)) rfl ?_
          refine aw_iload_n dX10_clear_104 rfl 2 rfl ?_
          refine aw_iload_n dX10_clear_105 rfl 3 rfl ?_
          refine aw_iconst (v := (-1)) dX10_clear_106 (by decide) ?_
          refine aw_ixor dX10_clear_107 ?_
          refine aw_iand dX10_clear_108 ?_
          obtain ⟨hi4, H⟩ := H
          refine aw_ialdK (t0 := 0) (j := (x2 &&& (x3 ^^^ (-1 : Int32))).toNatClampNeg) dX10_clear_109 shM37 rfl rfl hi4 ?_
          refine aw_iadd dX10_clear_110 ?_
          refine aw_mmax dX10_clear_111 mlX10_377 (Nat.le_of_ble_eq_true rfl) ?_
          refine aw_iastK (t0 := 0) (j := x2.toNatClampNeg) dX10_clear_114 shM37 rfl rfl hi3 ?_
          refine aw_toph (fun h5 eh5 => ?_)
          replace H := H h5 eh5
          refine aw_inc (mm := (1)) (ls' := [(3, .int (x3 + (1 : Int32))), (0, .ref (ad 0)), (1, .int x1), (2, .int x2)]) dX10_clear_115 (by decide) (j := 3) rfl (by decide) rfl ?_
          refine aw_goto (tgt := 59) dX10_clear_118 (by decide) ?_
          exact aw_ls [1, 2, 3, 0] rfl H
set_option maxRecDepth 8000 in
set_option maxHeartbeats 1000000 in
theorem bX10_keep_0 {adK adV : Nat → Nat} {l : Launch} {ad : Nat → Nat} {d : Nat} {R : Int32 → aH → Prop}   (x1 : Int32) (x2 : Int32)  (h : aH)
    (H : AW (GM adK adV) l ad d mX10_isDebt 0 [(0, .ref (ad 0)), (1, .int x1)] [] (sI h 0 0 (0 : Int32)) (qi fun z2 h1 => (z2 = 0 → (R (-1 : Int32) h1)) ∧ (¬ z2 = 0 → ((x2 < 0 → (R (-1 : Int32) h1)) ∧ (¬ x2 < 0 → ((x2 ≤ (60 : Int32) → (AW (GM adK adV) l ad d mX10_isOpen 0 [(0, .ref (ad 0)), (1, .int (0 : Int32)), (2, .int x1)] [] h1 (qi fun z4 h3 => (¬ z4 = 0 → (AW (GM adK adV) l ad (d + 1) mX10_keep 43 [(0, .ref (ad 0)), (1, .int x1), (2, .int x2), (3, .int (-2 : Int32)), (4, .int (0 : Int32))] [] h3 (qi R))) ∧ (z4 = 0 → (R (-2 : Int32) h3))))) ∧ (¬ x2 ≤ (60 : Int32) → (R (-1 : Int32) h1)))))))) : AW (GM adK adV) l ad (d + 1) mX10_keep 0 [(0, .ref (ad 0)), (1, .int x1), (2, .int x2)] [] h (qi R) := by
  refine aw_aload_n dX10_keep_0 rfl 0 rfl ?_
  refine aw_iconst (v := 0) dX10_keep_1 (by decide) ?_
  refine aw_putI dX10_keep_2 shM0 ckX10 flX10_160 rfl (fun _ => rfl) rfl rfl ?_
  refine aw_aload_n dX10_keep_5 rfl 0 rfl ?_
  refine aw_iload_n dX10_keep_6 rfl 1 rfl ?_
  refine cvX10_isDebt dX10_keep_7 mlX10_456 shM0 (Nat.le_of_ble_eq_true rfl) H (fun z2 h1 H => ?_)
  refine aw_if_eq (tgt := 23) dX10_keep_10 (by decide) (fun hc8 => ?_) (fun hc8 => ?_)
  · replace H := H.1 hc8
    refine aw_iconst (v := (-1)) dX10_keep_23 (by decide) ?_
    exact aw_iret dX10_keep_24 rfl ⟨_, rfl, H⟩
  · replace H := H.2 hc8
    refine aw_iload_n dX10_keep_13 rfl 2 rfl ?_
    refine aw_if_lt (tgt := 23) dX10_keep_14 (by decide) (fun hc7 => ?_) (fun hc7 => ?_)
    · replace H := H.1 hc7
      refine aw_iconst (v := (-1)) dX10_keep_23 (by decide) ?_
      exact aw_iret dX10_keep_24 rfl ⟨_, rfl, H⟩
    · replace H := H.2 hc7
      refine aw_iload_n dX10_keep_17 rfl 2 rfl ?_
      refine aw_bipush (v := 60) dX10_keep_18 (by decide) ?_
      refine aw_icmp_le (tgt := 25) dX10_keep_20 (by decide) (fun hc6 => ?_) (fun hc6 => ?_)
      · replace H := H.1 hc6
        refine aw_aload_n dX10_keep_25 rfl 0 rfl ?_
        refine aw_iconst (v := 0) dX10_keep_26 (by decide) ?_
        refine aw_iload_n dX10_keep_27 rfl 1 rfl ?_
        refine cvX10_isOpen dX10_keep_28 mlX10_402 shM0 (Nat.le_of_ble_eq_true rfl) H (fun z4 h3 H => ?_)
        refine aw_if_ne (tgt := 37) dX10_keep_31 (by decide) (fun hc5 => ?_) (fun hc5 => ?_)
        · replace H := H.1 hc5
          refine aw_bipush (v := (-2)) dX10_keep_37 (by decide) ?_
          refine aw_istore_n (ls' := [(3, .int (-2 : Int32)), (0, .ref (ad 0)), (1, .int x1), (2, .int x2)]) dX10_keep_39 rfl (by decide) rfl ?_
          refine aw_iconst (v := 0) dX10_keep_40 (by decide) ?_
          refine aw_istore (ls' := [(4, .int (0 : Int32)), (3, .int (-2 : Int32)), (0, .ref (ad 0)), (1, .int x1), (2, .int x2)]) dX10_keep_41 (by decide) rfl ?_
          exact aw_ls [2, 3, 4, 1, 0] rfl H
        · replace H := H.2 hc5
          refine aw_bipush (v := (-2)) dX10_keep_34 (by decide) ?_
          exact aw_iret dX10_keep_36 rfl ⟨_, rfl, H⟩
      · replace H := H.2 hc6
        refine aw_iconst (v := (-1)) dX10_keep_23 (by decide) ?_
        exact aw_iret dX10_keep_24 rfl ⟨_, rfl, H⟩
set_option maxRecDepth 8000 in
set_option maxHeartbeats 1000000 in
theorem bX10_keep_43 {adK adV : Nat → Nat} {l : Launch} {ad : Nat → Nat} {d : Nat} {R : Int32 → aH → Prop}   (x1 : Int32) (x2 : Int32) (x3 : Int32) (x4 : Int32)  (h : aH)
    (H : ((h.1 26 0) < x4 → (R x3 h)) ∧ (¬ (h.1 26 0) < x4 → ((¬ (x4 &&& ((h.1 26 0) ^^^ (-1 : Int32))) = 0 → (AW (GM adK adV) l ad (d + 1) mX10_keep 43 [(0, .ref (ad 0)), (1, .int x1), (2, .int x2), (3, .int x3), (4, .int (x4 + (1 : Int32)))] [] h (qi R))) ∧ ((x4 &&& ((h.1 26 0) ^^^ (-1 : Int32))) = 0 → ((x3 < 0 → (AW (GM adK adV) l ad (d + 1) mX10_keep 87 [(0, .ref (ad 0)), (1, .int x1), (2, .int x2), (3, .int x3), (4, .int x4)] [] h (qi R))) ∧ (¬ x3 < 0 → (AW (GM adK adV) l ad d mX10_bitsOf 0 [(0, .int x4)] [] h (qi fun z2 h1 => AW (GM adK adV) l ad d mX10_bitsOf 0 [(0, .int x3)] [] h1 (qi fun z4 h3 => (z2 < z4 → (AW (GM adK adV) l ad (d + 1) mX10_keep 87 [(0, .ref (ad 0)), (1, .int x1), (2, .int x2), (3, .int x3), (4, .int x4)] [] h3 (qi R))) ∧ (¬ z2 < z4 → (AW (GM adK adV) l ad (d + 1) mX10_keep 43 [(0, .ref (ad 0)), (1, .int x1), (2, .int x2), (3, .int x3), (4, .int (x4 + (1 : Int32)))] [] h3 (qi R)))))))))))) : AW (GM adK adV) l ad (d + 1) mX10_keep 43 [(0, .ref (ad 0)), (1, .int x1), (2, .int x2), (3, .int x3), (4, .int x4)] [] h (qi R) := by
  refine aw_iload dX10_keep_43 4 rfl ?_
  refine aw_aload_n dX10_keep_45 rfl 0 rfl ?_
  refine aw_get dX10_keep_46 shM0 ckX10 flX10_90 (v := .ref (ad 26)) rfl ?_
  refine aw_iconst (v := 0) dX10_keep_49 (by decide) ?_
  refine aw_ialdK (t0 := 0) (j := 0) dX10_keep_50 shM26 rfl (by decide) (vp_inK (by decide) (by decide)) ?_
  refine aw_icmp_gt (tgt := 211) dX10_keep_51 (by decide) (fun hc8 => ?_) (fun hc8 => ?_)
  · replace H := H.1 hc8
    refine aw_iload_n dX10_keep_211 rfl 3 rfl ?_
    exact aw_iret dX10_keep_212 rfl ⟨_, rfl, H⟩
  · replace H := H.2 hc8
    refine aw_iload dX10_keep_54 4 rfl ?_
    refine aw_aload_n dX10_keep_56 rfl 0 rfl ?_
    refine aw_get dX10_keep_57 shM0 ckX10 flX10_90 (v := .ref (ad 26)) rfl ?_
    refine aw_iconst (v := 0) dX10_keep_60 (by decide) ?_
    refine aw_ialdK (t0 := 0) (j := 0) dX10_keep_61 shM26 rfl (by decide) (vp_inK (by decide) (by decide)) ?_
    refine aw_iconst (v := (-1)) dX10_keep_62 (by decide) ?_
    refine aw_ixor dX10_keep_63 ?_
    refine aw_iand dX10_keep_64 ?_
    refine aw_if_ne (tgt := 205) dX10_keep_65 (by decide) (fun hc7 => ?_) (fun hc7 => ?_)
    · replace H := H.1 hc7
      refine aw_inc (mm := (1)) (ls' := [(4, .int (x4 + (1 : Int32))), (0, .ref (ad 0)), (1, .int x1), (2, .int x2), (3, .int x3)]) dX10_keep_205 (by decide) (j := 4) rfl (by decide) rfl ?_
      refine aw_goto (tgt := 43) dX10_keep_208 (by decide) ?_
      exact aw_ls [1, 2, 3, 4, 0] rfl H
    · replace H := H.2 hc7
      refine aw_iload_n dX10_keep_68 rfl 3 rfl ?_
      refine aw_if_lt (tgt := 87) dX10_keep_69 (by decide) (fun hc6 => ?_) (fun hc6 => ?_)
      · replace H := H.1 hc6
        exact aw_ls [0, 1, 2, 3, 4] rfl H
      · replace H := H.2 hc6
        refine aw_iload dX10_keep_72 4 rfl ?_
        refine cvX10_bitsOf dX10_keep_74 mlX10_361 (Nat.le_of_ble_eq_true rfl) H (fun z2 h1 H => ?_)
        refine aw_iload_n dX10_keep_77 rfl 3 rfl ?_
        refine cvX10_bitsOf dX10_keep_78 mlX10_361 (Nat.le_of_ble_eq_true rfl) H (fun z4 h3 H => ?_)
        refine aw_icmp_lt (tgt := 87) dX10_keep_81 (by decide) (fun hc5 => ?_) (fun hc5 => ?_)
        · replace H := H.1 hc5
          exact aw_ls [0, 1, 2, 3, 4] rfl H
        · replace H := H.2 hc5
          refine aw_goto (tgt := 205) dX10_keep_84 (by decide) ?_
          refine aw_inc (mm := (1)) (ls' := [(4, .int (x4 + (1 : Int32))), (0, .ref (ad 0)), (1, .int x1), (2, .int x2), (3, .int x3)]) dX10_keep_205 (by decide) (j := 4) rfl (by decide) rfl ?_
          refine aw_goto (tgt := 43) dX10_keep_208 (by decide) ?_
          exact aw_ls [1, 2, 3, 4, 0] rfl H
set_option maxRecDepth 8000 in
set_option maxHeartbeats 1000000 in
theorem bX10_keep_87 {adK adV : Nat → Nat} {l : Launch} {ad : Nat → Nat} {d : Nat} {R : Int32 → aH → Prop}   (x1 : Int32) (x2 : Int32) (x3 : Int32) (x4 : Int32)  (h : aH)
    (H : AW (GM adK adV) l ad d mX10_copies 0 [(0, .ref (ad 0)), (1, .int (1 : Int32)), (2, .int (0 : Int32))] [] h (qv fun h1 => AW (GM adK adV) l ad (d + 1) mX10_keep 96 [(0, .ref (ad 0)), (1, .int x1), (2, .int x2), (3, .int x3), (4, .int x4), (5, .int (0 : Int32))] [] h1 (qi R))) : AW (GM adK adV) l ad (d + 1) mX10_keep 87 [(0, .ref (ad 0)), (1, .int x1), (2, .int x2), (3, .int x3), (4, .int x4)] [] h (qi R) := by
  refine aw_aload_n dX10_keep_87 rfl 0 rfl ?_
  refine aw_iconst (v := 1) dX10_keep_88 (by decide) ?_
  refine aw_iconst (v := 0) dX10_keep_89 (by decide) ?_
  refine cvX10_copies dX10_keep_90 mlX10_450 shM0 (Nat.le_of_ble_eq_true rfl) H (fun h1 H => ?_)
  refine aw_iconst (v := 0) dX10_keep_93 (by decide) ?_
  refine aw_istore (ls' := [(5, .int (0 : Int32)), (0, .ref (ad 0)), (1, .int x1), (2, .int x2), (3, .int x3), (4, .int x4)]) dX10_keep_94 (by decide) rfl ?_
  exact aw_ls [1, 2, 3, 4, 5, 0] rfl H
set_option maxRecDepth 8000 in
set_option maxHeartbeats 1000000 in
theorem bX10_keep_96 {adK adV : Nat → Nat} {l : Launch} {ad : Nat → Nat} {d : Nat} {R : Int32 → aH → Prop}   (x1 : Int32) (x2 : Int32) (x3 : Int32) (x4 : Int32) (x5 : Int32)  (h : aH)
    (H : ((h.1 2 1) ≤ x5 → (AW (GM adK adV) l ad d mX10_goesOn 0 [(0, .ref (ad 0)), (1, .int x2)] [] h (qv fun h1 => vp_in ((8 : Int32) + x1) 184 ∧ (((h1.1 35 ((8 : Int32) + x1).toNatClampNeg) = (2 : Int32) → (AW (GM adK adV) l ad (d + 1) mX10_keep 43 [(0, .ref (ad 0)), (1, .int x1), (2, .int x2), (3, .int x4), (4, .int (x4 + (1 : Int32)))] [] h1 (qi R))) ∧ (¬ (h1.1 35 ((8 : Int32) + x1).toNatClampNeg) = (2 : Int32) → ((¬ (h1.1 35 ((8 : Int32) + x1).toNatClampNeg) = (1 : Int32) → (AW (GM adK adV) l ad (d + 1) mX10_keep 43 [(0, .ref (ad 0)), (1, .int x1), (2, .int x2), (3, .int x3), (4, .int (x4 + (1 : Int32)))] [] h1 (qi R))) ∧ ((h1.1 35 ((8 : Int32) + x1).toNatClampNeg) = (1 : Int32) → (AW (GM adK adV) l ad d mX10_knowers 0 [(0, .ref (ad 0)), (1, .int (1 : Int32)), (2, .int x1)] [] h1 (qi fun z5 h4 => (z5 = 0 → (AW (GM adK adV) l ad (d + 1) mX10_keep 43 [(0, .ref (ad 0)), (1, .int x1), (2, .int x2), (3, .int x3), (4, .int (x4 + (1 : Int32)))] [] h4 (qi R))) ∧ (¬ z5 = 0 → (AW (GM adK adV) l ad (d + 1) mX10_keep 43 [(0, .ref (ad 0)), (1, .int x1), (2, .int x2), (3, .int x4), (4, .int (x4 + (1 : Int32)))] [] h4 (qi R)))))))))))) ∧ (¬ (h.1 2 1) ≤ x5 → ((¬ ((x4 >>> (x5 &&& 31)) &&& (1 : Int32)) = (1 : Int32) → (vp_in ((6 : Int32) + x5) 138 ∧ (∀ h10 : aH, h10 = (sI h 29 ((6 : Int32) + x5).toNatClampNeg ((h.1 29 ((6 : Int32) + x5).toNatClampNeg) &&& (((1 : Int32) <<< (x1 &&& 31)) ^^^ (-1 : Int32)))) → (AW (GM adK adV) l ad (d + 1) mX10_keep 96 [(0, .ref (ad 0)), (1, .int x1), (2, .int x2), (3, .int x3), (4, .int x4), (5, .int (x5 + (1 : Int32)))] [] h10 (qi R))))) ∧ (((x4 >>> (x5 &&& 31)) &&& (1 : Int32)) = (1 : Int32) → (vp_in ((6 : Int32) + x5) 138 ∧ (∀ h12 : aH, h12 = (sI h 29 ((6 : Int32) + x5).toNatClampNeg ((h.1 29 ((6 : Int32) + x5).toNatClampNeg) ||| ((1 : Int32) <<< (x1 &&& 31)))) → (AW (GM adK adV) l ad (d + 1) mX10_keep 96 [(0, .ref (ad 0)), (1, .int x1), (2, .int x2), (3, .int x3), (4, .int x4), (5, .int (x5 + (1 : Int32)))] [] h12 (qi R)))))))) : AW (GM adK adV) l ad (d + 1) mX10_keep 96 [(0, .ref (ad 0)), (1, .int x1), (2, .int x2), (3, .int x3), (4, .int x4), (5, .int x5)] [] h (qi R) := by
  refine aw_iload dX10_keep_96 5 rfl ?_
  refine aw_aload_n dX10_keep_98 rfl 0 rfl ?_
  refine aw_get dX10_keep_99 shM0 ckX10 flX10_13 (v := .ref (ad 2)) rfl ?_
  refine aw_iconst (v := 1) dX10_keep_102 (by decide) ?_
  refine aw_ialdK (t0 := 0) (j := 1) dX10_keep_103 shM2 rfl (by decide) (vp_inK (by decide) (by decide)) ?_
  refine aw_icmp_ge (tgt := 165) dX10_keep_104 (by decide) (fun hc14 => ?_) (fun hc14 => ?_)
  · replace H := H.1 hc14
    refine aw_aload_n dX10_keep_165 rfl 0 rfl ?_
    refine aw_iload_n dX10_keep_166 rfl 2 rfl ?_
    refine cvX10_goesOn dX10_keep_167 mlX10_453 shM0 (Nat.le_of_ble_eq_true rfl) H (fun h1 H => ?_)
    refine aw_aload_n dX10_keep_170 rfl 0 rfl ?_
    refine aw_get dX10_keep_171 shM0 ckX10 flX10_117 (v := .ref (ad 35)) rfl ?_
    refine aw_bipush (v := 8) dX10_keep_174 (by decide) ?_
    refine aw_iload_n dX10_keep_176 rfl 1 rfl ?_
    refine aw_iadd dX10_keep_177 ?_
    obtain ⟨hi3, H⟩ := H
    refine aw_ialdK (t0 := 0) (j := ((8 : Int32) + x1).toNatClampNeg) dX10_keep_178 shM35 rfl rfl hi3 ?_
    refine aw_istore (ls' := [(5, .int (h1.1 35 ((8 : Int32) + x1).toNatClampNeg)), (0, .ref (ad 0)), (1, .int x1), (2, .int x2), (3, .int x3), (4, .int x4)]) dX10_keep_179 (by decide) rfl ?_
    refine aw_iload dX10_keep_181 0 rfl ?_
    refine aw_iconst (v := 2) dX10_keep_183 (by decide) ?_
    refine aw_icmp_eq (tgt := 202) dX10_keep_184 (by decide) (fun hc8 => ?_) (fun hc8 => ?_)
    · replace H := H.1 hc8
      refine aw_iload dX10_keep_202 5 rfl ?_
      refine aw_istore_n (ls' := [(3, .int x4), (5, .int (h1.1 35 ((8 : Int32) + x1).toNatClampNeg)), (0, .ref (ad 0)), (1, .int x1), (2, .int x2), (4, .int x4)]) dX10_keep_204 rfl (by decide) rfl ?_
      refine aw_inc (mm := (1)) (ls' := [(4, .int (x4 + (1 : Int32))), (3, .int x4), (5, .int (h1.1 35 ((8 : Int32) + x1).toNatClampNeg)), (0, .ref (ad 0)), (1, .int x1), (2, .int x2)]) dX10_keep_205 (by decide) (j := 5) rfl (by decide) rfl ?_
      refine aw_goto (tgt := 43) dX10_keep_208 (by decide) ?_
      exact aw_ls [3, 4, 5, 1, 0] rfl H
    · replace H := H.2 hc8
      refine aw_iload dX10_keep_187 0 rfl ?_
      refine aw_iconst (v := 1) dX10_keep_189 (by decide) ?_
      refine aw_icmp_ne (tgt := 205) dX10_keep_190 (by decide) (fun hc7 => ?_) (fun hc7 => ?_)
      · replace H := H.1 hc7
        refine aw_inc (mm := (1)) (ls' := [(4, .int (x4 + (1 : Int32))), (5, .int (h1.1 35 ((8 : Int32) + x1).toNatClampNeg)), (0, .ref (ad 0)), (1, .int x1), (2, .int x2), (3, .int x3)]) dX10_keep_205 (by decide) (j := 5) rfl (by decide) rfl ?_
        refine aw_goto (tgt := 43) dX10_keep_208 (by decide) ?_
        exact aw_ls [2, 3, 4, 5, 0] rfl H
      · replace H := H.2 hc7
        refine aw_aload_n dX10_keep_193 rfl 1 rfl ?_
        refine aw_iconst (v := 1) dX10_keep_194 (by decide) ?_
        refine aw_iload_n dX10_keep_195 rfl 2 rfl ?_
        refine cvX10_knowers dX10_keep_196 mlX10_358 shM0 (Nat.le_of_ble_eq_true rfl) H (fun z5 h4 H => ?_)
        refine aw_if_eq (tgt := 205) dX10_keep_199 (by decide) (fun hc6 => ?_) (fun hc6 => ?_)
        · replace H := H.1 hc6
          refine aw_inc (mm := (1)) (ls' := [(4, .int (x4 + (1 : Int32))), (5, .int (h1.1 35 ((8 : Int32) + x1).toNatClampNeg)), (0, .ref (ad 0)), (1, .int x1), (2, .int x2), (3, .int x3)]) dX10_keep_205 (by decide) (j := 5) rfl (by decide) rfl ?_
          refine aw_goto (tgt := 43) dX10_keep_208 (by decide) ?_
          exact aw_ls [2, 3, 4, 5, 0] rfl H
        · replace H := H.2 hc6
          refine aw_iload dX10_keep_202 5 rfl ?_
          refine aw_istore_n (ls' := [(3, .int x4), (5, .int (h1.1 35 ((8 : Int32) + x1).toNatClampNeg)), (0, .ref (ad 0)), (1, .int x1), (2, .int x2), (4, .int x4)]) dX10_keep_204 rfl (by decide) rfl ?_
          refine aw_inc (mm := (1)) (ls' := [(4, .int (x4 + (1 : Int32))), (3, .int x4), (5, .int (h1.1 35 ((8 : Int32) + x1).toNatClampNeg)), (0, .ref (ad 0)), (1, .int x1), (2, .int x2)]) dX10_keep_205 (by decide) (j := 5) rfl (by decide) rfl ?_
          refine aw_goto (tgt := 43) dX10_keep_208 (by decide) ?_
          exact aw_ls [3, 4, 5, 1, 0] rfl H
  · replace H := H.2 hc14
    refine aw_bipush (v := 6) dX10_keep_107 (by decide) ?_
    refine aw_iload dX10_keep_109 5 rfl ?_
    refine aw_iadd dX10_keep_111 ?_
    refine aw_istore (ls' := [(6, .int ((6 : Int32) + x5)), (0, .ref (ad 0)), (1, .int x1), (2, .int x2), (3, .int x3), (4, .int x4), (5, .int x5)]) dX10_keep_112 (by decide) rfl ?_
    refine aw_aload_n dX10_keep_114 rfl 1 rfl ?_
    refine aw_get dX10_keep_115 shM0 ckX10 flX10_99 (v := .ref (ad 29)) rfl ?_
    refine aw_iload dX10_keep_118 0 rfl ?_
    refine aw_iload dX10_keep_120 5 rfl ?_
    refine aw_iload dX10_keep_122 6 rfl ?_
    refine aw_ishr dX10_keep_124 ?_
    refine aw_iconst (v := 1) dX10_keep_125 (by decide) ?_
    refine aw_iand dX10_keep_126 ?_
    refine aw_iconst (v := 1) dX10_keep_127 (by decide) ?_
    refine aw_icmp_ne (tgt := 145) dX10_keep_128 (by decide) (fun hc13 => ?_) (fun hc13 => ?_)
    · replace H := H.1 hc13
      refine aw_aload_n dX10_keep_145 rfl 1 rfl ?_
      refine aw_get dX10_keep_146 shM0 ckX10 flX10_99 (v := .ref (ad 29)) rfl ?_
      refine aw_iload dX10_keep_149 0 rfl ?_
      obtain ⟨hi9, H⟩ := H
      refine aw_ialdK (t0 := 0) (j := ((6 : Int32) + x5).toNatClampNeg) dX10_keep_151 shM29 rfl rfl hi9 ?_
      refine aw_iconst (v := 1) dX10_keep_152 (by decide) ?_
      refine aw_iload_n dX10_keep_153 rfl 2 rfl ?_
      refine aw_ishl dX10_keep_154 ?_
      refine aw_iconst (v := (-1)) dX10_keep_155 (by decide) ?_
      refine aw_ixor dX10_keep_156 ?_
      refine aw_iand dX10_keep_157 ?_
      refine aw_iastK (t0 := 0) (j := ((6 : Int32) + x5).toNatClampNeg) dX10_keep_158 shM29 rfl rfl hi9 ?_
      refine aw_toph (fun h10 eh10 => ?_)
      replace H := H h10 eh10
      refine aw_inc (mm := (1)) (ls' := [(5, .int (x5 + (1 : Int32))), (6, .int ((6 : Int32) + x5)), (0, .ref (ad 0)), (1, .int x1), (2, .int x2), (3, .int x3), (4, .int x4)]) dX10_keep_159 (by decide) (j := 6) rfl (by decide) rfl ?_
      refine aw_goto (tgt := 96) dX10_keep_162 (by decide) ?_
      exact aw_ls [2, 3, 4, 5, 6, 0] rfl H
    · replace H := H.2 hc13
      refine aw_aload_n dX10_keep_131 rfl 1 rfl ?_
      refine aw_get dX10_keep_132 shM0 ckX10 flX10_99 (v := .ref (ad 29)) rfl ?_
      refine aw_iload dX10_keep_135 0 rfl ?_
      obtain ⟨hi11, H⟩ := H
      refine aw_ialdK (t0 := 0) (j := ((6 : Int32) + x5).toNatClampNeg) dX10_keep_137 shM29 rfl rfl hi11 ?_
      refine aw_iconst (v := 1) dX10_keep_138 (by decide) ?_
      refine aw_iload_n dX10_keep_139 rfl 2 rfl ?_
      refine aw_ishl dX10_keep_140 ?_
      refine aw_ior dX10_keep_141 ?_
      refine aw_goto (tgt := 158) dX10_keep_142 (by decide) ?_
      refine aw_iastK (t0 := 0) (j := ((6 : Int32) + x5).toNatClampNeg) dX10_keep_158 shM29 rfl rfl hi11 ?_
      refine aw_toph (fun h12 eh12 => ?_)
      replace H := H h12 eh12
      refine aw_inc (mm := (1)) (ls' := [(5, .int (x5 + (1 : Int32))), (6, .int ((6 : Int32) + x5)), (0, .ref (ad 0)), (1, .int x1), (2, .int x2), (3, .int x3), (4, .int x4)]) dX10_keep_159 (by decide) (j := 6) rfl (by decide) rfl ?_
      refine aw_goto (tgt := 96) dX10_keep_162 (by decide) ?_
      exact aw_ls [2, 3, 4, 5, 6, 0] rfl H
set_option maxRecDepth 8000 in
set_option maxHeartbeats 1000000 in
theorem bX10_rows_0 {adK adV : Nat → Nat} {l : Launch} {ad : Nat → Nat} {d : Nat} {R : aH → Prop}   (x1 : Int32) (x2 : Int32)  (h : aH)
    (H : ((h.1 0 60) ≤ x1 → (AW (GM adK adV) l ad d mX10_copies 0 [(0, .ref (ad 0)), (1, .int (1 : Int32)), (2, .int (0 : Int32))] [] h (qv fun h1 => AW (GM adK adV) l ad (d + 1) mX10_rows 72 [(0, .ref (ad 0)), (3, .int (0 : Int32)), (4, .int (0 : Int32))] [] h1 (qv R)))) ∧ (¬ (h.1 0 60) ≤ x1 → (AW (GM adK adV) l ad (d + 1) mX10_rows 10 [(0, .ref (ad 0)), (1, .int x1), (2, .int x2), (3, .int (0 : Int32))] [] h (qv R)))) : AW (GM adK adV) l ad (d + 1) mX10_rows 0 [(0, .ref (ad 0)), (1, .int x1), (2, .int x2)] [] h (qv R) := by
  refine aw_iload_n dX10_rows_0 rfl 1 rfl ?_
  refine aw_aload_n dX10_rows_1 rfl 0 rfl ?_
  refine aw_get dX10_rows_2 shM0 ckX10 flX10_488 (v := .int (h.1 0 60)) rfl ?_
  refine aw_icmp_ge (tgt := 61) dX10_rows_5 (by decide) (fun hc3 => ?_) (fun hc3 => ?_)
  · replace H := H.1 hc3
    refine aw_aload_n dX10_rows_61 rfl 0 rfl ?_
    refine aw_iconst (v := 1) dX10_rows_62 (by decide) ?_
    refine aw_iconst (v := 0) dX10_rows_63 (by decide) ?_
    refine cvX10_copies dX10_rows_64 mlX10_450 shM0 (Nat.le_of_ble_eq_true rfl) H (fun h1 H => ?_)
    refine aw_iconst (v := 0) dX10_rows_67 (by decide) ?_
    refine aw_istore_n (ls' := [(3, .int (0 : Int32)), (0, .ref (ad 0)), (1, .int x1), (2, .int x2)]) dX10_rows_68 rfl (by decide) rfl ?_
    refine aw_iconst (v := 0) dX10_rows_69 (by decide) ?_
    refine aw_istore (ls' := [(4, .int (0 : Int32)), (3, .int (0 : Int32)), (0, .ref (ad 0)), (1, .int x1), (2, .int x2)]) dX10_rows_70 (by decide) rfl ?_
    exact aw_ls [2, 1, 0] rfl H
  · replace H := H.2 hc3
    refine aw_iconst (v := 0) dX10_rows_8 (by decide) ?_
    refine aw_istore_n (ls' := [(3, .int (0 : Int32)), (0, .ref (ad 0)), (1, .int x1), (2, .int x2)]) dX10_rows_9 rfl (by decide) rfl ?_
    exact aw_ls [1, 2, 3, 0] rfl H
set_option maxRecDepth 8000 in
set_option maxHeartbeats 1000000 in
theorem bX10_rows_10 {adK adV : Nat → Nat} {l : Launch} {ad : Nat → Nat} {d : Nat} {R : aH → Prop}   (x1 : Int32) (x2 : Int32) (x3 : Int32)  (h : aH)
    (H : ((h.1 0 60) ≤ x3 → (R h)) ∧ (¬ (h.1 0 60) ≤ x3 → ((¬ ((x2 >>> (x3 &&& 31)) &&& (1 : Int32)) = (1 : Int32) → (vp_in x3 4 ∧ (vp_in x1 4 ∧ (AW (GM adK adV) l ad d mX10_rows 0 [(0, .ref (ad 0)), (1, .int (x1 + (1 : Int32))), (2, .int (x2 ||| ((1 : Int32) <<< (x3 &&& 31))))] [] (sI h 39 x1.toNatClampNeg (h.1 38 x3.toNatClampNeg)) (qv fun h3 => AW (GM adK adV) l ad (d + 1) mX10_rows 10 [(0, .ref (ad 0)), (1, .int x1), (2, .int x2), (3, .int (x3 + (1 : Int32)))] [] h3 (qv R)))))) ∧ (((x2 >>> (x3 &&& 31)) &&& (1 : Int32)) = (1 : Int32) → (AW (GM adK adV) l ad (d + 1) mX10_rows 10 [(0, .ref (ad 0)), (1, .int x1), (2, .int x2), (3, .int (x3 + (1 : Int32)))] [] h (qv R)))))) : AW (GM adK adV) l ad (d + 1) mX10_rows 10 [(0, .ref (ad 0)), (1, .int x1), (2, .int x2), (3, .int x3)] [] h (qv R) := by
  refine aw_iload_n dX10_rows_10 rfl 3 rfl ?_
  refine aw_aload_n dX10_rows_11 rfl 0 rfl ?_
  refine aw_get dX10_rows_12 shM0 ckX10 flX10_488 (v := .int (h.1 0 60)) rfl ?_
  refine aw_icmp_ge (tgt := 60) dX10_rows_15 (by decide) (fun hc6 => ?_) (fun hc6 => ?_)
  · replace H := H.1 hc6
    exact aw_vret dX10_rows_60 rfl ⟨rfl, H⟩
  · replace H := H.2 hc6
    refine aw_iload_n dX10_rows_18 rfl 2 rfl ?_
    refine aw_iload_n dX10_rows_19 rfl 3 rfl ?_
    refine aw_ishr dX10_rows_20 ?_
    refine aw_iconst (v := 1) dX10_rows_21 (by decide) ?_
    refine aw_iand dX10_rows_22 ?_
    refine aw_iconst (v := 1) dX10_rows_23 (by decide) ?_
    refine aw_icmp_ne (tgt := 30) dX10_rows_24 (by decide) (fun hc5 => ?_) (fun hc5 => ?_)
    · replace H := H.1 hc5
      refine aw_aload_n dX10_rows_30 rfl 0 rfl ?_
      refine aw_get dX10_rows_31 shM0 ckX10 flX10_132 (v := .ref (ad 39)) rfl ?_
      refine aw_iload_n dX10_rows_34 rfl 1 rfl ?_
      refine aw_aload_n dX10_rows_35 rfl 0 rfl ?_
      refine aw_get dX10_rows_36 shM0 ckX10 flX10_129 (v := .ref (ad 38)) rfl ?_
      refine aw_iload_n dX10_rows_39 rfl 3 rfl ?_
      obtain ⟨hi1, H⟩ := H
      refine aw_ialdK (t0 := 0) (j := x3.toNatClampNeg) dX10_rows_40 shM38 rfl rfl hi1 ?_
      obtain ⟨hi2, H⟩ := H
      refine aw_iastK (t0 := 0) (j := x1.toNatClampNeg) dX10_rows_41 shM39 rfl rfl hi2 ?_
      refine aw_aload_n dX10_rows_42 rfl 0 rfl ?_
      refine aw_iload_n dX10_rows_43 rfl 1 rfl ?_
      refine aw_iconst (v := 1) dX10_rows_44 (by decide) ?_
      refine aw_iadd dX10_rows_45 ?_
      refine aw_iload_n dX10_rows_46 rfl 2 rfl ?_
      refine aw_iconst (v := 1) dX10_rows_47 (by decide) ?_
      refine aw_iload_n dX10_rows_48 rfl 3 rfl ?_
      refine aw_ishl dX10_rows_49 ?_
      refine aw_ior dX10_rows_50 ?_
      refine cvX10_rows dX10_rows_51 mlX10_491 shM0 (Nat.le_of_ble_eq_true rfl) H (fun h3 H => ?_)
      refine aw_inc (mm := (1)) (ls' := [(3, .int (x3 + (1 : Int32))), (0, .ref (ad 0)), (1, .int x1), (2, .int x2)]) dX10_rows_54 (by decide) (j := 3) rfl (by decide) rfl ?_
      refine aw_goto (tgt := 10) dX10_rows_57 (by decide) ?_
      exact aw_ls [1, 2, 3, 0] rfl H
    · replace H := H.2 hc5
      refine aw_goto (tgt := 54) dX10_rows_27 (by decide) ?_
      refine aw_inc (mm := (1)) (ls' := [(3, .int (x3 + (1 : Int32))), (0, .ref (ad 0)), (1, .int x1), (2, .int x2)]) dX10_rows_54 (by decide) (j := 3) rfl (by decide) rfl ?_
      refine aw_goto (tgt := 10) dX10_rows_57 (by decide) ?_
      exact aw_ls [1, 2, 3, 0] rfl H
set_option maxRecDepth 8000 in
set_option maxHeartbeats 1000000 in
theorem bX10_rows_72 {adK adV : Nat → Nat} {l : Launch} {ad : Nat → Nat} {d : Nat} {R : aH → Prop}   (x3 : Int32) (x4 : Int32)  (h : aH)
    (H : ((h.1 0 60) ≤ x4 → (((h.1 0 61) < x3 → (AW (GM adK adV) l ad (d + 1) mX10_rows 134 [(0, .ref (ad 0)), (4, .int (0 : Int32))] [] (sI h 0 61 x3) (qv R))) ∧ (¬ (h.1 0 61) < x3 → (R h)))) ∧ (¬ (h.1 0 60) ≤ x4 → (vp_in x4 4 ∧ (AW (GM adK adV) l ad d mX10_hasIt 0 [(0, .ref (ad 0)), (1, .int (1 : Int32)), (2, .int (h.1 39 x4.toNatClampNeg))] [] h (qi fun z4 h3 => (z4 = 0 → (AW (GM adK adV) l ad (d + 1) mX10_rows 72 [(0, .ref (ad 0)), (3, .int x3), (4, .int (x4 + (1 : Int32)))] [] h3 (qv R))) ∧ (¬ z4 = 0 → (AW (GM adK adV) l ad d mX10_pays 0 [(0, .ref (ad 0)), (1, .int (1 : Int32)), (2, .int (h3.1 39 x4.toNatClampNeg))] [] h3 (qi fun z6 h5 => AW (GM adK adV) l ad (d + 1) mX10_rows 72 [(0, .ref (ad 0)), (3, .int (x3 + z6)), (4, .int (x4 + (1 : Int32)))] [] h5 (qv R))))))))) : AW (GM adK adV) l ad (d + 1) mX10_rows 72 [(0, .ref (ad 0)), (3, .int x3), (4, .int x4)] [] h (qv R) := by
  refine aw_iload dX10_rows_72 2 rfl ?_
  refine aw_aload_n dX10_rows_74 rfl 0 rfl ?_
  refine aw_get dX10_rows_75 shM0 ckX10 flX10_488 (v := .int (h.1 0 60)) rfl ?_
  refine aw_icmp_ge (tgt := 117) dX10_rows_78 (by decide) (fun hc8 => ?_) (fun hc8 => ?_)
  · replace H := H.1 hc8
    refine aw_iload_n dX10_rows_117 rfl 1 rfl ?_
    refine aw_aload_n dX10_rows_118 rfl 0 rfl ?_
    refine aw_get dX10_rows_119 shM0 ckX10 flX10_494 (v := .int (h.1 0 61)) rfl ?_
    refine aw_icmp_gt (tgt := 126) dX10_rows_122 (by decide) (fun hc1 => ?_) (fun hc1 => ?_)
    · replace H := H.1 hc1
      refine aw_aload_n dX10_rows_126 rfl 0 rfl ?_
      refine aw_iload_n dX10_rows_127 rfl 1 rfl ?_
      refine aw_putI dX10_rows_128 shM0 ckX10 flX10_494 rfl (fun _ => rfl) rfl rfl ?_
      refine aw_iconst (v := 0) dX10_rows_131 (by decide) ?_
      refine aw_istore (ls' := [(4, .int (0 : Int32)), (0, .ref (ad 0)), (3, .int x3)]) dX10_rows_132 (by decide) rfl ?_
      exact aw_ls [1, 0] rfl H
    · replace H := H.2 hc1
      exact aw_vret dX10_rows_125 rfl ⟨rfl, H⟩
  · replace H := H.2 hc8
    refine aw_aload_n dX10_rows_81 rfl 0 rfl ?_
    refine aw_iconst (v := 1) dX10_rows_82 (by decide) ?_
    refine aw_aload_n dX10_rows_83 rfl 0 rfl ?_
    refine aw_get dX10_rows_84 shM0 ckX10 flX10_132 (v := .ref (ad 39)) rfl ?_
    refine aw_iload dX10_rows_87 2 rfl ?_
    obtain ⟨hi2, H⟩ := H
    refine aw_ialdK (t0 := 0) (j := x4.toNatClampNeg) dX10_rows_89 shM39 rfl rfl hi2 ?_
    refine cvX10_hasIt dX10_rows_90 mlX10_408 shM0 (Nat.le_of_ble_eq_true rfl) H (fun z4 h3 H => ?_)
    refine aw_if_eq (tgt := 111) dX10_rows_93 (by decide) (fun hc7 => ?_) (fun hc7 => ?_)
    · replace H := H.1 hc7
      refine aw_inc (mm := (1)) (ls' := [(4, .int (x4 + (1 : Int32))), (0, .ref (ad 0)), (3, .int x3)]) dX10_rows_111 (by decide) (j := 2) rfl (by decide) rfl ?_
      refine aw_goto (tgt := 72) dX10_rows_114 (by decide) ?_
      exact aw_ls [1, 2, 0] rfl H
    · replace H := H.2 hc7
      refine aw_iload_n dX10_rows_96 rfl 1 rfl ?_
      refine aw_aload_n dX10_rows_97 rfl 0 rfl ?_
      refine aw_iconst (v := 1) dX10_rows_98 (by decide) ?_
      refine aw_aload_n dX10_rows_99 rfl 0 rfl ?_
      refine aw_get dX10_rows_100 shM0 ckX10 flX10_132 (v := .ref (ad 39)) rfl ?_
      refine aw_iload dX10_rows_103 2 rfl ?_
      refine aw_ialdK (t0 := 0) (j := x4.toNatClampNeg) dX10_rows_105 shM39 rfl rfl hi2 ?_
      refine cvX10_pays dX10_rows_106 mlX10_440 shM0 (Nat.le_of_ble_eq_true rfl) H (fun z6 h5 H => ?_)
      refine aw_iadd dX10_rows_109 ?_
      refine aw_istore_n (ls' := [(3, .int (x3 + z6)), (0, .ref (ad 0)), (4, .int x4)]) dX10_rows_110 rfl (by decide) rfl ?_
      refine aw_inc (mm := (1)) (ls' := [(4, .int (x4 + (1 : Int32))), (3, .int (x3 + z6)), (0, .ref (ad 0))]) dX10_rows_111 (by decide) (j := 2) rfl (by decide) rfl ?_
      refine aw_goto (tgt := 72) dX10_rows_114 (by decide) ?_
      exact aw_ls [2, 1, 0] rfl H
set_option maxRecDepth 8000 in
set_option maxHeartbeats 1000000 in
theorem bX10_rows_134 {adK adV : Nat → Nat} {l : Launch} {ad : Nat → Nat} {d : Nat} {R : aH → Prop}   (x4 : Int32)  (h : aH)
    (H : ((h.1 0 60) ≤ x4 → (R h)) ∧ (¬ (h.1 0 60) ≤ x4 → (vp_in x4 4 ∧ (AW (GM adK adV) l ad (d + 1) mX10_rows 134 [(0, .ref (ad 0)), (4, .int (x4 + (1 : Int32)))] [] (sI h 40 x4.toNatClampNeg (h.1 39 x4.toNatClampNeg)) (qv R))))) : AW (GM adK adV) l ad (d + 1) mX10_rows 134 [(0, .ref (ad 0)), (4, .int x4)] [] h (qv R) := by
  refine aw_iload dX10_rows_134 1 rfl ?_
  refine aw_aload_n dX10_rows_136 rfl 0 rfl ?_
  refine aw_get dX10_rows_137 shM0 ckX10 flX10_488 (v := .int (h.1 0 60)) rfl ?_
  refine aw_icmp_ge (tgt := 163) dX10_rows_140 (by decide) (fun hc2 => ?_) (fun hc2 => ?_)
  · replace H := H.1 hc2
    exact aw_vret dX10_rows_163 rfl ⟨rfl, H⟩
  · replace H := H.2 hc2
    refine aw_aload_n dX10_rows_143 rfl 0 rfl ?_
    refine aw_get dX10_rows_144 shM0 ckX10 flX10_135 (v := .ref (ad 40)) rfl ?_
    refine aw_iload dX10_rows_147 1 rfl ?_
    refine aw_aload_n dX10_rows_149 rfl 0 rfl ?_
    refine aw_get dX10_rows_150 shM0 ckX10 flX10_132 (v := .ref (ad 39)) rfl ?_
    refine aw_iload dX10_rows_153 1 rfl ?_
    obtain ⟨hi1, H⟩ := H
    refine aw_ialdK (t0 := 0) (j := x4.toNatClampNeg) dX10_rows_155 shM39 rfl rfl hi1 ?_
    refine aw_iastK (t0 := 0) (j := x4.toNatClampNeg) dX10_rows_156 shM40 rfl rfl hi1 ?_
    refine aw_inc (mm := (1)) (ls' := [(4, .int (x4 + (1 : Int32))), (0, .ref (ad 0))]) dX10_rows_157 (by decide) (j := 1) rfl (by decide) rfl ?_
    refine aw_goto (tgt := 134) dX10_rows_160 (by decide) ?_
    exact aw_ls [1, 0] rfl H
set_option maxRecDepth 8000 in
set_option maxHeartbeats 1000000 in
theorem bX10_order_0 {adK adV : Nat → Nat} {l : Launch} {ad : Nat → Nat} {d : Nat} {R : Int32 → aH → Prop}   (x1 : Int32)  (h : aH)
    (H : (x1 < 0 → (R (-1 : Int32) (sI h 0 0 (0 : Int32)))) ∧ (¬ x1 < 0 → ((x1 ≤ (4 : Int32) → (AW (GM adK adV) l ad (d + 1) mX10_order 23 [(0, .ref (ad 0)), (1, .int x1), (2, .int (0 : Int32))] [] (sI (sI h 0 0 (0 : Int32)) 0 60 (0 : Int32)) (qi R))) ∧ (¬ x1 ≤ (4 : Int32) → (R (-1 : Int32) (sI h 0 0 (0 : Int32))))))) : AW (GM adK adV) l ad (d + 1) mX10_order 0 [(0, .ref (ad 0)), (1, .int x1)] [] h (qi R) := by
  refine aw_aload_n dX10_order_0 rfl 0 rfl ?_
  refine aw_iconst (v := 0) dX10_order_1 (by decide) ?_
  refine aw_putI dX10_order_2 shM0 ckX10 flX10_160 rfl (fun _ => rfl) rfl rfl ?_
  refine aw_iload_n dX10_order_5 rfl 1 rfl ?_
  refine aw_if_lt (tgt := 14) dX10_order_6 (by decide) (fun hc2 => ?_) (fun hc2 => ?_)
  · replace H := H.1 hc2
    refine aw_iconst (v := (-1)) dX10_order_14 (by decide) ?_
    exact aw_iret dX10_order_15 rfl ⟨_, rfl, H⟩
  · replace H := H.2 hc2
    refine aw_iload_n dX10_order_9 rfl 1 rfl ?_
    refine aw_iconst (v := 4) dX10_order_10 (by decide) ?_
    refine aw_icmp_le (tgt := 16) dX10_order_11 (by decide) (fun hc1 => ?_) (fun hc1 => ?_)
    · replace H := H.1 hc1
      refine aw_aload_n dX10_order_16 rfl 0 rfl ?_
      refine aw_iconst (v := 0) dX10_order_17 (by decide) ?_
      refine aw_putI dX10_order_18 shM0 ckX10 flX10_488 rfl (fun _ => rfl) rfl rfl ?_
      refine aw_iconst (v := 0) dX10_order_21 (by decide) ?_
      refine aw_istore_n (ls' := [(2, .int (0 : Int32)), (0, .ref (ad 0)), (1, .int x1)]) dX10_order_22 rfl (by decide) rfl ?_
      exact aw_ls [1, 2, 0] rfl H
    · replace H := H.2 hc1
      refine aw_iconst (v := (-1)) dX10_order_14 (by decide) ?_
      exact aw_iret dX10_order_15 rfl ⟨_, rfl, H⟩
set_option maxRecDepth 8000 in
set_option maxHeartbeats 1000000 in
theorem bX10_order_23 {adK adV : Nat → Nat} {l : Launch} {ad : Nat → Nat} {d : Nat} {R : Int32 → aH → Prop}   (x1 : Int32) (x2 : Int32)  (h : aH)
    (H : ((h.1 25 0) ≤ x2 → (AW (GM adK adV) l ad (d + 1) mX10_order 79 [(0, .ref (ad 0)), (1, .int x1)] [] h (qi R))) ∧ (¬ (h.1 25 0) ≤ x2 → (((4 : Int32) ≤ (h.1 0 60) → (AW (GM adK adV) l ad (d + 1) mX10_order 79 [(0, .ref (ad 0)), (1, .int x1)] [] h (qi R))) ∧ (¬ (4 : Int32) ≤ (h.1 0 60) → (AW (GM adK adV) l ad d mX10_isOpen 0 [(0, .ref (ad 0)), (1, .int (0 : Int32)), (2, .int x2)] [] h (qi fun z2 h1 => (¬ z2 = 0 → (vp_in (h1.1 0 60) 4 ∧ (∀ h4 : aH, h4 = (sI (sI h1 38 (h1.1 0 60).toNatClampNeg x2) 0 60 (((sI h1 38 (h1.1 0 60).toNatClampNeg x2).1 0 60) + (1 : Int32))) → (AW (GM adK adV) l ad (d + 1) mX10_order 23 [(0, .ref (ad 0)), (1, .int x1), (2, .int (x2 + (1 : Int32)))] [] h4 (qi R))))) ∧ (z2 = 0 → (AW (GM adK adV) l ad (d + 1) mX10_order 23 [(0, .ref (ad 0)), (1, .int x1), (2, .int (x2 + (1 : Int32)))] [] h1 (qi R))))))))) : AW (GM adK adV) l ad (d + 1) mX10_order 23 [(0, .ref (ad 0)), (1, .int x1), (2, .int x2)] [] h (qi R) := by
  refine aw_iload_n dX10_order_23 rfl 2 rfl ?_
  refine aw_aload_n dX10_order_24 rfl 0 rfl ?_
  refine aw_get dX10_order_25 shM0 ckX10 flX10_87 (v := .ref (ad 25)) rfl ?_
  refine aw_iconst (v := 0) dX10_order_28 (by decide) ?_
  refine aw_ialdK (t0 := 0) (j := 0) dX10_order_29 shM25 rfl (by decide) (vp_inK (by decide) (by decide)) ?_
  refine aw_icmp_ge (tgt := 79) dX10_order_30 (by decide) (fun hc7 => ?_) (fun hc7 => ?_)
  · replace H := H.1 hc7
    exact aw_ls [0, 1] rfl H
  · replace H := H.2 hc7
    refine aw_aload_n dX10_order_33 rfl 0 rfl ?_
    refine aw_get dX10_order_34 shM0 ckX10 flX10_488 (v := .int (h.1 0 60)) rfl ?_
    refine aw_iconst (v := 4) dX10_order_37 (by decide) ?_
    refine aw_icmp_ge (tgt := 79) dX10_order_38 (by decide) (fun hc6 => ?_) (fun hc6 => ?_)
    · replace H := H.1 hc6
      exact aw_ls [0, 1] rfl H
    · replace H := H.2 hc6
      refine aw_aload_n dX10_order_41 rfl 0 rfl ?_
      refine aw_iconst (v := 0) dX10_order_42 (by decide) ?_
      refine aw_iload_n dX10_order_43 rfl 2 rfl ?_
      refine cvX10_isOpen dX10_order_44 mlX10_402 shM0 (Nat.le_of_ble_eq_true rfl) H (fun z2 h1 H => ?_)
      refine aw_if_ne (tgt := 53) dX10_order_47 (by decide) (fun hc5 => ?_) (fun hc5 => ?_)
      · replace H := H.1 hc5
        refine aw_aload_n dX10_order_53 rfl 0 rfl ?_
        refine aw_get dX10_order_54 shM0 ckX10 flX10_129 (v := .ref (ad 38)) rfl ?_
        refine aw_aload_n dX10_order_57 rfl 0 rfl ?_
        refine aw_get dX10_order_58 shM0 ckX10 flX10_488 (v := .int (h1.1 0 60)) rfl ?_
        refine aw_iload_n dX10_order_61 rfl 2 rfl ?_
        obtain ⟨hi3, H⟩ := H
        refine aw_iastK (t0 := 0) (j := (h1.1 0 60).toNatClampNeg) dX10_order_62 shM38 rfl rfl hi3 ?_
        refine aw_aload_n dX10_order_63 rfl 0 rfl ?_
        refine aw_dup dX10_order_64 rfl ?_
        refine aw_get dX10_order_65 shM0 ckX10 flX10_488 (v := .int ((sI h1 38 (h1.1 0 60).toNatClampNeg x2).1 0 60)) rfl ?_
        refine aw_iconst (v := 1) dX10_order_68 (by decide) ?_
        refine aw_iadd dX10_order_69 ?_
        refine aw_putI dX10_order_70 shM0 ckX10 flX10_488 rfl (fun _ => rfl) rfl rfl ?_
        refine aw_toph (fun h4 eh4 => ?_)
        replace H := H h4 eh4
        refine aw_inc (mm := (1)) (ls' := [(2, .int (x2 + (1 : Int32))), (0, .ref (ad 0)), (1, .int x1)]) dX10_order_73 (by decide) (j := 2) rfl (by decide) rfl ?_
        refine aw_goto (tgt := 23) dX10_order_76 (by decide) ?_
        exact aw_ls [1, 2, 0] rfl H
      · replace H := H.2 hc5
        refine aw_goto (tgt := 73) dX10_order_50 (by decide) ?_
        refine aw_inc (mm := (1)) (ls' := [(2, .int (x2 + (1 : Int32))), (0, .ref (ad 0)), (1, .int x1)]) dX10_order_73 (by decide) (j := 2) rfl (by decide) rfl ?_
        refine aw_goto (tgt := 23) dX10_order_76 (by decide) ?_
        exact aw_ls [1, 2, 0] rfl H
set_option maxRecDepth 8000 in
set_option maxHeartbeats 1000000 in
theorem bX10_order_79 {adK adV : Nat → Nat} {l : Launch} {ad : Nat → Nat} {d : Nat} {R : Int32 → aH → Prop}   (x1 : Int32)  (h : aH)
    (H : AW (GM adK adV) l ad d mX10_rows 0 [(0, .ref (ad 0)), (1, .int (0 : Int32)), (2, .int (0 : Int32))] [] (sI h 0 61 (-1 : Int32)) (qv fun h1 => (¬ x1 = (4 : Int32) → (((h1.1 0 60) ≤ x1 → (R (-2 : Int32) h1)) ∧ (¬ (h1.1 0 60) ≤ x1 → (vp_in x1 4 ∧ (R (h1.1 40 x1.toNatClampNeg) h1))))) ∧ (x1 = (4 : Int32) → (R (h1.1 0 61) h1)))) : AW (GM adK adV) l ad (d + 1) mX10_order 79 [(0, .ref (ad 0)), (1, .int x1)] [] h (qi R) := by
  refine aw_aload_n dX10_order_79 rfl 0 rfl ?_
  refine aw_iconst (v := (-1)) dX10_order_80 (by decide) ?_
  refine aw_putI dX10_order_81 shM0 ckX10 flX10_494 rfl (fun _ => rfl) rfl rfl ?_
  refine aw_aload_n dX10_order_84 rfl 0 rfl ?_
  refine aw_iconst (v := 0) dX10_order_85 (by decide) ?_
  refine aw_iconst (v := 0) dX10_order_86 (by decide) ?_
  refine cvX10_rows dX10_order_87 mlX10_491 shM0 (Nat.le_of_ble_eq_true rfl) H (fun h1 H => ?_)
  refine aw_iload_n dX10_order_90 rfl 1 rfl ?_
  refine aw_iconst (v := 4) dX10_order_91 (by decide) ?_
  refine aw_icmp_ne (tgt := 102) dX10_order_92 (by decide) (fun hc5 => ?_) (fun hc5 => ?_)
  · replace H := H.1 hc5
    refine aw_iload_n dX10_order_102 rfl 1 rfl ?_
    refine aw_aload_n dX10_order_103 rfl 0 rfl ?_
    refine aw_get dX10_order_104 shM0 ckX10 flX10_488 (v := .int (h1.1 0 60)) rfl ?_
    refine aw_icmp_ge (tgt := 119) dX10_order_107 (by decide) (fun hc4 => ?_) (fun hc4 => ?_)
    · replace H := H.1 hc4
      refine aw_bipush (v := (-2)) dX10_order_119 (by decide) ?_
      exact aw_iret dX10_order_121 rfl ⟨_, rfl, H⟩
    · replace H := H.2 hc4
      refine aw_aload_n dX10_order_110 rfl 0 rfl ?_
      refine aw_get dX10_order_111 shM0 ckX10 flX10_135 (v := .ref (ad 40)) rfl ?_
      refine aw_iload_n dX10_order_114 rfl 1 rfl ?_
      obtain ⟨hi3, H⟩ := H
      refine aw_ialdK (t0 := 0) (j := x1.toNatClampNeg) dX10_order_115 shM40 rfl rfl hi3 ?_
      refine aw_goto (tgt := 121) dX10_order_116 (by decide) ?_
      exact aw_iret dX10_order_121 rfl ⟨_, rfl, H⟩
  · replace H := H.2 hc5
    refine aw_aload_n dX10_order_95 rfl 0 rfl ?_
    refine aw_get dX10_order_96 shM0 ckX10 flX10_494 (v := .int (h1.1 0 61)) rfl ?_
    refine aw_goto (tgt := 121) dX10_order_99 (by decide) ?_
    exact aw_iret dX10_order_121 rfl ⟨_, rfl, H⟩
set_option maxRecDepth 8000 in
set_option maxHeartbeats 1000000 in
theorem bX10_hasOf_0 {adK adV : Nat → Nat} {l : Launch} {ad : Nat → Nat} {d : Nat} {R : Int32 → aH → Prop}   (x1 : Int32) (x2 : Int32) (x3 : Int32) (x4 : Int32)  (h : aH)
    (H : vp_in x1 184 ∧ (vp_in (h.1 31 x1.toNatClampNeg) 138 ∧ ((¬ x3 = x4 → ((¬ x3 = 0 → (vp_in x2 184 ∧ (R ((if ((h.1 27 (h.1 31 x1.toNatClampNeg).toNatClampNeg) - (if (h.1 27 (h.1 31 x1.toNatClampNeg).toNatClampNeg) < (h.1 36 x2.toNatClampNeg) then (h.1 27 (h.1 31 x1.toNatClampNeg).toNatClampNeg) else (h.1 36 x2.toNatClampNeg))) < (h.1 36 x1.toNatClampNeg) then ((h.1 27 (h.1 31 x1.toNatClampNeg).toNatClampNeg) - (if (h.1 27 (h.1 31 x1.toNatClampNeg).toNatClampNeg) < (h.1 36 x2.toNatClampNeg) then (h.1 27 (h.1 31 x1.toNatClampNeg).toNatClampNeg) else (h.1 36 x2.toNatClampNeg))) else (h.1 36 x1.toNatClampNeg)) - (1 : Int32)) h))) ∧ (x3 = 0 → (R (if (h.1 27 (h.1 31 x1.toNatClampNeg).toNatClampNeg) < (h.1 36 x1.toNatClampNeg) then (h.1 27 (h.1 31 x1.toNatClampNeg).toNatClampNeg) else (h.1 36 x1.toNatClampNeg)) h)))) ∧ (x3 = x4 → (R ((if ((h.1 27 (h.1 31 x1.toNatClampNeg).toNatClampNeg) / (2 : Int32)) < (h.1 36 x1.toNatClampNeg) then ((h.1 27 (h.1 31 x1.toNatClampNeg).toNatClampNeg) / (2 : Int32)) else (h.1 36 x1.toNatClampNeg)) - x3) h))))) : AW (GM adK adV) l ad (d + 1) mX10_hasOf 0 [(0, .ref (ad 0)), (1, .int x1), (2, .int x2), (3, .int x3), (4, .int x4)] [] h (qi R) := by
  refine aw_aload_n dX10_hasOf_0 rfl 0 rfl ?_
  refine aw_get dX10_hasOf_1 shM0 ckX10 flX10_93 (v := .ref (ad 27)) rfl ?_
  refine aw_aload_n dX10_hasOf_4 rfl 0 rfl ?_
  refine aw_get dX10_hasOf_5 shM0 ckX10 flX10_105 (v := .ref (ad 31)) rfl ?_
  refine aw_iload_n dX10_hasOf_8 rfl 1 rfl ?_
  obtain ⟨hi1, H⟩ := H
  refine aw_ialdK (t0 := 0) (j := x1.toNatClampNeg) dX10_hasOf_9 shM31 rfl rfl hi1 ?_
  obtain ⟨hi2, H⟩ := H
  refine aw_ialdK (t0 := 0) (j := (h.1 31 x1.toNatClampNeg).toNatClampNeg) dX10_hasOf_10 shM27 rfl rfl hi2 ?_
  refine aw_istore (ls' := [(5, .int (h.1 27 (h.1 31 x1.toNatClampNeg).toNatClampNeg)), (0, .ref (ad 0)), (1, .int x1), (2, .int x2), (3, .int x3), (4, .int x4)]) dX10_hasOf_11 (by decide) rfl ?_
  refine aw_iload_n dX10_hasOf_13 rfl 4 rfl ?_
  refine aw_iload dX10_hasOf_14 5 rfl ?_
  refine aw_icmp_ne (tgt := 35) dX10_hasOf_16 (by decide) (fun hc5 => ?_) (fun hc5 => ?_)
  · replace H := H.1 hc5
    refine aw_iload_n dX10_hasOf_35 rfl 4 rfl ?_
    refine aw_if_ne (tgt := 51) dX10_hasOf_36 (by decide) (fun hc4 => ?_) (fun hc4 => ?_)
    · replace H := H.1 hc4
      refine aw_aload_n dX10_hasOf_51 rfl 1 rfl ?_
      refine aw_get dX10_hasOf_52 shM0 ckX10 flX10_120 (v := .ref (ad 36)) rfl ?_
      refine aw_iload_n dX10_hasOf_55 rfl 2 rfl ?_
      refine aw_ialdK (t0 := 0) (j := x1.toNatClampNeg) dX10_hasOf_56 shM36 rfl rfl hi1 ?_
      refine aw_iload dX10_hasOf_57 0 rfl ?_
      refine aw_aload_n dX10_hasOf_59 rfl 1 rfl ?_
      refine aw_get dX10_hasOf_60 shM0 ckX10 flX10_120 (v := .ref (ad 36)) rfl ?_
      refine aw_iload_n dX10_hasOf_63 rfl 3 rfl ?_
      obtain ⟨hi3, H⟩ := H
      refine aw_ialdK (t0 := 0) (j := x2.toNatClampNeg) dX10_hasOf_64 shM36 rfl rfl hi3 ?_
      refine aw_iload dX10_hasOf_65 0 rfl ?_
      refine aw_mmin dX10_hasOf_67 mlX10_421 (Nat.le_of_ble_eq_true rfl) ?_
      refine aw_isub dX10_hasOf_70 ?_
      refine aw_mmin dX10_hasOf_71 mlX10_421 (Nat.le_of_ble_eq_true rfl) ?_
      refine aw_iconst (v := 1) dX10_hasOf_74 (by decide) ?_
      refine aw_isub dX10_hasOf_75 ?_
      exact aw_iret dX10_hasOf_76 rfl ⟨_, rfl, H⟩
    · replace H := H.2 hc4
      refine aw_aload_n dX10_hasOf_39 rfl 1 rfl ?_
      refine aw_get dX10_hasOf_40 shM0 ckX10 flX10_120 (v := .ref (ad 36)) rfl ?_
      refine aw_iload_n dX10_hasOf_43 rfl 2 rfl ?_
      refine aw_ialdK (t0 := 0) (j := x1.toNatClampNeg) dX10_hasOf_44 shM36 rfl rfl hi1 ?_
      refine aw_iload dX10_hasOf_45 0 rfl ?_
      refine aw_mmin dX10_hasOf_47 mlX10_421 (Nat.le_of_ble_eq_true rfl) ?_
      exact aw_iret dX10_hasOf_50 rfl ⟨_, rfl, H⟩
  · replace H := H.2 hc5
    refine aw_aload_n dX10_hasOf_19 rfl 1 rfl ?_
    refine aw_get dX10_hasOf_20 shM0 ckX10 flX10_120 (v := .ref (ad 36)) rfl ?_
    refine aw_iload_n dX10_hasOf_23 rfl 2 rfl ?_
    refine aw_ialdK (t0 := 0) (j := x1.toNatClampNeg) dX10_hasOf_24 shM36 rfl rfl hi1 ?_
    refine aw_iload dX10_hasOf_25 0 rfl ?_
    refine aw_iconst (v := 2) dX10_hasOf_27 (by decide) ?_
    refine aw_idiv dX10_hasOf_28 (by decide) ?_
    refine aw_mmin dX10_hasOf_29 mlX10_421 (Nat.le_of_ble_eq_true rfl) ?_
    refine aw_iload_n dX10_hasOf_32 rfl 4 rfl ?_
    refine aw_isub dX10_hasOf_33 ?_
    exact aw_iret dX10_hasOf_34 rfl ⟨_, rfl, H⟩
set_option maxRecDepth 8000 in
set_option maxHeartbeats 1000000 in
theorem bX10_isRest_0 {adK adV : Nat → Nat} {l : Launch} {ad : Nat → Nat} {d : Nat} {R : Int32 → aH → Prop}   (x1 : Int32) (x2 : Int32) (x3 : Int32)  (h : aH)
    (H : AW (GM adK adV) l ad d mX10_hasOf 0 [(0, .ref (ad 0)), (1, .int x1), (2, .int x2), (3, .int ((1 : Int32) - (x3 / (2 : Int32)))), (4, .int (x3 - x3 / (2 : Int32) * (2 : Int32)))] [] h (qi fun z2 h1 => AW (GM adK adV) l ad d mX10_hasOf 0 [(0, .ref (ad 0)), (1, .int x1), (2, .int x2), (3, .int (x3 / (2 : Int32))), (4, .int (x3 - x3 / (2 : Int32) * (2 : Int32)))] [] h1 (qi fun z4 h3 => (z4 < z2 → (R (0 : Int32) h3)) ∧ (¬ z4 < z2 → (AW (GM adK adV) l ad d mX10_hasOf 0 [(0, .ref (ad 0)), (1, .int x2), (2, .int x1), (3, .int ((1 : Int32) - (x3 - x3 / (2 : Int32) * (2 : Int32)))), (4, .int (x3 / (2 : Int32)))] [] h3 (qi fun z6 h5 => AW (GM adK adV) l ad d mX10_hasOf 0 [(0, .ref (ad 0)), (1, .int x2), (2, .int x1), (3, .int (x3 - x3 / (2 : Int32) * (2 : Int32))), (4, .int (x3 / (2 : Int32)))] [] h5 (qi fun z8 h7 => (z8 < z6 → (R (0 : Int32) h7)) ∧ (¬ z8 < z6 → (R (1 : Int32) h7))))))))) : AW (GM adK adV) l ad (d + 1) mX10_isRest 0 [(0, .ref (ad 0)), (1, .int x1), (2, .int x2), (3, .int x3)] [] h (qi R) := by
  refine aw_iload_n dX10_isRest_0 rfl 3 rfl ?_
  refine aw_iconst (v := 2) dX10_isRest_1 (by decide) ?_
  refine aw_idiv dX10_isRest_2 (by decide) ?_
  refine aw_istore (ls' := [(4, .int (x3 / (2 : Int32))), (0, .ref (ad 0)), (1, .int x1), (2, .int x2), (3, .int x3)]) dX10_isRest_3 (by decide) rfl ?_
  refine aw_iload_n dX10_isRest_5 rfl 4 rfl ?_
  refine aw_iconst (v := 2) dX10_isRest_6 (by decide) ?_
  refine aw_irem dX10_isRest_7 (by decide) ?_
  refine aw_istore (ls' := [(5, .int (x3 - x3 / (2 : Int32) * (2 : Int32))), (4, .int (x3 / (2 : Int32))), (0, .ref (ad 0)), (1, .int x1), (2, .int x2), (3, .int x3)]) dX10_isRest_8 (by decide) rfl ?_
  refine aw_aload_n dX10_isRest_10 rfl 2 rfl ?_
  refine aw_iload_n dX10_isRest_11 rfl 3 rfl ?_
  refine aw_iload_n dX10_isRest_12 rfl 4 rfl ?_
  refine aw_iconst (v := 1) dX10_isRest_13 (by decide) ?_
  refine aw_iload dX10_isRest_14 1 rfl ?_
  refine aw_isub dX10_isRest_16 ?_
  refine aw_iload dX10_isRest_17 0 rfl ?_
  refine cvX10_hasOf dX10_isRest_19 mlX10_497 shM0 (Nat.le_of_ble_eq_true rfl) H (fun z2 h1 H => ?_)
  refine aw_aload_n dX10_isRest_22 rfl 2 rfl ?_
  refine aw_iload_n dX10_isRest_23 rfl 3 rfl ?_
  refine aw_iload_n dX10_isRest_24 rfl 4 rfl ?_
  refine aw_iload dX10_isRest_25 1 rfl ?_
  refine aw_iload dX10_isRest_27 0 rfl ?_
  refine cvX10_hasOf dX10_isRest_29 mlX10_497 shM0 (Nat.le_of_ble_eq_true rfl) H (fun z4 h3 H => ?_)
  refine aw_icmp_gt (tgt := 64) dX10_isRest_32 (by decide) (fun hc10 => ?_) (fun hc10 => ?_)
  · replace H := H.1 hc10
    refine aw_iconst (v := 0) dX10_isRest_64 (by decide) ?_
    exact aw_zret dX10_isRest_65 rfl (by decide) ⟨_, rfl, H⟩
  · replace H := H.2 hc10
    refine aw_aload_n dX10_isRest_35 rfl 2 rfl ?_
    refine aw_iload_n dX10_isRest_36 rfl 4 rfl ?_
    refine aw_iload_n dX10_isRest_37 rfl 3 rfl ?_
    refine aw_iconst (v := 1) dX10_isRest_38 (by decide) ?_
    refine aw_iload dX10_isRest_39 0 rfl ?_
    refine aw_isub dX10_isRest_41 ?_
    refine aw_iload dX10_isRest_42 1 rfl ?_
    refine cvX10_hasOf dX10_isRest_44 mlX10_497 shM0 (Nat.le_of_ble_eq_true rfl) H (fun z6 h5 H => ?_)
    refine aw_aload_n dX10_isRest_47 rfl 2 rfl ?_
    refine aw_iload_n dX10_isRest_48 rfl 4 rfl ?_
    refine aw_iload_n dX10_isRest_49 rfl 3 rfl ?_
    refine aw_iload dX10_isRest_50 0 rfl ?_
    refine aw_iload dX10_isRest_52 1 rfl ?_
    refine cvX10_hasOf dX10_isRest_54 mlX10_497 shM0 (Nat.le_of_ble_eq_true rfl) H (fun z8 h7 H => ?_)
    refine aw_icmp_gt (tgt := 64) dX10_isRest_57 (by decide) (fun hc9 => ?_) (fun hc9 => ?_)
    · replace H := H.1 hc9
      refine aw_iconst (v := 0) dX10_isRest_64 (by decide) ?_
      exact aw_zret dX10_isRest_65 rfl (by decide) ⟨_, rfl, H⟩
    · replace H := H.2 hc9
      refine aw_iconst (v := 1) dX10_isRest_60 (by decide) ?_
      refine aw_goto (tgt := 65) dX10_isRest_61 (by decide) ?_
      exact aw_zret dX10_isRest_65 rfl (by decide) ⟨_, rfl, H⟩
set_option maxRecDepth 8000 in
set_option maxHeartbeats 1000000 in
theorem bX10_restOf_0 {adK adV : Nat → Nat} {l : Launch} {ad : Nat → Nat} {d : Nat} {R : Int32 → aH → Prop}   (x1 : Int32) (x2 : Int32) (x3 : Int32)  (h : aH)
    (H : AW (GM adK adV) l ad (d + 1) mX10_restOf 6 [(0, .ref (ad 0)), (1, .int x1), (2, .int x2), (3, .int x3), (4, .int (0 : Int32)), (5, .int (0 : Int32))] [] h (qi R)) : AW (GM adK adV) l ad (d + 1) mX10_restOf 0 [(0, .ref (ad 0)), (1, .int x1), (2, .int x2), (3, .int x3)] [] h (qi R) := by
  refine aw_iconst (v := 0) dX10_restOf_0 (by decide) ?_
  refine aw_istore (ls' := [(4, .int (0 : Int32)), (0, .ref (ad 0)), (1, .int x1), (2, .int x2), (3, .int x3)]) dX10_restOf_1 (by decide) rfl ?_
  refine aw_iconst (v := 0) dX10_restOf_3 (by decide) ?_
  refine aw_istore (ls' := [(5, .int (0 : Int32)), (4, .int (0 : Int32)), (0, .ref (ad 0)), (1, .int x1), (2, .int x2), (3, .int x3)]) dX10_restOf_4 (by decide) rfl ?_
  exact aw_ls [2, 3, 4, 5, 1, 0] rfl H
set_option maxRecDepth 8000 in
set_option maxHeartbeats 1000000 in
theorem bX10_restOf_6 {adK adV : Nat → Nat} {l : Launch} {ad : Nat → Nat} {d : Nat} {R : Int32 → aH → Prop}   (x1 : Int32) (x2 : Int32) (x3 : Int32) (x4 : Int32) (x5 : Int32)  (h : aH)
    (H : ((4 : Int32) ≤ x5 → ((¬ x3 = (-1 : Int32) → (R (-2 : Int32) h)) ∧ (x3 = (-1 : Int32) → (R x4 h)))) ∧ (¬ (4 : Int32) ≤ x5 → (AW (GM adK adV) l ad d mX10_isRest 0 [(0, .ref (ad 0)), (1, .int x1), (2, .int x2), (3, .int x5)] [] h (qi fun z3 h2 => (¬ z3 = 0 → ((¬ x4 = x3 → (AW (GM adK adV) l ad (d + 1) mX10_restOf 6 [(0, .ref (ad 0)), (1, .int x1), (2, .int x2), (3, .int x3), (4, .int (x4 + (1 : Int32))), (5, .int (x5 + (1 : Int32)))] [] h2 (qi R))) ∧ (x4 = x3 → (R (((10 : Int32) * (x5 / (2 : Int32))) + (x5 - x5 / (2 : Int32) * (2 : Int32))) h2)))) ∧ (z3 = 0 → (AW (GM adK adV) l ad (d + 1) mX10_restOf 6 [(0, .ref (ad 0)), (1, .int x1), (2, .int x2), (3, .int x3), (4, .int x4), (5, .int (x5 + (1 : Int32)))] [] h2 (qi R))))))) : AW (GM adK adV) l ad (d + 1) mX10_restOf 6 [(0, .ref (ad 0)), (1, .int x1), (2, .int x2), (3, .int x3), (4, .int x4), (5, .int x5)] [] h (qi R) := by
  refine aw_iload dX10_restOf_6 5 rfl ?_
  refine aw_iconst (v := 4) dX10_restOf_8 (by decide) ?_
  refine aw_icmp_ge (tgt := 54) dX10_restOf_9 (by decide) (fun hc6 => ?_) (fun hc6 => ?_)
  · replace H := H.1 hc6
    refine aw_iload_n dX10_restOf_54 rfl 3 rfl ?_
    refine aw_iconst (v := (-1)) dX10_restOf_55 (by decide) ?_
    refine aw_icmp_ne (tgt := 64) dX10_restOf_56 (by decide) (fun hc1 => ?_) (fun hc1 => ?_)
    · replace H := H.1 hc1
      refine aw_bipush (v := (-2)) dX10_restOf_64 (by decide) ?_
      exact aw_iret dX10_restOf_66 rfl ⟨_, rfl, H⟩
    · replace H := H.2 hc1
      refine aw_iload dX10_restOf_59 4 rfl ?_
      refine aw_goto (tgt := 66) dX10_restOf_61 (by decide) ?_
      exact aw_iret dX10_restOf_66 rfl ⟨_, rfl, H⟩
  · replace H := H.2 hc6
    refine aw_aload_n dX10_restOf_12 rfl 0 rfl ?_
    refine aw_iload_n dX10_restOf_13 rfl 1 rfl ?_
    refine aw_iload_n dX10_restOf_14 rfl 2 rfl ?_
    refine aw_iload dX10_restOf_15 5 rfl ?_
    refine cvX10_isRest dX10_restOf_17 mlX10_501 shM0 (Nat.le_of_ble_eq_true rfl) H (fun z3 h2 H => ?_)
    refine aw_if_ne (tgt := 26) dX10_restOf_20 (by decide) (fun hc5 => ?_) (fun hc5 => ?_)
    · replace H := H.1 hc5
      refine aw_iload dX10_restOf_26 4 rfl ?_
      refine aw_iload_n dX10_restOf_28 rfl 3 rfl ?_
      refine aw_icmp_ne (tgt := 45) dX10_restOf_29 (by decide) (fun hc4 => ?_) (fun hc4 => ?_)
      · replace H := H.1 hc4
        refine aw_inc (mm := (1)) (ls' := [(4, .int (x4 + (1 : Int32))), (0, .ref (ad 0)), (1, .int x1), (2, .int x2), (3, .int x3), (5, .int x5)]) dX10_restOf_45 (by decide) (j := 4) rfl (by decide) rfl ?_
        refine aw_inc (mm := (1)) (ls' := [(5, .int (x5 + (1 : Int32))), (4, .int (x4 + (1 : Int32))), (0, .ref (ad 0)), (1, .int x1), (2, .int x2), (3, .int x3)]) dX10_restOf_48 (by decide) (j := 5) rfl (by decide) rfl ?_
        refine aw_goto (tgt := 6) dX10_restOf_51 (by decide) ?_
        exact aw_ls [2, 3, 4, 5, 1, 0] rfl H
      · replace H := H.2 hc4
        refine aw_bipush (v := 10) dX10_restOf_32 (by decide) ?_
        refine aw_iload dX10_restOf_34 5 rfl ?_
        refine aw_iconst (v := 2) dX10_restOf_36 (by decide) ?_
        refine aw_idiv dX10_restOf_37 (by decide) ?_
        refine aw_imul dX10_restOf_38 ?_
        refine aw_iload dX10_restOf_39 5 rfl ?_
        refine aw_iconst (v := 2) dX10_restOf_41 (by decide) ?_
        refine aw_irem dX10_restOf_42 (by decide) ?_
        refine aw_iadd dX10_restOf_43 ?_
        exact aw_iret dX10_restOf_44 rfl ⟨_, rfl, H⟩
    · replace H := H.2 hc5
      refine aw_goto (tgt := 48) dX10_restOf_23 (by decide) ?_
      refine aw_inc (mm := (1)) (ls' := [(5, .int (x5 + (1 : Int32))), (0, .ref (ad 0)), (1, .int x1), (2, .int x2), (3, .int x3), (4, .int x4)]) dX10_restOf_48 (by decide) (j := 5) rfl (by decide) rfl ?_
      refine aw_goto (tgt := 6) dX10_restOf_51 (by decide) ?_
      exact aw_ls [1, 2, 3, 4, 5, 0] rfl H
set_option maxRecDepth 8000 in
set_option maxHeartbeats 1000000 in
theorem bX10_areTwo_0 {adK adV : Nat → Nat} {l : Launch} {ad : Nat → Nat} {d : Nat} {R : Int32 → aH → Prop}   (x1 : Int32) (x2 : Int32)  (h : aH)
    (H : AW (GM adK adV) l ad d mX10_isDebt 0 [(0, .ref (ad 0)), (1, .int x1)] [] h (qi fun z2 h1 => (z2 = 0 → (R (0 : Int32) h1)) ∧ (¬ z2 = 0 → (AW (GM adK adV) l ad d mX10_isDebt 0 [(0, .ref (ad 0)), (1, .int x2)] [] h1 (qi fun z4 h3 => (z4 = 0 → (R (0 : Int32) h3)) ∧ (¬ z4 = 0 → ((x1 = x2 → (R (0 : Int32) h3)) ∧ (¬ x1 = x2 → (AW (GM adK adV) l ad d mX10_isOpen 0 [(0, .ref (ad 0)), (1, .int (0 : Int32)), (2, .int x1)] [] h3 (qi fun z6 h5 => (z6 = 0 → (R (0 : Int32) h5)) ∧ (¬ z6 = 0 → (AW (GM adK adV) l ad d mX10_isOpen 0 [(0, .ref (ad 0)), (1, .int (0 : Int32)), (2, .int x2)] [] h5 (qi fun z8 h7 => (z8 = 0 → (R (0 : Int32) h7)) ∧ (¬ z8 = 0 → (vp_in x1 184 ∧ (vp_in x2 184 ∧ ((¬ (h7.1 31 x1.toNatClampNeg) = (h7.1 31 x2.toNatClampNeg) → (R (0 : Int32) h7)) ∧ ((h7.1 31 x1.toNatClampNeg) = (h7.1 31 x2.toNatClampNeg) → (R (1 : Int32) h7))))))))))))))))))) : AW (GM adK adV) l ad (d + 1) mX10_areTwo 0 [(0, .ref (ad 0)), (1, .int x1), (2, .int x2)] [] h (qi R) := by
  refine aw_aload_n dX10_areTwo_0 rfl 0 rfl ?_
  refine aw_iload_n dX10_areTwo_1 rfl 1 rfl ?_
  refine cvX10_isDebt dX10_areTwo_2 mlX10_456 shM0 (Nat.le_of_ble_eq_true rfl) H (fun z2 h1 H => ?_)
  refine aw_if_eq (tgt := 58) dX10_areTwo_5 (by decide) (fun hc16 => ?_) (fun hc16 => ?_)
  · replace H := H.1 hc16
    refine aw_iconst (v := 0) dX10_areTwo_58 (by decide) ?_
    exact aw_zret dX10_areTwo_59 rfl (by decide) ⟨_, rfl, H⟩
  · replace H := H.2 hc16
    refine aw_aload_n dX10_areTwo_8 rfl 0 rfl ?_
    refine aw_iload_n dX10_areTwo_9 rfl 2 rfl ?_
    refine cvX10_isDebt dX10_areTwo_10 mlX10_456 shM0 (Nat.le_of_ble_eq_true rfl) H (fun z4 h3 H => ?_)
    refine aw_if_eq (tgt := 58) dX10_areTwo_13 (by decide) (fun hc15 => ?_) (fun hc15 => ?_)
    · replace H := H.1 hc15
      refine aw_iconst (v := 0) dX10_areTwo_58 (by decide) ?_
      exact aw_zret dX10_areTwo_59 rfl (by decide) ⟨_, rfl, H⟩
    · replace H := H.2 hc15
      refine aw_iload_n dX10_areTwo_16 rfl 1 rfl ?_
      refine aw_iload_n dX10_areTwo_17 rfl 2 rfl ?_
      refine aw_icmp_eq (tgt := 58) dX10_areTwo_18 (by decide) (fun hc14 => ?_) (fun hc14 => ?_)
      · replace H := H.1 hc14
        refine aw_iconst (v := 0) dX10_areTwo_58 (by decide) ?_
        exact aw_zret dX10_areTwo_59 rfl (by decide) ⟨_, rfl, H⟩
      · replace H := H.2 hc14
        refine aw_aload_n dX10_areTwo_21 rfl 0 rfl ?_
        refine aw_iconst (v := 0) dX10_areTwo_22 (by decide) ?_
        refine aw_iload_n dX10_areTwo_23 rfl 1 rfl ?_
        refine cvX10_isOpen dX10_areTwo_24 mlX10_402 shM0 (Nat.le_of_ble_eq_true rfl) H (fun z6 h5 H => ?_)
        refine aw_if_eq (tgt := 58) dX10_areTwo_27 (by decide) (fun hc13 => ?_) (fun hc13 => ?_)
        · replace H := H.1 hc13
          refine aw_iconst (v := 0) dX10_areTwo_58 (by decide) ?_
          exact aw_zret dX10_areTwo_59 rfl (by decide) ⟨_, rfl, H⟩
        · replace H := H.2 hc13
          refine aw_aload_n dX10_areTwo_30 rfl 0 rfl ?_
          refine aw_iconst (v := 0) dX10_areTwo_31 (by decide) ?_
          refine aw_iload_n dX10_areTwo_32 rfl 2 rfl ?_
          refine cvX10_isOpen dX10_areTwo_33 mlX10_402 shM0 (Nat.le_of_ble_eq_true rfl) H (fun z8 h7 H => ?_)
          refine aw_if_eq (tgt := 58) dX10_areTwo_36 (by decide) (fun hc12 => ?_) (fun hc12 => ?_)
          · replace H := H.1 hc12
            refine aw_iconst (v := 0) dX10_areTwo_58 (by decide) ?_
            exact aw_zret dX10_areTwo_59 rfl (by decide) ⟨_, rfl, H⟩
          · replace H := H.2 hc12
            refine aw_aload_n dX10_areTwo_39 rfl 0 rfl ?_
            refine aw_get dX10_areTwo_40 shM0 ckX10 flX10_105 (v := .ref (ad 31)) rfl ?_
            refine aw_iload_n dX10_areTwo_43 rfl 1 rfl ?_
            obtain ⟨hi9, H⟩ := H
            refine aw_ialdK (t0 := 0) (j := x1.toNatClampNeg) dX10_areTwo_44 shM31 rfl rfl hi9 ?_
            refine aw_aload_n dX10_areTwo_45 rfl 0 rfl ?_
            refine aw_get dX10_areTwo_46 shM0 ckX10 flX10_105 (v := .ref (ad 31)) rfl ?_
            refine aw_iload_n dX10_areTwo_49 rfl 2 rfl ?_
            obtain ⟨hi10, H⟩ := H
            refine aw_ialdK (t0 := 0) (j := x2.toNatClampNeg) dX10_areTwo_50 shM31 rfl rfl hi10 ?_
            refine aw_icmp_ne (tgt := 58) dX10_areTwo_51 (by decide) (fun hc11 => ?_) (fun hc11 => ?_)
            · replace H := H.1 hc11
              refine aw_iconst (v := 0) dX10_areTwo_58 (by decide) ?_
              exact aw_zret dX10_areTwo_59 rfl (by decide) ⟨_, rfl, H⟩
            · replace H := H.2 hc11
              refine aw_iconst (v := 1) dX10_areTwo_54 (by decide) ?_
              refine aw_goto (tgt := 59) dX10_areTwo_55 (by decide) ?_
              exact aw_zret dX10_areTwo_59 rfl (by decide) ⟨_, rfl, H⟩
set_option maxRecDepth 8000 in
set_option maxHeartbeats 1000000 in
theorem bX10_rests_0 {adK adV : Nat → Nat} {l : Launch} {ad : Nat → Nat} {d : Nat} {R : Int32 → aH → Prop}   (x1 : Int32) (x2 : Int32)  (h : aH)
    (H : AW (GM adK adV) l ad d mX10_areTwo 0 [(0, .ref (ad 0)), (1, .int x1), (2, .int x2)] [] (sI h 0 0 (0 : Int32)) (qi fun z2 h1 => (z2 = 0 → (R (-1 : Int32) h1)) ∧ (¬ z2 = 0 → (AW (GM adK adV) l ad d mX10_restOf 0 [(0, .ref (ad 0)), (1, .int x1), (2, .int x2), (3, .int (-1 : Int32))] [] h1 (qi fun z4 h3 => R z4 h3))))) : AW (GM adK adV) l ad (d + 1) mX10_rests 0 [(0, .ref (ad 0)), (1, .int x1), (2, .int x2)] [] h (qi R) := by
  refine aw_aload_n dX10_rests_0 rfl 0 rfl ?_
  refine aw_iconst (v := 0) dX10_rests_1 (by decide) ?_
  refine aw_putI dX10_rests_2 shM0 ckX10 flX10_160 rfl (fun _ => rfl) rfl rfl ?_
  refine aw_aload_n dX10_rests_5 rfl 0 rfl ?_
  refine aw_iload_n dX10_rests_6 rfl 1 rfl ?_
  refine aw_iload_n dX10_rests_7 rfl 2 rfl ?_
  refine cvX10_areTwo dX10_rests_8 mlX10_505 shM0 (Nat.le_of_ble_eq_true rfl) H (fun z2 h1 H => ?_)
  refine aw_if_eq (tgt := 24) dX10_rests_11 (by decide) (fun hc5 => ?_) (fun hc5 => ?_)
  · replace H := H.1 hc5
    refine aw_iconst (v := (-1)) dX10_rests_24 (by decide) ?_
    exact aw_iret dX10_rests_25 rfl ⟨_, rfl, H⟩
  · replace H := H.2 hc5
    refine aw_aload_n dX10_rests_14 rfl 0 rfl ?_
    refine aw_iload_n dX10_rests_15 rfl 1 rfl ?_
    refine aw_iload_n dX10_rests_16 rfl 2 rfl ?_
    refine aw_iconst (v := (-1)) dX10_rests_17 (by decide) ?_
    refine cvX10_restOf dX10_rests_18 mlX10_508 shM0 (Nat.le_of_ble_eq_true rfl) H (fun z4 h3 H => ?_)
    refine aw_goto (tgt := 25) dX10_rests_21 (by decide) ?_
    exact aw_iret dX10_rests_25 rfl ⟨_, rfl, H⟩
set_option maxRecDepth 8000 in
set_option maxHeartbeats 1000000 in
theorem bX10_rest_0 {adK adV : Nat → Nat} {l : Launch} {ad : Nat → Nat} {d : Nat} {R : Int32 → aH → Prop}   (x1 : Int32) (x2 : Int32) (x3 : Int32)  (h : aH)
    (H : AW (GM adK adV) l ad d mX10_areTwo 0 [(0, .ref (ad 0)), (1, .int x1), (2, .int x2)] [] (sI h 0 0 (0 : Int32)) (qi fun z2 h1 => (z2 = 0 → (R (-1 : Int32) h1)) ∧ (¬ z2 = 0 → ((x3 < 0 → (R (-1 : Int32) h1)) ∧ (¬ x3 < 0 → (AW (GM adK adV) l ad d mX10_restOf 0 [(0, .ref (ad 0)), (1, .int x1), (2, .int x2), (3, .int x3)] [] h1 (qi fun z4 h3 => R z4 h3))))))) : AW (GM adK adV) l ad (d + 1) mX10_rest 0 [(0, .ref (ad 0)), (1, .int x1), (2, .int x2), (3, .int x3)] [] h (qi R) := by
  refine aw_aload_n dX10_rest_0 rfl 0 rfl ?_
  refine aw_iconst (v := 0) dX10_rest_1 (by decide) ?_
  refine aw_putI dX10_rest_2 shM0 ckX10 flX10_160 rfl (fun _ => rfl) rfl rfl ?_
  refine aw_aload_n dX10_rest_5 rfl 0 rfl ?_
  refine aw_iload_n dX10_rest_6 rfl 1 rfl ?_
  refine aw_iload_n dX10_rest_7 rfl 2 rfl ?_
  refine cvX10_areTwo dX10_rest_8 mlX10_505 shM0 (Nat.le_of_ble_eq_true rfl) H (fun z2 h1 H => ?_)
  refine aw_if_eq (tgt := 28) dX10_rest_11 (by decide) (fun hc6 => ?_) (fun hc6 => ?_)
  · replace H := H.1 hc6
    refine aw_iconst (v := (-1)) dX10_rest_28 (by decide) ?_
    exact aw_iret dX10_rest_29 rfl ⟨_, rfl, H⟩
  · replace H := H.2 hc6
    refine aw_iload_n dX10_rest_14 rfl 3 rfl ?_
    refine aw_if_lt (tgt := 28) dX10_rest_15 (by decide) (fun hc5 => ?_) (fun hc5 => ?_)
    · replace H := H.1 hc5
      refine aw_iconst (v := (-1)) dX10_rest_28 (by decide) ?_
      exact aw_iret dX10_rest_29 rfl ⟨_, rfl, H⟩
    · replace H := H.2 hc5
      refine aw_aload_n dX10_rest_18 rfl 0 rfl ?_
      refine aw_iload_n dX10_rest_19 rfl 1 rfl ?_
      refine aw_iload_n dX10_rest_20 rfl 2 rfl ?_
      refine aw_iload_n dX10_rest_21 rfl 3 rfl ?_
      refine cvX10_restOf dX10_rest_22 mlX10_508 shM0 (Nat.le_of_ble_eq_true rfl) H (fun z4 h3 H => ?_)
      refine aw_goto (tgt := 29) dX10_rest_25 (by decide) ?_
      exact aw_iret dX10_rest_29 rfl ⟨_, rfl, H⟩
set_option maxRecDepth 8000 in
set_option maxHeartbeats 1000000 in
theorem bX10_common_0 {adK adV : Nat → Nat} {l : Launch} {ad : Nat → Nat} {d : Nat} {R : Int64 → aH → Prop}   (x0 : Int64) (x2 : Int64)  (h : aH)
    (H : AW (GM adK adV) l ad d mX10_common 6 [(4, .long x0), (6, .long x2)] [] h (ql R)) : AW (GM adK adV) l ad d mX10_common 0 [(0, .long x0), (2, .long x2)] [] h (ql R) := by
  refine aw_lload_n dX10_common_0 rfl 0 rfl ?_
  refine aw_lstore (ls' := [(4, .long x0), (0, .long x0), (2, .long x2)]) dX10_common_1 (by decide) rfl ?_
  refine aw_lload_n dX10_common_3 rfl 2 rfl ?_
  refine aw_lstore (ls' := [(6, .long x2), (4, .long x0), (0, .long x0), (2, .long x2)]) dX10_common_4 (by decide) rfl ?_
  exact aw_ls [1, 0] rfl H
set_option maxRecDepth 8000 in
set_option maxHeartbeats 1000000 in
theorem bX10_common_6 {adK adV : Nat → Nat} {l : Launch} {ad : Nat → Nat} {d : Nat} {R : Int64 → aH → Prop}   (x4 : Int64) (x6 : Int64)  (h : aH)
    (H : (x6 = (0 : Int64) → (R x4 h)) ∧ (¬ x6 = (0 : Int64) → (¬ x6 = 0 ∧ (AW (GM adK adV) l ad d mX10_common 6 [(4, .long x6), (6, .long (x4 - x4 / x6 * x6))] [] h (ql R))))) : AW (GM adK adV) l ad d mX10_common 6 [(4, .long x4), (6, .long x6)] [] h (ql R) := by
  refine aw_lload dX10_common_6 1 rfl ?_
  refine aw_lconst (v := 0) dX10_common_8 (by decide) ?_
  refine aw_lif_eq (tgt := 31) dX10_common_9 dX10_common_10 (by decide) (fun hc2 => ?_) (fun hc2 => ?_)
  · replace H := H.1 hc2
    refine aw_lload dX10_common_31 0 rfl ?_
    exact aw_lret dX10_common_33 rfl ⟨_, rfl, H⟩
  · replace H := H.2 hc2
    refine aw_lload dX10_common_13 0 rfl ?_
    refine aw_lload dX10_common_15 1 rfl ?_
    obtain ⟨hn1, H⟩ := H
    refine aw_lrem dX10_common_17 hn1 ?_
    refine aw_lstore (ls' := [(8, .long (x4 - x4 / x6 * x6)), (4, .long x4), (6, .long x6)]) dX10_common_18 (by decide) rfl ?_
    refine aw_lload dX10_common_20 2 rfl ?_
    refine aw_lstore (ls' := [(4, .long x6), (8, .long (x4 - x4 / x6 * x6)), (6, .long x6)]) dX10_common_22 (by decide) rfl ?_
    refine aw_lload dX10_common_24 1 rfl ?_
    refine aw_lstore (ls' := [(6, .long (x4 - x4 / x6 * x6)), (4, .long x6), (8, .long (x4 - x4 / x6 * x6))]) dX10_common_26 (by decide) rfl ?_
    refine aw_goto (tgt := 6) dX10_common_28 (by decide) ?_
    exact aw_ls [1, 0] rfl H
set_option maxRecDepth 8000 in
set_option maxHeartbeats 1000000 in
theorem bX10_lives_0 {adK adV : Nat → Nat} {l : Launch} {ad : Nat → Nat} {d : Nat} {R : Int64 → aH → Prop}   (x1 : Int32) (x2 : Int32) (x3 : Int32)  (h : aH)
    (H : AW (GM adK adV) l ad d mX10_isTusk 0 [(0, .ref (ad 0)), (1, .int x1)] [] (sI h 0 0 (0 : Int32)) (qi fun z2 h1 => (z2 = 0 → (R (-1 : Int64) h1)) ∧ (¬ z2 = 0 → (AW (GM adK adV) l ad d mX10_isAlive 0 [(0, .ref (ad 0)), (1, .int (0 : Int32)), (2, .int x1)] [] h1 (qi fun z4 h3 => (z4 = 0 → (R (-1 : Int64) h3)) ∧ (¬ z4 = 0 → ((x2 < 0 → (R (-1 : Int64) h3)) ∧ (¬ x2 < 0 → (((6 : Int32) < x2 → (R (-1 : Int64) h3)) ∧ (¬ (6 : Int32) < x2 → ((x3 < 0 → (R (-1 : Int64) h3)) ∧ (¬ x3 < 0 → ((x3 ≤ (1 : Int32) → (AW (GM adK adV) l ad d mX10_copies 0 [(0, .ref (ad 0)), (1, .int (1 : Int32)), (2, .int (0 : Int32))] [] h3 (qv fun h5 => AW (GM adK adV) l ad (d + 1) mX10_lives 60 [(0, .ref (ad 0)), (1, .int x1), (2, .int x2), (3, .int x3), (4, .long (1 : Int64)), (6, .long (1 : Int64)), (8, .int (0 : Int32))] [] h5 (ql R)))) ∧ (¬ x3 ≤ (1 : Int32) → (R (-1 : Int64) h3))))))))))))))) : AW (GM adK adV) l ad (d + 1) mX10_lives 0 [(0, .ref (ad 0)), (1, .int x1), (2, .int x2), (3, .int x3)] [] h (ql R) := by
  refine aw_aload_n dX10_lives_0 rfl 0 rfl ?_
  refine aw_iconst (v := 0) dX10_lives_1 (by decide) ?_
  refine aw_putI dX10_lives_2 shM0 ckX10 flX10_160 rfl (fun _ => rfl) rfl rfl ?_
  refine aw_aload_n dX10_lives_5 rfl 0 rfl ?_
  refine aw_iload_n dX10_lives_6 rfl 1 rfl ?_
  refine cvX10_isTusk dX10_lives_7 mlX10_466 shM0 (Nat.le_of_ble_eq_true rfl) H (fun z2 h1 H => ?_)
  refine aw_if_eq (tgt := 41) dX10_lives_10 (by decide) (fun hc12 => ?_) (fun hc12 => ?_)
  · replace H := H.1 hc12
    refine aw_ldc2 dX10_lives_41 clX10_511 ?_
    exact aw_lret dX10_lives_44 rfl ⟨_, rfl, H⟩
  · replace H := H.2 hc12
    refine aw_aload_n dX10_lives_13 rfl 0 rfl ?_
    refine aw_iconst (v := 0) dX10_lives_14 (by decide) ?_
    refine aw_iload_n dX10_lives_15 rfl 1 rfl ?_
    refine cvX10_isAlive dX10_lives_16 mlX10_391 shM0 (Nat.le_of_ble_eq_true rfl) H (fun z4 h3 H => ?_)
    refine aw_if_eq (tgt := 41) dX10_lives_19 (by decide) (fun hc11 => ?_) (fun hc11 => ?_)
    · replace H := H.1 hc11
      refine aw_ldc2 dX10_lives_41 clX10_511 ?_
      exact aw_lret dX10_lives_44 rfl ⟨_, rfl, H⟩
    · replace H := H.2 hc11
      refine aw_iload_n dX10_lives_22 rfl 2 rfl ?_
      refine aw_if_lt (tgt := 41) dX10_lives_23 (by decide) (fun hc10 => ?_) (fun hc10 => ?_)
      · replace H := H.1 hc10
        refine aw_ldc2 dX10_lives_41 clX10_511 ?_
        exact aw_lret dX10_lives_44 rfl ⟨_, rfl, H⟩
      · replace H := H.2 hc10
        refine aw_iload_n dX10_lives_26 rfl 2 rfl ?_
        refine aw_bipush (v := 6) dX10_lives_27 (by decide) ?_
        refine aw_icmp_gt (tgt := 41) dX10_lives_29 (by decide) (fun hc9 => ?_) (fun hc9 => ?_)
        · replace H := H.1 hc9
          refine aw_ldc2 dX10_lives_41 clX10_511 ?_
          exact aw_lret dX10_lives_44 rfl ⟨_, rfl, H⟩
        · replace H := H.2 hc9
          refine aw_iload_n dX10_lives_32 rfl 3 rfl ?_
          refine aw_if_lt (tgt := 41) dX10_lives_33 (by decide) (fun hc8 => ?_) (fun hc8 => ?_)
          · replace H := H.1 hc8
            refine aw_ldc2 dX10_lives_41 clX10_511 ?_
            exact aw_lret dX10_lives_44 rfl ⟨_, rfl, H⟩
          · replace H := H.2 hc8
            refine aw_iload_n dX10_lives_36 rfl 3 rfl ?_
            refine aw_iconst (v := 1) dX10_lives_37 (by decide) ?_
            refine aw_icmp_le (tgt := 45) dX10_lives_38 (by decide) (fun hc7 => ?_) (fun hc7 => ?_)
            · replace H := H.1 hc7
              refine aw_lconst (v := 1) dX10_lives_45 (by decide) ?_
              refine aw_lstore (ls' := [(4, .long (1 : Int64)), (0, .ref (ad 0)), (1, .int x1), (2, .int x2), (3, .int x3)]) dX10_lives_46 (by decide) rfl ?_
              refine aw_lconst (v := 1) dX10_lives_48 (by decide) ?_
              refine aw_lstore (ls' := [(6, .long (1 : Int64)), (4, .long (1 : Int64)), (0, .ref (ad 0)), (1, .int x1), (2, .int x2), (3, .int x3)]) dX10_lives_49 (by decide) rfl ?_
              refine aw_aload_n dX10_lives_51 rfl 2 rfl ?_
              refine aw_iconst (v := 1) dX10_lives_52 (by decide) ?_
              refine aw_iconst (v := 0) dX10_lives_53 (by decide) ?_
              refine cvX10_copies dX10_lives_54 mlX10_450 shM0 (Nat.le_of_ble_eq_true rfl) H (fun h5 H => ?_)
              refine aw_iconst (v := 0) dX10_lives_57 (by decide) ?_
              refine aw_istore (ls' := [(8, .int (0 : Int32)), (6, .long (1 : Int64)), (4, .long (1 : Int64)), (0, .ref (ad 0)), (1, .int x1), (2, .int x2), (3, .int x3)]) dX10_lives_58 (by decide) rfl ?_
              exact aw_ls [3, 4, 5, 6, 2, 1, 0] rfl H
            · replace H := H.2 hc7
              refine aw_ldc2 dX10_lives_41 clX10_511 ?_
              exact aw_lret dX10_lives_44 rfl ⟨_, rfl, H⟩
set_option maxRecDepth 8000 in
set_option maxHeartbeats 1000000 in
theorem bX10_lives_60 {adK adV : Nat → Nat} {l : Launch} {ad : Nat → Nat} {d : Nat} {R : Int64 → aH → Prop}   (x1 : Int32) (x2 : Int32) (x3 : Int32) (x4 : Int64) (x6 : Int64) (x8 : Int32)  (h : aH)
    (H : (x2 ≤ x8 → (AW (GM adK adV) l ad d mX10_common 0 [(0, .long x4), (2, .long x6)] [] h (ql fun z2 h1 => (¬ x3 = 0 → (¬ z2 = 0 ∧ (R (x6 / z2) h1))) ∧ (x3 = 0 → (¬ z2 = 0 ∧ (R (x4 / z2) h1)))))) ∧ (¬ x2 ≤ x8 → (vp_in ((6 : Int32) + x1) 138 ∧ (∀ h7 : aH, h7 = (sI h 28 ((6 : Int32) + x1).toNatClampNeg (if ((h.1 28 ((6 : Int32) + x1).toNatClampNeg) + (1 : Int32)) < (99 : Int32) then ((h.1 28 ((6 : Int32) + x1).toNatClampNeg) + (1 : Int32)) else (99 : Int32))) → (AW (GM adK adV) l ad d mX10_mortal 0 [(0, .ref (ad 0)), (1, .int (1 : Int32)), (2, .int x1)] [] h7 (qi fun z9 h8 => AW (GM adK adV) l ad (d + 1) mX10_lives 60 [(0, .ref (ad 0)), (1, .int x1), (2, .int x2), (3, .int x3), (4, .long (x4 * ((100 : Int64) - z9.toInt64))), (6, .long (x6 * (100 : Int64))), (8, .int (x8 + (1 : Int32)))] [] h8 (ql R))))))) : AW (GM adK adV) l ad (d + 1) mX10_lives 60 [(0, .ref (ad 0)), (1, .int x1), (2, .int x2), (3, .int x3), (4, .long x4), (6, .long x6), (8, .int x8)] [] h (ql R) := by
  refine aw_iload dX10_lives_60 6 rfl ?_
  refine aw_iload_n dX10_lives_62 rfl 2 rfl ?_
  refine aw_icmp_ge (tgt := 123) dX10_lives_63 (by decide) (fun hc10 => ?_) (fun hc10 => ?_)
  · replace H := H.1 hc10
    refine aw_lload dX10_lives_123 4 rfl ?_
    refine aw_lload dX10_lives_125 5 rfl ?_
    refine cvX10_common dX10_lives_127 mlX10_513 (Nat.le_of_ble_eq_true rfl) H (fun z2 h1 H => ?_)
    refine aw_lstore (ls' := [(8, .long z2), (0, .ref (ad 0)), (1, .int x1), (2, .int x2), (3, .int x3), (4, .long x4), (6, .long x6)]) dX10_lives_130 (by decide) rfl ?_
    refine aw_iload_n dX10_lives_132 rfl 4 rfl ?_
    refine aw_if_ne (tgt := 144) dX10_lives_133 (by decide) (fun hc5 => ?_) (fun hc5 => ?_)
    · replace H := H.1 hc5
      refine aw_lload dX10_lives_144 6 rfl ?_
      refine aw_lload dX10_lives_146 0 rfl ?_
      obtain ⟨hn3, H⟩ := H
      refine aw_ldiv dX10_lives_148 hn3 ?_
      exact aw_lret dX10_lives_149 rfl ⟨_, rfl, H⟩
    · replace H := H.2 hc5
      refine aw_lload dX10_lives_136 5 rfl ?_
      refine aw_lload dX10_lives_138 0 rfl ?_
      obtain ⟨hn4, H⟩ := H
      refine aw_ldiv dX10_lives_140 hn4 ?_
      refine aw_goto (tgt := 149) dX10_lives_141 (by decide) ?_
      exact aw_lret dX10_lives_149 rfl ⟨_, rfl, H⟩
  · replace H := H.2 hc10
    refine aw_bipush (v := 6) dX10_lives_66 (by decide) ?_
    refine aw_iload_n dX10_lives_68 rfl 1 rfl ?_
    refine aw_iadd dX10_lives_69 ?_
    refine aw_istore (ls' := [(9, .int ((6 : Int32) + x1)), (0, .ref (ad 0)), (1, .int x1), (2, .int x2), (3, .int x3), (4, .long x4), (6, .long x6), (8, .int x8)]) dX10_lives_70 (by decide) rfl ?_
    refine aw_aload_n dX10_lives_72 rfl 1 rfl ?_
    refine aw_get dX10_lives_73 shM0 ckX10 flX10_96 (v := .ref (ad 28)) rfl ?_
    refine aw_iload dX10_lives_76 0 rfl ?_
    refine aw_bipush (v := 99) dX10_lives_78 (by decide) ?_
    refine aw_aload_n dX10_lives_80 rfl 1 rfl ?_
    refine aw_get dX10_lives_81 shM0 ckX10 flX10_96 (v := .ref (ad 28)) rfl ?_
    refine aw_iload dX10_lives_84 0 rfl ?_
    obtain ⟨hi6, H⟩ := H
    refine aw_ialdK (t0 := 0) (j := ((6 : Int32) + x1).toNatClampNeg) dX10_lives_86 shM28 rfl rfl hi6 ?_
    refine aw_iconst (v := 1) dX10_lives_87 (by decide) ?_
    refine aw_iadd dX10_lives_88 ?_
    refine aw_mmin dX10_lives_89 mlX10_421 (Nat.le_of_ble_eq_true rfl) ?_
    refine aw_iastK (t0 := 0) (j := ((6 : Int32) + x1).toNatClampNeg) dX10_lives_92 shM28 rfl rfl hi6 ?_
    refine aw_toph (fun h7 eh7 => ?_)
    replace H := H h7 eh7
    refine aw_lload dX10_lives_93 5 rfl ?_
    refine aw_ldc2 dX10_lives_95 clX10_380 ?_
    refine aw_aload_n dX10_lives_98 rfl 1 rfl ?_
    refine aw_iconst (v := 1) dX10_lives_99 (by decide) ?_
    refine aw_iload_n dX10_lives_100 rfl 2 rfl ?_
    refine cvX10_mortal dX10_lives_101 mlX10_414 shM0 (Nat.le_of_ble_eq_true rfl) H (fun z9 h8 H => ?_)
    refine aw_i2l dX10_lives_104 ?_
    refine aw_lsub dX10_lives_105 ?_
    refine aw_lmul dX10_lives_106 ?_
    refine aw_lstore (ls' := [(4, .long (x4 * ((100 : Int64) - z9.toInt64))), (9, .int ((6 : Int32) + x1)), (0, .ref (ad 0)), (1, .int x1), (2, .int x2), (3, .int x3), (6, .long x6), (8, .int x8)]) dX10_lives_107 (by decide) rfl ?_
    refine aw_lload dX10_lives_109 6 rfl ?_
    refine aw_ldc2 dX10_lives_111 clX10_380 ?_
    refine aw_lmul dX10_lives_114 ?_
    refine aw_lstore (ls' := [(6, .long (x6 * (100 : Int64))), (4, .long (x4 * ((100 : Int64) - z9.toInt64))), (9, .int ((6 : Int32) + x1)), (0, .ref (ad 0)), (1, .int x1), (2, .int x2), (3, .int x3), (8, .int x8)]) dX10_lives_115 (by decide) rfl ?_
    refine aw_inc (mm := (1)) (ls' := [(8, .int (x8 + (1 : Int32))), (6, .long (x6 * (100 : Int64))), (4, .long (x4 * ((100 : Int64) - z9.toInt64))), (9, .int ((6 : Int32) + x1)), (0, .ref (ad 0)), (1, .int x1), (2, .int x2), (3, .int x3)]) dX10_lives_117 (by decide) (j := 7) rfl (by decide) rfl ?_
    refine aw_goto (tgt := 60) dX10_lives_120 (by decide) ?_
    exact aw_ls [4, 5, 6, 7, 2, 1, 0] rfl H
set_option maxRecDepth 8000 in
set_option maxHeartbeats 1000000 in
theorem bX10_lastsBefore_0 {adK adV : Nat → Nat} {l : Launch} {ad : Nat → Nat} {d : Nat} {R : Int32 → aH → Prop}   (x1 : Int32)  (h : aH)
    (H : AW (GM adK adV) l ad d mX10_copies 0 [(0, .ref (ad 0)), (1, .int (1 : Int32)), (2, .int (0 : Int32))] [] h (qv fun h1 => AW (GM adK adV) l ad (d + 1) mX10_lastsBefore 12 [(0, .ref (ad 0)), (2, .int ((1 : Int32) <<< (x1 &&& 31))), (3, .int (0 : Int32))] [] h1 (qi R))) : AW (GM adK adV) l ad (d + 1) mX10_lastsBefore 0 [(0, .ref (ad 0)), (1, .int x1)] [] h (qi R) := by
  refine aw_aload_n dX10_lastsBefore_0 rfl 0 rfl ?_
  refine aw_iconst (v := 1) dX10_lastsBefore_1 (by decide) ?_
  refine aw_iconst (v := 0) dX10_lastsBefore_2 (by decide) ?_
  refine cvX10_copies dX10_lastsBefore_3 mlX10_450 shM0 (Nat.le_of_ble_eq_true rfl) H (fun h1 H => ?_)
  refine aw_iconst (v := 1) dX10_lastsBefore_6 (by decide) ?_
  refine aw_iload_n dX10_lastsBefore_7 rfl 1 rfl ?_
  refine aw_ishl dX10_lastsBefore_8 ?_
  refine aw_istore_n (ls' := [(2, .int ((1 : Int32) <<< (x1 &&& 31))), (0, .ref (ad 0)), (1, .int x1)]) dX10_lastsBefore_9 rfl (by decide) rfl ?_
  refine aw_iconst (v := 0) dX10_lastsBefore_10 (by decide) ?_
  refine aw_istore_n (ls' := [(3, .int (0 : Int32)), (2, .int ((1 : Int32) <<< (x1 &&& 31))), (0, .ref (ad 0)), (1, .int x1)]) dX10_lastsBefore_11 rfl (by decide) rfl ?_
  exact aw_ls [2, 1, 0] rfl H
set_option maxRecDepth 8000 in
set_option maxHeartbeats 1000000 in
theorem bX10_lastsBefore_12 {adK adV : Nat → Nat} {l : Launch} {ad : Nat → Nat} {d : Nat} {R : Int32 → aH → Prop}   (x2 : Int32) (x3 : Int32)  (h : aH)
    (H : ((99 : Int32) ≤ x3 → (R (99 : Int32) h)) ∧ (¬ (99 : Int32) ≤ x3 → (AW (GM adK adV) l ad (d + 1) mX10_lastsBefore 21 [(0, .ref (ad 0)), (2, .int x2), (3, .int x3), (4, .int (0 : Int32))] [] h (qi R)))) : AW (GM adK adV) l ad (d + 1) mX10_lastsBefore 12 [(0, .ref (ad 0)), (2, .int x2), (3, .int x3)] [] h (qi R) := by
  refine aw_iload_n dX10_lastsBefore_12 rfl 2 rfl ?_
  refine aw_bipush (v := 99) dX10_lastsBefore_13 (by decide) ?_
  refine aw_icmp_ge (tgt := 152) dX10_lastsBefore_15 (by decide) (fun hc1 => ?_) (fun hc1 => ?_)
  · replace H := H.1 hc1
    refine aw_bipush (v := 99) dX10_lastsBefore_152 (by decide) ?_
    exact aw_iret dX10_lastsBefore_154 rfl ⟨_, rfl, H⟩
  · replace H := H.2 hc1
    refine aw_iconst (v := 0) dX10_lastsBefore_18 (by decide) ?_
    refine aw_istore (ls' := [(4, .int (0 : Int32)), (0, .ref (ad 0)), (2, .int x2), (3, .int x3)]) dX10_lastsBefore_19 (by decide) rfl ?_
    exact aw_ls [1, 2, 3, 0] rfl H
set_option maxRecDepth 8000 in
set_option maxHeartbeats 1000000 in
theorem bX10_lastsBefore_21 {adK adV : Nat → Nat} {l : Launch} {ad : Nat → Nat} {d : Nat} {R : Int32 → aH → Prop}   (x2 : Int32) (x3 : Int32) (x4 : Int32)  (h : aH)
    (H : ((h.1 2 3) ≤ x4 → (AW (GM adK adV) l ad d mX10_passes 0 [(0, .ref (ad 0)), (1, .int (1 : Int32)), (2, .int (0 : Int32))] [] h (qv fun h1 => (¬ (x2 &&& (h1.1 26 1)) = 0 → (AW (GM adK adV) l ad (d + 1) mX10_lastsBefore 12 [(0, .ref (ad 0)), (2, .int (x2 &&& (h1.1 26 1))), (3, .int (x3 + (1 : Int32)))] [] h1 (qi R))) ∧ ((x2 &&& (h1.1 26 1)) = 0 → (R (x3 + (1 : Int32)) h1))))) ∧ (¬ (h.1 2 3) ≤ x4 → (vp_in x4 20 ∧ ((¬ (h.1 16 x4.toNatClampNeg) = (h.1 23 1) → (AW (GM adK adV) l ad (d + 1) mX10_lastsBefore 82 [(0, .ref (ad 0)), (2, .int x2), (3, .int x3), (4, .int x4)] [] h (qi R))) ∧ ((h.1 16 x4.toNatClampNeg) = (h.1 23 1) → (AW (GM adK adV) l ad d mX10_isAlive 0 [(0, .ref (ad 0)), (1, .int (1 : Int32)), (2, .int (h.1 14 x4.toNatClampNeg))] [] h (qi fun z6 h5 => (z6 = 0 → (AW (GM adK adV) l ad (d + 1) mX10_lastsBefore 82 [(0, .ref (ad 0)), (2, .int x2), (3, .int x3), (4, .int x4)] [] h5 (qi R))) ∧ (¬ z6 = 0 → (AW (GM adK adV) l ad d mX10_isAlive 0 [(0, .ref (ad 0)), (1, .int (1 : Int32)), (2, .int (h5.1 15 x4.toNatClampNeg))] [] h5 (qi fun z8 h7 => (z8 = 0 → (AW (GM adK adV) l ad (d + 1) mX10_lastsBefore 82 [(0, .ref (ad 0)), (2, .int x2), (3, .int x3), (4, .int x4)] [] h7 (qi R))) ∧ (¬ z8 = 0 → (AW (GM adK adV) l ad (d + 1) mX10_lastsBefore 83 [(0, .ref (ad 0)), (2, .int x2), (3, .int x3), (4, .int x4)] [.int (1 : Int32)] h7 (qi R))))))))))))) : AW (GM adK adV) l ad (d + 1) mX10_lastsBefore 21 [(0, .ref (ad 0)), (2, .int x2), (3, .int x3), (4, .int x4)] [] h (qi R) := by
  refine aw_iload dX10_lastsBefore_21 3 rfl ?_
  refine aw_aload_n dX10_lastsBefore_23 rfl 0 rfl ?_
  refine aw_get dX10_lastsBefore_24 shM0 ckX10 flX10_13 (v := .ref (ad 2)) rfl ?_
  refine aw_iconst (v := 3) dX10_lastsBefore_27 (by decide) ?_
  refine aw_ialdK (t0 := 0) (j := 3) dX10_lastsBefore_28 shM2 rfl (by decide) (vp_inK (by decide) (by decide)) ?_
  refine aw_icmp_ge (tgt := 123) dX10_lastsBefore_29 (by decide) (fun hc12 => ?_) (fun hc12 => ?_)
  · replace H := H.1 hc12
    refine aw_aload_n dX10_lastsBefore_123 rfl 0 rfl ?_
    refine aw_iconst (v := 1) dX10_lastsBefore_124 (by decide) ?_
    refine aw_iconst (v := 0) dX10_lastsBefore_125 (by decide) ?_
    refine cvX10_passes dX10_lastsBefore_126 mlX10_447 shM0 (Nat.le_of_ble_eq_true rfl) H (fun h1 H => ?_)
    refine aw_iload_n dX10_lastsBefore_129 rfl 1 rfl ?_
    refine aw_aload_n dX10_lastsBefore_130 rfl 0 rfl ?_
    refine aw_get dX10_lastsBefore_131 shM0 ckX10 flX10_90 (v := .ref (ad 26)) rfl ?_
    refine aw_iconst (v := 1) dX10_lastsBefore_134 (by decide) ?_
    refine aw_ialdK (t0 := 0) (j := 1) dX10_lastsBefore_135 shM26 rfl (by decide) (vp_inK (by decide) (by decide)) ?_
    refine aw_iand dX10_lastsBefore_136 ?_
    refine aw_istore_n (ls' := [(2, .int (x2 &&& (h1.1 26 1))), (0, .ref (ad 0)), (3, .int x3), (4, .int x4)]) dX10_lastsBefore_137 rfl (by decide) rfl ?_
    refine aw_iload_n dX10_lastsBefore_138 rfl 0 rfl ?_
    refine aw_if_ne (tgt := 146) dX10_lastsBefore_139 (by decide) (fun hc3 => ?_) (fun hc3 => ?_)
    · replace H := H.1 hc3
      refine aw_inc (mm := (1)) (ls' := [(3, .int (x3 + (1 : Int32))), (2, .int (x2 &&& (h1.1 26 1))), (0, .ref (ad 0)), (4, .int x4)]) dX10_lastsBefore_146 (by decide) (j := 2) rfl (by decide) rfl ?_
      refine aw_goto (tgt := 12) dX10_lastsBefore_149 (by decide) ?_
      exact aw_ls [2, 1, 0] rfl H
    · replace H := H.2 hc3
      refine aw_iload_n dX10_lastsBefore_142 rfl 2 rfl ?_
      refine aw_iconst (v := 1) dX10_lastsBefore_143 (by decide) ?_
      refine aw_iadd dX10_lastsBefore_144 ?_
      exact aw_iret dX10_lastsBefore_145 rfl ⟨_, rfl, H⟩
  · replace H := H.2 hc12
    refine aw_aload_n dX10_lastsBefore_32 rfl 0 rfl ?_
    refine aw_get dX10_lastsBefore_33 shM0 ckX10 flX10_55 (v := .ref (ad 16)) rfl ?_
    refine aw_iload dX10_lastsBefore_36 3 rfl ?_
    obtain ⟨hi4, H⟩ := H
    refine aw_ialdK (t0 := 0) (j := x4.toNatClampNeg) dX10_lastsBefore_38 shM16 rfl rfl hi4 ?_
    refine aw_aload_n dX10_lastsBefore_39 rfl 0 rfl ?_
    refine aw_get dX10_lastsBefore_40 shM0 ckX10 flX10_81 (v := .ref (ad 23)) rfl ?_
    refine aw_iconst (v := 1) dX10_lastsBefore_43 (by decide) ?_
    refine aw_ialdK (t0 := 0) (j := 1) dX10_lastsBefore_44 shM23 rfl (by decide) (vp_inK (by decide) (by decide)) ?_
    refine aw_icmp_ne (tgt := 82) dX10_lastsBefore_45 (by decide) (fun hc11 => ?_) (fun hc11 => ?_)
    · replace H := H.1 hc11
      exact aw_ls [0, 1, 2, 3] rfl H
    · replace H := H.2 hc11
      refine aw_aload_n dX10_lastsBefore_48 rfl 0 rfl ?_
      refine aw_iconst (v := 1) dX10_lastsBefore_49 (by decide) ?_
      refine aw_aload_n dX10_lastsBefore_50 rfl 0 rfl ?_
      refine aw_get dX10_lastsBefore_51 shM0 ckX10 flX10_49 (v := .ref (ad 14)) rfl ?_
      refine aw_iload dX10_lastsBefore_54 3 rfl ?_
      refine aw_ialdK (t0 := 0) (j := x4.toNatClampNeg) dX10_lastsBefore_56 shM14 rfl rfl hi4 ?_
      refine cvX10_isAlive dX10_lastsBefore_57 mlX10_391 shM0 (Nat.le_of_ble_eq_true rfl) H (fun z6 h5 H => ?_)
      refine aw_if_eq (tgt := 82) dX10_lastsBefore_60 (by decide) (fun hc10 => ?_) (fun hc10 => ?_)
      · replace H := H.1 hc10
        exact aw_ls [0, 1, 2, 3] rfl H
      · replace H := H.2 hc10
        refine aw_aload_n dX10_lastsBefore_63 rfl 0 rfl ?_
        refine aw_iconst (v := 1) dX10_lastsBefore_64 (by decide) ?_
        refine aw_aload_n dX10_lastsBefore_65 rfl 0 rfl ?_
        refine aw_get dX10_lastsBefore_66 shM0 ckX10 flX10_52 (v := .ref (ad 15)) rfl ?_
        refine aw_iload dX10_lastsBefore_69 3 rfl ?_
        refine aw_ialdK (t0 := 0) (j := x4.toNatClampNeg) dX10_lastsBefore_71 shM15 rfl rfl hi4 ?_
        refine cvX10_isAlive dX10_lastsBefore_72 mlX10_391 shM0 (Nat.le_of_ble_eq_true rfl) H (fun z8 h7 H => ?_)
        refine aw_if_eq (tgt := 82) dX10_lastsBefore_75 (by decide) (fun hc9 => ?_) (fun hc9 => ?_)
        · replace H := H.1 hc9
          exact aw_ls [0, 1, 2, 3] rfl H
        · replace H := H.2 hc9
          refine aw_iconst (v := 1) dX10_lastsBefore_78 (by decide) ?_
          refine aw_goto (tgt := 83) dX10_lastsBefore_79 (by decide) ?_
          exact aw_ls [0, 1, 2, 3] rfl H
set_option maxRecDepth 8000 in
set_option maxHeartbeats 1000000 in
theorem bX10_lastsBefore_82 {adK adV : Nat → Nat} {l : Launch} {ad : Nat → Nat} {d : Nat} {R : Int32 → aH → Prop}   (x2 : Int32) (x3 : Int32) (x4 : Int32)  (h : aH)
    (H : AW (GM adK adV) l ad (d + 1) mX10_lastsBefore 83 [(0, .ref (ad 0)), (2, .int x2), (3, .int x3), (4, .int x4)] [.int (0 : Int32)] h (qi R)) : AW (GM adK adV) l ad (d + 1) mX10_lastsBefore 82 [(0, .ref (ad 0)), (2, .int x2), (3, .int x3), (4, .int x4)] [] h (qi R) := by
  refine aw_iconst (v := 0) dX10_lastsBefore_82 (by decide) ?_
  exact aw_ls [0, 1, 2, 3] rfl H
set_option maxRecDepth 8000 in
set_option maxHeartbeats 1000000 in
theorem bX10_lastsBefore_83 {adK adV : Nat → Nat} {l : Launch} {ad : Nat → Nat} {d : Nat} {R : Int32 → aH → Prop}   (x2 : Int32) (x3 : Int32) (x4 : Int32) (s0 : Int32)  (h : aH)
    (H : (s0 = 0 → (AW (GM adK adV) l ad (d + 1) mX10_lastsBefore 21 [(0, .ref (ad 0)), (2, .int x2), (3, .int x3), (4, .int (x4 + (1 : Int32)))] [] h (qi R))) ∧ (¬ s0 = 0 → (vp_in x4 20 ∧ ((¬ ((x2 >>> ((h.1 14 x4.toNatClampNeg) &&& 31)) &&& (1 : Int32)) = (1 : Int32) → (AW (GM adK adV) l ad (d + 1) mX10_lastsBefore 21 [(0, .ref (ad 0)), (2, .int x2), (3, .int x3), (4, .int (x4 + (1 : Int32)))] [] h (qi R))) ∧ (((x2 >>> ((h.1 14 x4.toNatClampNeg) &&& 31)) &&& (1 : Int32)) = (1 : Int32) → (∀ t2 : Int32, t2 = (x2 ||| ((1 : Int32) <<< ((h.1 15 x4.toNatClampNeg) &&& 31))) → (AW (GM adK adV) l ad (d + 1) mX10_lastsBefore 21 [(0, .ref (ad 0)), (2, .int t2), (3, .int x3), (4, .int (x4 + (1 : Int32)))] [] h (qi R)))))))) : AW (GM adK adV) l ad (d + 1) mX10_lastsBefore 83 [(0, .ref (ad 0)), (2, .int x2), (3, .int x3), (4, .int x4)] [.int s0] h (qi R) := by
  refine aw_istore (ls' := [(5, .int s0), (0, .ref (ad 0)), (2, .int x2), (3, .int x3), (4, .int x4)]) dX10_lastsBefore_83 (by decide) rfl ?_
  refine aw_iload dX10_lastsBefore_85 0 rfl ?_
  refine aw_if_eq (tgt := 117) dX10_lastsBefore_87 (by decide) (fun hc4 => ?_) (fun hc4 => ?_)
  · replace H := H.1 hc4
    refine aw_inc (mm := (1)) (ls' := [(4, .int (x4 + (1 : Int32))), (5, .int s0), (0, .ref (ad 0)), (2, .int x2), (3, .int x3)]) dX10_lastsBefore_117 (by decide) (j := 4) rfl (by decide) rfl ?_
    refine aw_goto (tgt := 21) dX10_lastsBefore_120 (by decide) ?_
    exact aw_ls [2, 3, 4, 0] rfl H
  · replace H := H.2 hc4
    refine aw_iload_n dX10_lastsBefore_90 rfl 2 rfl ?_
    refine aw_aload_n dX10_lastsBefore_91 rfl 1 rfl ?_
    refine aw_get dX10_lastsBefore_92 shM0 ckX10 flX10_49 (v := .ref (ad 14)) rfl ?_
    refine aw_iload dX10_lastsBefore_95 4 rfl ?_
    obtain ⟨hi1, H⟩ := H
    refine aw_ialdK (t0 := 0) (j := x4.toNatClampNeg) dX10_lastsBefore_97 shM14 rfl rfl hi1 ?_
    refine aw_ishr dX10_lastsBefore_98 ?_
    refine aw_iconst (v := 1) dX10_lastsBefore_99 (by decide) ?_
    refine aw_iand dX10_lastsBefore_100 ?_
    refine aw_iconst (v := 1) dX10_lastsBefore_101 (by decide) ?_
    refine aw_icmp_ne (tgt := 117) dX10_lastsBefore_102 (by decide) (fun hc3 => ?_) (fun hc3 => ?_)
    · replace H := H.1 hc3
      refine aw_inc (mm := (1)) (ls' := [(4, .int (x4 + (1 : Int32))), (5, .int s0), (0, .ref (ad 0)), (2, .int x2), (3, .int x3)]) dX10_lastsBefore_117 (by decide) (j := 4) rfl (by decide) rfl ?_
      refine aw_goto (tgt := 21) dX10_lastsBefore_120 (by decide) ?_
      exact aw_ls [2, 3, 4, 0] rfl H
    · replace H := H.2 hc3
      refine aw_iload_n dX10_lastsBefore_105 rfl 2 rfl ?_
      refine aw_iconst (v := 1) dX10_lastsBefore_106 (by decide) ?_
      refine aw_aload_n dX10_lastsBefore_107 rfl 1 rfl ?_
      refine aw_get dX10_lastsBefore_108 shM0 ckX10 flX10_52 (v := .ref (ad 15)) rfl ?_
      refine aw_iload dX10_lastsBefore_111 4 rfl ?_
      refine aw_ialdK (t0 := 0) (j := x4.toNatClampNeg) dX10_lastsBefore_113 shM15 rfl rfl hi1 ?_
      refine aw_ishl dX10_lastsBefore_114 ?_
      refine aw_ior dX10_lastsBefore_115 ?_
      refine aw_topi (fun t2 et2 => ?_)
      replace H := H t2 et2
      refine aw_istore_n (ls' := [(2, .int t2), (5, .int s0), (0, .ref (ad 0)), (3, .int x3), (4, .int x4)]) dX10_lastsBefore_116 rfl (by decide) rfl ?_
      refine aw_inc (mm := (1)) (ls' := [(4, .int (x4 + (1 : Int32))), (2, .int t2), (5, .int s0), (0, .ref (ad 0)), (3, .int x3)]) dX10_lastsBefore_117 (by decide) (j := 4) rfl (by decide) rfl ?_
      refine aw_goto (tgt := 21) dX10_lastsBefore_120 (by decide) ?_
      exact aw_ls [3, 1, 4, 0] rfl H
set_option maxRecDepth 8000 in
set_option maxHeartbeats 1000000 in
theorem bX10_before_0 {adK adV : Nat → Nat} {l : Launch} {ad : Nat → Nat} {d : Nat} {R : Int32 → aH → Prop}   (x1 : Int32)  (h : aH)
    (H : (x1 < 0 → (R (-1 : Int32) (sI h 0 0 (0 : Int32)))) ∧ (¬ x1 < 0 → ((x1 ≤ (1 : Int32) → (AW (GM adK adV) l ad (d + 1) mX10_before 25 [(0, .ref (ad 0)), (1, .int x1), (2, .int (-2 : Int32)), (3, .int (-2 : Int32)), (4, .int (0 : Int32))] [] (sI h 0 0 (0 : Int32)) (qi R))) ∧ (¬ x1 ≤ (1 : Int32) → (R (-1 : Int32) (sI h 0 0 (0 : Int32))))))) : AW (GM adK adV) l ad (d + 1) mX10_before 0 [(0, .ref (ad 0)), (1, .int x1)] [] h (qi R) := by
  refine aw_aload_n dX10_before_0 rfl 0 rfl ?_
  refine aw_iconst (v := 0) dX10_before_1 (by decide) ?_
  refine aw_putI dX10_before_2 shM0 ckX10 flX10_160 rfl (fun _ => rfl) rfl rfl ?_
  refine aw_iload_n dX10_before_5 rfl 1 rfl ?_
  refine aw_if_lt (tgt := 14) dX10_before_6 (by decide) (fun hc2 => ?_) (fun hc2 => ?_)
  · replace H := H.1 hc2
    refine aw_iconst (v := (-1)) dX10_before_14 (by decide) ?_
    exact aw_iret dX10_before_15 rfl ⟨_, rfl, H⟩
  · replace H := H.2 hc2
    refine aw_iload_n dX10_before_9 rfl 1 rfl ?_
    refine aw_iconst (v := 1) dX10_before_10 (by decide) ?_
    refine aw_icmp_le (tgt := 16) dX10_before_11 (by decide) (fun hc1 => ?_) (fun hc1 => ?_)
    · replace H := H.1 hc1
      refine aw_bipush (v := (-2)) dX10_before_16 (by decide) ?_
      refine aw_istore_n (ls' := [(2, .int (-2 : Int32)), (0, .ref (ad 0)), (1, .int x1)]) dX10_before_18 rfl (by decide) rfl ?_
      refine aw_bipush (v := (-2)) dX10_before_19 (by decide) ?_
      refine aw_istore_n (ls' := [(3, .int (-2 : Int32)), (2, .int (-2 : Int32)), (0, .ref (ad 0)), (1, .int x1)]) dX10_before_21 rfl (by decide) rfl ?_
      refine aw_iconst (v := 0) dX10_before_22 (by decide) ?_
      refine aw_istore (ls' := [(4, .int (0 : Int32)), (3, .int (-2 : Int32)), (2, .int (-2 : Int32)), (0, .ref (ad 0)), (1, .int x1)]) dX10_before_23 (by decide) rfl ?_
      exact aw_ls [3, 4, 2, 1, 0] rfl H
    · replace H := H.2 hc1
      refine aw_iconst (v := (-1)) dX10_before_14 (by decide) ?_
      exact aw_iret dX10_before_15 rfl ⟨_, rfl, H⟩
set_option maxRecDepth 8000 in
set_option maxHeartbeats 1000000 in
theorem bX10_before_25 {adK adV : Nat → Nat} {l : Launch} {ad : Nat → Nat} {d : Nat} {R : Int32 → aH → Prop}   (x1 : Int32) (x2 : Int32) (x3 : Int32) (x4 : Int32)  (h : aH)
    (H : ((h.1 2 1) ≤ x4 → ((¬ x1 = 0 → (R x3 h)) ∧ (x1 = 0 → (R x2 h)))) ∧ (¬ (h.1 2 1) ≤ x4 → (AW (GM adK adV) l ad d mX10_isAlive 0 [(0, .ref (ad 0)), (1, .int (0 : Int32)), (2, .int x4)] [] h (qi fun z3 h2 => (¬ z3 = 0 → (AW (GM adK adV) l ad d mX10_lastsBefore 0 [(0, .ref (ad 0)), (1, .int x4)] [] h2 (qi fun z5 h4 => (x2 = (-2 : Int32) → (AW (GM adK adV) l ad (d + 1) mX10_before 25 [(0, .ref (ad 0)), (1, .int x1), (2, .int x4), (3, .int z5), (4, .int (x4 + (1 : Int32)))] [] h4 (qi R))) ∧ (¬ x2 = (-2 : Int32) → ((z5 < x3 → (AW (GM adK adV) l ad (d + 1) mX10_before 25 [(0, .ref (ad 0)), (1, .int x1), (2, .int x2), (3, .int x3), (4, .int (x4 + (1 : Int32)))] [] h4 (qi R))) ∧ (¬ z5 < x3 → ((¬ z5 = x3 → (AW (GM adK adV) l ad (d + 1) mX10_before 25 [(0, .ref (ad 0)), (1, .int x1), (2, .int x4), (3, .int z5), (4, .int (x4 + (1 : Int32)))] [] h4 (qi R))) ∧ (z5 = x3 → (vp_in x4 12 ∧ (vp_in x2 12 ∧ (((h4.1 7 x4.toNatClampNeg) < (h4.1 7 x2.toNatClampNeg) → (AW (GM adK adV) l ad (d + 1) mX10_before 25 [(0, .ref (ad 0)), (1, .int x1), (2, .int x4), (3, .int z5), (4, .int (x4 + (1 : Int32)))] [] h4 (qi R))) ∧ (¬ (h4.1 7 x4.toNatClampNeg) < (h4.1 7 x2.toNatClampNeg) → (AW (GM adK adV) l ad (d + 1) mX10_before 25 [(0, .ref (ad 0)), (1, .int x1), (2, .int x2), (3, .int x3), (4, .int (x4 + (1 : Int32)))] [] h4 (qi R)))))))))))))) ∧ (z3 = 0 → (AW (GM adK adV) l ad (d + 1) mX10_before 25 [(0, .ref (ad 0)), (1, .int x1), (2, .int x2), (3, .int x3), (4, .int (x4 + (1 : Int32)))] [] h2 (qi R))))))) : AW (GM adK adV) l ad (d + 1) mX10_before 25 [(0, .ref (ad 0)), (1, .int x1), (2, .int x2), (3, .int x3), (4, .int x4)] [] h (qi R) := by
  refine aw_iload dX10_before_25 4 rfl ?_
  refine aw_aload_n dX10_before_27 rfl 0 rfl ?_
  refine aw_get dX10_before_28 shM0 ckX10 flX10_13 (v := .ref (ad 2)) rfl ?_
  refine aw_iconst (v := 1) dX10_before_31 (by decide) ?_
  refine aw_ialdK (t0 := 0) (j := 1) dX10_before_32 shM2 rfl (by decide) (vp_inK (by decide) (by decide)) ?_
  refine aw_icmp_ge (tgt := 106) dX10_before_33 (by decide) (fun hc13 => ?_) (fun hc13 => ?_)
  · replace H := H.1 hc13
    refine aw_iload_n dX10_before_106 rfl 1 rfl ?_
    refine aw_if_ne (tgt := 114) dX10_before_107 (by decide) (fun hc1 => ?_) (fun hc1 => ?_)
    · replace H := H.1 hc1
      refine aw_iload_n dX10_before_114 rfl 3 rfl ?_
      exact aw_iret dX10_before_115 rfl ⟨_, rfl, H⟩
    · replace H := H.2 hc1
      refine aw_iload_n dX10_before_110 rfl 2 rfl ?_
      refine aw_goto (tgt := 115) dX10_before_111 (by decide) ?_
      exact aw_iret dX10_before_115 rfl ⟨_, rfl, H⟩
  · replace H := H.2 hc13
    refine aw_aload_n dX10_before_36 rfl 0 rfl ?_
    refine aw_iconst (v := 0) dX10_before_37 (by decide) ?_
    refine aw_iload dX10_before_38 4 rfl ?_
    refine cvX10_isAlive dX10_before_40 mlX10_391 shM0 (Nat.le_of_ble_eq_true rfl) H (fun z3 h2 H => ?_)
    refine aw_if_ne (tgt := 49) dX10_before_43 (by decide) (fun hc12 => ?_) (fun hc12 => ?_)
    · replace H := H.1 hc12
      refine aw_aload_n dX10_before_49 rfl 0 rfl ?_
      refine aw_iload dX10_before_50 4 rfl ?_
      refine cvX10_lastsBefore dX10_before_52 mlX10_516 shM0 (Nat.le_of_ble_eq_true rfl) H (fun z5 h4 H => ?_)
      refine aw_istore (ls' := [(5, .int z5), (0, .ref (ad 0)), (1, .int x1), (2, .int x2), (3, .int x3), (4, .int x4)]) dX10_before_55 (by decide) rfl ?_
      refine aw_iload_n dX10_before_57 rfl 3 rfl ?_
      refine aw_bipush (v := (-2)) dX10_before_58 (by decide) ?_
      refine aw_icmp_eq (tgt := 94) dX10_before_60 (by decide) (fun hc11 => ?_) (fun hc11 => ?_)
      · replace H := H.1 hc11
        refine aw_iload dX10_before_94 5 rfl ?_
        refine aw_istore_n (ls' := [(2, .int x4), (5, .int z5), (0, .ref (ad 0)), (1, .int x1), (3, .int x3), (4, .int x4)]) dX10_before_96 rfl (by decide) rfl ?_
        refine aw_iload dX10_before_97 1 rfl ?_
        refine aw_istore_n (ls' := [(3, .int z5), (2, .int x4), (5, .int z5), (0, .ref (ad 0)), (1, .int x1), (4, .int x4)]) dX10_before_99 rfl (by decide) rfl ?_
        refine aw_inc (mm := (1)) (ls' := [(4, .int (x4 + (1 : Int32))), (3, .int z5), (2, .int x4), (5, .int z5), (0, .ref (ad 0)), (1, .int x1)]) dX10_before_100 (by decide) (j := 5) rfl (by decide) rfl ?_
        refine aw_goto (tgt := 25) dX10_before_103 (by decide) ?_
        exact aw_ls [4, 5, 2, 1, 0] rfl H
      · replace H := H.2 hc11
        refine aw_iload dX10_before_63 0 rfl ?_
        refine aw_iload_n dX10_before_65 rfl 4 rfl ?_
        refine aw_icmp_lt (tgt := 100) dX10_before_66 (by decide) (fun hc10 => ?_) (fun hc10 => ?_)
        · replace H := H.1 hc10
          refine aw_inc (mm := (1)) (ls' := [(4, .int (x4 + (1 : Int32))), (5, .int z5), (0, .ref (ad 0)), (1, .int x1), (2, .int x2), (3, .int x3)]) dX10_before_100 (by decide) (j := 5) rfl (by decide) rfl ?_
          refine aw_goto (tgt := 25) dX10_before_103 (by decide) ?_
          exact aw_ls [2, 3, 4, 5, 0] rfl H
        · replace H := H.2 hc10
          refine aw_iload dX10_before_69 0 rfl ?_
          refine aw_iload_n dX10_before_71 rfl 4 rfl ?_
          refine aw_icmp_ne (tgt := 94) dX10_before_72 (by decide) (fun hc9 => ?_) (fun hc9 => ?_)
          · replace H := H.1 hc9
            refine aw_iload dX10_before_94 5 rfl ?_
            refine aw_istore_n (ls' := [(2, .int x4), (5, .int z5), (0, .ref (ad 0)), (1, .int x1), (3, .int x3), (4, .int x4)]) dX10_before_96 rfl (by decide) rfl ?_
            refine aw_iload dX10_before_97 1 rfl ?_
            refine aw_istore_n (ls' := [(3, .int z5), (2, .int x4), (5, .int z5), (0, .ref (ad 0)), (1, .int x1), (4, .int x4)]) dX10_before_99 rfl (by decide) rfl ?_
            refine aw_inc (mm := (1)) (ls' := [(4, .int (x4 + (1 : Int32))), (3, .int z5), (2, .int x4), (5, .int z5), (0, .ref (ad 0)), (1, .int x1)]) dX10_before_100 (by decide) (j := 5) rfl (by decide) rfl ?_
            refine aw_goto (tgt := 25) dX10_before_103 (by decide) ?_
            exact aw_ls [4, 5, 2, 1, 0] rfl H
          · replace H := H.2 hc9
            refine aw_aload_n dX10_before_75 rfl 1 rfl ?_
            refine aw_get dX10_before_76 shM0 ckX10 flX10_28 (v := .ref (ad 7)) rfl ?_
            refine aw_iload dX10_before_79 5 rfl ?_
            obtain ⟨hi6, H⟩ := H
            refine aw_ialdK (t0 := 0) (j := x4.toNatClampNeg) dX10_before_81 shM7 rfl rfl hi6 ?_
            refine aw_aload_n dX10_before_82 rfl 1 rfl ?_
            refine aw_get dX10_before_83 shM0 ckX10 flX10_28 (v := .ref (ad 7)) rfl ?_
            refine aw_iload_n dX10_before_86 rfl 3 rfl ?_
            obtain ⟨hi7, H⟩ := H
            refine aw_ialdK (t0 := 0) (j := x2.toNatClampNeg) dX10_before_87 shM7 rfl rfl hi7 ?_
            refine aw_icmp_lt (tgt := 94) dX10_before_88 (by decide) (fun hc8 => ?_) (fun hc8 => ?_)
            · replace H := H.1 hc8
              refine aw_iload dX10_before_94 5 rfl ?_
              refine aw_istore_n (ls' := [(2, .int x4), (5, .int z5), (0, .ref (ad 0)), (1, .int x1), (3, .int x3), (4, .int x4)]) dX10_before_96 rfl (by decide) rfl ?_
              refine aw_iload dX10_before_97 1 rfl ?_
              refine aw_istore_n (ls' := [(3, .int z5), (2, .int x4), (5, .int z5), (0, .ref (ad 0)), (1, .int x1), (4, .int x4)]) dX10_before_99 rfl (by decide) rfl ?_
              refine aw_inc (mm := (1)) (ls' := [(4, .int (x4 + (1 : Int32))), (3, .int z5), (2, .int x4), (5, .int z5), (0, .ref (ad 0)), (1, .int x1)]) dX10_before_100 (by decide) (j := 5) rfl (by decide) rfl ?_
              refine aw_goto (tgt := 25) dX10_before_103 (by decide) ?_
              exact aw_ls [4, 5, 2, 1, 0] rfl H
            · replace H := H.2 hc8
              refine aw_goto (tgt := 100) dX10_before_91 (by decide) ?_
              refine aw_inc (mm := (1)) (ls' := [(4, .int (x4 + (1 : Int32))), (5, .int z5), (0, .ref (ad 0)), (1, .int x1), (2, .int x2), (3, .int x3)]) dX10_before_100 (by decide) (j := 5) rfl (by decide) rfl ?_
              refine aw_goto (tgt := 25) dX10_before_103 (by decide) ?_
              exact aw_ls [2, 3, 4, 5, 0] rfl H
    · replace H := H.2 hc12
      refine aw_goto (tgt := 100) dX10_before_46 (by decide) ?_
      refine aw_inc (mm := (1)) (ls' := [(4, .int (x4 + (1 : Int32))), (0, .ref (ad 0)), (1, .int x1), (2, .int x2), (3, .int x3)]) dX10_before_100 (by decide) (j := 4) rfl (by decide) rfl ?_
      refine aw_goto (tgt := 25) dX10_before_103 (by decide) ?_
      exact aw_ls [1, 2, 3, 4, 0] rfl H
set_option maxRecDepth 8000 in
set_option maxHeartbeats 1000000 in
theorem bX10_owesTo_0 {adK adV : Nat → Nat} {l : Launch} {ad : Nat → Nat} {d : Nat} {R : Int32 → aH → Prop}   (x1 : Int32)  (h : aH)
    (H : AW (GM adK adV) l ad (d + 1) mX10_owesTo 4 [(0, .ref (ad 0)), (1, .int x1), (2, .int (0 : Int32)), (3, .int (0 : Int32))] [] h (qi R)) : AW (GM adK adV) l ad (d + 1) mX10_owesTo 0 [(0, .ref (ad 0)), (1, .int x1)] [] h (qi R) := by
  refine aw_iconst (v := 0) dX10_owesTo_0 (by decide) ?_
  refine aw_istore_n (ls' := [(2, .int (0 : Int32)), (0, .ref (ad 0)), (1, .int x1)]) dX10_owesTo_1 rfl (by decide) rfl ?_
  refine aw_iconst (v := 0) dX10_owesTo_2 (by decide) ?_
  refine aw_istore_n (ls' := [(3, .int (0 : Int32)), (2, .int (0 : Int32)), (0, .ref (ad 0)), (1, .int x1)]) dX10_owesTo_3 rfl (by decide) rfl ?_
  exact aw_ls [2, 3, 1, 0] rfl H
set_option maxRecDepth 8000 in
set_option maxHeartbeats 1000000 in
theorem bX10_owesTo_4 {adK adV : Nat → Nat} {l : Launch} {ad : Nat → Nat} {d : Nat} {R : Int32 → aH → Prop}   (x1 : Int32) (x2 : Int32) (x3 : Int32)  (h : aH)
    (H : ((h.1 25 0) ≤ x3 → (R x2 h)) ∧ (¬ (h.1 25 0) ≤ x3 → (AW (GM adK adV) l ad d mX10_isOpen 0 [(0, .ref (ad 0)), (1, .int (0 : Int32)), (2, .int x3)] [] h (qi fun z2 h1 => (z2 = 0 → (AW (GM adK adV) l ad (d + 1) mX10_owesTo 46 [(0, .ref (ad 0)), (1, .int x1), (3, .int x3)] [.int (0 : Int32), .int x2] h1 (qi R))) ∧ (¬ z2 = 0 → (vp_in x3 184 ∧ ((¬ (h1.1 31 x3.toNatClampNeg) = x1 → (AW (GM adK adV) l ad (d + 1) mX10_owesTo 46 [(0, .ref (ad 0)), (1, .int x1), (3, .int x3)] [.int (0 : Int32), .int x2] h1 (qi R))) ∧ ((h1.1 31 x3.toNatClampNeg) = x1 → (AW (GM adK adV) l ad (d + 1) mX10_owesTo 46 [(0, .ref (ad 0)), (1, .int x1), (3, .int x3)] [.int ((1 : Int32) <<< ((h1.1 30 x3.toNatClampNeg) &&& 31)), .int x2] h1 (qi R)))))))))) : AW (GM adK adV) l ad (d + 1) mX10_owesTo 4 [(0, .ref (ad 0)), (1, .int x1), (2, .int x2), (3, .int x3)] [] h (qi R) := by
  refine aw_iload_n dX10_owesTo_4 rfl 3 rfl ?_
  refine aw_aload_n dX10_owesTo_5 rfl 0 rfl ?_
  refine aw_get dX10_owesTo_6 shM0 ckX10 flX10_87 (v := .ref (ad 25)) rfl ?_
  refine aw_iconst (v := 0) dX10_owesTo_9 (by decide) ?_
  refine aw_ialdK (t0 := 0) (j := 0) dX10_owesTo_10 shM25 rfl (by decide) (vp_inK (by decide) (by decide)) ?_
  refine aw_icmp_ge (tgt := 54) dX10_owesTo_11 (by decide) (fun hc6 => ?_) (fun hc6 => ?_)
  · replace H := H.1 hc6
    refine aw_iload_n dX10_owesTo_54 rfl 2 rfl ?_
    exact aw_iret dX10_owesTo_55 rfl ⟨_, rfl, H⟩
  · replace H := H.2 hc6
    refine aw_iload_n dX10_owesTo_14 rfl 2 rfl ?_
    refine aw_aload_n dX10_owesTo_15 rfl 0 rfl ?_
    refine aw_iconst (v := 0) dX10_owesTo_16 (by decide) ?_
    refine aw_iload_n dX10_owesTo_17 rfl 3 rfl ?_
    refine cvX10_isOpen dX10_owesTo_18 mlX10_402 shM0 (Nat.le_of_ble_eq_true rfl) H (fun z2 h1 H => ?_)
    refine aw_if_eq (tgt := 45) dX10_owesTo_21 (by decide) (fun hc5 => ?_) (fun hc5 => ?_)
    · replace H := H.1 hc5
      refine aw_iconst (v := 0) dX10_owesTo_45 (by decide) ?_
      exact aw_ls [0, 1, 3] rfl H
    · replace H := H.2 hc5
      refine aw_aload_n dX10_owesTo_24 rfl 0 rfl ?_
      refine aw_get dX10_owesTo_25 shM0 ckX10 flX10_105 (v := .ref (ad 31)) rfl ?_
      refine aw_iload_n dX10_owesTo_28 rfl 3 rfl ?_
      obtain ⟨hi3, H⟩ := H
      refine aw_ialdK (t0 := 0) (j := x3.toNatClampNeg) dX10_owesTo_29 shM31 rfl rfl hi3 ?_
      refine aw_iload_n dX10_owesTo_30 rfl 1 rfl ?_
      refine aw_icmp_ne (tgt := 45) dX10_owesTo_31 (by decide) (fun hc4 => ?_) (fun hc4 => ?_)
      · replace H := H.1 hc4
        refine aw_iconst (v := 0) dX10_owesTo_45 (by decide) ?_
        exact aw_ls [0, 1, 3] rfl H
      · replace H := H.2 hc4
        refine aw_iconst (v := 1) dX10_owesTo_34 (by decide) ?_
        refine aw_aload_n dX10_owesTo_35 rfl 0 rfl ?_
        refine aw_get dX10_owesTo_36 shM0 ckX10 flX10_102 (v := .ref (ad 30)) rfl ?_
        refine aw_iload_n dX10_owesTo_39 rfl 3 rfl ?_
        refine aw_ialdK (t0 := 0) (j := x3.toNatClampNeg) dX10_owesTo_40 shM30 rfl rfl hi3 ?_
        refine aw_ishl dX10_owesTo_41 ?_
        refine aw_goto (tgt := 46) dX10_owesTo_42 (by decide) ?_
        exact aw_ls [0, 1, 3] rfl H
set_option maxRecDepth 8000 in
set_option maxHeartbeats 1000000 in
theorem bX10_owesTo_46 {adK adV : Nat → Nat} {l : Launch} {ad : Nat → Nat} {d : Nat} {R : Int32 → aH → Prop}   (x1 : Int32) (x3 : Int32) (s0 : Int32) (s1 : Int32)  (h : aH)
    (H : AW (GM adK adV) l ad (d + 1) mX10_owesTo 4 [(0, .ref (ad 0)), (1, .int x1), (2, .int (s1 ||| s0)), (3, .int (x3 + (1 : Int32)))] [] h (qi R)) : AW (GM adK adV) l ad (d + 1) mX10_owesTo 46 [(0, .ref (ad 0)), (1, .int x1), (3, .int x3)] [.int s0, .int s1] h (qi R) := by
  refine aw_ior dX10_owesTo_46 ?_
  refine aw_istore_n (ls' := [(2, .int (s1 ||| s0)), (0, .ref (ad 0)), (1, .int x1), (3, .int x3)]) dX10_owesTo_47 rfl (by decide) rfl ?_
  refine aw_inc (mm := (1)) (ls' := [(3, .int (x3 + (1 : Int32))), (2, .int (s1 ||| s0)), (0, .ref (ad 0)), (1, .int x1)]) dX10_owesTo_48 (by decide) (j := 3) rfl (by decide) rfl ?_
  refine aw_goto (tgt := 4) dX10_owesTo_51 (by decide) ?_
  exact aw_ls [2, 3, 1, 0] rfl H
set_option maxRecDepth 8000 in
set_option maxHeartbeats 1000000 in
theorem bX10_ring_0 {adK adV : Nat → Nat} {l : Launch} {ad : Nat → Nat} {d : Nat} {R : Int32 → aH → Prop}     (h : aH)
    (H : AW (GM adK adV) l ad (d + 1) mX10_ring 9 [(0, .ref (ad 0)), (1, .int (0 : Int32)), (2, .int (0 : Int32))] [] (sI h 0 0 (0 : Int32)) (qi R)) : AW (GM adK adV) l ad (d + 1) mX10_ring 0 [(0, .ref (ad 0))] [] h (qi R) := by
  refine aw_aload_n dX10_ring_0 rfl 0 rfl ?_
  refine aw_iconst (v := 0) dX10_ring_1 (by decide) ?_
  refine aw_putI dX10_ring_2 shM0 ckX10 flX10_160 rfl (fun _ => rfl) rfl rfl ?_
  refine aw_iconst (v := 0) dX10_ring_5 (by decide) ?_
  refine aw_istore_n (ls' := [(1, .int (0 : Int32)), (0, .ref (ad 0))]) dX10_ring_6 rfl (by decide) rfl ?_
  refine aw_iconst (v := 0) dX10_ring_7 (by decide) ?_
  refine aw_istore_n (ls' := [(2, .int (0 : Int32)), (1, .int (0 : Int32)), (0, .ref (ad 0))]) dX10_ring_8 rfl (by decide) rfl ?_
  exact aw_ls [2, 1, 0] rfl H
set_option maxRecDepth 8000 in
set_option maxHeartbeats 1000000 in
theorem bX10_ring_9 {adK adV : Nat → Nat} {l : Launch} {ad : Nat → Nat} {d : Nat} {R : Int32 → aH → Prop}   (x1 : Int32) (x2 : Int32)  (h : aH)
    (H : ((h.1 2 0) ≤ x2 → (R x1 h)) ∧ (¬ (h.1 2 0) ≤ x2 → (AW (GM adK adV) l ad d mX10_owesTo 0 [(0, .ref (ad 0)), (1, .int x2)] [] h (qi fun z2 h1 => AW (GM adK adV) l ad (d + 1) mX10_ring 28 [(0, .ref (ad 0)), (1, .int x1), (2, .int x2), (3, .int z2), (4, .int (0 : Int32))] [] h1 (qi R))))) : AW (GM adK adV) l ad (d + 1) mX10_ring 9 [(0, .ref (ad 0)), (1, .int x1), (2, .int x2)] [] h (qi R) := by
  refine aw_iload_n dX10_ring_9 rfl 2 rfl ?_
  refine aw_aload_n dX10_ring_10 rfl 0 rfl ?_
  refine aw_get dX10_ring_11 shM0 ckX10 flX10_13 (v := .ref (ad 2)) rfl ?_
  refine aw_iconst (v := 0) dX10_ring_14 (by decide) ?_
  refine aw_ialdK (t0 := 0) (j := 0) dX10_ring_15 shM2 rfl (by decide) (vp_inK (by decide) (by decide)) ?_
  refine aw_icmp_ge (tgt := 100) dX10_ring_16 (by decide) (fun hc3 => ?_) (fun hc3 => ?_)
  · replace H := H.1 hc3
    refine aw_iload_n dX10_ring_100 rfl 1 rfl ?_
    exact aw_iret dX10_ring_101 rfl ⟨_, rfl, H⟩
  · replace H := H.2 hc3
    refine aw_aload_n dX10_ring_19 rfl 0 rfl ?_
    refine aw_iload_n dX10_ring_20 rfl 2 rfl ?_
    refine cvX10_owesTo dX10_ring_21 mlX10_519 shM0 (Nat.le_of_ble_eq_true rfl) H (fun z2 h1 H => ?_)
    refine aw_istore_n (ls' := [(3, .int z2), (0, .ref (ad 0)), (1, .int x1), (2, .int x2)]) dX10_ring_24 rfl (by decide) rfl ?_
    refine aw_iconst (v := 0) dX10_ring_25 (by decide) ?_
    refine aw_istore (ls' := [(4, .int (0 : Int32)), (3, .int z2), (0, .ref (ad 0)), (1, .int x1), (2, .int x2)]) dX10_ring_26 (by decide) rfl ?_
    exact aw_ls [2, 3, 4, 1, 0] rfl H
set_option maxRecDepth 8000 in
set_option maxHeartbeats 1000000 in
theorem bX10_ring_28 {adK adV : Nat → Nat} {l : Launch} {ad : Nat → Nat} {d : Nat} {R : Int32 → aH → Prop}   (x1 : Int32) (x2 : Int32) (x3 : Int32) (x4 : Int32)  (h : aH)
    (H : ((6 : Int32) ≤ x4 → (∀ t1 : Int32, t1 = (x1 ||| (((x3 >>> (x2 &&& 31)) &&& (1 : Int32)) <<< (x2 &&& 31))) → (AW (GM adK adV) l ad (d + 1) mX10_ring 9 [(0, .ref (ad 0)), (1, .int t1), (2, .int (x2 + (1 : Int32)))] [] h (qi R)))) ∧ (¬ (6 : Int32) ≤ x4 → (AW (GM adK adV) l ad (d + 1) mX10_ring 38 [(0, .ref (ad 0)), (1, .int x1), (2, .int x2), (3, .int x3), (4, .int x4), (5, .int (0 : Int32))] [] h (qi R)))) : AW (GM adK adV) l ad (d + 1) mX10_ring 28 [(0, .ref (ad 0)), (1, .int x1), (2, .int x2), (3, .int x3), (4, .int x4)] [] h (qi R) := by
  refine aw_iload dX10_ring_28 4 rfl ?_
  refine aw_bipush (v := 6) dX10_ring_30 (by decide) ?_
  refine aw_icmp_ge (tgt := 84) dX10_ring_32 (by decide) (fun hc2 => ?_) (fun hc2 => ?_)
  · replace H := H.1 hc2
    refine aw_iload_n dX10_ring_84 rfl 1 rfl ?_
    refine aw_iload_n dX10_ring_85 rfl 3 rfl ?_
    refine aw_iload_n dX10_ring_86 rfl 2 rfl ?_
    refine aw_ishr dX10_ring_87 ?_
    refine aw_iconst (v := 1) dX10_ring_88 (by decide) ?_
    refine aw_iand dX10_ring_89 ?_
    refine aw_iload_n dX10_ring_90 rfl 2 rfl ?_
    refine aw_ishl dX10_ring_91 ?_
    refine aw_ior dX10_ring_92 ?_
    refine aw_topi (fun t1 et1 => ?_)
    replace H := H t1 et1
    refine aw_istore_n (ls' := [(1, .int t1), (0, .ref (ad 0)), (2, .int x2), (3, .int x3), (4, .int x4)]) dX10_ring_93 rfl (by decide) rfl ?_
    refine aw_inc (mm := (1)) (ls' := [(2, .int (x2 + (1 : Int32))), (1, .int t1), (0, .ref (ad 0)), (3, .int x3), (4, .int x4)]) dX10_ring_94 (by decide) (j := 2) rfl (by decide) rfl ?_
    refine aw_goto (tgt := 9) dX10_ring_97 (by decide) ?_
    exact aw_ls [2, 1, 0] rfl H
  · replace H := H.2 hc2
    refine aw_iconst (v := 0) dX10_ring_35 (by decide) ?_
    refine aw_istore (ls' := [(5, .int (0 : Int32)), (0, .ref (ad 0)), (1, .int x1), (2, .int x2), (3, .int x3), (4, .int x4)]) dX10_ring_36 (by decide) rfl ?_
    exact aw_ls [1, 2, 3, 4, 5, 0] rfl H
set_option maxRecDepth 8000 in
set_option maxHeartbeats 1000000 in
theorem bX10_ring_38 {adK adV : Nat → Nat} {l : Launch} {ad : Nat → Nat} {d : Nat} {R : Int32 → aH → Prop}   (x1 : Int32) (x2 : Int32) (x3 : Int32) (x4 : Int32) (x5 : Int32)  (h : aH)
    (H : ((h.1 2 0) ≤ x5 → (AW (GM adK adV) l ad (d + 1) mX10_ring 28 [(0, .ref (ad 0)), (1, .int x1), (2, .int x2), (3, .int x3), (4, .int (x4 + (1 : Int32)))] [] h (qi R))) ∧ (¬ (h.1 2 0) ≤ x5 → ((¬ ((x3 >>> (x5 &&& 31)) &&& (1 : Int32)) = (1 : Int32) → (AW (GM adK adV) l ad (d + 1) mX10_ring 38 [(0, .ref (ad 0)), (1, .int x1), (2, .int x2), (3, .int (x3 ||| (0 : Int32))), (4, .int x4), (5, .int (x5 + (1 : Int32)))] [] h (qi R))) ∧ (((x3 >>> (x5 &&& 31)) &&& (1 : Int32)) = (1 : Int32) → (AW (GM adK adV) l ad d mX10_owesTo 0 [(0, .ref (ad 0)), (1, .int x5)] [] h (qi fun z2 h1 => AW (GM adK adV) l ad (d + 1) mX10_ring 38 [(0, .ref (ad 0)), (1, .int x1), (2, .int x2), (3, .int (x3 ||| z2)), (4, .int x4), (5, .int (x5 + (1 : Int32)))] [] h1 (qi R))))))) : AW (GM adK adV) l ad (d + 1) mX10_ring 38 [(0, .ref (ad 0)), (1, .int x1), (2, .int x2), (3, .int x3), (4, .int x4), (5, .int x5)] [] h (qi R) := by
  refine aw_iload dX10_ring_38 5 rfl ?_
  refine aw_aload_n dX10_ring_40 rfl 0 rfl ?_
  refine aw_get dX10_ring_41 shM0 ckX10 flX10_13 (v := .ref (ad 2)) rfl ?_
  refine aw_iconst (v := 0) dX10_ring_44 (by decide) ?_
  refine aw_ialdK (t0 := 0) (j := 0) dX10_ring_45 shM2 rfl (by decide) (vp_inK (by decide) (by decide)) ?_
  refine aw_icmp_ge (tgt := 78) dX10_ring_46 (by decide) (fun hc4 => ?_) (fun hc4 => ?_)
  · replace H := H.1 hc4
    refine aw_inc (mm := (1)) (ls' := [(4, .int (x4 + (1 : Int32))), (0, .ref (ad 0)), (1, .int x1), (2, .int x2), (3, .int x3), (5, .int x5)]) dX10_ring_78 (by decide) (j := 4) rfl (by decide) rfl ?_
    refine aw_goto (tgt := 28) dX10_ring_81 (by decide) ?_
    exact aw_ls [1, 2, 3, 4, 0] rfl H
  · replace H := H.2 hc4
    refine aw_iload_n dX10_ring_49 rfl 3 rfl ?_
    refine aw_iload_n dX10_ring_50 rfl 3 rfl ?_
    refine aw_iload dX10_ring_51 5 rfl ?_
    refine aw_ishr dX10_ring_53 ?_
    refine aw_iconst (v := 1) dX10_ring_54 (by decide) ?_
    refine aw_iand dX10_ring_55 ?_
    refine aw_iconst (v := 1) dX10_ring_56 (by decide) ?_
    refine aw_icmp_ne (tgt := 69) dX10_ring_57 (by decide) (fun hc3 => ?_) (fun hc3 => ?_)
    · replace H := H.1 hc3
      refine aw_iconst (v := 0) dX10_ring_69 (by decide) ?_
      refine aw_ior dX10_ring_70 ?_
      refine aw_istore_n (ls' := [(3, .int (x3 ||| (0 : Int32))), (0, .ref (ad 0)), (1, .int x1), (2, .int x2), (4, .int x4), (5, .int x5)]) dX10_ring_71 rfl (by decide) rfl ?_
      refine aw_inc (mm := (1)) (ls' := [(5, .int (x5 + (1 : Int32))), (3, .int (x3 ||| (0 : Int32))), (0, .ref (ad 0)), (1, .int x1), (2, .int x2), (4, .int x4)]) dX10_ring_72 (by decide) (j := 5) rfl (by decide) rfl ?_
      refine aw_goto (tgt := 38) dX10_ring_75 (by decide) ?_
      exact aw_ls [2, 3, 4, 1, 5, 0] rfl H
    · replace H := H.2 hc3
      refine aw_aload_n dX10_ring_60 rfl 0 rfl ?_
      refine aw_iload dX10_ring_61 5 rfl ?_
      refine cvX10_owesTo dX10_ring_63 mlX10_519 shM0 (Nat.le_of_ble_eq_true rfl) H (fun z2 h1 H => ?_)
      refine aw_goto (tgt := 70) dX10_ring_66 (by decide) ?_
      refine aw_ior dX10_ring_70 ?_
      refine aw_istore_n (ls' := [(3, .int (x3 ||| z2)), (0, .ref (ad 0)), (1, .int x1), (2, .int x2), (4, .int x4), (5, .int x5)]) dX10_ring_71 rfl (by decide) rfl ?_
      refine aw_inc (mm := (1)) (ls' := [(5, .int (x5 + (1 : Int32))), (3, .int (x3 ||| z2)), (0, .ref (ad 0)), (1, .int x1), (2, .int x2), (4, .int x4)]) dX10_ring_72 (by decide) (j := 5) rfl (by decide) rfl ?_
      refine aw_goto (tgt := 38) dX10_ring_75 (by decide) ?_
      exact aw_ls [2, 3, 4, 1, 5, 0] rfl H
set_option maxRecDepth 8000 in
set_option maxHeartbeats 1000000 in
theorem bX10_oldest_0 {adK adV : Nat → Nat} {l : Launch} {ad : Nat → Nat} {d : Nat} {R : Int32 → aH → Prop}   (x1 : Int32)  (h : aH)
    (H : AW (GM adK adV) l ad d mX10_isDebt 0 [(0, .ref (ad 0)), (1, .int x1)] [] (sI h 0 0 (0 : Int32)) (qi fun z2 h1 => (¬ z2 = 0 → (AW (GM adK adV) l ad d mX10_oldestOf 0 [(0, .ref (ad 0)), (1, .int (0 : Int32)), (2, .int x1)] [] h1 (qi fun z4 h3 => (¬ z4 = (-1 : Int32) → (R z4 h3)) ∧ (z4 = (-1 : Int32) → (R (-2 : Int32) h3))))) ∧ (z2 = 0 → (R (-1 : Int32) h1)))) : AW (GM adK adV) l ad (d + 1) mX10_oldest 0 [(0, .ref (ad 0)), (1, .int x1)] [] h (qi R) := by
  refine aw_aload_n dX10_oldest_0 rfl 0 rfl ?_
  refine aw_iconst (v := 0) dX10_oldest_1 (by decide) ?_
  refine aw_putI dX10_oldest_2 shM0 ckX10 flX10_160 rfl (fun _ => rfl) rfl rfl ?_
  refine aw_aload_n dX10_oldest_5 rfl 0 rfl ?_
  refine aw_iload_n dX10_oldest_6 rfl 1 rfl ?_
  refine cvX10_isDebt dX10_oldest_7 mlX10_456 shM0 (Nat.le_of_ble_eq_true rfl) H (fun z2 h1 H => ?_)
  refine aw_if_ne (tgt := 15) dX10_oldest_10 (by decide) (fun hc6 => ?_) (fun hc6 => ?_)
  · replace H := H.1 hc6
    refine aw_aload_n dX10_oldest_15 rfl 0 rfl ?_
    refine aw_iconst (v := 0) dX10_oldest_16 (by decide) ?_
    refine aw_iload_n dX10_oldest_17 rfl 1 rfl ?_
    refine cvX10_oldestOf dX10_oldest_18 mlX10_368 shM0 (Nat.le_of_ble_eq_true rfl) H (fun z4 h3 H => ?_)
    refine aw_istore_n (ls' := [(2, .int z4), (0, .ref (ad 0)), (1, .int x1)]) dX10_oldest_21 rfl (by decide) rfl ?_
    refine aw_iload_n dX10_oldest_22 rfl 0 rfl ?_
    refine aw_iconst (v := (-1)) dX10_oldest_23 (by decide) ?_
    refine aw_icmp_ne (tgt := 32) dX10_oldest_24 (by decide) (fun hc5 => ?_) (fun hc5 => ?_)
    · replace H := H.1 hc5
      refine aw_iload_n dX10_oldest_32 rfl 0 rfl ?_
      exact aw_iret dX10_oldest_33 rfl ⟨_, rfl, H⟩
    · replace H := H.2 hc5
      refine aw_bipush (v := (-2)) dX10_oldest_27 (by decide) ?_
      refine aw_goto (tgt := 33) dX10_oldest_29 (by decide) ?_
      exact aw_iret dX10_oldest_33 rfl ⟨_, rfl, H⟩
  · replace H := H.2 hc6
    refine aw_iconst (v := (-1)) dX10_oldest_13 (by decide) ?_
    exact aw_iret dX10_oldest_14 rfl ⟨_, rfl, H⟩
set_option maxRecDepth 8000 in
set_option maxHeartbeats 1000000 in
theorem bX10_see_0 {adK adV : Nat → Nat} {l : Launch} {ad : Nat → Nat} {d : Nat} {R : Int32 → aH → Prop}   (x1 : Int32) (x2 : Int32) (x3 : Int32)  (h : aH)
    (H : (x1 < (1 : Int32) → (R (-1 : Int32) (sI h 0 0 (0 : Int32)))) ∧ (¬ x1 < (1 : Int32) → (((40 : Int32) < x1 → (R (-1 : Int32) (sI h 0 0 (0 : Int32)))) ∧ (¬ (40 : Int32) < x1 → ((x2 < 0 → (R (-1 : Int32) (sI h 0 0 (0 : Int32)))) ∧ (¬ x2 < 0 → ((((sI h 0 0 (0 : Int32)).1 2 2) ≤ x2 → (R (-1 : Int32) (sI h 0 0 (0 : Int32)))) ∧ (¬ ((sI h 0 0 (0 : Int32)).1 2 2) ≤ x2 → ((¬ ((sI h 0 0 (0 : Int32)).1 0 62) = (24 : Int32) → (vp_in ((sI h 0 0 (0 : Int32)).1 0 62) 24 ∧ (vp_in ((sI (sI h 0 0 (0 : Int32)) 41 ((sI h 0 0 (0 : Int32)).1 0 62).toNatClampNeg x1).1 0 62) 24 ∧ (∀ h3 : aH, h3 = (sI (sI (sI h 0 0 (0 : Int32)) 41 ((sI h 0 0 (0 : Int32)).1 0 62).toNatClampNeg x1) 42 ((sI (sI h 0 0 (0 : Int32)) 41 ((sI h 0 0 (0 : Int32)).1 0 62).toNatClampNeg x1).1 0 62).toNatClampNeg x2) → (vp_in (h3.1 0 62) 24 ∧ (vp_in ((sI h3 43 (h3.1 0 62).toNatClampNeg (vp_nar .boolean x3)).1 0 62) 24 ∧ (∀ h6 : aH, h6 = (sI (sI h3 43 (h3.1 0 62).toNatClampNeg (vp_nar .boolean x3)) 44 ((sI h3 43 (h3.1 0 62).toNatClampNeg (vp_nar .boolean x3)).1 0 62).toNatClampNeg (-1 : Int32)) → (R (((sI h6 0 62 ((h6.1 0 62) + (1 : Int32))).1 0 62) - (1 : Int32)) (sI h6 0 62 ((h6.1 0 62) + (1 : Int32))))))))))) ∧ (((sI h 0 0 (0 : Int32)).1 0 62) = (24 : Int32) → (R (-1 : Int32) (sI h 0 0 (0 : Int32))))))))))))) : AW (GM adK adV) l ad d mX10_see 0 [(0, .ref (ad 0)), (1, .int x1), (2, .int x2), (3, .int x3)] [] h (qi R) := by
  refine aw_aload_n dX10_see_0 rfl 0 rfl ?_
  refine aw_iconst (v := 0) dX10_see_1 (by decide) ?_
  refine aw_putI dX10_see_2 shM0 ckX10 flX10_160 rfl (fun _ => rfl) rfl rfl ?_
  refine aw_iload_n dX10_see_5 rfl 1 rfl ?_
  refine aw_iconst (v := 1) dX10_see_6 (by decide) ?_
  refine aw_icmp_lt (tgt := 39) dX10_see_7 (by decide) (fun hc11 => ?_) (fun hc11 => ?_)
  · replace H := H.1 hc11
    refine aw_iconst (v := (-1)) dX10_see_39 (by decide) ?_
    exact aw_iret dX10_see_40 rfl ⟨_, rfl, H⟩
  · replace H := H.2 hc11
    refine aw_iload_n dX10_see_10 rfl 1 rfl ?_
    refine aw_bipush (v := 40) dX10_see_11 (by decide) ?_
    refine aw_icmp_gt (tgt := 39) dX10_see_13 (by decide) (fun hc10 => ?_) (fun hc10 => ?_)
    · replace H := H.1 hc10
      refine aw_iconst (v := (-1)) dX10_see_39 (by decide) ?_
      exact aw_iret dX10_see_40 rfl ⟨_, rfl, H⟩
    · replace H := H.2 hc10
      refine aw_iload_n dX10_see_16 rfl 2 rfl ?_
      refine aw_if_lt (tgt := 39) dX10_see_17 (by decide) (fun hc9 => ?_) (fun hc9 => ?_)
      · replace H := H.1 hc9
        refine aw_iconst (v := (-1)) dX10_see_39 (by decide) ?_
        exact aw_iret dX10_see_40 rfl ⟨_, rfl, H⟩
      · replace H := H.2 hc9
        refine aw_iload_n dX10_see_20 rfl 2 rfl ?_
        refine aw_aload_n dX10_see_21 rfl 0 rfl ?_
        refine aw_get dX10_see_22 shM0 ckX10 flX10_13 (v := .ref (ad 2)) rfl ?_
        refine aw_iconst (v := 2) dX10_see_25 (by decide) ?_
        refine aw_ialdK (t0 := 0) (j := 2) dX10_see_26 shM2 rfl (by decide) (vp_inK (by decide) (by decide)) ?_
        refine aw_icmp_ge (tgt := 39) dX10_see_27 (by decide) (fun hc8 => ?_) (fun hc8 => ?_)
        · replace H := H.1 hc8
          refine aw_iconst (v := (-1)) dX10_see_39 (by decide) ?_
          exact aw_iret dX10_see_40 rfl ⟨_, rfl, H⟩
        · replace H := H.2 hc8
          refine aw_aload_n dX10_see_30 rfl 0 rfl ?_
          refine aw_get dX10_see_31 shM0 ckX10 flX10_325 (v := .int ((sI h 0 0 (0 : Int32)).1 0 62)) rfl ?_
          refine aw_bipush (v := 24) dX10_see_34 (by decide) ?_
          refine aw_icmp_ne (tgt := 41) dX10_see_36 (by decide) (fun hc7 => ?_) (fun hc7 => ?_)
          · replace H := H.1 hc7
            refine aw_aload_n dX10_see_41 rfl 0 rfl ?_
            refine aw_get dX10_see_42 shM0 ckX10 flX10_141 (v := .ref (ad 41)) rfl ?_
            refine aw_aload_n dX10_see_45 rfl 0 rfl ?_
            refine aw_get dX10_see_46 shM0 ckX10 flX10_325 (v := .int ((sI h 0 0 (0 : Int32)).1 0 62)) rfl ?_
            refine aw_iload_n dX10_see_49 rfl 1 rfl ?_
            obtain ⟨hi1, H⟩ := H
            refine aw_iastK (t0 := 0) (j := ((sI h 0 0 (0 : Int32)).1 0 62).toNatClampNeg) dX10_see_50 shM41 rfl rfl hi1 ?_
            refine aw_aload_n dX10_see_51 rfl 0 rfl ?_
            refine aw_get dX10_see_52 shM0 ckX10 flX10_144 (v := .ref (ad 42)) rfl ?_
            refine aw_aload_n dX10_see_55 rfl 0 rfl ?_
            refine aw_get dX10_see_56 shM0 ckX10 flX10_325 (v := .int ((sI (sI h 0 0 (0 : Int32)) 41 ((sI h 0 0 (0 : Int32)).1 0 62).toNatClampNeg x1).1 0 62)) rfl ?_
            refine aw_iload_n dX10_see_59 rfl 2 rfl ?_
            obtain ⟨hi2, H⟩ := H
            refine aw_iastK (t0 := 0) (j := ((sI (sI h 0 0 (0 : Int32)) 41 ((sI h 0 0 (0 : Int32)).1 0 62).toNatClampNeg x1).1 0 62).toNatClampNeg) dX10_see_60 shM42 rfl rfl hi2 ?_
            refine aw_toph (fun h3 eh3 => ?_)
            replace H := H h3 eh3
            refine aw_aload_n dX10_see_61 rfl 0 rfl ?_
            refine aw_get dX10_see_62 shM0 ckX10 flX10_147 (v := .ref (ad 43)) rfl ?_
            refine aw_aload_n dX10_see_65 rfl 0 rfl ?_
            refine aw_get dX10_see_66 shM0 ckX10 flX10_325 (v := .int (h3.1 0 62)) rfl ?_
            refine aw_iload_n dX10_see_69 rfl 3 rfl ?_
            obtain ⟨hi4, H⟩ := H
            refine aw_zastK (t0 := 2) (j := (h3.1 0 62).toNatClampNeg) dX10_see_70 shM43 rfl rfl hi4 ?_
            refine aw_aload_n dX10_see_71 rfl 0 rfl ?_
            refine aw_get dX10_see_72 shM0 ckX10 flX10_151 (v := .ref (ad 44)) rfl ?_
            refine aw_aload_n dX10_see_75 rfl 0 rfl ?_
            refine aw_get dX10_see_76 shM0 ckX10 flX10_325 (v := .int ((sI h3 43 (h3.1 0 62).toNatClampNeg (vp_nar .boolean x3)).1 0 62)) rfl ?_
            refine aw_iconst (v := (-1)) dX10_see_79 (by decide) ?_
            obtain ⟨hi5, H⟩ := H
            refine aw_iastK (t0 := 0) (j := ((sI h3 43 (h3.1 0 62).toNatClampNeg (vp_nar .boolean x3)).1 0 62).toNatClampNeg) dX10_see_80 shM44 rfl rfl hi5 ?_
            refine aw_toph (fun h6 eh6 => ?_)
            replace H := H h6 eh6
            refine aw_aload_n dX10_see_81 rfl 0 rfl ?_
            refine aw_dup dX10_see_82 rfl ?_
            refine aw_get dX10_see_83 shM0 ckX10 flX10_325 (v := .int (h6.1 0 62)) rfl ?_
            refine aw_iconst (v := 1) dX10_see_86 (by decide) ?_
            refine aw_iadd dX10_see_87 ?_
            refine aw_putI dX10_see_88 shM0 ckX10 flX10_325 rfl (fun _ => rfl) rfl rfl ?_
            refine aw_aload_n dX10_see_91 rfl 0 rfl ?_
            refine aw_get dX10_see_92 shM0 ckX10 flX10_325 (v := .int ((sI h6 0 62 ((h6.1 0 62) + (1 : Int32))).1 0 62)) rfl ?_
            refine aw_iconst (v := 1) dX10_see_95 (by decide) ?_
            refine aw_isub dX10_see_96 ?_
            exact aw_iret dX10_see_97 rfl ⟨_, rfl, H⟩
          · replace H := H.2 hc7
            refine aw_iconst (v := (-1)) dX10_see_39 (by decide) ?_
            exact aw_iret dX10_see_40 rfl ⟨_, rfl, H⟩
set_option maxRecDepth 8000 in
set_option maxHeartbeats 1000000 in
theorem bX10_out_0 {adK adV : Nat → Nat} {l : Launch} {ad : Nat → Nat} {d : Nat} {R : Int32 → aH → Prop}   (x1 : Int32)  (h : aH)
    (H : (x1 < 0 → (R (-1 : Int32) (sI h 0 0 (0 : Int32)))) ∧ (¬ x1 < 0 → ((((sI h 0 0 (0 : Int32)).1 0 62) ≤ x1 → (R (-1 : Int32) (sI h 0 0 (0 : Int32)))) ∧ (¬ ((sI h 0 0 (0 : Int32)).1 0 62) ≤ x1 → ((¬ ((sI h 0 0 (0 : Int32)).1 0 62) = (24 : Int32) → (vp_in ((sI h 0 0 (0 : Int32)).1 0 62) 24 ∧ (∀ h2 : aH, h2 = (sI (sI (sI h 0 0 (0 : Int32)) 44 ((sI h 0 0 (0 : Int32)).1 0 62).toNatClampNeg x1) 0 62 (((sI (sI h 0 0 (0 : Int32)) 44 ((sI h 0 0 (0 : Int32)).1 0 62).toNatClampNeg x1).1 0 62) + (1 : Int32))) → (R ((h2.1 0 62) - (1 : Int32)) h2)))) ∧ (((sI h 0 0 (0 : Int32)).1 0 62) = (24 : Int32) → (R (-1 : Int32) (sI h 0 0 (0 : Int32))))))))) : AW (GM adK adV) l ad d mX10_out 0 [(0, .ref (ad 0)), (1, .int x1)] [] h (qi R) := by
  refine aw_aload_n dX10_out_0 rfl 0 rfl ?_
  refine aw_iconst (v := 0) dX10_out_1 (by decide) ?_
  refine aw_putI dX10_out_2 shM0 ckX10 flX10_160 rfl (fun _ => rfl) rfl rfl ?_
  refine aw_iload_n dX10_out_5 rfl 1 rfl ?_
  refine aw_if_lt (tgt := 26) dX10_out_6 (by decide) (fun hc5 => ?_) (fun hc5 => ?_)
  · replace H := H.1 hc5
    refine aw_iconst (v := (-1)) dX10_out_26 (by decide) ?_
    exact aw_iret dX10_out_27 rfl ⟨_, rfl, H⟩
  · replace H := H.2 hc5
    refine aw_iload_n dX10_out_9 rfl 1 rfl ?_
    refine aw_aload_n dX10_out_10 rfl 0 rfl ?_
    refine aw_get dX10_out_11 shM0 ckX10 flX10_325 (v := .int ((sI h 0 0 (0 : Int32)).1 0 62)) rfl ?_
    refine aw_icmp_ge (tgt := 26) dX10_out_14 (by decide) (fun hc4 => ?_) (fun hc4 => ?_)
    · replace H := H.1 hc4
      refine aw_iconst (v := (-1)) dX10_out_26 (by decide) ?_
      exact aw_iret dX10_out_27 rfl ⟨_, rfl, H⟩
    · replace H := H.2 hc4
      refine aw_aload_n dX10_out_17 rfl 0 rfl ?_
      refine aw_get dX10_out_18 shM0 ckX10 flX10_325 (v := .int ((sI h 0 0 (0 : Int32)).1 0 62)) rfl ?_
      refine aw_bipush (v := 24) dX10_out_21 (by decide) ?_
      refine aw_icmp_ne (tgt := 28) dX10_out_23 (by decide) (fun hc3 => ?_) (fun hc3 => ?_)
      · replace H := H.1 hc3
        refine aw_aload_n dX10_out_28 rfl 0 rfl ?_
        refine aw_get dX10_out_29 shM0 ckX10 flX10_151 (v := .ref (ad 44)) rfl ?_
        refine aw_aload_n dX10_out_32 rfl 0 rfl ?_
        refine aw_get dX10_out_33 shM0 ckX10 flX10_325 (v := .int ((sI h 0 0 (0 : Int32)).1 0 62)) rfl ?_
        refine aw_iload_n dX10_out_36 rfl 1 rfl ?_
        obtain ⟨hi1, H⟩ := H
        refine aw_iastK (t0 := 0) (j := ((sI h 0 0 (0 : Int32)).1 0 62).toNatClampNeg) dX10_out_37 shM44 rfl rfl hi1 ?_
        refine aw_aload_n dX10_out_38 rfl 0 rfl ?_
        refine aw_dup dX10_out_39 rfl ?_
        refine aw_get dX10_out_40 shM0 ckX10 flX10_325 (v := .int ((sI (sI h 0 0 (0 : Int32)) 44 ((sI h 0 0 (0 : Int32)).1 0 62).toNatClampNeg x1).1 0 62)) rfl ?_
        refine aw_iconst (v := 1) dX10_out_43 (by decide) ?_
        refine aw_iadd dX10_out_44 ?_
        refine aw_putI dX10_out_45 shM0 ckX10 flX10_325 rfl (fun _ => rfl) rfl rfl ?_
        refine aw_toph (fun h2 eh2 => ?_)
        replace H := H h2 eh2
        refine aw_aload_n dX10_out_48 rfl 0 rfl ?_
        refine aw_get dX10_out_49 shM0 ckX10 flX10_325 (v := .int (h2.1 0 62)) rfl ?_
        refine aw_iconst (v := 1) dX10_out_52 (by decide) ?_
        refine aw_isub dX10_out_53 ?_
        exact aw_iret dX10_out_54 rfl ⟨_, rfl, H⟩
      · replace H := H.2 hc3
        refine aw_iconst (v := (-1)) dX10_out_26 (by decide) ?_
        exact aw_iret dX10_out_27 rfl ⟨_, rfl, H⟩
set_option maxRecDepth 8000 in
set_option maxHeartbeats 1000000 in
theorem bX10_known_0 {adK adV : Nat → Nat} {l : Launch} {ad : Nat → Nat} {d : Nat} {R : Int32 → aH → Prop}   (x1 : Int32)  (h : aH)
    (H : (x1 < (-1 : Int32) → (R (0 : Int32) (sI h 0 0 (0 : Int32)))) ∧ (¬ x1 < (-1 : Int32) → ((x1 ≤ ((sI h 0 0 (0 : Int32)).1 0 62) → (R (1 : Int32) (sI (sI h 0 0 (0 : Int32)) 0 63 x1))) ∧ (¬ x1 ≤ ((sI h 0 0 (0 : Int32)).1 0 62) → (R (0 : Int32) (sI h 0 0 (0 : Int32))))))) : AW (GM adK adV) l ad d mX10_known 0 [(0, .ref (ad 0)), (1, .int x1)] [] h (qi R) := by
  refine aw_aload_n dX10_known_0 rfl 0 rfl ?_
  refine aw_iconst (v := 0) dX10_known_1 (by decide) ?_
  refine aw_putI dX10_known_2 shM0 ckX10 flX10_160 rfl (fun _ => rfl) rfl rfl ?_
  refine aw_iload_n dX10_known_5 rfl 1 rfl ?_
  refine aw_iconst (v := (-1)) dX10_known_6 (by decide) ?_
  refine aw_icmp_lt (tgt := 18) dX10_known_7 (by decide) (fun hc2 => ?_) (fun hc2 => ?_)
  · replace H := H.1 hc2
    refine aw_iconst (v := 0) dX10_known_18 (by decide) ?_
    exact aw_zret dX10_known_19 rfl (by decide) ⟨_, rfl, H⟩
  · replace H := H.2 hc2
    refine aw_iload_n dX10_known_10 rfl 1 rfl ?_
    refine aw_aload_n dX10_known_11 rfl 0 rfl ?_
    refine aw_get dX10_known_12 shM0 ckX10 flX10_325 (v := .int ((sI h 0 0 (0 : Int32)).1 0 62)) rfl ?_
    refine aw_icmp_le (tgt := 20) dX10_known_15 (by decide) (fun hc1 => ?_) (fun hc1 => ?_)
    · replace H := H.1 hc1
      refine aw_aload_n dX10_known_20 rfl 0 rfl ?_
      refine aw_iload_n dX10_known_21 rfl 1 rfl ?_
      refine aw_putI dX10_known_22 shM0 ckX10 flX10_138 rfl (fun _ => rfl) rfl rfl ?_
      refine aw_iconst (v := 1) dX10_known_25 (by decide) ?_
      exact aw_zret dX10_known_26 rfl (by decide) ⟨_, rfl, H⟩
    · replace H := H.2 hc1
      refine aw_iconst (v := 0) dX10_known_18 (by decide) ?_
      exact aw_zret dX10_known_19 rfl (by decide) ⟨_, rfl, H⟩
set_option maxRecDepth 8000 in
set_option maxHeartbeats 1000000 in
theorem bX10_knownMany_0 {adK adV : Nat → Nat} {l : Launch} {ad : Nat → Nat} {d : Nat} {R : Int32 → aH → Prop}     (h : aH)
    (H : (¬ (h.1 0 63) = (-1 : Int32) → (R (h.1 0 63) h)) ∧ ((h.1 0 63) = (-1 : Int32) → (R (h.1 0 62) h))) : AW (GM adK adV) l ad d mX10_knownMany 0 [(0, .ref (ad 0))] [] h (qi R) := by
  refine aw_aload_n dX10_knownMany_0 rfl 0 rfl ?_
  refine aw_get dX10_knownMany_1 shM0 ckX10 flX10_138 (v := .int (h.1 0 63)) rfl ?_
  refine aw_iconst (v := (-1)) dX10_knownMany_4 (by decide) ?_
  refine aw_icmp_ne (tgt := 15) dX10_knownMany_5 (by decide) (fun hc1 => ?_) (fun hc1 => ?_)
  · replace H := H.1 hc1
    refine aw_aload_n dX10_knownMany_15 rfl 0 rfl ?_
    refine aw_get dX10_knownMany_16 shM0 ckX10 flX10_138 (v := .int (h.1 0 63)) rfl ?_
    exact aw_iret dX10_knownMany_19 rfl ⟨_, rfl, H⟩
  · replace H := H.2 hc1
    refine aw_aload_n dX10_knownMany_8 rfl 0 rfl ?_
    refine aw_get dX10_knownMany_9 shM0 ckX10 flX10_325 (v := .int (h.1 0 62)) rfl ?_
    refine aw_goto (tgt := 19) dX10_knownMany_12 (by decide) ?_
    exact aw_iret dX10_knownMany_19 rfl ⟨_, rfl, H⟩
set_option maxRecDepth 8000 in
set_option maxHeartbeats 1000000 in
theorem bX10_isSo_0 {adK adV : Nat → Nat} {l : Launch} {ad : Nat → Nat} {d : Nat} {R : Int32 → aH → Prop}   (x1 : Int32)  (h : aH)
    (H : AW (GM adK adV) l ad (d + 1) mX10_isSo 2 [(0, .ref (ad 0)), (1, .int x1), (2, .int (0 : Int32))] [] h (qi R)) : AW (GM adK adV) l ad (d + 1) mX10_isSo 0 [(0, .ref (ad 0)), (1, .int x1)] [] h (qi R) := by
  refine aw_iconst (v := 0) dX10_isSo_0 (by decide) ?_
  refine aw_istore_n (ls' := [(2, .int (0 : Int32)), (0, .ref (ad 0)), (1, .int x1)]) dX10_isSo_1 rfl (by decide) rfl ?_
  exact aw_ls [1, 2, 0] rfl H
set_option maxRecDepth 8000 in
set_option maxHeartbeats 1000000 in
theorem bX10_isSo_2 {adK adV : Nat → Nat} {l : Launch} {ad : Nat → Nat} {d : Nat} {R : Int32 → aH → Prop}   (x1 : Int32) (x2 : Int32)  (h : aH)
    (H : AW (GM adK adV) l ad d mX10_knownMany 0 [(0, .ref (ad 0))] [] h (qi fun z2 h1 => (z2 ≤ x2 → (R (1 : Int32) h1)) ∧ (¬ z2 ≤ x2 → (vp_in x2 24 ∧ ((¬ (h1.1 45 x2.toNatClampNeg) = 0 → (AW (GM adK adV) l ad (d + 1) mX10_isSo 2 [(0, .ref (ad 0)), (1, .int x1), (2, .int (x2 + (1 : Int32)))] [] h1 (qi R))) ∧ ((h1.1 45 x2.toNatClampNeg) = 0 → ((¬ (h1.1 44 x2.toNatClampNeg) = (-1 : Int32) → (AW (GM adK adV) l ad (d + 1) mX10_isSo 2 [(0, .ref (ad 0)), (1, .int x1), (2, .int (x2 + (1 : Int32)))] [] h1 (qi R))) ∧ ((h1.1 44 x2.toNatClampNeg) = (-1 : Int32) → (((h1.1 41 x2.toNatClampNeg) = x1 → (vp_in ((8 : Int32) + (h1.1 42 x2.toNatClampNeg)) 184 ∧ ((¬ (h1.1 35 ((8 : Int32) + (h1.1 42 x2.toNatClampNeg)).toNatClampNeg) = (2 : Int32) → (AW (GM adK adV) l ad (d + 1) mX10_isSo 65 [(0, .ref (ad 0)), (1, .int x1), (2, .int x2)] [.int (0 : Int32)] h1 (qi R))) ∧ ((h1.1 35 ((8 : Int32) + (h1.1 42 x2.toNatClampNeg)).toNatClampNeg) = (2 : Int32) → (AW (GM adK adV) l ad (d + 1) mX10_isSo 65 [(0, .ref (ad 0)), (1, .int x1), (2, .int x2)] [.int (1 : Int32)] h1 (qi R)))))) ∧ (¬ (h1.1 41 x2.toNatClampNeg) = x1 → (AW (GM adK adV) l ad (d + 1) mX10_isSo 2 [(0, .ref (ad 0)), (1, .int x1), (2, .int (x2 + (1 : Int32)))] [] h1 (qi R)))))))))))) : AW (GM adK adV) l ad (d + 1) mX10_isSo 2 [(0, .ref (ad 0)), (1, .int x1), (2, .int x2)] [] h (qi R) := by
  refine aw_iload_n dX10_isSo_2 rfl 2 rfl ?_
  refine aw_aload_n dX10_isSo_3 rfl 0 rfl ?_
  refine cvX10_knownMany dX10_isSo_4 mlX10_522 shM0 (Nat.le_of_ble_eq_true rfl) H (fun z2 h1 H => ?_)
  refine aw_icmp_ge (tgt := 82) dX10_isSo_7 (by decide) (fun hc9 => ?_) (fun hc9 => ?_)
  · replace H := H.1 hc9
    refine aw_iconst (v := 1) dX10_isSo_82 (by decide) ?_
    exact aw_zret dX10_isSo_83 rfl (by decide) ⟨_, rfl, H⟩
  · replace H := H.2 hc9
    refine aw_aload_n dX10_isSo_10 rfl 0 rfl ?_
    refine aw_get dX10_isSo_11 shM0 ckX10 flX10_154 (v := .ref (ad 45)) rfl ?_
    refine aw_iload_n dX10_isSo_14 rfl 2 rfl ?_
    obtain ⟨hi3, H⟩ := H
    refine aw_zaldK (t0 := 2) (j := x2.toNatClampNeg) dX10_isSo_15 shM45 rfl rfl hi3 ?_
    refine aw_if_ne (tgt := 76) dX10_isSo_16 (by decide) (fun hc8 => ?_) (fun hc8 => ?_)
    · replace H := H.1 hc8
      refine aw_inc (mm := (1)) (ls' := [(2, .int (x2 + (1 : Int32))), (0, .ref (ad 0)), (1, .int x1)]) dX10_isSo_76 (by decide) (j := 2) rfl (by decide) rfl ?_
      refine aw_goto (tgt := 2) dX10_isSo_79 (by decide) ?_
      exact aw_ls [1, 2, 0] rfl H
    · replace H := H.2 hc8
      refine aw_aload_n dX10_isSo_19 rfl 0 rfl ?_
      refine aw_get dX10_isSo_20 shM0 ckX10 flX10_151 (v := .ref (ad 44)) rfl ?_
      refine aw_iload_n dX10_isSo_23 rfl 2 rfl ?_
      refine aw_ialdK (t0 := 0) (j := x2.toNatClampNeg) dX10_isSo_24 shM44 rfl rfl hi3 ?_
      refine aw_iconst (v := (-1)) dX10_isSo_25 (by decide) ?_
      refine aw_icmp_ne (tgt := 76) dX10_isSo_26 (by decide) (fun hc7 => ?_) (fun hc7 => ?_)
      · replace H := H.1 hc7
        refine aw_inc (mm := (1)) (ls' := [(2, .int (x2 + (1 : Int32))), (0, .ref (ad 0)), (1, .int x1)]) dX10_isSo_76 (by decide) (j := 2) rfl (by decide) rfl ?_
        refine aw_goto (tgt := 2) dX10_isSo_79 (by decide) ?_
        exact aw_ls [1, 2, 0] rfl H
      · replace H := H.2 hc7
        refine aw_aload_n dX10_isSo_29 rfl 0 rfl ?_
        refine aw_get dX10_isSo_30 shM0 ckX10 flX10_141 (v := .ref (ad 41)) rfl ?_
        refine aw_iload_n dX10_isSo_33 rfl 2 rfl ?_
        refine aw_ialdK (t0 := 0) (j := x2.toNatClampNeg) dX10_isSo_34 shM41 rfl rfl hi3 ?_
        refine aw_iload_n dX10_isSo_35 rfl 1 rfl ?_
        refine aw_icmp_eq (tgt := 42) dX10_isSo_36 (by decide) (fun hc6 => ?_) (fun hc6 => ?_)
        · replace H := H.1 hc6
          refine aw_aload_n dX10_isSo_42 rfl 0 rfl ?_
          refine aw_get dX10_isSo_43 shM0 ckX10 flX10_117 (v := .ref (ad 35)) rfl ?_
          refine aw_bipush (v := 8) dX10_isSo_46 (by decide) ?_
          refine aw_aload_n dX10_isSo_48 rfl 0 rfl ?_
          refine aw_get dX10_isSo_49 shM0 ckX10 flX10_144 (v := .ref (ad 42)) rfl ?_
          refine aw_iload_n dX10_isSo_52 rfl 2 rfl ?_
          refine aw_ialdK (t0 := 0) (j := x2.toNatClampNeg) dX10_isSo_53 shM42 rfl rfl hi3 ?_
          refine aw_iadd dX10_isSo_54 ?_
          obtain ⟨hi4, H⟩ := H
          refine aw_ialdK (t0 := 0) (j := ((8 : Int32) + (h1.1 42 x2.toNatClampNeg)).toNatClampNeg) dX10_isSo_55 shM35 rfl rfl hi4 ?_
          refine aw_iconst (v := 2) dX10_isSo_56 (by decide) ?_
          refine aw_icmp_ne (tgt := 64) dX10_isSo_57 (by decide) (fun hc5 => ?_) (fun hc5 => ?_)
          · replace H := H.1 hc5
            refine aw_iconst (v := 0) dX10_isSo_64 (by decide) ?_
            exact aw_ls [0, 1, 2] rfl H
          · replace H := H.2 hc5
            refine aw_iconst (v := 1) dX10_isSo_60 (by decide) ?_
            refine aw_goto (tgt := 65) dX10_isSo_61 (by decide) ?_
            exact aw_ls [0, 1, 2] rfl H
        · replace H := H.2 hc6
          refine aw_goto (tgt := 76) dX10_isSo_39 (by decide) ?_
          refine aw_inc (mm := (1)) (ls' := [(2, .int (x2 + (1 : Int32))), (0, .ref (ad 0)), (1, .int x1)]) dX10_isSo_76 (by decide) (j := 2) rfl (by decide) rfl ?_
          refine aw_goto (tgt := 2) dX10_isSo_79 (by decide) ?_
          exact aw_ls [1, 2, 0] rfl H
set_option maxRecDepth 8000 in
set_option maxHeartbeats 1000000 in
theorem bX10_isSo_65 {adK adV : Nat → Nat} {l : Launch} {ad : Nat → Nat} {d : Nat} {R : Int32 → aH → Prop}   (x1 : Int32) (x2 : Int32) (s0 : Int32)  (h : aH)
    (H : vp_in x2 24 ∧ ((s0 = (h.1 43 x2.toNatClampNeg) → (AW (GM adK adV) l ad (d + 1) mX10_isSo 2 [(0, .ref (ad 0)), (1, .int x1), (2, .int (x2 + (1 : Int32)))] [] h (qi R))) ∧ (¬ s0 = (h.1 43 x2.toNatClampNeg) → (R (0 : Int32) h)))) : AW (GM adK adV) l ad (d + 1) mX10_isSo 65 [(0, .ref (ad 0)), (1, .int x1), (2, .int x2)] [.int s0] h (qi R) := by
  refine aw_aload_n dX10_isSo_65 rfl 0 rfl ?_
  refine aw_get dX10_isSo_66 shM0 ckX10 flX10_147 (v := .ref (ad 43)) rfl ?_
  refine aw_iload_n dX10_isSo_69 rfl 2 rfl ?_
  obtain ⟨hi1, H⟩ := H
  refine aw_zaldK (t0 := 2) (j := x2.toNatClampNeg) dX10_isSo_70 shM43 rfl rfl hi1 ?_
  refine aw_icmp_eq (tgt := 76) dX10_isSo_71 (by decide) (fun hc2 => ?_) (fun hc2 => ?_)
  · replace H := H.1 hc2
    refine aw_inc (mm := (1)) (ls' := [(2, .int (x2 + (1 : Int32))), (0, .ref (ad 0)), (1, .int x1)]) dX10_isSo_76 (by decide) (j := 2) rfl (by decide) rfl ?_
    refine aw_goto (tgt := 2) dX10_isSo_79 (by decide) ?_
    exact aw_ls [1, 2, 0] rfl H
  · replace H := H.2 hc2
    refine aw_iconst (v := 0) dX10_isSo_74 (by decide) ?_
    exact aw_zret dX10_isSo_75 rfl (by decide) ⟨_, rfl, H⟩
set_option maxRecDepth 8000 in
set_option maxHeartbeats 1000000 in
theorem bX10_fitsPurse_0 {adK adV : Nat → Nat} {l : Launch} {ad : Nat → Nat} {d : Nat} {R : Int32 → aH → Prop}   (x1 : Int32) (x2 : Int32) (x3 : Int32)  (h : aH)
    (H : AW (GM adK adV) l ad d mX10_starts 0 [(0, .ref (ad 0)), (1, .int (1 : Int32))] [] h (qv fun h1 => vp_in ((6 : Int32) + x1) 138 ∧ (AW (GM adK adV) l ad (d + 1) mX10_fitsPurse 18 [(0, .ref (ad 0)), (3, .int x3), (4, .int (1 : Int32))] [] (sI h1 27 ((6 : Int32) + x1).toNatClampNeg x2) (qi R)))) : AW (GM adK adV) l ad (d + 1) mX10_fitsPurse 0 [(0, .ref (ad 0)), (1, .int x1), (2, .int x2), (3, .int x3)] [] h (qi R) := by
  refine aw_aload_n dX10_fitsPurse_0 rfl 0 rfl ?_
  refine aw_iconst (v := 1) dX10_fitsPurse_1 (by decide) ?_
  refine cvX10_starts dX10_fitsPurse_2 mlX10_355 shM0 (Nat.le_of_ble_eq_true rfl) H (fun h1 H => ?_)
  refine aw_aload_n dX10_fitsPurse_5 rfl 0 rfl ?_
  refine aw_get dX10_fitsPurse_6 shM0 ckX10 flX10_93 (v := .ref (ad 27)) rfl ?_
  refine aw_bipush (v := 6) dX10_fitsPurse_9 (by decide) ?_
  refine aw_iload_n dX10_fitsPurse_11 rfl 1 rfl ?_
  refine aw_iadd dX10_fitsPurse_12 ?_
  refine aw_iload_n dX10_fitsPurse_13 rfl 2 rfl ?_
  obtain ⟨hi3, H⟩ := H
  refine aw_iastK (t0 := 0) (j := ((6 : Int32) + x1).toNatClampNeg) dX10_fitsPurse_14 shM27 rfl rfl hi3 ?_
  refine aw_iconst (v := 1) dX10_fitsPurse_15 (by decide) ?_
  refine aw_istore (ls' := [(4, .int (1 : Int32)), (0, .ref (ad 0)), (1, .int x1), (2, .int x2), (3, .int x3)]) dX10_fitsPurse_16 (by decide) rfl ?_
  exact aw_ls [1, 4, 0] rfl H
set_option maxRecDepth 8000 in
set_option maxHeartbeats 1000000 in
theorem bX10_fitsPurse_18 {adK adV : Nat → Nat} {l : Launch} {ad : Nat → Nat} {d : Nat} {R : Int32 → aH → Prop}   (x3 : Int32) (x4 : Int32)  (h : aH)
    (H : (x3 < x4 → (R (1 : Int32) h)) ∧ (¬ x3 < x4 → (AW (GM adK adV) l ad d mX10_passes 0 [(0, .ref (ad 0)), (1, .int (1 : Int32)), (2, .int (0 : Int32))] [] h (qv fun h1 => AW (GM adK adV) l ad d mX10_isSo 0 [(0, .ref (ad 0)), (1, .int x4)] [] h1 (qi fun z4 h3 => (¬ z4 = 0 → (AW (GM adK adV) l ad (d + 1) mX10_fitsPurse 18 [(0, .ref (ad 0)), (3, .int x3), (4, .int (x4 + (1 : Int32)))] [] h3 (qi R))) ∧ (z4 = 0 → (R (0 : Int32) h3))))))) : AW (GM adK adV) l ad (d + 1) mX10_fitsPurse 18 [(0, .ref (ad 0)), (3, .int x3), (4, .int x4)] [] h (qi R) := by
  refine aw_iload dX10_fitsPurse_18 2 rfl ?_
  refine aw_iload_n dX10_fitsPurse_20 rfl 1 rfl ?_
  refine aw_icmp_gt (tgt := 47) dX10_fitsPurse_21 (by decide) (fun hc6 => ?_) (fun hc6 => ?_)
  · replace H := H.1 hc6
    refine aw_iconst (v := 1) dX10_fitsPurse_47 (by decide) ?_
    exact aw_zret dX10_fitsPurse_48 rfl (by decide) ⟨_, rfl, H⟩
  · replace H := H.2 hc6
    refine aw_aload_n dX10_fitsPurse_24 rfl 0 rfl ?_
    refine aw_iconst (v := 1) dX10_fitsPurse_25 (by decide) ?_
    refine aw_iconst (v := 0) dX10_fitsPurse_26 (by decide) ?_
    refine cvX10_passes dX10_fitsPurse_27 mlX10_447 shM0 (Nat.le_of_ble_eq_true rfl) H (fun h1 H => ?_)
    refine aw_aload_n dX10_fitsPurse_30 rfl 0 rfl ?_
    refine aw_iload dX10_fitsPurse_31 2 rfl ?_
    refine cvX10_isSo dX10_fitsPurse_33 mlX10_525 shM0 (Nat.le_of_ble_eq_true rfl) H (fun z4 h3 H => ?_)
    refine aw_if_ne (tgt := 41) dX10_fitsPurse_36 (by decide) (fun hc5 => ?_) (fun hc5 => ?_)
    · replace H := H.1 hc5
      refine aw_inc (mm := (1)) (ls' := [(4, .int (x4 + (1 : Int32))), (0, .ref (ad 0)), (3, .int x3)]) dX10_fitsPurse_41 (by decide) (j := 2) rfl (by decide) rfl ?_
      refine aw_goto (tgt := 18) dX10_fitsPurse_44 (by decide) ?_
      exact aw_ls [1, 2, 0] rfl H
    · replace H := H.2 hc5
      refine aw_iconst (v := 0) dX10_fitsPurse_39 (by decide) ?_
      exact aw_zret dX10_fitsPurse_40 rfl (by decide) ⟨_, rfl, H⟩
set_option maxRecDepth 8000 in
set_option maxHeartbeats 1000000 in
theorem bX10_had_0 {adK adV : Nat → Nat} {l : Launch} {ad : Nat → Nat} {d : Nat} {R : Int32 → aH → Prop}   (x1 : Int32)  (h : aH)
    (H : AW (GM adK adV) l ad d mX10_isMan 0 [(0, .ref (ad 0)), (1, .int x1)] [] (sI h 0 0 (0 : Int32)) (qi fun z2 h1 => (¬ z2 = 0 → (AW (GM adK adV) l ad (d + 1) mX10_had 19 [(0, .ref (ad 0)), (1, .int x1), (2, .int (0 : Int32)), (3, .int (0 : Int32))] [] h1 (qi R))) ∧ (z2 = 0 → (R (-1 : Int32) h1)))) : AW (GM adK adV) l ad (d + 1) mX10_had 0 [(0, .ref (ad 0)), (1, .int x1)] [] h (qi R) := by
  refine aw_aload_n dX10_had_0 rfl 0 rfl ?_
  refine aw_iconst (v := 0) dX10_had_1 (by decide) ?_
  refine aw_putI dX10_had_2 shM0 ckX10 flX10_160 rfl (fun _ => rfl) rfl rfl ?_
  refine aw_aload_n dX10_had_5 rfl 0 rfl ?_
  refine aw_iload_n dX10_had_6 rfl 1 rfl ?_
  refine cvX10_isMan dX10_had_7 mlX10_459 shM0 (Nat.le_of_ble_eq_true rfl) H (fun z2 h1 H => ?_)
  refine aw_if_ne (tgt := 15) dX10_had_10 (by decide) (fun hc3 => ?_) (fun hc3 => ?_)
  · replace H := H.1 hc3
    refine aw_iconst (v := 0) dX10_had_15 (by decide) ?_
    refine aw_istore_n (ls' := [(2, .int (0 : Int32)), (0, .ref (ad 0)), (1, .int x1)]) dX10_had_16 rfl (by decide) rfl ?_
    refine aw_iconst (v := 0) dX10_had_17 (by decide) ?_
    refine aw_istore_n (ls' := [(3, .int (0 : Int32)), (2, .int (0 : Int32)), (0, .ref (ad 0)), (1, .int x1)]) dX10_had_18 rfl (by decide) rfl ?_
    exact aw_ls [2, 3, 1, 0] rfl H
  · replace H := H.2 hc3
    refine aw_iconst (v := (-1)) dX10_had_13 (by decide) ?_
    exact aw_iret dX10_had_14 rfl ⟨_, rfl, H⟩
set_option maxRecDepth 8000 in
set_option maxHeartbeats 1000000 in
theorem bX10_had_19 {adK adV : Nat → Nat} {l : Launch} {ad : Nat → Nat} {d : Nat} {R : Int32 → aH → Prop}   (x1 : Int32) (x2 : Int32) (x3 : Int32)  (h : aH)
    (H : AW (GM adK adV) l ad d mX10_knownMany 0 [(0, .ref (ad 0))] [] h (qi fun z2 h1 => (z2 ≤ x3 → (AW (GM adK adV) l ad d mX10_knownMany 0 [(0, .ref (ad 0))] [] h1 (qi fun z4 h3 => AW (GM adK adV) l ad (d + 1) mX10_had 47 [(0, .ref (ad 0)), (1, .int x1), (2, .int x2), (3, .int (z4 - (1 : Int32)))] [] h3 (qi R)))) ∧ (¬ z2 ≤ x3 → (vp_in x3 24 ∧ (AW (GM adK adV) l ad (d + 1) mX10_had 19 [(0, .ref (ad 0)), (1, .int x1), (2, .int x2), (3, .int (x3 + (1 : Int32)))] [] (sI h1 45 x3.toNatClampNeg (vp_nar .boolean (0 : Int32))) (qi R)))))) : AW (GM adK adV) l ad (d + 1) mX10_had 19 [(0, .ref (ad 0)), (1, .int x1), (2, .int x2), (3, .int x3)] [] h (qi R) := by
  refine aw_iload_n dX10_had_19 rfl 3 rfl ?_
  refine aw_aload_n dX10_had_20 rfl 0 rfl ?_
  refine cvX10_knownMany dX10_had_21 mlX10_522 shM0 (Nat.le_of_ble_eq_true rfl) H (fun z2 h1 H => ?_)
  refine aw_icmp_ge (tgt := 40) dX10_had_24 (by decide) (fun hc6 => ?_) (fun hc6 => ?_)
  · replace H := H.1 hc6
    refine aw_aload_n dX10_had_40 rfl 0 rfl ?_
    refine cvX10_knownMany dX10_had_41 mlX10_522 shM0 (Nat.le_of_ble_eq_true rfl) H (fun z4 h3 H => ?_)
    refine aw_iconst (v := 1) dX10_had_44 (by decide) ?_
    refine aw_isub dX10_had_45 ?_
    refine aw_istore_n (ls' := [(3, .int (z4 - (1 : Int32))), (0, .ref (ad 0)), (1, .int x1), (2, .int x2)]) dX10_had_46 rfl (by decide) rfl ?_
    exact aw_ls [1, 2, 3, 0] rfl H
  · replace H := H.2 hc6
    refine aw_aload_n dX10_had_27 rfl 0 rfl ?_
    refine aw_get dX10_had_28 shM0 ckX10 flX10_154 (v := .ref (ad 45)) rfl ?_
    refine aw_iload_n dX10_had_31 rfl 3 rfl ?_
    refine aw_iconst (v := 0) dX10_had_32 (by decide) ?_
    obtain ⟨hi5, H⟩ := H
    refine aw_zastK (t0 := 2) (j := x3.toNatClampNeg) dX10_had_33 shM45 rfl rfl hi5 ?_
    refine aw_inc (mm := (1)) (ls' := [(3, .int (x3 + (1 : Int32))), (0, .ref (ad 0)), (1, .int x1), (2, .int x2)]) dX10_had_34 (by decide) (j := 3) rfl (by decide) rfl ?_
    refine aw_goto (tgt := 19) dX10_had_37 (by decide) ?_
    exact aw_ls [1, 2, 3, 0] rfl H
set_option maxRecDepth 8000 in
set_option maxHeartbeats 1000000 in
theorem bX10_had_47 {adK adV : Nat → Nat} {l : Launch} {ad : Nat → Nat} {d : Nat} {R : Int32 → aH → Prop}   (x1 : Int32) (x2 : Int32) (x3 : Int32)  (h : aH)
    (H : (x3 < 0 → (AW (GM adK adV) l ad (d + 1) mX10_had 90 [(0, .ref (ad 0)), (1, .int x1), (2, .int x2), (3, .int (0 : Int32))] [] h (qi R))) ∧ (¬ x3 < 0 → (vp_in x3 24 ∧ ((¬ (h.1 45 x3.toNatClampNeg) = 0 → (AW (GM adK adV) l ad (d + 1) mX10_had 47 [(0, .ref (ad 0)), (1, .int x1), (2, .int x2), (3, .int (x3 + (-1 : Int32)))] [] h (qi R))) ∧ ((h.1 45 x3.toNatClampNeg) = 0 → (((h.1 44 x3.toNatClampNeg) = (-1 : Int32) → (AW (GM adK adV) l ad (d + 1) mX10_had 47 [(0, .ref (ad 0)), (1, .int x1), (2, .int x2), (3, .int (x3 + (-1 : Int32)))] [] h (qi R))) ∧ (¬ (h.1 44 x3.toNatClampNeg) = (-1 : Int32) → (vp_in (h.1 44 x3.toNatClampNeg) 24 ∧ (AW (GM adK adV) l ad (d + 1) mX10_had 47 [(0, .ref (ad 0)), (1, .int x1), (2, .int x2), (3, .int (x3 + (-1 : Int32)))] [] (sI h 45 (h.1 44 x3.toNatClampNeg).toNatClampNeg (vp_nar .boolean (1 : Int32))) (qi R)))))))))) : AW (GM adK adV) l ad (d + 1) mX10_had 47 [(0, .ref (ad 0)), (1, .int x1), (2, .int x2), (3, .int x3)] [] h (qi R) := by
  refine aw_iload_n dX10_had_47 rfl 3 rfl ?_
  refine aw_if_lt (tgt := 88) dX10_had_48 (by decide) (fun hc5 => ?_) (fun hc5 => ?_)
  · replace H := H.1 hc5
    refine aw_iconst (v := 0) dX10_had_88 (by decide) ?_
    refine aw_istore_n (ls' := [(3, .int (0 : Int32)), (0, .ref (ad 0)), (1, .int x1), (2, .int x2)]) dX10_had_89 rfl (by decide) rfl ?_
    exact aw_ls [1, 2, 3, 0] rfl H
  · replace H := H.2 hc5
    refine aw_aload_n dX10_had_51 rfl 0 rfl ?_
    refine aw_get dX10_had_52 shM0 ckX10 flX10_154 (v := .ref (ad 45)) rfl ?_
    refine aw_iload_n dX10_had_55 rfl 3 rfl ?_
    obtain ⟨hi1, H⟩ := H
    refine aw_zaldK (t0 := 2) (j := x3.toNatClampNeg) dX10_had_56 shM45 rfl rfl hi1 ?_
    refine aw_if_ne (tgt := 82) dX10_had_57 (by decide) (fun hc4 => ?_) (fun hc4 => ?_)
    · replace H := H.1 hc4
      refine aw_inc (mm := (-1)) (ls' := [(3, .int (x3 + (-1 : Int32))), (0, .ref (ad 0)), (1, .int x1), (2, .int x2)]) dX10_had_82 (by decide) (j := 3) rfl (by decide) rfl ?_
      refine aw_goto (tgt := 47) dX10_had_85 (by decide) ?_
      exact aw_ls [1, 2, 3, 0] rfl H
    · replace H := H.2 hc4
      refine aw_aload_n dX10_had_60 rfl 0 rfl ?_
      refine aw_get dX10_had_61 shM0 ckX10 flX10_151 (v := .ref (ad 44)) rfl ?_
      refine aw_iload_n dX10_had_64 rfl 3 rfl ?_
      refine aw_ialdK (t0 := 0) (j := x3.toNatClampNeg) dX10_had_65 shM44 rfl rfl hi1 ?_
      refine aw_iconst (v := (-1)) dX10_had_66 (by decide) ?_
      refine aw_icmp_eq (tgt := 82) dX10_had_67 (by decide) (fun hc3 => ?_) (fun hc3 => ?_)
      · replace H := H.1 hc3
        refine aw_inc (mm := (-1)) (ls' := [(3, .int (x3 + (-1 : Int32))), (0, .ref (ad 0)), (1, .int x1), (2, .int x2)]) dX10_had_82 (by decide) (j := 3) rfl (by decide) rfl ?_
        refine aw_goto (tgt := 47) dX10_had_85 (by decide) ?_
        exact aw_ls [1, 2, 3, 0] rfl H
      · replace H := H.2 hc3
        refine aw_aload_n dX10_had_70 rfl 0 rfl ?_
        refine aw_get dX10_had_71 shM0 ckX10 flX10_154 (v := .ref (ad 45)) rfl ?_
        refine aw_aload_n dX10_had_74 rfl 0 rfl ?_
        refine aw_get dX10_had_75 shM0 ckX10 flX10_151 (v := .ref (ad 44)) rfl ?_
        refine aw_iload_n dX10_had_78 rfl 3 rfl ?_
        refine aw_ialdK (t0 := 0) (j := x3.toNatClampNeg) dX10_had_79 shM44 rfl rfl hi1 ?_
        refine aw_iconst (v := 1) dX10_had_80 (by decide) ?_
        obtain ⟨hi2, H⟩ := H
        refine aw_zastK (t0 := 2) (j := (h.1 44 x3.toNatClampNeg).toNatClampNeg) dX10_had_81 shM45 rfl rfl hi2 ?_
        refine aw_inc (mm := (-1)) (ls' := [(3, .int (x3 + (-1 : Int32))), (0, .ref (ad 0)), (1, .int x1), (2, .int x2)]) dX10_had_82 (by decide) (j := 3) rfl (by decide) rfl ?_
        refine aw_goto (tgt := 47) dX10_had_85 (by decide) ?_
        exact aw_ls [1, 2, 3, 0] rfl H
set_option maxRecDepth 8000 in
set_option maxHeartbeats 1000000 in
theorem bX10_had_90 {adK adV : Nat → Nat} {l : Launch} {ad : Nat → Nat} {d : Nat} {R : Int32 → aH → Prop}   (x1 : Int32) (x2 : Int32) (x3 : Int32)  (h : aH)
    (H : AW (GM adK adV) l ad d mX10_knownMany 0 [(0, .ref (ad 0))] [] h (qi fun z2 h1 => (z2 ≤ x3 → (AW (GM adK adV) l ad (d + 1) mX10_had 139 [(0, .ref (ad 0)), (1, .int x1), (2, .int x2), (3, .int (0 : Int32)), (4, .int (0 : Int32))] [] h1 (qi R))) ∧ (¬ z2 ≤ x3 → (vp_in x3 24 ∧ ((¬ (h1.1 45 x3.toNatClampNeg) = 0 → (AW (GM adK adV) l ad (d + 1) mX10_had 90 [(0, .ref (ad 0)), (1, .int x1), (2, .int x2), (3, .int (x3 + (1 : Int32)))] [] h1 (qi R))) ∧ ((h1.1 45 x3.toNatClampNeg) = 0 → ((¬ (h1.1 44 x3.toNatClampNeg) = (-1 : Int32) → (AW (GM adK adV) l ad (d + 1) mX10_had 90 [(0, .ref (ad 0)), (1, .int x1), (2, .int x2), (3, .int (x3 + (1 : Int32)))] [] h1 (qi R))) ∧ ((h1.1 44 x3.toNatClampNeg) = (-1 : Int32) → (∀ t4 : Int32, t4 = (if x2 < (h1.1 41 x3.toNatClampNeg) then (h1.1 41 x3.toNatClampNeg) else x2) → (AW (GM adK adV) l ad (d + 1) mX10_had 90 [(0, .ref (ad 0)), (1, .int x1), (2, .int t4), (3, .int (x3 + (1 : Int32)))] [] h1 (qi R))))))))))) : AW (GM adK adV) l ad (d + 1) mX10_had 90 [(0, .ref (ad 0)), (1, .int x1), (2, .int x2), (3, .int x3)] [] h (qi R) := by
  refine aw_iload_n dX10_had_90 rfl 3 rfl ?_
  refine aw_aload_n dX10_had_91 rfl 0 rfl ?_
  refine cvX10_knownMany dX10_had_92 mlX10_522 shM0 (Nat.le_of_ble_eq_true rfl) H (fun z2 h1 H => ?_)
  refine aw_icmp_ge (tgt := 134) dX10_had_95 (by decide) (fun hc7 => ?_) (fun hc7 => ?_)
  · replace H := H.1 hc7
    refine aw_iconst (v := 0) dX10_had_134 (by decide) ?_
    refine aw_istore_n (ls' := [(3, .int (0 : Int32)), (0, .ref (ad 0)), (1, .int x1), (2, .int x2)]) dX10_had_135 rfl (by decide) rfl ?_
    refine aw_iconst (v := 0) dX10_had_136 (by decide) ?_
    refine aw_istore (ls' := [(4, .int (0 : Int32)), (3, .int (0 : Int32)), (0, .ref (ad 0)), (1, .int x1), (2, .int x2)]) dX10_had_137 (by decide) rfl ?_
    exact aw_ls [2, 3, 4, 1, 0] rfl H
  · replace H := H.2 hc7
    refine aw_aload_n dX10_had_98 rfl 0 rfl ?_
    refine aw_get dX10_had_99 shM0 ckX10 flX10_154 (v := .ref (ad 45)) rfl ?_
    refine aw_iload_n dX10_had_102 rfl 3 rfl ?_
    obtain ⟨hi3, H⟩ := H
    refine aw_zaldK (t0 := 2) (j := x3.toNatClampNeg) dX10_had_103 shM45 rfl rfl hi3 ?_
    refine aw_if_ne (tgt := 128) dX10_had_104 (by decide) (fun hc6 => ?_) (fun hc6 => ?_)
    · replace H := H.1 hc6
      refine aw_inc (mm := (1)) (ls' := [(3, .int (x3 + (1 : Int32))), (0, .ref (ad 0)), (1, .int x1), (2, .int x2)]) dX10_had_128 (by decide) (j := 3) rfl (by decide) rfl ?_
      refine aw_goto (tgt := 90) dX10_had_131 (by decide) ?_
      exact aw_ls [1, 2, 3, 0] rfl H
    · replace H := H.2 hc6
      refine aw_aload_n dX10_had_107 rfl 0 rfl ?_
      refine aw_get dX10_had_108 shM0 ckX10 flX10_151 (v := .ref (ad 44)) rfl ?_
      refine aw_iload_n dX10_had_111 rfl 3 rfl ?_
      refine aw_ialdK (t0 := 0) (j := x3.toNatClampNeg) dX10_had_112 shM44 rfl rfl hi3 ?_
      refine aw_iconst (v := (-1)) dX10_had_113 (by decide) ?_
      refine aw_icmp_ne (tgt := 128) dX10_had_114 (by decide) (fun hc5 => ?_) (fun hc5 => ?_)
      · replace H := H.1 hc5
        refine aw_inc (mm := (1)) (ls' := [(3, .int (x3 + (1 : Int32))), (0, .ref (ad 0)), (1, .int x1), (2, .int x2)]) dX10_had_128 (by decide) (j := 3) rfl (by decide) rfl ?_
        refine aw_goto (tgt := 90) dX10_had_131 (by decide) ?_
        exact aw_ls [1, 2, 3, 0] rfl H
      · replace H := H.2 hc5
        refine aw_iload_n dX10_had_117 rfl 2 rfl ?_
        refine aw_aload_n dX10_had_118 rfl 0 rfl ?_
        refine aw_get dX10_had_119 shM0 ckX10 flX10_141 (v := .ref (ad 41)) rfl ?_
        refine aw_iload_n dX10_had_122 rfl 3 rfl ?_
        refine aw_ialdK (t0 := 0) (j := x3.toNatClampNeg) dX10_had_123 shM41 rfl rfl hi3 ?_
        refine aw_mmax dX10_had_124 mlX10_377 (Nat.le_of_ble_eq_true rfl) ?_
        refine aw_topi (fun t4 et4 => ?_)
        replace H := H t4 et4
        refine aw_istore_n (ls' := [(2, .int t4), (0, .ref (ad 0)), (1, .int x1), (3, .int x3)]) dX10_had_127 rfl (by decide) rfl ?_
        refine aw_inc (mm := (1)) (ls' := [(3, .int (x3 + (1 : Int32))), (2, .int t4), (0, .ref (ad 0)), (1, .int x1)]) dX10_had_128 (by decide) (j := 3) rfl (by decide) rfl ?_
        refine aw_goto (tgt := 90) dX10_had_131 (by decide) ?_
        exact aw_ls [2, 3, 1, 0] rfl H
set_option maxRecDepth 8000 in
set_option maxHeartbeats 1000000 in
theorem bX10_had_139 {adK adV : Nat → Nat} {l : Launch} {ad : Nat → Nat} {d : Nat} {R : Int32 → aH → Prop}   (x1 : Int32) (x2 : Int32) (x3 : Int32) (x4 : Int32)  (h : aH)
    (H : ((10 : Int32) ≤ x4 → (R x3 h)) ∧ (¬ (10 : Int32) ≤ x4 → (AW (GM adK adV) l ad d mX10_fitsPurse 0 [(0, .ref (ad 0)), (1, .int x1), (2, .int ((10 : Int32) * x4)), (3, .int x2)] [] h (qi fun z2 h1 => ∀ t3 : Int32, t3 = (if z2 = 0 then (0 : Int32) else ((1 : Int32) <<< (x4 &&& 31))) → (AW (GM adK adV) l ad (d + 1) mX10_had 139 [(0, .ref (ad 0)), (1, .int x1), (2, .int x2), (3, .int (x3 ||| t3)), (4, .int (x4 + (1 : Int32)))] [] h1 (qi R)))))) : AW (GM adK adV) l ad (d + 1) mX10_had 139 [(0, .ref (ad 0)), (1, .int x1), (2, .int x2), (3, .int x3), (4, .int x4)] [] h (qi R) := by
  refine aw_iload dX10_had_139 4 rfl ?_
  refine aw_bipush (v := 10) dX10_had_141 (by decide) ?_
  refine aw_icmp_ge (tgt := 177) dX10_had_143 (by decide) (fun hc6 => ?_) (fun hc6 => ?_)
  · replace H := H.1 hc6
    refine aw_iload_n dX10_had_177 rfl 3 rfl ?_
    exact aw_iret dX10_had_178 rfl ⟨_, rfl, H⟩
  · replace H := H.2 hc6
    refine aw_iload_n dX10_had_146 rfl 3 rfl ?_
    refine aw_aload_n dX10_had_147 rfl 0 rfl ?_
    refine aw_iload_n dX10_had_148 rfl 1 rfl ?_
    refine aw_bipush (v := 10) dX10_had_149 (by decide) ?_
    refine aw_iload dX10_had_151 4 rfl ?_
    refine aw_imul dX10_had_153 ?_
    refine aw_iload_n dX10_had_154 rfl 2 rfl ?_
    refine cvX10_fitsPurse dX10_had_155 mlX10_528 shM0 (Nat.le_of_ble_eq_true rfl) H (fun z2 h1 H => ?_)
    have H : True ∧ ∀ t3 : Int32, t3 = (if z2 = 0 then (0 : Int32) else ((1 : Int32) <<< (x4 &&& 31))) → (AW (GM adK adV) l ad (d + 1) mX10_had 139 [(0, .ref (ad 0)), (1, .int x1), (2, .int x2), (3, .int (x3 ||| t3)), (4, .int (x4 + (1 : Int32)))] [] h1 (qi R)) := ⟨trivial, H⟩
    have K4 : ∀ t3 : Int32, (AW (GM adK adV) l ad (d + 1) mX10_had 139 [(0, .ref (ad 0)), (1, .int x1), (2, .int x2), (3, .int (x3 ||| t3)), (4, .int (x4 + (1 : Int32)))] [] h1 (qi R)) → AW (GM adK adV) l ad (d + 1) mX10_had 169 [(0, .ref (ad 0)), (1, .int x1), (2, .int x2), (3, .int x3), (4, .int x4)] [.int t3, .int x3] h1 (qi R) := by
      intro t3 H
      refine aw_ior dX10_had_169 ?_
      refine aw_istore_n (ls' := [(3, .int (x3 ||| t3)), (0, .ref (ad 0)), (1, .int x1), (2, .int x2), (4, .int x4)]) dX10_had_170 rfl (by decide) rfl ?_
      refine aw_inc (mm := (1)) (ls' := [(4, .int (x4 + (1 : Int32))), (3, .int (x3 ||| t3)), (0, .ref (ad 0)), (1, .int x1), (2, .int x2)]) dX10_had_171 (by decide) (j := 4) rfl (by decide) rfl ?_
      refine aw_goto (tgt := 139) dX10_had_174 (by decide) ?_
      exact aw_ls [2, 3, 4, 1, 0] rfl H
    refine aw_if_eq (tgt := 168) dX10_had_158 (by decide) (fun hc5 => ?_) (fun hc5 => ?_)
    · refine aw_iconst (v := (0)) dX10_had_168 (by decide) ?_
      exact K4 _ (H.2 _ (by simp only [if_pos hc5]))
    · refine aw_iconst (v := (1)) dX10_had_161 (by decide) ?_
      refine aw_iload dX10_had_162 4 rfl ?_
      refine aw_ishl dX10_had_164 ?_
      refine aw_goto (tgt := 169) dX10_had_165 (by decide) ?_
      exact K4 _ (H.2 _ (by simp only [if_neg hc5]))
set_option maxRecDepth 8000 in
set_option maxHeartbeats 1000000 in
theorem bX10_chance_0 {adK adV : Nat → Nat} {l : Launch} {ad : Nat → Nat} {d : Nat} {R : Int32 → aH → Prop}   (x1 : Int32) (x2 : Int32) (x3 : Int32)  (h : aH)
    (H : (x1 < 0 → (R (-1 : Int32) (sI h 0 0 (0 : Int32)))) ∧ (¬ x1 < 0 → ((x2 < (1 : Int32) → (R (-1 : Int32) (sI h 0 0 (0 : Int32)))) ∧ (¬ x2 < (1 : Int32) → (((99 : Int32) < x2 → (R (-1 : Int32) (sI h 0 0 (0 : Int32)))) ∧ (¬ (99 : Int32) < x2 → (AW (GM adK adV) l ad d mX10_isTusk 0 [(0, .ref (ad 0)), (1, .int x3)] [] (sI h 0 0 (0 : Int32)) (qi fun z2 h1 => (¬ z2 = 0 → (AW (GM adK adV) l ad (d + 1) mX10_chance 39 [(0, .ref (ad 0)), (2, .int x2), (3, .int x3), (4, .int x1), (5, .int (0 : Int32)), (6, .int (0 : Int32))] [] h1 (qi R))) ∧ (z2 = 0 → (R (-1 : Int32) h1)))))))))) : AW (GM adK adV) l ad (d + 1) mX10_chance 0 [(0, .ref (ad 0)), (1, .int x1), (2, .int x2), (3, .int x3)] [] h (qi R) := by
  refine aw_aload_n dX10_chance_0 rfl 0 rfl ?_
  refine aw_iconst (v := 0) dX10_chance_1 (by decide) ?_
  refine aw_putI dX10_chance_2 shM0 ckX10 flX10_160 rfl (fun _ => rfl) rfl rfl ?_
  refine aw_iload_n dX10_chance_5 rfl 1 rfl ?_
  refine aw_if_lt (tgt := 28) dX10_chance_6 (by decide) (fun hc6 => ?_) (fun hc6 => ?_)
  · replace H := H.1 hc6
    refine aw_iconst (v := (-1)) dX10_chance_28 (by decide) ?_
    exact aw_iret dX10_chance_29 rfl ⟨_, rfl, H⟩
  · replace H := H.2 hc6
    refine aw_iload_n dX10_chance_9 rfl 2 rfl ?_
    refine aw_iconst (v := 1) dX10_chance_10 (by decide) ?_
    refine aw_icmp_lt (tgt := 28) dX10_chance_11 (by decide) (fun hc5 => ?_) (fun hc5 => ?_)
    · replace H := H.1 hc5
      refine aw_iconst (v := (-1)) dX10_chance_28 (by decide) ?_
      exact aw_iret dX10_chance_29 rfl ⟨_, rfl, H⟩
    · replace H := H.2 hc5
      refine aw_iload_n dX10_chance_14 rfl 2 rfl ?_
      refine aw_bipush (v := 99) dX10_chance_15 (by decide) ?_
      refine aw_icmp_gt (tgt := 28) dX10_chance_17 (by decide) (fun hc4 => ?_) (fun hc4 => ?_)
      · replace H := H.1 hc4
        refine aw_iconst (v := (-1)) dX10_chance_28 (by decide) ?_
        exact aw_iret dX10_chance_29 rfl ⟨_, rfl, H⟩
      · replace H := H.2 hc4
        refine aw_aload_n dX10_chance_20 rfl 0 rfl ?_
        refine aw_iload_n dX10_chance_21 rfl 3 rfl ?_
        refine cvX10_isTusk dX10_chance_22 mlX10_466 shM0 (Nat.le_of_ble_eq_true rfl) H (fun z2 h1 H => ?_)
        refine aw_if_ne (tgt := 30) dX10_chance_25 (by decide) (fun hc3 => ?_) (fun hc3 => ?_)
        · replace H := H.1 hc3
          refine aw_iload_n dX10_chance_30 rfl 1 rfl ?_
          refine aw_istore (ls' := [(4, .int x1), (0, .ref (ad 0)), (1, .int x1), (2, .int x2), (3, .int x3)]) dX10_chance_31 (by decide) rfl ?_
          refine aw_iconst (v := 0) dX10_chance_33 (by decide) ?_
          refine aw_istore (ls' := [(5, .int (0 : Int32)), (4, .int x1), (0, .ref (ad 0)), (1, .int x1), (2, .int x2), (3, .int x3)]) dX10_chance_34 (by decide) rfl ?_
          refine aw_iconst (v := 0) dX10_chance_36 (by decide) ?_
          refine aw_istore (ls' := [(6, .int (0 : Int32)), (5, .int (0 : Int32)), (4, .int x1), (0, .ref (ad 0)), (1, .int x1), (2, .int x2), (3, .int x3)]) dX10_chance_37 (by decide) rfl ?_
          exact aw_ls [3, 5, 6, 2, 1, 0] rfl H
        · replace H := H.2 hc3
          refine aw_iconst (v := (-1)) dX10_chance_28 (by decide) ?_
          exact aw_iret dX10_chance_29 rfl ⟨_, rfl, H⟩
set_option maxRecDepth 8000 in
set_option maxHeartbeats 1000000 in
theorem bX10_chance_39 {adK adV : Nat → Nat} {l : Launch} {ad : Nat → Nat} {d : Nat} {R : Int32 → aH → Prop}   (x2 : Int32) (x3 : Int32) (x4 : Int32) (x5 : Int32) (x6 : Int32)  (h : aH)
    (H : ((10 : Int32) ≤ x6 → (R x5 h)) ∧ (¬ (10 : Int32) ≤ x6 → (AW (GM adK adV) l ad d mX10_copies 0 [(0, .ref (ad 0)), (1, .int (1 : Int32)), (2, .int (0 : Int32))] [] h (qv fun h1 => AW (GM adK adV) l ad (d + 1) mX10_chance 63 [(0, .ref (ad 0)), (2, .int x2), (3, .int x3), (5, .int x5), (6, .int x6), (7, .int (0 : Int32))] [] (sI h1 24 1 x4) (qi R))))) : AW (GM adK adV) l ad (d + 1) mX10_chance 39 [(0, .ref (ad 0)), (2, .int x2), (3, .int x3), (4, .int x4), (5, .int x5), (6, .int x6)] [] h (qi R) := by
  refine aw_iload dX10_chance_39 5 rfl ?_
  refine aw_bipush (v := 10) dX10_chance_41 (by decide) ?_
  refine aw_icmp_ge (tgt := 114) dX10_chance_43 (by decide) (fun hc3 => ?_) (fun hc3 => ?_)
  · replace H := H.1 hc3
    refine aw_iload dX10_chance_114 4 rfl ?_
    exact aw_iret dX10_chance_116 rfl ⟨_, rfl, H⟩
  · replace H := H.2 hc3
    refine aw_aload_n dX10_chance_46 rfl 0 rfl ?_
    refine aw_iconst (v := 1) dX10_chance_47 (by decide) ?_
    refine aw_iconst (v := 0) dX10_chance_48 (by decide) ?_
    refine cvX10_copies dX10_chance_49 mlX10_450 shM0 (Nat.le_of_ble_eq_true rfl) H (fun h1 H => ?_)
    refine aw_aload_n dX10_chance_52 rfl 0 rfl ?_
    refine aw_get dX10_chance_53 shM0 ckX10 flX10_84 (v := .ref (ad 24)) rfl ?_
    refine aw_iconst (v := 1) dX10_chance_56 (by decide) ?_
    refine aw_iload dX10_chance_57 3 rfl ?_
    refine aw_iastK (t0 := 0) (j := 1) dX10_chance_59 shM24 rfl (by decide) (vp_inK (by decide) (by decide)) ?_
    refine aw_iconst (v := 0) dX10_chance_60 (by decide) ?_
    refine aw_istore (ls' := [(7, .int (0 : Int32)), (0, .ref (ad 0)), (2, .int x2), (3, .int x3), (4, .int x4), (5, .int x5), (6, .int x6)]) dX10_chance_61 (by decide) rfl ?_
    exact aw_ls [1, 2, 3, 5, 6, 0] rfl H
set_option maxRecDepth 8000 in
set_option maxHeartbeats 1000000 in
theorem bX10_chance_63 {adK adV : Nat → Nat} {l : Launch} {ad : Nat → Nat} {d : Nat} {R : Int32 → aH → Prop}   (x2 : Int32) (x3 : Int32) (x5 : Int32) (x6 : Int32) (x7 : Int32)  (h : aH)
    (H : (x2 ≤ x7 → (AW (GM adK adV) l ad d mX10_isAlive 0 [(0, .ref (ad 0)), (1, .int (1 : Int32)), (2, .int x3)] [] h (qi fun z2 h1 => ∀ t3 : Int32, t3 = (if z2 = 0 then (0 : Int32) else (1 : Int32)) → (AW (GM adK adV) l ad (d + 1) mX10_chance 39 [(0, .ref (ad 0)), (2, .int x2), (3, .int x3), (4, .int (h.1 24 1)), (5, .int (x5 + t3)), (6, .int (x6 + (1 : Int32)))] [] h1 (qi R))))) ∧ (¬ x2 ≤ x7 → (AW (GM adK adV) l ad d mX10_passes 0 [(0, .ref (ad 0)), (1, .int (1 : Int32)), (2, .int (1 : Int32))] [] h (qv fun h6 => AW (GM adK adV) l ad (d + 1) mX10_chance 63 [(0, .ref (ad 0)), (2, .int x2), (3, .int x3), (5, .int x5), (6, .int x6), (7, .int (x7 + (1 : Int32)))] [] h6 (qi R))))) : AW (GM adK adV) l ad (d + 1) mX10_chance 63 [(0, .ref (ad 0)), (2, .int x2), (3, .int x3), (5, .int x5), (6, .int x6), (7, .int x7)] [] h (qi R) := by
  refine aw_iload dX10_chance_63 5 rfl ?_
  refine aw_iload_n dX10_chance_65 rfl 1 rfl ?_
  refine aw_icmp_ge (tgt := 81) dX10_chance_66 (by decide) (fun hc8 => ?_) (fun hc8 => ?_)
  · replace H := H.1 hc8
    refine aw_aload_n dX10_chance_81 rfl 0 rfl ?_
    refine aw_get dX10_chance_82 shM0 ckX10 flX10_84 (v := .ref (ad 24)) rfl ?_
    refine aw_iconst (v := 1) dX10_chance_85 (by decide) ?_
    refine aw_ialdK (t0 := 0) (j := 1) dX10_chance_86 shM24 rfl (by decide) (vp_inK (by decide) (by decide)) ?_
    refine aw_istore (ls' := [(4, .int (h.1 24 1)), (0, .ref (ad 0)), (2, .int x2), (3, .int x3), (5, .int x5), (6, .int x6), (7, .int x7)]) dX10_chance_87 (by decide) rfl ?_
    refine aw_iload dX10_chance_89 4 rfl ?_
    refine aw_aload_n dX10_chance_91 rfl 1 rfl ?_
    refine aw_iconst (v := 1) dX10_chance_92 (by decide) ?_
    refine aw_iload_n dX10_chance_93 rfl 3 rfl ?_
    refine cvX10_isAlive dX10_chance_94 mlX10_391 shM0 (Nat.le_of_ble_eq_true rfl) H (fun z2 h1 H => ?_)
    have H : True ∧ ∀ t3 : Int32, t3 = (if z2 = 0 then (0 : Int32) else (1 : Int32)) → (AW (GM adK adV) l ad (d + 1) mX10_chance 39 [(0, .ref (ad 0)), (2, .int x2), (3, .int x3), (4, .int (h.1 24 1)), (5, .int (x5 + t3)), (6, .int (x6 + (1 : Int32)))] [] h1 (qi R)) := ⟨trivial, H⟩
    have K4 : ∀ t3 : Int32, (AW (GM adK adV) l ad (d + 1) mX10_chance 39 [(0, .ref (ad 0)), (2, .int x2), (3, .int x3), (4, .int (h.1 24 1)), (5, .int (x5 + t3)), (6, .int (x6 + (1 : Int32)))] [] h1 (qi R)) → AW (GM adK adV) l ad (d + 1) mX10_chance 105 [(4, .int (h.1 24 1)), (0, .ref (ad 0)), (2, .int x2), (3, .int x3), (5, .int x5), (6, .int x6), (7, .int x7)] [.int t3, .int x5] h1 (qi R) := by
      intro t3 H
      refine aw_iadd dX10_chance_105 ?_
      refine aw_istore (ls' := [(5, .int (x5 + t3)), (4, .int (h.1 24 1)), (0, .ref (ad 0)), (2, .int x2), (3, .int x3), (6, .int x6), (7, .int x7)]) dX10_chance_106 (by decide) rfl ?_
      refine aw_inc (mm := (1)) (ls' := [(6, .int (x6 + (1 : Int32))), (5, .int (x5 + t3)), (4, .int (h.1 24 1)), (0, .ref (ad 0)), (2, .int x2), (3, .int x3), (7, .int x7)]) dX10_chance_108 (by decide) (j := 5) rfl (by decide) rfl ?_
      refine aw_goto (tgt := 39) dX10_chance_111 (by decide) ?_
      exact aw_ls [3, 4, 5, 2, 1, 0] rfl H
    refine aw_if_eq (tgt := 104) dX10_chance_97 (by decide) (fun hc5 => ?_) (fun hc5 => ?_)
    · refine aw_iconst (v := (0)) dX10_chance_104 (by decide) ?_
      exact K4 _ (H.2 _ (by simp only [if_pos hc5]))
    · refine aw_iconst (v := (1)) dX10_chance_100 (by decide) ?_
      refine aw_goto (tgt := 105) dX10_chance_101 (by decide) ?_
      exact K4 _ (H.2 _ (by simp only [if_neg hc5]))
  · replace H := H.2 hc8
    refine aw_aload_n dX10_chance_69 rfl 0 rfl ?_
    refine aw_iconst (v := 1) dX10_chance_70 (by decide) ?_
    refine aw_iconst (v := 1) dX10_chance_71 (by decide) ?_
    refine cvX10_passes dX10_chance_72 mlX10_447 shM0 (Nat.le_of_ble_eq_true rfl) H (fun h6 H => ?_)
    refine aw_inc (mm := (1)) (ls' := [(7, .int (x7 + (1 : Int32))), (0, .ref (ad 0)), (2, .int x2), (3, .int x3), (5, .int x5), (6, .int x6)]) dX10_chance_75 (by decide) (j := 5) rfl (by decide) rfl ?_
    refine aw_goto (tgt := 63) dX10_chance_78 (by decide) ?_
    exact aw_ls [1, 2, 3, 4, 5, 0] rfl H
set_option maxRecDepth 8000 in
set_option maxHeartbeats 1000000 in
theorem bX10_tried_0 {adK adV : Nat → Nat} {l : Launch} {ad : Nat → Nat} {d : Nat} {R : Int32 → aH → Prop}   (x1 : Int32) (x2 : Int32) (x3 : Int32)  (h : aH)
    (H : (¬ x1 = (2 : Int32) → ((x1 < 0 → (AW (GM adK adV) l ad (d + 1) mX10_tried 35 [(0, .ref (ad 0)), (1, .int x1), (2, .int x2), (3, .int x3)] [] (sI h 0 0 (0 : Int32)) (qi R))) ∧ (¬ x1 < 0 → (((5 : Int32) < x1 → (AW (GM adK adV) l ad (d + 1) mX10_tried 35 [(0, .ref (ad 0)), (1, .int x1), (2, .int x2), (3, .int x3)] [] (sI h 0 0 (0 : Int32)) (qi R))) ∧ (¬ (5 : Int32) < x1 → ((¬ x2 = 0 → (AW (GM adK adV) l ad (d + 1) mX10_tried 35 [(0, .ref (ad 0)), (1, .int x1), (2, .int x2), (3, .int x3)] [] (sI h 0 0 (0 : Int32)) (qi R))) ∧ (x2 = 0 → (AW (GM adK adV) l ad (d + 1) mX10_tried 36 [(0, .ref (ad 0)), (1, .int x1), (2, .int x2), (3, .int x3)] [.int (1 : Int32)] (sI h 0 0 (0 : Int32)) (qi R))))))))) ∧ (x1 = (2 : Int32) → (AW (GM adK adV) l ad d mX10_isTusk 0 [(0, .ref (ad 0)), (1, .int x2)] [] (sI h 0 0 (0 : Int32)) (qi fun z5 h4 => AW (GM adK adV) l ad (d + 1) mX10_tried 36 [(0, .ref (ad 0)), (1, .int x1), (2, .int x2), (3, .int x3)] [.int z5] h4 (qi R))))) : AW (GM adK adV) l ad (d + 1) mX10_tried 0 [(0, .ref (ad 0)), (1, .int x1), (2, .int x2), (3, .int x3)] [] h (qi R) := by
  refine aw_aload_n dX10_tried_0 rfl 0 rfl ?_
  refine aw_iconst (v := 0) dX10_tried_1 (by decide) ?_
  refine aw_putI dX10_tried_2 shM0 ckX10 flX10_160 rfl (fun _ => rfl) rfl rfl ?_
  refine aw_iload_n dX10_tried_5 rfl 1 rfl ?_
  refine aw_iconst (v := 2) dX10_tried_6 (by decide) ?_
  refine aw_icmp_ne (tgt := 18) dX10_tried_7 (by decide) (fun hc6 => ?_) (fun hc6 => ?_)
  · replace H := H.1 hc6
    refine aw_iload_n dX10_tried_18 rfl 1 rfl ?_
    refine aw_if_lt (tgt := 35) dX10_tried_19 (by decide) (fun hc3 => ?_) (fun hc3 => ?_)
    · replace H := H.1 hc3
      exact aw_ls [0, 1, 2, 3] rfl H
    · replace H := H.2 hc3
      refine aw_iload_n dX10_tried_22 rfl 1 rfl ?_
      refine aw_iconst (v := 5) dX10_tried_23 (by decide) ?_
      refine aw_icmp_gt (tgt := 35) dX10_tried_24 (by decide) (fun hc2 => ?_) (fun hc2 => ?_)
      · replace H := H.1 hc2
        exact aw_ls [0, 1, 2, 3] rfl H
      · replace H := H.2 hc2
        refine aw_iload_n dX10_tried_27 rfl 2 rfl ?_
        refine aw_if_ne (tgt := 35) dX10_tried_28 (by decide) (fun hc1 => ?_) (fun hc1 => ?_)
        · replace H := H.1 hc1
          exact aw_ls [0, 1, 2, 3] rfl H
        · replace H := H.2 hc1
          refine aw_iconst (v := 1) dX10_tried_31 (by decide) ?_
          refine aw_goto (tgt := 36) dX10_tried_32 (by decide) ?_
          exact aw_ls [0, 1, 2, 3] rfl H
  · replace H := H.2 hc6
    refine aw_aload_n dX10_tried_10 rfl 0 rfl ?_
    refine aw_iload_n dX10_tried_11 rfl 2 rfl ?_
    refine cvX10_isTusk dX10_tried_12 mlX10_466 shM0 (Nat.le_of_ble_eq_true rfl) H (fun z5 h4 H => ?_)
    refine aw_goto (tgt := 36) dX10_tried_15 (by decide) ?_
    exact aw_ls [0, 1, 2, 3] rfl H
set_option maxRecDepth 8000 in
set_option maxHeartbeats 1000000 in
theorem bX10_tried_35 {adK adV : Nat → Nat} {l : Launch} {ad : Nat → Nat} {d : Nat} {R : Int32 → aH → Prop}   (x1 : Int32) (x2 : Int32) (x3 : Int32)  (h : aH)
    (H : AW (GM adK adV) l ad (d + 1) mX10_tried 36 [(0, .ref (ad 0)), (1, .int x1), (2, .int x2), (3, .int x3)] [.int (0 : Int32)] h (qi R)) : AW (GM adK adV) l ad (d + 1) mX10_tried 35 [(0, .ref (ad 0)), (1, .int x1), (2, .int x2), (3, .int x3)] [] h (qi R) := by
  refine aw_iconst (v := 0) dX10_tried_35 (by decide) ?_
  exact aw_ls [0, 1, 2, 3] rfl H
set_option maxRecDepth 8000 in
set_option maxHeartbeats 1000000 in
theorem bX10_tried_36 {adK adV : Nat → Nat} {l : Launch} {ad : Nat → Nat} {d : Nat} {R : Int32 → aH → Prop}   (x1 : Int32) (x2 : Int32) (x3 : Int32) (s0 : Int32)  (h : aH)
    (H : (s0 = 0 → (R (-1 : Int32) h)) ∧ (¬ s0 = 0 → ((x3 < 0 → (R (-1 : Int32) h)) ∧ (¬ x3 < 0 → ((x3 ≤ (99 : Int32) → (AW (GM adK adV) l ad d mX10_copies 0 [(0, .ref (ad 0)), (1, .int (1 : Int32)), (2, .int (0 : Int32))] [] h (qv fun h1 => (¬ x1 = (2 : Int32) → (AW (GM adK adV) l ad (d + 1) mX10_tried 79 [(0, .ref (ad 0)), (1, .int x1), (2, .int x2), (3, .int x3), (5, .int (0 : Int32))] [] h1 (qi R))) ∧ (x1 = (2 : Int32) → (vp_in ((6 : Int32) + x2) 138 ∧ (AW (GM adK adV) l ad (d + 1) mX10_tried 79 [(0, .ref (ad 0)), (1, .int x1), (2, .int x2), (3, .int x3), (5, .int (0 : Int32))] [] (sI h1 29 ((6 : Int32) + x2).toNatClampNeg (0 : Int32)) (qi R))))))) ∧ (¬ x3 ≤ (99 : Int32) → (R (-1 : Int32) h))))))) : AW (GM adK adV) l ad (d + 1) mX10_tried 36 [(0, .ref (ad 0)), (1, .int x1), (2, .int x2), (3, .int x3)] [.int s0] h (qi R) := by
  refine aw_istore (ls' := [(4, .int s0), (0, .ref (ad 0)), (1, .int x1), (2, .int x2), (3, .int x3)]) dX10_tried_36 (by decide) rfl ?_
  refine aw_iload dX10_tried_38 0 rfl ?_
  refine aw_if_eq (tgt := 53) dX10_tried_40 (by decide) (fun hc7 => ?_) (fun hc7 => ?_)
  · replace H := H.1 hc7
    refine aw_iconst (v := (-1)) dX10_tried_53 (by decide) ?_
    exact aw_iret dX10_tried_54 rfl ⟨_, rfl, H⟩
  · replace H := H.2 hc7
    refine aw_iload_n dX10_tried_43 rfl 4 rfl ?_
    refine aw_if_lt (tgt := 53) dX10_tried_44 (by decide) (fun hc6 => ?_) (fun hc6 => ?_)
    · replace H := H.1 hc6
      refine aw_iconst (v := (-1)) dX10_tried_53 (by decide) ?_
      exact aw_iret dX10_tried_54 rfl ⟨_, rfl, H⟩
    · replace H := H.2 hc6
      refine aw_iload_n dX10_tried_47 rfl 4 rfl ?_
      refine aw_bipush (v := 99) dX10_tried_48 (by decide) ?_
      refine aw_icmp_le (tgt := 55) dX10_tried_50 (by decide) (fun hc5 => ?_) (fun hc5 => ?_)
      · replace H := H.1 hc5
        refine aw_aload_n dX10_tried_55 rfl 1 rfl ?_
        refine aw_iconst (v := 1) dX10_tried_56 (by decide) ?_
        refine aw_iconst (v := 0) dX10_tried_57 (by decide) ?_
        refine cvX10_copies dX10_tried_58 mlX10_450 shM0 (Nat.le_of_ble_eq_true rfl) H (fun h1 H => ?_)
        refine aw_iload_n dX10_tried_61 rfl 2 rfl ?_
        refine aw_iconst (v := 2) dX10_tried_62 (by decide) ?_
        refine aw_icmp_ne (tgt := 76) dX10_tried_63 (by decide) (fun hc4 => ?_) (fun hc4 => ?_)
        · replace H := H.1 hc4
          refine aw_iconst (v := 0) dX10_tried_76 (by decide) ?_
          refine aw_istore (ls' := [(5, .int (0 : Int32)), (4, .int s0), (0, .ref (ad 0)), (1, .int x1), (2, .int x2), (3, .int x3)]) dX10_tried_77 (by decide) rfl ?_
          exact aw_ls [2, 3, 4, 5, 0] rfl H
        · replace H := H.2 hc4
          refine aw_aload_n dX10_tried_66 rfl 1 rfl ?_
          refine aw_get dX10_tried_67 shM0 ckX10 flX10_99 (v := .ref (ad 29)) rfl ?_
          refine aw_bipush (v := 6) dX10_tried_70 (by decide) ?_
          refine aw_iload_n dX10_tried_72 rfl 3 rfl ?_
          refine aw_iadd dX10_tried_73 ?_
          refine aw_iconst (v := 0) dX10_tried_74 (by decide) ?_
          obtain ⟨hi3, H⟩ := H
          refine aw_iastK (t0 := 0) (j := ((6 : Int32) + x2).toNatClampNeg) dX10_tried_75 shM29 rfl rfl hi3 ?_
          refine aw_iconst (v := 0) dX10_tried_76 (by decide) ?_
          refine aw_istore (ls' := [(5, .int (0 : Int32)), (4, .int s0), (0, .ref (ad 0)), (1, .int x1), (2, .int x2), (3, .int x3)]) dX10_tried_77 (by decide) rfl ?_
          exact aw_ls [2, 3, 4, 5, 0] rfl H
      · replace H := H.2 hc5
        refine aw_iconst (v := (-1)) dX10_tried_53 (by decide) ?_
        exact aw_iret dX10_tried_54 rfl ⟨_, rfl, H⟩
set_option maxRecDepth 8000 in
set_option maxHeartbeats 1000000 in
theorem bX10_tried_79 {adK adV : Nat → Nat} {l : Launch} {ad : Nat → Nat} {d : Nat} {R : Int32 → aH → Prop}   (x1 : Int32) (x2 : Int32) (x3 : Int32) (x5 : Int32)  (h : aH)
    (H : ((h.1 25 0) ≤ x5 → (AW (GM adK adV) l ad (d + 1) mX10_tried 158 [(0, .ref (ad 0)), (1, .int x1), (2, .int x2), (3, .int x3)] [] h (qi R))) ∧ (¬ (h.1 25 0) ≤ x5 → ((¬ x1 = (5 : Int32) → (AW (GM adK adV) l ad (d + 1) mX10_tried 158 [(0, .ref (ad 0)), (1, .int x1), (2, .int x2), (3, .int x3)] [] h (qi R))) ∧ (x1 = (5 : Int32) → (AW (GM adK adV) l ad (d + 1) mX10_tried 98 [(0, .ref (ad 0)), (1, .int x1), (2, .int x2), (3, .int x3), (5, .int x5), (6, .int (0 : Int32))] [] h (qi R)))))) : AW (GM adK adV) l ad (d + 1) mX10_tried 79 [(0, .ref (ad 0)), (1, .int x1), (2, .int x2), (3, .int x3), (5, .int x5)] [] h (qi R) := by
  refine aw_iload dX10_tried_79 4 rfl ?_
  refine aw_aload_n dX10_tried_81 rfl 0 rfl ?_
  refine aw_get dX10_tried_82 shM0 ckX10 flX10_87 (v := .ref (ad 25)) rfl ?_
  refine aw_iconst (v := 0) dX10_tried_85 (by decide) ?_
  refine aw_ialdK (t0 := 0) (j := 0) dX10_tried_86 shM25 rfl (by decide) (vp_inK (by decide) (by decide)) ?_
  refine aw_icmp_ge (tgt := 158) dX10_tried_87 (by decide) (fun hc2 => ?_) (fun hc2 => ?_)
  · replace H := H.1 hc2
    exact aw_ls [0, 1, 2, 3] rfl H
  · replace H := H.2 hc2
    refine aw_iload_n dX10_tried_90 rfl 1 rfl ?_
    refine aw_iconst (v := 5) dX10_tried_91 (by decide) ?_
    refine aw_icmp_ne (tgt := 158) dX10_tried_92 (by decide) (fun hc1 => ?_) (fun hc1 => ?_)
    · replace H := H.1 hc1
      exact aw_ls [0, 1, 2, 3] rfl H
    · replace H := H.2 hc1
      refine aw_iconst (v := 0) dX10_tried_95 (by decide) ?_
      refine aw_istore (ls' := [(6, .int (0 : Int32)), (0, .ref (ad 0)), (1, .int x1), (2, .int x2), (3, .int x3), (5, .int x5)]) dX10_tried_96 (by decide) rfl ?_
      exact aw_ls [1, 2, 3, 4, 5, 0] rfl H
set_option maxRecDepth 8000 in
set_option maxHeartbeats 1000000 in
theorem bX10_tried_98 {adK adV : Nat → Nat} {l : Launch} {ad : Nat → Nat} {d : Nat} {R : Int32 → aH → Prop}   (x1 : Int32) (x2 : Int32) (x3 : Int32) (x5 : Int32) (x6 : Int32)  (h : aH)
    (H : ((h.1 2 1) ≤ x6 → (AW (GM adK adV) l ad (d + 1) mX10_tried 79 [(0, .ref (ad 0)), (1, .int x1), (2, .int x2), (3, .int x3), (5, .int (x5 + (1 : Int32)))] [] h (qi R))) ∧ (¬ (h.1 2 1) ≤ x6 → (AW (GM adK adV) l ad d mX10_isOpen 0 [(0, .ref (ad 0)), (1, .int (0 : Int32)), (2, .int x5)] [] h (qi fun z2 h1 => (z2 = 0 → (AW (GM adK adV) l ad (d + 1) mX10_tried 98 [(0, .ref (ad 0)), (1, .int x1), (2, .int x2), (3, .int x3), (5, .int x5), (6, .int (x6 + (1 : Int32)))] [] h1 (qi R))) ∧ (¬ z2 = 0 → (AW (GM adK adV) l ad d mX10_isAlive 0 [(0, .ref (ad 0)), (1, .int (0 : Int32)), (2, .int x6)] [] h1 (qi fun z4 h3 => (z4 = 0 → (AW (GM adK adV) l ad (d + 1) mX10_tried 98 [(0, .ref (ad 0)), (1, .int x1), (2, .int x2), (3, .int x3), (5, .int x5), (6, .int (x6 + (1 : Int32)))] [] h3 (qi R))) ∧ (¬ z4 = 0 → (vp_in ((6 : Int32) + x6) 138 ∧ (∀ h6 : aH, h6 = (sI h3 29 ((6 : Int32) + x6).toNatClampNeg ((h3.1 29 ((6 : Int32) + x6).toNatClampNeg) ||| ((1 : Int32) <<< (x5 &&& 31)))) → (AW (GM adK adV) l ad (d + 1) mX10_tried 98 [(0, .ref (ad 0)), (1, .int x1), (2, .int x2), (3, .int x3), (5, .int x5), (6, .int (x6 + (1 : Int32)))] [] h6 (qi R)))))))))))) : AW (GM adK adV) l ad (d + 1) mX10_tried 98 [(0, .ref (ad 0)), (1, .int x1), (2, .int x2), (3, .int x3), (5, .int x5), (6, .int x6)] [] h (qi R) := by
  refine aw_iload dX10_tried_98 5 rfl ?_
  refine aw_aload_n dX10_tried_100 rfl 0 rfl ?_
  refine aw_get dX10_tried_101 shM0 ckX10 flX10_13 (v := .ref (ad 2)) rfl ?_
  refine aw_iconst (v := 1) dX10_tried_104 (by decide) ?_
  refine aw_ialdK (t0 := 0) (j := 1) dX10_tried_105 shM2 rfl (by decide) (vp_inK (by decide) (by decide)) ?_
  refine aw_icmp_ge (tgt := 152) dX10_tried_106 (by decide) (fun hc9 => ?_) (fun hc9 => ?_)
  · replace H := H.1 hc9
    refine aw_inc (mm := (1)) (ls' := [(5, .int (x5 + (1 : Int32))), (0, .ref (ad 0)), (1, .int x1), (2, .int x2), (3, .int x3), (6, .int x6)]) dX10_tried_152 (by decide) (j := 4) rfl (by decide) rfl ?_
    refine aw_goto (tgt := 79) dX10_tried_155 (by decide) ?_
    exact aw_ls [1, 2, 3, 4, 0] rfl H
  · replace H := H.2 hc9
    refine aw_aload_n dX10_tried_109 rfl 0 rfl ?_
    refine aw_iconst (v := 0) dX10_tried_110 (by decide) ?_
    refine aw_iload dX10_tried_111 4 rfl ?_
    refine cvX10_isOpen dX10_tried_113 mlX10_402 shM0 (Nat.le_of_ble_eq_true rfl) H (fun z2 h1 H => ?_)
    refine aw_if_eq (tgt := 146) dX10_tried_116 (by decide) (fun hc8 => ?_) (fun hc8 => ?_)
    · replace H := H.1 hc8
      refine aw_inc (mm := (1)) (ls' := [(6, .int (x6 + (1 : Int32))), (0, .ref (ad 0)), (1, .int x1), (2, .int x2), (3, .int x3), (5, .int x5)]) dX10_tried_146 (by decide) (j := 5) rfl (by decide) rfl ?_
      refine aw_goto (tgt := 98) dX10_tried_149 (by decide) ?_
      exact aw_ls [1, 2, 3, 4, 5, 0] rfl H
    · replace H := H.2 hc8
      refine aw_aload_n dX10_tried_119 rfl 0 rfl ?_
      refine aw_iconst (v := 0) dX10_tried_120 (by decide) ?_
      refine aw_iload dX10_tried_121 5 rfl ?_
      refine cvX10_isAlive dX10_tried_123 mlX10_391 shM0 (Nat.le_of_ble_eq_true rfl) H (fun z4 h3 H => ?_)
      refine aw_if_eq (tgt := 146) dX10_tried_126 (by decide) (fun hc7 => ?_) (fun hc7 => ?_)
      · replace H := H.1 hc7
        refine aw_inc (mm := (1)) (ls' := [(6, .int (x6 + (1 : Int32))), (0, .ref (ad 0)), (1, .int x1), (2, .int x2), (3, .int x3), (5, .int x5)]) dX10_tried_146 (by decide) (j := 5) rfl (by decide) rfl ?_
        refine aw_goto (tgt := 98) dX10_tried_149 (by decide) ?_
        exact aw_ls [1, 2, 3, 4, 5, 0] rfl H
      · replace H := H.2 hc7
        refine aw_aload_n dX10_tried_129 rfl 0 rfl ?_
        refine aw_get dX10_tried_130 shM0 ckX10 flX10_99 (v := .ref (ad 29)) rfl ?_
        refine aw_bipush (v := 6) dX10_tried_133 (by decide) ?_
        refine aw_iload dX10_tried_135 5 rfl ?_
        refine aw_iadd dX10_tried_137 ?_
        refine aw_dup2 dX10_tried_138 rfl rfl ?_
        obtain ⟨hi5, H⟩ := H
        refine aw_ialdK (t0 := 0) (j := ((6 : Int32) + x6).toNatClampNeg) dX10_tried_139 shM29 rfl rfl hi5 ?_
        refine aw_iconst (v := 1) dX10_tried_140 (by decide) ?_
        refine aw_iload dX10_tried_141 4 rfl ?_
        refine aw_ishl dX10_tried_143 ?_
        refine aw_ior dX10_tried_144 ?_
        refine aw_iastK (t0 := 0) (j := ((6 : Int32) + x6).toNatClampNeg) dX10_tried_145 shM29 rfl rfl hi5 ?_
        refine aw_toph (fun h6 eh6 => ?_)
        replace H := H h6 eh6
        refine aw_inc (mm := (1)) (ls' := [(6, .int (x6 + (1 : Int32))), (0, .ref (ad 0)), (1, .int x1), (2, .int x2), (3, .int x3), (5, .int x5)]) dX10_tried_146 (by decide) (j := 5) rfl (by decide) rfl ?_
        refine aw_goto (tgt := 98) dX10_tried_149 (by decide) ?_
        exact aw_ls [1, 2, 3, 4, 5, 0] rfl H
set_option maxRecDepth 8000 in
set_option maxHeartbeats 1000000 in
theorem bX10_tried_158 {adK adV : Nat → Nat} {l : Launch} {ad : Nat → Nat} {d : Nat} {R : Int32 → aH → Prop}   (x1 : Int32) (x2 : Int32) (x3 : Int32)  (h : aH)
    (H : AW (GM adK adV) l ad d mX10_goesOn 0 [(0, .ref (ad 0)), (1, .int x3)] [] (sI (sI h 0 54 x1) 0 55 x2) (qv fun h1 => AW (GM adK adV) l ad d mX10_manyOf 0 [(0, .ref (ad 0)), (1, .int (1 : Int32)), (2, .int (3 : Int32))] [] (sI (sI h1 0 54 (0 : Int32)) 0 55 (-1 : Int32)) (qi fun z4 h3 => AW (GM adK adV) l ad d mX10_manyOf 0 [(0, .ref (ad 0)), (1, .int (0 : Int32)), (2, .int (3 : Int32))] [] h3 (qi fun z6 h5 => R (z4 - z6) h5)))) : AW (GM adK adV) l ad (d + 1) mX10_tried 158 [(0, .ref (ad 0)), (1, .int x1), (2, .int x2), (3, .int x3)] [] h (qi R) := by
  refine aw_aload_n dX10_tried_158 rfl 0 rfl ?_
  refine aw_iload_n dX10_tried_159 rfl 1 rfl ?_
  refine aw_putI dX10_tried_160 shM0 ckX10 flX10_388 rfl (fun _ => rfl) rfl rfl ?_
  refine aw_aload_n dX10_tried_163 rfl 0 rfl ?_
  refine aw_iload_n dX10_tried_164 rfl 2 rfl ?_
  refine aw_putI dX10_tried_165 shM0 ckX10 flX10_123 rfl (fun _ => rfl) rfl rfl ?_
  refine aw_aload_n dX10_tried_168 rfl 0 rfl ?_
  refine aw_iload_n dX10_tried_169 rfl 3 rfl ?_
  refine cvX10_goesOn dX10_tried_170 mlX10_453 shM0 (Nat.le_of_ble_eq_true rfl) H (fun h1 H => ?_)
  refine aw_aload_n dX10_tried_173 rfl 0 rfl ?_
  refine aw_iconst (v := 0) dX10_tried_174 (by decide) ?_
  refine aw_putI dX10_tried_175 shM0 ckX10 flX10_388 rfl (fun _ => rfl) rfl rfl ?_
  refine aw_aload_n dX10_tried_178 rfl 0 rfl ?_
  refine aw_iconst (v := (-1)) dX10_tried_179 (by decide) ?_
  refine aw_putI dX10_tried_180 shM0 ckX10 flX10_123 rfl (fun _ => rfl) rfl rfl ?_
  refine aw_aload_n dX10_tried_183 rfl 0 rfl ?_
  refine aw_iconst (v := 1) dX10_tried_184 (by decide) ?_
  refine aw_iconst (v := 3) dX10_tried_185 (by decide) ?_
  refine cvX10_manyOf dX10_tried_186 mlX10_482 shM0 (Nat.le_of_ble_eq_true rfl) H (fun z4 h3 H => ?_)
  refine aw_aload_n dX10_tried_189 rfl 0 rfl ?_
  refine aw_iconst (v := 0) dX10_tried_190 (by decide) ?_
  refine aw_iconst (v := 3) dX10_tried_191 (by decide) ?_
  refine cvX10_manyOf dX10_tried_192 mlX10_482 shM0 (Nat.le_of_ble_eq_true rfl) H (fun z6 h5 H => ?_)
  refine aw_isub dX10_tried_195 ?_
  exact aw_iret dX10_tried_196 rfl ⟨_, rfl, H⟩
set_option maxRecDepth 8000 in
set_option maxHeartbeats 1000000 in
theorem bX10_undo_0 {adK adV : Nat → Nat} {l : Launch} {ad : Nat → Nat} {d : Nat} {R : Int32 → aH → Prop}     (h : aH)
    (H : (¬ ((sI h 0 0 (0 : Int32)).1 0 53) = 0 → (AW (GM adK adV) l ad d mX10_copies 0 [(0, .ref (ad 0)), (1, .int (0 : Int32)), (2, .int ((3 : Int32) + ((sI (sI h 0 0 (0 : Int32)) 0 53 (((sI h 0 0 (0 : Int32)).1 0 53) - (1 : Int32))).1 0 53)))] [] (sI (sI h 0 0 (0 : Int32)) 0 53 (((sI h 0 0 (0 : Int32)).1 0 53) - (1 : Int32))) (qv fun h1 => R (h1.1 0 53) h1))) ∧ (((sI h 0 0 (0 : Int32)).1 0 53) = 0 → (R (-1 : Int32) (sI h 0 0 (0 : Int32))))) : AW (GM adK adV) l ad (d + 1) mX10_undo 0 [(0, .ref (ad 0))] [] h (qi R) := by
  refine aw_aload_n dX10_undo_0 rfl 0 rfl ?_
  refine aw_iconst (v := 0) dX10_undo_1 (by decide) ?_
  refine aw_putI dX10_undo_2 shM0 ckX10 flX10_160 rfl (fun _ => rfl) rfl rfl ?_
  refine aw_aload_n dX10_undo_5 rfl 0 rfl ?_
  refine aw_get dX10_undo_6 shM0 ckX10 flX10_332 (v := .int ((sI h 0 0 (0 : Int32)).1 0 53)) rfl ?_
  refine aw_if_ne (tgt := 14) dX10_undo_9 (by decide) (fun hc3 => ?_) (fun hc3 => ?_)
  · replace H := H.1 hc3
    refine aw_aload_n dX10_undo_14 rfl 0 rfl ?_
    refine aw_dup dX10_undo_15 rfl ?_
    refine aw_get dX10_undo_16 shM0 ckX10 flX10_332 (v := .int ((sI h 0 0 (0 : Int32)).1 0 53)) rfl ?_
    refine aw_iconst (v := 1) dX10_undo_19 (by decide) ?_
    refine aw_isub dX10_undo_20 ?_
    refine aw_putI dX10_undo_21 shM0 ckX10 flX10_332 rfl (fun _ => rfl) rfl rfl ?_
    refine aw_aload_n dX10_undo_24 rfl 0 rfl ?_
    refine aw_iconst (v := 0) dX10_undo_25 (by decide) ?_
    refine aw_iconst (v := 3) dX10_undo_26 (by decide) ?_
    refine aw_aload_n dX10_undo_27 rfl 0 rfl ?_
    refine aw_get dX10_undo_28 shM0 ckX10 flX10_332 (v := .int ((sI (sI h 0 0 (0 : Int32)) 0 53 (((sI h 0 0 (0 : Int32)).1 0 53) - (1 : Int32))).1 0 53)) rfl ?_
    refine aw_iadd dX10_undo_31 ?_
    refine cvX10_copies dX10_undo_32 mlX10_450 shM0 (Nat.le_of_ble_eq_true rfl) H (fun h1 H => ?_)
    refine aw_aload_n dX10_undo_35 rfl 0 rfl ?_
    refine aw_get dX10_undo_36 shM0 ckX10 flX10_332 (v := .int (h1.1 0 53)) rfl ?_
    exact aw_iret dX10_undo_39 rfl ⟨_, rfl, H⟩
  · replace H := H.2 hc3
    refine aw_iconst (v := (-1)) dX10_undo_12 (by decide) ?_
    exact aw_iret dX10_undo_13 rfl ⟨_, rfl, H⟩
set_option maxRecDepth 8000 in
set_option maxHeartbeats 1000000 in
theorem bX10_image_0 {adK adV : Nat → Nat} {l : Launch} {ad : Nat → Nat} {d : Nat} {R : Int32 → aH → Prop}     (h : aH)
    (H : AW (GM adK adV) l ad d mX10_copies 0 [(0, .ref (ad 0)), (1, .int (2 : Int32)), (2, .int (0 : Int32))] [] (sI h 0 0 (0 : Int32)) (qv fun h1 => R ((sI h1 0 52 (1 : Int32)).1 23 0) (sI h1 0 52 (1 : Int32)))) : AW (GM adK adV) l ad (d + 1) mX10_image 0 [(0, .ref (ad 0))] [] h (qi R) := by
  refine aw_aload_n dX10_image_0 rfl 0 rfl ?_
  refine aw_iconst (v := 0) dX10_image_1 (by decide) ?_
  refine aw_putI dX10_image_2 shM0 ckX10 flX10_160 rfl (fun _ => rfl) rfl rfl ?_
  refine aw_aload_n dX10_image_5 rfl 0 rfl ?_
  refine aw_iconst (v := 2) dX10_image_6 (by decide) ?_
  refine aw_iconst (v := 0) dX10_image_7 (by decide) ?_
  refine cvX10_copies dX10_image_8 mlX10_450 shM0 (Nat.le_of_ble_eq_true rfl) H (fun h1 H => ?_)
  refine aw_aload_n dX10_image_11 rfl 0 rfl ?_
  refine aw_iconst (v := 1) dX10_image_12 (by decide) ?_
  refine aw_putI dX10_image_13 shM0 ckX10 flX10_328 rfl (fun _ => rfl) (show narrow .boolean (.int (1 : Int32)) = .int (1 : Int32) by decide) (show fits .boolean (.int (1 : Int32)) = true by decide) ?_
  refine aw_aload_n dX10_image_16 rfl 0 rfl ?_
  refine aw_get dX10_image_17 shM0 ckX10 flX10_81 (v := .ref (ad 23)) rfl ?_
  refine aw_iconst (v := 0) dX10_image_20 (by decide) ?_
  refine aw_ialdK (t0 := 0) (j := 0) dX10_image_21 shM23 rfl (by decide) (vp_inK (by decide) (by decide)) ?_
  exact aw_iret dX10_image_22 rfl ⟨_, rfl, H⟩
set_option maxRecDepth 8000 in
set_option maxHeartbeats 1000000 in
theorem bX10_back_0 {adK adV : Nat → Nat} {l : Launch} {ad : Nat → Nat} {d : Nat} {R : Int32 → aH → Prop}     (h : aH)
    (H : (¬ ((sI h 0 0 (0 : Int32)).1 0 52) = 0 → (AW (GM adK adV) l ad d mX10_copies 0 [(0, .ref (ad 0)), (1, .int (0 : Int32)), (2, .int (2 : Int32))] [] (sI h 0 0 (0 : Int32)) (qv fun h1 => R ((sI h1 0 53 (0 : Int32)).1 23 0) (sI h1 0 53 (0 : Int32))))) ∧ (((sI h 0 0 (0 : Int32)).1 0 52) = 0 → (R (-1 : Int32) (sI h 0 0 (0 : Int32))))) : AW (GM adK adV) l ad (d + 1) mX10_back 0 [(0, .ref (ad 0))] [] h (qi R) := by
  refine aw_aload_n dX10_back_0 rfl 0 rfl ?_
  refine aw_iconst (v := 0) dX10_back_1 (by decide) ?_
  refine aw_putI dX10_back_2 shM0 ckX10 flX10_160 rfl (fun _ => rfl) rfl rfl ?_
  refine aw_aload_n dX10_back_5 rfl 0 rfl ?_
  refine aw_get dX10_back_6 shM0 ckX10 flX10_328 (v := .int ((sI h 0 0 (0 : Int32)).1 0 52)) rfl ?_
  refine aw_if_ne (tgt := 14) dX10_back_9 (by decide) (fun hc3 => ?_) (fun hc3 => ?_)
  · replace H := H.1 hc3
    refine aw_aload_n dX10_back_14 rfl 0 rfl ?_
    refine aw_iconst (v := 0) dX10_back_15 (by decide) ?_
    refine aw_iconst (v := 2) dX10_back_16 (by decide) ?_
    refine cvX10_copies dX10_back_17 mlX10_450 shM0 (Nat.le_of_ble_eq_true rfl) H (fun h1 H => ?_)
    refine aw_aload_n dX10_back_20 rfl 0 rfl ?_
    refine aw_iconst (v := 0) dX10_back_21 (by decide) ?_
    refine aw_putI dX10_back_22 shM0 ckX10 flX10_332 rfl (fun _ => rfl) rfl rfl ?_
    refine aw_aload_n dX10_back_25 rfl 0 rfl ?_
    refine aw_get dX10_back_26 shM0 ckX10 flX10_81 (v := .ref (ad 23)) rfl ?_
    refine aw_iconst (v := 0) dX10_back_29 (by decide) ?_
    refine aw_ialdK (t0 := 0) (j := 0) dX10_back_30 shM23 rfl (by decide) (vp_inK (by decide) (by decide)) ?_
    exact aw_iret dX10_back_31 rfl ⟨_, rfl, H⟩
  · replace H := H.2 hc3
    refine aw_iconst (v := (-1)) dX10_back_12 (by decide) ?_
    exact aw_iret dX10_back_13 rfl ⟨_, rfl, H⟩
