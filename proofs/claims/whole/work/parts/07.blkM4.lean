theorem bX10_had_90 {adK adV : Nat → Nat} {l : Launch} {ad : Nat → Nat} {d : Nat} {R : Int32 → aH → Prop}   (x1 : Int32) (x2 : Int32) (x3 : Int32)  (h : aH)
    (H : AW (GM adK adV) l ad d mX10_knownMany 0 [(0, .ref (ad 0))] [] h (qi fun v2 h1 => (v2 ≤ x3 → (AW (GM adK adV) l ad (d + 1) mX10_had 139 [(0, .ref (ad 0)), (1, .int x1), (2, .int x2), (3, .int (0 : Int32)), (4, .int (0 : Int32))] [] h1 (qi R))) ∧ (¬ v2 ≤ x3 → (vp_in x3 24 ∧ ((¬ (h1.1 45 x3.toNatClampNeg) = 0 → (AW (GM adK adV) l ad (d + 1) mX10_had 90 [(0, .ref (ad 0)), (1, .int x1), (2, .int x2), (3, .int (x3 + (1 : Int32)))] [] h1 (qi R))) ∧ ((h1.1 45 x3.toNatClampNeg) = 0 → ((¬ (h1.1 44 x3.toNatClampNeg) = (-1 : Int32) → (AW (GM adK adV) l ad (d + 1) mX10_had 90 [(0, .ref (ad 0)), (1, .int x1), (2, .int x2), (3, .int (x3 + (1 : Int32)))] [] h1 (qi R))) ∧ ((h1.1 44 x3.toNatClampNeg) = (-1 : Int32) → (∀ t4 : Int32, t4 = (if x2 < (h1.1 41 x3.toNatClampNeg) then (h1.1 41 x3.toNatClampNeg) else x2) → (AW (GM adK adV) l ad (d + 1) mX10_had 90 [(0, .ref (ad 0)), (1, .int x1), (2, .int t4), (3, .int (x3 + (1 : Int32)))] [] h1 (qi R))))))))))) : AW (GM adK adV) l ad (d + 1) mX10_had 90 [(0, .ref (ad 0)), (1, .int x1), (2, .int x2), (3, .int x3)] [] h (qi R) := by
  refine aw_iload_n dX10_had_90 rfl 3 rfl ?_
  refine aw_aload_n dX10_had_91 rfl 0 rfl ?_
  refine aw_callV (As := []) (st := [.int x3]) dX10_had_92 (stM adK adV) mkX10_knownMany rfl mlX10_522 miX10_knownMany mvX10_knownMany shM0 (show (GM adK adV).1[10]? = some (RX10, TX10, 69) from rfl) rfl (Nat.le_of_ble_eq_true rfl) (Nat.le_of_ble_eq_true rfl) rfl H (fun r h1 hr => ?_)
  obtain ⟨v2, rfl, H⟩ := hr
  refine aw_icmp_ge (tgt := 134) dX10_had_95 (by decide) (fun hc7 => ?_) (fun hc7 => ?_)
  · have H := H.1 hc7
    refine aw_iconst (v := 0) dX10_had_134 (by decide) ?_
    refine aw_istore_n (ls' := [(3, .int (0 : Int32)), (0, .ref (ad 0)), (1, .int x1), (2, .int x2)]) dX10_had_135 rfl (by decide) rfl ?_
    refine aw_iconst (v := 0) dX10_had_136 (by decide) ?_
    refine aw_istore (ls' := [(4, .int (0 : Int32)), (3, .int (0 : Int32)), (0, .ref (ad 0)), (1, .int x1), (2, .int x2)]) dX10_had_137 (by decide) rfl ?_
    exact aw_ls [2, 3, 4, 1, 0] rfl H
  · have H := H.2 hc7
    refine aw_aload_n dX10_had_98 rfl 0 rfl ?_
    refine aw_get dX10_had_99 shM0 ckX10 flX10_154 (v := .ref (ad 45)) rfl ?_
    refine aw_iload_n dX10_had_102 rfl 3 rfl ?_
    obtain ⟨hi3, H⟩ := H
    refine aw_zaldK (t0 := 2) (j := x3.toNatClampNeg) dX10_had_103 shM45 rfl rfl hi3 ?_
    refine aw_if_ne (tgt := 128) dX10_had_104 (by decide) (fun hc6 => ?_) (fun hc6 => ?_)
    · have H := H.1 hc6
      refine aw_inc (mm := (1)) (ls' := [(3, .int (x3 + (1 : Int32))), (0, .ref (ad 0)), (1, .int x1), (2, .int x2)]) dX10_had_128 (by decide) (j := 3) rfl (by decide) rfl ?_
      refine aw_goto (tgt := 90) dX10_had_131 (by decide) ?_
      exact aw_ls [1, 2, 3, 0] rfl H
    · have H := H.2 hc6
      refine aw_aload_n dX10_had_107 rfl 0 rfl ?_
      refine aw_get dX10_had_108 shM0 ckX10 flX10_151 (v := .ref (ad 44)) rfl ?_
      refine aw_iload_n dX10_had_111 rfl 3 rfl ?_
      refine aw_ialdK (t0 := 0) (j := x3.toNatClampNeg) dX10_had_112 shM44 rfl rfl hi3 ?_
      refine aw_iconst (v := (-1)) dX10_had_113 (by decide) ?_
      refine aw_icmp_ne (tgt := 128) dX10_had_114 (by decide) (fun hc5 => ?_) (fun hc5 => ?_)
      · have H := H.1 hc5
        refine aw_inc (mm := (1)) (ls' := [(3, .int (x3 + (1 : Int32))), (0, .ref (ad 0)), (1, .int x1), (2, .int x2)]) dX10_had_128 (by decide) (j := 3) rfl (by decide) rfl ?_
        refine aw_goto (tgt := 90) dX10_had_131 (by decide) ?_
        exact aw_ls [1, 2, 3, 0] rfl H
      · have H := H.2 hc5
        refine aw_iload_n dX10_had_117 rfl 2 rfl ?_
        refine aw_aload_n dX10_had_118 rfl 0 rfl ?_
        refine aw_get dX10_had_119 shM0 ckX10 flX10_141 (v := .ref (ad 41)) rfl ?_
        refine aw_iload_n dX10_had_122 rfl 3 rfl ?_
        refine aw_ialdK (t0 := 0) (j := x3.toNatClampNeg) dX10_had_123 shM41 rfl rfl hi3 ?_
        refine aw_mmax dX10_had_124 mlX10_377 (Nat.le_of_ble_eq_true rfl) ?_
        refine aw_topi (fun t4 et4 => ?_)
        have H := H t4 et4
        refine aw_istore_n (ls' := [(2, .int t4), (0, .ref (ad 0)), (1, .int x1), (3, .int x3)]) dX10_had_127 rfl (by decide) rfl ?_
        refine aw_inc (mm := (1)) (ls' := [(3, .int (x3 + (1 : Int32))), (2, .int t4), (0, .ref (ad 0)), (1, .int x1)]) dX10_had_128 (by decide) (j := 3) rfl (by decide) rfl ?_
        refine aw_goto (tgt := 90) dX10_had_131 (by decide) ?_
        exact aw_ls [2, 3, 1, 0] rfl H
theorem bX10_had_139 {adK adV : Nat → Nat} {l : Launch} {ad : Nat → Nat} {d : Nat} {R : Int32 → aH → Prop}   (x1 : Int32) (x2 : Int32) (x3 : Int32) (x4 : Int32)  (h : aH)
    (H : ((10 : Int32) ≤ x4 → (R x3 h)) ∧ (¬ (10 : Int32) ≤ x4 → (AW (GM adK adV) l ad d mX10_fitsPurse 0 [(0, .ref (ad 0)), (1, .int x1), (2, .int ((10 : Int32) * x4)), (3, .int x2)] [] h (qi fun v2 h1 => ∀ t3 : Int32, t3 = (if v2 = 0 then (0 : Int32) else ((1 : Int32) <<< (x4 &&& 31))) → (AW (GM adK adV) l ad (d + 1) mX10_had 139 [(0, .ref (ad 0)), (1, .int x1), (2, .int x2), (3, .int (x3 ||| t3)), (4, .int (x4 + (1 : Int32)))] [] h1 (qi R)))))) : AW (GM adK adV) l ad (d + 1) mX10_had 139 [(0, .ref (ad 0)), (1, .int x1), (2, .int x2), (3, .int x3), (4, .int x4)] [] h (qi R) := by
  refine aw_iload dX10_had_139 4 rfl ?_
  refine aw_bipush (v := 10) dX10_had_141 (by decide) ?_
  refine aw_icmp_ge (tgt := 177) dX10_had_143 (by decide) (fun hc6 => ?_) (fun hc6 => ?_)
  · have H := H.1 hc6
    refine aw_iload_n dX10_had_177 rfl 3 rfl ?_
    exact aw_iret dX10_had_178 rfl ⟨_, rfl, H⟩
  · have H := H.2 hc6
    refine aw_iload_n dX10_had_146 rfl 3 rfl ?_
    refine aw_aload_n dX10_had_147 rfl 0 rfl ?_
    refine aw_iload_n dX10_had_148 rfl 1 rfl ?_
    refine aw_bipush (v := 10) dX10_had_149 (by decide) ?_
    refine aw_iload dX10_had_151 4 rfl ?_
    refine aw_imul dX10_had_153 ?_
    refine aw_iload_n dX10_had_154 rfl 2 rfl ?_
    refine aw_callV (As := [.int x1, .int ((10 : Int32) * x4), .int x2]) (st := [.int x3]) dX10_had_155 (stM adK adV) mkX10_fitsPurse rfl mlX10_528 miX10_fitsPurse mvX10_fitsPurse shM0 (show (GM adK adV).1[10]? = some (RX10, TX10, 69) from rfl) rfl (Nat.le_of_ble_eq_true rfl) (Nat.le_of_ble_eq_true rfl) rfl H (fun r h1 hr => ?_)
    obtain ⟨v2, rfl, H⟩ := hr
    have H : True ∧ ∀ t3 : Int32, t3 = (if v2 = 0 then (0 : Int32) else ((1 : Int32) <<< (x4 &&& 31))) → (AW (GM adK adV) l ad (d + 1) mX10_had 139 [(0, .ref (ad 0)), (1, .int x1), (2, .int x2), (3, .int (x3 ||| t3)), (4, .int (x4 + (1 : Int32)))] [] h1 (qi R)) := ⟨trivial, H⟩
    have K4 : ∀ t3 : Int32, (AW (GM adK adV) l ad (d + 1) mX10_had 139 [(0, .ref (ad 0)), (1, .int x1), (2, .int x2), (3, .int (x3 ||| t3)), (4, .int (x4 + (1 : Int32)))] [] h1 (qi R)) → AW (GM adK adV) l ad (d + 1) mX10_had 169 [(0, .ref (ad 0)), (1, .int x1), (2, .int x2), (3, .int x3), (4, .int x4)] [.int t3, .int x3] h1 (qi R) := by
      intro t3 H
      refine aw_ior dX10_had_169 ?_
      refine aw_istore_n (ls' := [(3, .int (x3 ||| t3)), (0, .ref (ad 0)), (1, .int x1), (2, .int x2), (4, .int x4)]) dX10_had_170 rfl (by decide) rfl ?_
      refine aw_inc (mm := (1)) (ls' := [(4, .int (x4 + (1 : Int32))), (3, .int (x3 ||| t3)), (0, .ref (ad 0)), (1, .int x1), (2, .int x2)]) dX10_had_171 (by decide) (j := 4) rfl (by decide) rfl ?_
      refine aw_goto (tgt := 139) dX10_had_174 (by decide) ?_
      exact aw_ls [2, 3, 4, 1, 0] rfl H
    refine aw_if_eq (tgt := 168) dX10_had_158 (by decide) (fun hc5 => ?_) (fun hc5 => ?_)
    · refine aw_iconst (v := (0)) dX10_had_168 (by decide) ?_
      exact K4 _ (H.2 _ (by simp only [if_pos hc5]))
    · refine aw_iconst (v := (1)) dX10_had_161 (by decide) ?_
      refine aw_iload dX10_had_162 4 rfl ?_
      refine aw_ishl dX10_had_164 ?_
      refine aw_goto (tgt := 169) dX10_had_165 (by decide) ?_
      exact K4 _ (H.2 _ (by simp only [if_neg hc5]))
theorem bX10_chance_0 {adK adV : Nat → Nat} {l : Launch} {ad : Nat → Nat} {d : Nat} {R : Int32 → aH → Prop}   (x1 : Int32) (x2 : Int32) (x3 : Int32)  (h : aH)
    (H : (x1 < 0 → (R (-1 : Int32) (sI h 0 0 (0 : Int32)))) ∧ (¬ x1 < 0 → ((x2 < (1 : Int32) → (R (-1 : Int32) (sI h 0 0 (0 : Int32)))) ∧ (¬ x2 < (1 : Int32) → (((99 : Int32) < x2 → (R (-1 : Int32) (sI h 0 0 (0 : Int32)))) ∧ (¬ (99 : Int32) < x2 → (AW (GM adK adV) l ad d mX10_isTusk 0 [(0, .ref (ad 0)), (1, .int x3)] [] (sI h 0 0 (0 : Int32)) (qi fun v2 h1 => (¬ v2 = 0 → (AW (GM adK adV) l ad (d + 1) mX10_chance 39 [(0, .ref (ad 0)), (2, .int x2), (3, .int x3), (4, .int x1), (5, .int (0 : Int32)), (6, .int (0 : Int32))] [] h1 (qi R))) ∧ (v2 = 0 → (R (-1 : Int32) h1)))))))))) : AW (GM adK adV) l ad (d + 1) mX10_chance 0 [(0, .ref (ad 0)), (1, .int x1), (2, .int x2), (3, .int x3)] [] h (qi R) := by
  refine aw_aload_n dX10_chance_0 rfl 0 rfl ?_
  refine aw_iconst (v := 0) dX10_chance_1 (by decide) ?_
  refine aw_putI dX10_chance_2 shM0 ckX10 flX10_160 rfl (fun _ => rfl) rfl rfl ?_
  refine aw_iload_n dX10_chance_5 rfl 1 rfl ?_
  refine aw_if_lt (tgt := 28) dX10_chance_6 (by decide) (fun hc6 => ?_) (fun hc6 => ?_)
  · have H := H.1 hc6
    refine aw_iconst (v := (-1)) dX10_chance_28 (by decide) ?_
    exact aw_iret dX10_chance_29 rfl ⟨_, rfl, H⟩
  · have H := H.2 hc6
    refine aw_iload_n dX10_chance_9 rfl 2 rfl ?_
    refine aw_iconst (v := 1) dX10_chance_10 (by decide) ?_
    refine aw_icmp_lt (tgt := 28) dX10_chance_11 (by decide) (fun hc5 => ?_) (fun hc5 => ?_)
    · have H := H.1 hc5
      refine aw_iconst (v := (-1)) dX10_chance_28 (by decide) ?_
      exact aw_iret dX10_chance_29 rfl ⟨_, rfl, H⟩
    · have H := H.2 hc5
      refine aw_iload_n dX10_chance_14 rfl 2 rfl ?_
      refine aw_bipush (v := 99) dX10_chance_15 (by decide) ?_
      refine aw_icmp_gt (tgt := 28) dX10_chance_17 (by decide) (fun hc4 => ?_) (fun hc4 => ?_)
      · have H := H.1 hc4
        refine aw_iconst (v := (-1)) dX10_chance_28 (by decide) ?_
        exact aw_iret dX10_chance_29 rfl ⟨_, rfl, H⟩
      · have H := H.2 hc4
        refine aw_aload_n dX10_chance_20 rfl 0 rfl ?_
        refine aw_iload_n dX10_chance_21 rfl 3 rfl ?_
        refine aw_callV (As := [.int x3]) (st := []) dX10_chance_22 (stM adK adV) mkX10_isTusk rfl mlX10_466 miX10_isTusk mvX10_isTusk shM0 (show (GM adK adV).1[10]? = some (RX10, TX10, 69) from rfl) rfl (Nat.le_of_ble_eq_true rfl) (Nat.le_of_ble_eq_true rfl) rfl H (fun r h1 hr => ?_)
        obtain ⟨v2, rfl, H⟩ := hr
        refine aw_if_ne (tgt := 30) dX10_chance_25 (by decide) (fun hc3 => ?_) (fun hc3 => ?_)
        · have H := H.1 hc3
          refine aw_iload_n dX10_chance_30 rfl 1 rfl ?_
          refine aw_istore (ls' := [(4, .int x1), (0, .ref (ad 0)), (1, .int x1), (2, .int x2), (3, .int x3)]) dX10_chance_31 (by decide) rfl ?_
          refine aw_iconst (v := 0) dX10_chance_33 (by decide) ?_
          refine aw_istore (ls' := [(5, .int (0 : Int32)), (4, .int x1), (0, .ref (ad 0)), (1, .int x1), (2, .int x2), (3, .int x3)]) dX10_chance_34 (by decide) rfl ?_
          refine aw_iconst (v := 0) dX10_chance_36 (by decide) ?_
          refine aw_istore (ls' := [(6, .int (0 : Int32)), (5, .int (0 : Int32)), (4, .int x1), (0, .ref (ad 0)), (1, .int x1), (2, .int x2), (3, .int x3)]) dX10_chance_37 (by decide) rfl ?_
          exact aw_ls [3, 5, 6, 2, 1, 0] rfl H
        · have H := H.2 hc3
          refine aw_iconst (v := (-1)) dX10_chance_28 (by decide) ?_
          exact aw_iret dX10_chance_29 rfl ⟨_, rfl, H⟩
theorem bX10_chance_39 {adK adV : Nat → Nat} {l : Launch} {ad : Nat → Nat} {d : Nat} {R : Int32 → aH → Prop}   (x2 : Int32) (x3 : Int32) (x4 : Int32) (x5 : Int32) (x6 : Int32)  (h : aH)
    (H : ((10 : Int32) ≤ x6 → (R x5 h)) ∧ (¬ (10 : Int32) ≤ x6 → (AW (GM adK adV) l ad d mX10_copies 0 [(0, .ref (ad 0)), (1, .int (1 : Int32)), (2, .int (0 : Int32))] [] h (qv fun h1 => AW (GM adK adV) l ad (d + 1) mX10_chance 63 [(0, .ref (ad 0)), (2, .int x2), (3, .int x3), (5, .int x5), (6, .int x6), (7, .int (0 : Int32))] [] (sI h1 24 1 x4) (qi R))))) : AW (GM adK adV) l ad (d + 1) mX10_chance 39 [(0, .ref (ad 0)), (2, .int x2), (3, .int x3), (4, .int x4), (5, .int x5), (6, .int x6)] [] h (qi R) := by
  refine aw_iload dX10_chance_39 5 rfl ?_
  refine aw_bipush (v := 10) dX10_chance_41 (by decide) ?_
  refine aw_icmp_ge (tgt := 114) dX10_chance_43 (by decide) (fun hc3 => ?_) (fun hc3 => ?_)
  · have H := H.1 hc3
    refine aw_iload dX10_chance_114 4 rfl ?_
    exact aw_iret dX10_chance_116 rfl ⟨_, rfl, H⟩
  · have H := H.2 hc3
    refine aw_aload_n dX10_chance_46 rfl 0 rfl ?_
    refine aw_iconst (v := 1) dX10_chance_47 (by decide) ?_
    refine aw_iconst (v := 0) dX10_chance_48 (by decide) ?_
    refine aw_callV (As := [.int (1 : Int32), .int (0 : Int32)]) (st := []) dX10_chance_49 (stM adK adV) mkX10_copies rfl mlX10_450 miX10_copies mvX10_copies shM0 (show (GM adK adV).1[10]? = some (RX10, TX10, 69) from rfl) rfl (Nat.le_of_ble_eq_true rfl) (Nat.le_of_ble_eq_true rfl) rfl H (fun r h1 hr => ?_)
    obtain ⟨rfl, H⟩ := hr
    refine aw_aload_n dX10_chance_52 rfl 0 rfl ?_
    refine aw_get dX10_chance_53 shM0 ckX10 flX10_84 (v := .ref (ad 24)) rfl ?_
    refine aw_iconst (v := 1) dX10_chance_56 (by decide) ?_
    refine aw_iload dX10_chance_57 3 rfl ?_
    refine aw_iastK (t0 := 0) (j := 1) dX10_chance_59 shM24 rfl (by decide) (vp_inK (by decide) (by decide)) ?_
    refine aw_iconst (v := 0) dX10_chance_60 (by decide) ?_
    refine aw_istore (ls' := [(7, .int (0 : Int32)), (0, .ref (ad 0)), (2, .int x2), (3, .int x3), (4, .int x4), (5, .int x5), (6, .int x6)]) dX10_chance_61 (by decide) rfl ?_
    exact aw_ls [1, 2, 3, 5, 6, 0] rfl H
theorem bX10_chance_63 {adK adV : Nat → Nat} {l : Launch} {ad : Nat → Nat} {d : Nat} {R : Int32 → aH → Prop}   (x2 : Int32) (x3 : Int32) (x5 : Int32) (x6 : Int32) (x7 : Int32)  (h : aH)
    (H : (x2 ≤ x7 → (AW (GM adK adV) l ad d mX10_isAlive 0 [(0, .ref (ad 0)), (1, .int (1 : Int32)), (2, .int x3)] [] h (qi fun v2 h1 => ∀ t3 : Int32, t3 = (if v2 = 0 then (0 : Int32) else (1 : Int32)) → (AW (GM adK adV) l ad (d + 1) mX10_chance 39 [(0, .ref (ad 0)), (2, .int x2), (3, .int x3), (4, .int (h.1 24 1)), (5, .int (x5 + t3)), (6, .int (x6 + (1 : Int32)))] [] h1 (qi R))))) ∧ (¬ x2 ≤ x7 → (AW (GM adK adV) l ad d mX10_passes 0 [(0, .ref (ad 0)), (1, .int (1 : Int32)), (2, .int (1 : Int32))] [] h (qv fun h6 => AW (GM adK adV) l ad (d + 1) mX10_chance 63 [(0, .ref (ad 0)), (2, .int x2), (3, .int x3), (5, .int x5), (6, .int x6), (7, .int (x7 + (1 : Int32)))] [] h6 (qi R))))) : AW (GM adK adV) l ad (d + 1) mX10_chance 63 [(0, .ref (ad 0)), (2, .int x2), (3, .int x3), (5, .int x5), (6, .int x6), (7, .int x7)] [] h (qi R) := by
  refine aw_iload dX10_chance_63 5 rfl ?_
  refine aw_iload_n dX10_chance_65 rfl 1 rfl ?_
  refine aw_icmp_ge (tgt := 81) dX10_chance_66 (by decide) (fun hc8 => ?_) (fun hc8 => ?_)
  · have H := H.1 hc8
    refine aw_aload_n dX10_chance_81 rfl 0 rfl ?_
    refine aw_get dX10_chance_82 shM0 ckX10 flX10_84 (v := .ref (ad 24)) rfl ?_
    refine aw_iconst (v := 1) dX10_chance_85 (by decide) ?_
    refine aw_ialdK (t0 := 0) (j := 1) dX10_chance_86 shM24 rfl (by decide) (vp_inK (by decide) (by decide)) ?_
    refine aw_istore (ls' := [(4, .int (h.1 24 1)), (0, .ref (ad 0)), (2, .int x2), (3, .int x3), (5, .int x5), (6, .int x6), (7, .int x7)]) dX10_chance_87 (by decide) rfl ?_
    refine aw_iload dX10_chance_89 4 rfl ?_
    refine aw_aload_n dX10_chance_91 rfl 1 rfl ?_
    refine aw_iconst (v := 1) dX10_chance_92 (by decide) ?_
    refine aw_iload_n dX10_chance_93 rfl 3 rfl ?_
    refine aw_callV (As := [.int (1 : Int32), .int x3]) (st := [.int x5]) dX10_chance_94 (stM adK adV) mkX10_isAlive rfl mlX10_391 miX10_isAlive mvX10_isAlive shM0 (show (GM adK adV).1[10]? = some (RX10, TX10, 69) from rfl) rfl (Nat.le_of_ble_eq_true rfl) (Nat.le_of_ble_eq_true rfl) rfl H (fun r h1 hr => ?_)
    obtain ⟨v2, rfl, H⟩ := hr
    have H : True ∧ ∀ t3 : Int32, t3 = (if v2 = 0 then (0 : Int32) else (1 : Int32)) → (AW (GM adK adV) l ad (d + 1) mX10_chance 39 [(0, .ref (ad 0)), (2, .int x2), (3, .int x3), (4, .int (h.1 24 1)), (5, .int (x5 + t3)), (6, .int (x6 + (1 : Int32)))] [] h1 (qi R)) := ⟨trivial, H⟩
    have K4 : ∀ t3 : Int32, (AW (GM adK adV) l ad (d + 1) mX10_chance 39 [(0, .ref (ad 0)), (2, .int x2), (3, .int x3), (4, .int (h.1 24 1)), (5, .int (x5 + t3)), (6, .int (x6 + (1 : Int32)))] [] h1 (qi R)) → AW (GM adK adV) l ad (d + 1) mX10_chance 105 [(4, .int (h.1 24 1)), (0, .ref (ad 0)), (2, .int x2), (3, .int x3), (5, .int x5), (6, .int x6), (7, .int x7)] [.int t3, .int x5] h1 (qi R) := by
      intro t3 H
      refine aw_iadd dX10_chance_105 ?_
      refine aw_istore (ls' := [(5, .int (x5 + t3)), (4, .int (h.1 24 1)), (0, .ref (ad 0)), (2, .int x2), (3, .int x3), (6, .int x6), (7, .int x7)]) dX10_chance_106 (by decide) rfl ?_
      refine aw_inc (mm := (1)) (ls' := [(6, .int (x6 + (1 : Int32))), (5, .int (x5 + t3)), (4, .int (h.1 24 1)), (0, .ref (ad 0)), (2, .int x2), (3, .int x3), (7, .int x7)]) dX10_chance_108 (by decide) (j := 5) rfl (by decide) rfl ?_
      refine aw_goto (tgt := 39) dX10_chance_111 (by decide) ?_
      exact aw_ls [3, 4, 5, 2, 1, 0] rfl H
    refine aw_if_eq (tgt := 104) dX10_chance_97 (by decide) (fun hc5 => ?_) (fun hc5 => ?_)
    · refine aw_iconst (v := (0)) dX10_chance_104 (by decide) ?_
      exact K4 _ (H.2 _ (by simp only [if_pos hc5]))
    · refine aw_iconst (v := (1)) dX10_chance_100 (by decide) ?_
      refine aw_goto (tgt := 105) dX10_chance_101 (by decide) ?_
      exact K4 _ (H.2 _ (by simp only [if_neg hc5]))
  · have H := H.2 hc8
    refine aw_aload_n dX10_chance_69 rfl 0 rfl ?_
    refine aw_iconst (v := 1) dX10_chance_70 (by decide) ?_
    refine aw_iconst (v := 1) dX10_chance_71 (by decide) ?_
    refine aw_callV (As := [.int (1 : Int32), .int (1 : Int32)]) (st := []) dX10_chance_72 (stM adK adV) mkX10_passes rfl mlX10_447 miX10_passes mvX10_passes shM0 (show (GM adK adV).1[10]? = some (RX10, TX10, 69) from rfl) rfl (Nat.le_of_ble_eq_true rfl) (Nat.le_of_ble_eq_true rfl) rfl H (fun r h6 hr => ?_)
    obtain ⟨rfl, H⟩ := hr
    refine aw_inc (mm := (1)) (ls' := [(7, .int (x7 + (1 : Int32))), (0, .ref (ad 0)), (2, .int x2), (3, .int x3), (5, .int x5), (6, .int x6)]) dX10_chance_75 (by decide) (j := 5) rfl (by decide) rfl ?_
    refine aw_goto (tgt := 63) dX10_chance_78 (by decide) ?_
    exact aw_ls [1, 2, 3, 4, 5, 0] rfl H
theorem bX10_tried_0 {adK adV : Nat → Nat} {l : Launch} {ad : Nat → Nat} {d : Nat} {R : Int32 → aH → Prop}   (x1 : Int32) (x2 : Int32) (x3 : Int32)  (h : aH)
    (H : (¬ x1 = (2 : Int32) → ((x1 < 0 → (AW (GM adK adV) l ad (d + 1) mX10_tried 35 [(0, .ref (ad 0)), (1, .int x1), (2, .int x2), (3, .int x3)] [] (sI h 0 0 (0 : Int32)) (qi R))) ∧ (¬ x1 < 0 → (((5 : Int32) < x1 → (AW (GM adK adV) l ad (d + 1) mX10_tried 35 [(0, .ref (ad 0)), (1, .int x1), (2, .int x2), (3, .int x3)] [] (sI h 0 0 (0 : Int32)) (qi R))) ∧ (¬ (5 : Int32) < x1 → ((¬ x2 = 0 → (AW (GM adK adV) l ad (d + 1) mX10_tried 35 [(0, .ref (ad 0)), (1, .int x1), (2, .int x2), (3, .int x3)] [] (sI h 0 0 (0 : Int32)) (qi R))) ∧ (x2 = 0 → (AW (GM adK adV) l ad (d + 1) mX10_tried 36 [(0, .ref (ad 0)), (1, .int x1), (2, .int x2), (3, .int x3)] [.int (1 : Int32)] (sI h 0 0 (0 : Int32)) (qi R))))))))) ∧ (x1 = (2 : Int32) → (AW (GM adK adV) l ad d mX10_isTusk 0 [(0, .ref (ad 0)), (1, .int x2)] [] (sI h 0 0 (0 : Int32)) (qi fun v5 h4 => AW (GM adK adV) l ad (d + 1) mX10_tried 36 [(0, .ref (ad 0)), (1, .int x1), (2, .int x2), (3, .int x3)] [.int v5] h4 (qi R))))) : AW (GM adK adV) l ad (d + 1) mX10_tried 0 [(0, .ref (ad 0)), (1, .int x1), (2, .int x2), (3, .int x3)] [] h (qi R) := by
  refine aw_aload_n dX10_tried_0 rfl 0 rfl ?_
  refine aw_iconst (v := 0) dX10_tried_1 (by decide) ?_
  refine aw_putI dX10_tried_2 shM0 ckX10 flX10_160 rfl (fun _ => rfl) rfl rfl ?_
  refine aw_iload_n dX10_tried_5 rfl 1 rfl ?_
  refine aw_iconst (v := 2) dX10_tried_6 (by decide) ?_
  refine aw_icmp_ne (tgt := 18) dX10_tried_7 (by decide) (fun hc6 => ?_) (fun hc6 => ?_)
  · have H := H.1 hc6
    refine aw_iload_n dX10_tried_18 rfl 1 rfl ?_
    refine aw_if_lt (tgt := 35) dX10_tried_19 (by decide) (fun hc3 => ?_) (fun hc3 => ?_)
    · have H := H.1 hc3
      exact aw_ls [0, 1, 2, 3] rfl H
    · have H := H.2 hc3
      refine aw_iload_n dX10_tried_22 rfl 1 rfl ?_
      refine aw_iconst (v := 5) dX10_tried_23 (by decide) ?_
      refine aw_icmp_gt (tgt := 35) dX10_tried_24 (by decide) (fun hc2 => ?_) (fun hc2 => ?_)
      · have H := H.1 hc2
        exact aw_ls [0, 1, 2, 3] rfl H
      · have H := H.2 hc2
        refine aw_iload_n dX10_tried_27 rfl 2 rfl ?_
        refine aw_if_ne (tgt := 35) dX10_tried_28 (by decide) (fun hc1 => ?_) (fun hc1 => ?_)
        · have H := H.1 hc1
          exact aw_ls [0, 1, 2, 3] rfl H
        · have H := H.2 hc1
          refine aw_iconst (v := 1) dX10_tried_31 (by decide) ?_
          refine aw_goto (tgt := 36) dX10_tried_32 (by decide) ?_
          exact aw_ls [0, 1, 2, 3] rfl H
  · have H := H.2 hc6
    refine aw_aload_n dX10_tried_10 rfl 0 rfl ?_
    refine aw_iload_n dX10_tried_11 rfl 2 rfl ?_
    refine aw_callV (As := [.int x2]) (st := []) dX10_tried_12 (stM adK adV) mkX10_isTusk rfl mlX10_466 miX10_isTusk mvX10_isTusk shM0 (show (GM adK adV).1[10]? = some (RX10, TX10, 69) from rfl) rfl (Nat.le_of_ble_eq_true rfl) (Nat.le_of_ble_eq_true rfl) rfl H (fun r h4 hr => ?_)
    obtain ⟨v5, rfl, H⟩ := hr
    refine aw_goto (tgt := 36) dX10_tried_15 (by decide) ?_
    exact aw_ls [0, 1, 2, 3] rfl H
theorem bX10_tried_35 {adK adV : Nat → Nat} {l : Launch} {ad : Nat → Nat} {d : Nat} {R : Int32 → aH → Prop}   (x1 : Int32) (x2 : Int32) (x3 : Int32)  (h : aH)
    (H : AW (GM adK adV) l ad (d + 1) mX10_tried 36 [(0, .ref (ad 0)), (1, .int x1), (2, .int x2), (3, .int x3)] [.int (0 : Int32)] h (qi R)) : AW (GM adK adV) l ad (d + 1) mX10_tried 35 [(0, .ref (ad 0)), (1, .int x1), (2, .int x2), (3, .int x3)] [] h (qi R) := by
  refine aw_iconst (v := 0) dX10_tried_35 (by decide) ?_
  exact aw_ls [0, 1, 2, 3] rfl H
theorem bX10_tried_36 {adK adV : Nat → Nat} {l : Launch} {ad : Nat → Nat} {d : Nat} {R : Int32 → aH → Prop}   (x1 : Int32) (x2 : Int32) (x3 : Int32) (s0 : Int32)  (h : aH)
    (H : (s0 = 0 → (R (-1 : Int32) h)) ∧ (¬ s0 = 0 → ((x3 < 0 → (R (-1 : Int32) h)) ∧ (¬ x3 < 0 → ((x3 ≤ (99 : Int32) → (AW (GM adK adV) l ad d mX10_copies 0 [(0, .ref (ad 0)), (1, .int (1 : Int32)), (2, .int (0 : Int32))] [] h (qv fun h1 => (¬ x1 = (2 : Int32) → (AW (GM adK adV) l ad (d + 1) mX10_tried 79 [(0, .ref (ad 0)), (1, .int x1), (2, .int x2), (3, .int x3), (5, .int (0 : Int32))] [] h1 (qi R))) ∧ (x1 = (2 : Int32) → (vp_in ((6 : Int32) + x2) 138 ∧ (AW (GM adK adV) l ad (d + 1) mX10_tried 79 [(0, .ref (ad 0)), (1, .int x1), (2, .int x2), (3, .int x3), (5, .int (0 : Int32))] [] (sI h1 29 ((6 : Int32) + x2).toNatClampNeg (0 : Int32)) (qi R))))))) ∧ (¬ x3 ≤ (99 : Int32) → (R (-1 : Int32) h))))))) : AW (GM adK adV) l ad (d + 1) mX10_tried 36 [(0, .ref (ad 0)), (1, .int x1), (2, .int x2), (3, .int x3)] [.int s0] h (qi R) := by
  refine aw_istore (ls' := [(4, .int s0), (0, .ref (ad 0)), (1, .int x1), (2, .int x2), (3, .int x3)]) dX10_tried_36 (by decide) rfl ?_
  refine aw_iload dX10_tried_38 0 rfl ?_
  refine aw_if_eq (tgt := 53) dX10_tried_40 (by decide) (fun hc7 => ?_) (fun hc7 => ?_)
  · have H := H.1 hc7
    refine aw_iconst (v := (-1)) dX10_tried_53 (by decide) ?_
    exact aw_iret dX10_tried_54 rfl ⟨_, rfl, H⟩
  · have H := H.2 hc7
    refine aw_iload_n dX10_tried_43 rfl 4 rfl ?_
    refine aw_if_lt (tgt := 53) dX10_tried_44 (by decide) (fun hc6 => ?_) (fun hc6 => ?_)
    · have H := H.1 hc6
      refine aw_iconst (v := (-1)) dX10_tried_53 (by decide) ?_
      exact aw_iret dX10_tried_54 rfl ⟨_, rfl, H⟩
    · have H := H.2 hc6
      refine aw_iload_n dX10_tried_47 rfl 4 rfl ?_
      refine aw_bipush (v := 99) dX10_tried_48 (by decide) ?_
      refine aw_icmp_le (tgt := 55) dX10_tried_50 (by decide) (fun hc5 => ?_) (fun hc5 => ?_)
      · have H := H.1 hc5
        refine aw_aload_n dX10_tried_55 rfl 1 rfl ?_
        refine aw_iconst (v := 1) dX10_tried_56 (by decide) ?_
        refine aw_iconst (v := 0) dX10_tried_57 (by decide) ?_
        refine aw_callV (As := [.int (1 : Int32), .int (0 : Int32)]) (st := []) dX10_tried_58 (stM adK adV) mkX10_copies rfl mlX10_450 miX10_copies mvX10_copies shM0 (show (GM adK adV).1[10]? = some (RX10, TX10, 69) from rfl) rfl (Nat.le_of_ble_eq_true rfl) (Nat.le_of_ble_eq_true rfl) rfl H (fun r h1 hr => ?_)
        obtain ⟨rfl, H⟩ := hr
        refine aw_iload_n dX10_tried_61 rfl 2 rfl ?_
        refine aw_iconst (v := 2) dX10_tried_62 (by decide) ?_
        refine aw_icmp_ne (tgt := 76) dX10_tried_63 (by decide) (fun hc4 => ?_) (fun hc4 => ?_)
        · have H := H.1 hc4
          refine aw_iconst (v := 0) dX10_tried_76 (by decide) ?_
          refine aw_istore (ls' := [(5, .int (0 : Int32)), (4, .int s0), (0, .ref (ad 0)), (1, .int x1), (2, .int x2), (3, .int x3)]) dX10_tried_77 (by decide) rfl ?_
          exact aw_ls [2, 3, 4, 5, 0] rfl H
        · have H := H.2 hc4
          refine aw_aload_n dX10_tried_66 rfl 1 rfl ?_
          refine aw_get dX10_tried_67 shM0 ckX10 flX10_99 (v := .ref (ad 29)) rfl ?_
          refine aw_bipush (v := 6) dX10_tried_70 (by decide) ?_
          refine aw_iload_n dX10_tried_72 rfl 3 rfl ?_
          refine aw_iadd dX10_tried_73 ?_
          refine aw_iconst (v := 0) dX10_tried_74 (by decide) ?_
          obtain ⟨hi3, H⟩ := H
          refine aw_iastK (t0 := 0) (j := ((6 : Int32) + x2).toNatClampNeg) dX10_tried_75 shM29 rfl rfl hi3 ?_
          refine aw_iconst (v := 0) dX10_tried_76 (by decide) ?_
          refine aw_istore (ls' := [(5, .int (0 : Int32)), (4, .int s0), (0, .ref (ad 0)), (1, .int x1), (2, .int x2), (3, .int x3)]) dX10_tried_77 (by decide) rfl ?_
          exact aw_ls [2, 3, 4, 5, 0] rfl H
      · have H := H.2 hc5
        refine aw_iconst (v := (-1)) dX10_tried_53 (by decide) ?_
        exact aw_iret dX10_tried_54 rfl ⟨_, rfl, H⟩
theorem bX10_tried_79 {adK adV : Nat → Nat} {l : Launch} {ad : Nat → Nat} {d : Nat} {R : Int32 → aH → Prop}   (x1 : Int32) (x2 : Int32) (x3 : Int32) (x5 : Int32)  (h : aH)
    (H : ((h.1 25 0) ≤ x5 → (AW (GM adK adV) l ad (d + 1) mX10_tried 158 [(0, .ref (ad 0)), (1, .int x1), (2, .int x2), (3, .int x3)] [] h (qi R))) ∧ (¬ (h.1 25 0) ≤ x5 → ((¬ x1 = (5 : Int32) → (AW (GM adK adV) l ad (d + 1) mX10_tried 158 [(0, .ref (ad 0)), (1, .int x1), (2, .int x2), (3, .int x3)] [] h (qi R))) ∧ (x1 = (5 : Int32) → (AW (GM adK adV) l ad (d + 1) mX10_tried 98 [(0, .ref (ad 0)), (1, .int x1), (2, .int x2), (3, .int x3), (5, .int x5), (6, .int (0 : Int32))] [] h (qi R)))))) : AW (GM adK adV) l ad (d + 1) mX10_tried 79 [(0, .ref (ad 0)), (1, .int x1), (2, .int x2), (3, .int x3), (5, .int x5)] [] h (qi R) := by
  refine aw_iload dX10_tried_79 4 rfl ?_
  refine aw_aload_n dX10_tried_81 rfl 0 rfl ?_
  refine aw_get dX10_tried_82 shM0 ckX10 flX10_87 (v := .ref (ad 25)) rfl ?_
  refine aw_iconst (v := 0) dX10_tried_85 (by decide) ?_
  refine aw_ialdK (t0 := 0) (j := 0) dX10_tried_86 shM25 rfl (by decide) (vp_inK (by decide) (by decide)) ?_
  refine aw_icmp_ge (tgt := 158) dX10_tried_87 (by decide) (fun hc2 => ?_) (fun hc2 => ?_)
  · have H := H.1 hc2
    exact aw_ls [0, 1, 2, 3] rfl H
  · have H := H.2 hc2
    refine aw_iload_n dX10_tried_90 rfl 1 rfl ?_
    refine aw_iconst (v := 5) dX10_tried_91 (by decide) ?_
    refine aw_icmp_ne (tgt := 158) dX10_tried_92 (by decide) (fun hc1 => ?_) (fun hc1 => ?_)
    · have H := H.1 hc1
      exact aw_ls [0, 1, 2, 3] rfl H
    · have H := H.2 hc1
      refine aw_iconst (v := 0) dX10_tried_95 (by decide) ?_
      refine aw_istore (ls' := [(6, .int (0 : Int32)), (0, .ref (ad 0)), (1, .int x1), (2, .int x2), (3, .int x3), (5, .int x5)]) dX10_tried_96 (by decide) rfl ?_
      exact aw_ls [1, 2, 3, 4, 5, 0] rfl H
theorem bX10_tried_98 {adK adV : Nat → Nat} {l : Launch} {ad : Nat → Nat} {d : Nat} {R : Int32 → aH → Prop}   (x1 : Int32) (x2 : Int32) (x3 : Int32) (x5 : Int32) (x6 : Int32)  (h : aH)
    (H : ((h.1 2 1) ≤ x6 → (AW (GM adK adV) l ad (d + 1) mX10_tried 79 [(0, .ref (ad 0)), (1, .int x1), (2, .int x2), (3, .int x3), (5, .int (x5 + (1 : Int32)))] [] h (qi R))) ∧ (¬ (h.1 2 1) ≤ x6 → (AW (GM adK adV) l ad d mX10_isOpen 0 [(0, .ref (ad 0)), (1, .int (0 : Int32)), (2, .int x5)] [] h (qi fun v2 h1 => (v2 = 0 → (AW (GM adK adV) l ad (d + 1) mX10_tried 98 [(0, .ref (ad 0)), (1, .int x1), (2, .int x2), (3, .int x3), (5, .int x5), (6, .int (x6 + (1 : Int32)))] [] h1 (qi R))) ∧ (¬ v2 = 0 → (AW (GM adK adV) l ad d mX10_isAlive 0 [(0, .ref (ad 0)), (1, .int (0 : Int32)), (2, .int x6)] [] h1 (qi fun v4 h3 => (v4 = 0 → (AW (GM adK adV) l ad (d + 1) mX10_tried 98 [(0, .ref (ad 0)), (1, .int x1), (2, .int x2), (3, .int x3), (5, .int x5), (6, .int (x6 + (1 : Int32)))] [] h3 (qi R))) ∧ (¬ v4 = 0 → (vp_in ((6 : Int32) + x6) 138 ∧ (∀ h6 : aH, h6 = (sI h3 29 ((6 : Int32) + x6).toNatClampNeg ((h3.1 29 ((6 : Int32) + x6).toNatClampNeg) ||| ((1 : Int32) <<< (x5 &&& 31)))) → (AW (GM adK adV) l ad (d + 1) mX10_tried 98 [(0, .ref (ad 0)), (1, .int x1), (2, .int x2), (3, .int x3), (5, .int x5), (6, .int (x6 + (1 : Int32)))] [] h6 (qi R)))))))))))) : AW (GM adK adV) l ad (d + 1) mX10_tried 98 [(0, .ref (ad 0)), (1, .int x1), (2, .int x2), (3, .int x3), (5, .int x5), (6, .int x6)] [] h (qi R) := by
  refine aw_iload dX10_tried_98 5 rfl ?_
  refine aw_aload_n dX10_tried_100 rfl 0 rfl ?_
  refine aw_get dX10_tried_101 shM0 ckX10 flX10_13 (v := .ref (ad 2)) rfl ?_
  refine aw_iconst (v := 1) dX10_tried_104 (by decide) ?_
  refine aw_ialdK (t0 := 0) (j := 1) dX10_tried_105 shM2 rfl (by decide) (vp_inK (by decide) (by decide)) ?_
  refine aw_icmp_ge (tgt := 152) dX10_tried_106 (by decide) (fun hc9 => ?_) (fun hc9 => ?_)
  · have H := H.1 hc9
    refine aw_inc (mm := (1)) (ls' := [(5, .int (x5 + (1 : Int32))), (0, .ref (ad 0)), (1, .int x1), (2, .int x2), (3, .int x3), (6, .int x6)]) dX10_tried_152 (by decide) (j := 4) rfl (by decide) rfl ?_
    refine aw_goto (tgt := 79) dX10_tried_155 (by decide) ?_
    exact aw_ls [1, 2, 3, 4, 0] rfl H
  · have H := H.2 hc9
    refine aw_aload_n dX10_tried_109 rfl 0 rfl ?_
    refine aw_iconst (v := 0) dX10_tried_110 (by decide) ?_
    refine aw_iload dX10_tried_111 4 rfl ?_
    refine aw_callV (As := [.int (0 : Int32), .int x5]) (st := []) dX10_tried_113 (stM adK adV) mkX10_isOpen rfl mlX10_402 miX10_isOpen mvX10_isOpen shM0 (show (GM adK adV).1[10]? = some (RX10, TX10, 69) from rfl) rfl (Nat.le_of_ble_eq_true rfl) (Nat.le_of_ble_eq_true rfl) rfl H (fun r h1 hr => ?_)
    obtain ⟨v2, rfl, H⟩ := hr
    refine aw_if_eq (tgt := 146) dX10_tried_116 (by decide) (fun hc8 => ?_) (fun hc8 => ?_)
    · have H := H.1 hc8
      refine aw_inc (mm := (1)) (ls' := [(6, .int (x6 + (1 : Int32))), (0, .ref (ad 0)), (1, .int x1), (2, .int x2), (3, .int x3), (5, .int x5)]) dX10_tried_146 (by decide) (j := 5) rfl (by decide) rfl ?_
      refine aw_goto (tgt := 98) dX10_tried_149 (by decide) ?_
      exact aw_ls [1, 2, 3, 4, 5, 0] rfl H
    · have H := H.2 hc8
      refine aw_aload_n dX10_tried_119 rfl 0 rfl ?_
      refine aw_iconst (v := 0) dX10_tried_120 (by decide) ?_
      refine aw_iload dX10_tried_121 5 rfl ?_
      refine aw_callV (As := [.int (0 : Int32), .int x6]) (st := []) dX10_tried_123 (stM adK adV) mkX10_isAlive rfl mlX10_391 miX10_isAlive mvX10_isAlive shM0 (show (GM adK adV).1[10]? = some (RX10, TX10, 69) from rfl) rfl (Nat.le_of_ble_eq_true rfl) (Nat.le_of_ble_eq_true rfl) rfl H (fun r h3 hr => ?_)
      obtain ⟨v4, rfl, H⟩ := hr
      refine aw_if_eq (tgt := 146) dX10_tried_126 (by decide) (fun hc7 => ?_) (fun hc7 => ?_)
      · have H := H.1 hc7
        refine aw_inc (mm := (1)) (ls' := [(6, .int (x6 + (1 : Int32))), (0, .ref (ad 0)), (1, .int x1), (2, .int x2), (3, .int x3), (5, .int x5)]) dX10_tried_146 (by decide) (j := 5) rfl (by decide) rfl ?_
        refine aw_goto (tgt := 98) dX10_tried_149 (by decide) ?_
        exact aw_ls [1, 2, 3, 4, 5, 0] rfl H
      · have H := H.2 hc7
        refine aw_aload_n dX10_tried_129 rfl 0 rfl ?_
        refine aw_get dX10_tried_130 shM0 ckX10 flX10_99 (v := .ref (ad 29)) rfl ?_
        refine aw_bipush (v := 6) dX10_tried_133 (by decide) ?_
        refine aw_iload dX10_tried_135 5 rfl ?_
        refine aw_iadd dX10_tried_137 ?_
        refine aw_dup2 dX10_tried_138 rfl rfl ?_
        obtain ⟨hi5, H⟩ := H
        refine aw_ialdK (t0 := 0) (j := ((6 : Int32) + x6).toNatClampNeg) dX10_tried_139 shM29 rfl rfl hi5 ?_
        refine aw_iconst (v := 1) dX10_tried_140 (by decide) ?_
        refine aw_iload dX10_tried_141 4 rfl ?_
        refine aw_ishl dX10_tried_143 ?_
        refine aw_ior dX10_tried_144 ?_
        refine aw_iastK (t0 := 0) (j := ((6 : Int32) + x6).toNatClampNeg) dX10_tried_145 shM29 rfl rfl hi5 ?_
        refine aw_toph (fun h6 eh6 => ?_)
        have H := H h6 eh6
        refine aw_inc (mm := (1)) (ls' := [(6, .int (x6 + (1 : Int32))), (0, .ref (ad 0)), (1, .int x1), (2, .int x2), (3, .int x3), (5, .int x5)]) dX10_tried_146 (by decide) (j := 5) rfl (by decide) rfl ?_
        refine aw_goto (tgt := 98) dX10_tried_149 (by decide) ?_
        exact aw_ls [1, 2, 3, 4, 5, 0] rfl H
theorem bX10_tried_158 {adK adV : Nat → Nat} {l : Launch} {ad : Nat → Nat} {d : Nat} {R : Int32 → aH → Prop}   (x1 : Int32) (x2 : Int32) (x3 : Int32)  (h : aH)
    (H : AW (GM adK adV) l ad d mX10_goesOn 0 [(0, .ref (ad 0)), (1, .int x3)] [] (sI (sI h 0 54 x1) 0 55 x2) (qv fun h1 => AW (GM adK adV) l ad d mX10_manyOf 0 [(0, .ref (ad 0)), (1, .int (1 : Int32)), (2, .int (3 : Int32))] [] (sI (sI h1 0 54 (0 : Int32)) 0 55 (-1 : Int32)) (qi fun v4 h3 => AW (GM adK adV) l ad d mX10_manyOf 0 [(0, .ref (ad 0)), (1, .int (0 : Int32)), (2, .int (3 : Int32))] [] h3 (qi fun v6 h5 => R (v4 - v6) h5)))) : AW (GM adK adV) l ad (d + 1) mX10_tried 158 [(0, .ref (ad 0)), (1, .int x1), (2, .int x2), (3, .int x3)] [] h (qi R) := by
  refine aw_aload_n dX10_tried_158 rfl 0 rfl ?_
  refine aw_iload_n dX10_tried_159 rfl 1 rfl ?_
  refine aw_putI dX10_tried_160 shM0 ckX10 flX10_388 rfl (fun _ => rfl) rfl rfl ?_
  refine aw_aload_n dX10_tried_163 rfl 0 rfl ?_
  refine aw_iload_n dX10_tried_164 rfl 2 rfl ?_
  refine aw_putI dX10_tried_165 shM0 ckX10 flX10_123 rfl (fun _ => rfl) rfl rfl ?_
  refine aw_aload_n dX10_tried_168 rfl 0 rfl ?_
  refine aw_iload_n dX10_tried_169 rfl 3 rfl ?_
  refine aw_callV (As := [.int x3]) (st := []) dX10_tried_170 (stM adK adV) mkX10_goesOn rfl mlX10_453 miX10_goesOn mvX10_goesOn shM0 (show (GM adK adV).1[10]? = some (RX10, TX10, 69) from rfl) rfl (Nat.le_of_ble_eq_true rfl) (Nat.le_of_ble_eq_true rfl) rfl H (fun r h1 hr => ?_)
  obtain ⟨rfl, H⟩ := hr
  refine aw_aload_n dX10_tried_173 rfl 0 rfl ?_
  refine aw_iconst (v := 0) dX10_tried_174 (by decide) ?_
  refine aw_putI dX10_tried_175 shM0 ckX10 flX10_388 rfl (fun _ => rfl) rfl rfl ?_
  refine aw_aload_n dX10_tried_178 rfl 0 rfl ?_
  refine aw_iconst (v := (-1)) dX10_tried_179 (by decide) ?_
  refine aw_putI dX10_tried_180 shM0 ckX10 flX10_123 rfl (fun _ => rfl) rfl rfl ?_
  refine aw_aload_n dX10_tried_183 rfl 0 rfl ?_
  refine aw_iconst (v := 1) dX10_tried_184 (by decide) ?_
  refine aw_iconst (v := 3) dX10_tried_185 (by decide) ?_
  refine aw_callV (As := [.int (1 : Int32), .int (3 : Int32)]) (st := []) dX10_tried_186 (stM adK adV) mkX10_manyOf rfl mlX10_482 miX10_manyOf mvX10_manyOf shM0 (show (GM adK adV).1[10]? = some (RX10, TX10, 69) from rfl) rfl (Nat.le_of_ble_eq_true rfl) (Nat.le_of_ble_eq_true rfl) rfl H (fun r h3 hr => ?_)
  obtain ⟨v4, rfl, H⟩ := hr
  refine aw_aload_n dX10_tried_189 rfl 0 rfl ?_
  refine aw_iconst (v := 0) dX10_tried_190 (by decide) ?_
  refine aw_iconst (v := 3) dX10_tried_191 (by decide) ?_
  refine aw_callV (As := [.int (0 : Int32), .int (3 : Int32)]) (st := [.int v4]) dX10_tried_192 (stM adK adV) mkX10_manyOf rfl mlX10_482 miX10_manyOf mvX10_manyOf shM0 (show (GM adK adV).1[10]? = some (RX10, TX10, 69) from rfl) rfl (Nat.le_of_ble_eq_true rfl) (Nat.le_of_ble_eq_true rfl) rfl H (fun r h5 hr => ?_)
  obtain ⟨v6, rfl, H⟩ := hr
  refine aw_isub dX10_tried_195 ?_
  exact aw_iret dX10_tried_196 rfl ⟨_, rfl, H⟩
theorem bX10_undo_0 {adK adV : Nat → Nat} {l : Launch} {ad : Nat → Nat} {d : Nat} {R : Int32 → aH → Prop}     (h : aH)
    (H : (¬ ((sI h 0 0 (0 : Int32)).1 0 53) = 0 → (AW (GM adK adV) l ad d mX10_copies 0 [(0, .ref (ad 0)), (1, .int (0 : Int32)), (2, .int ((3 : Int32) + ((sI (sI h 0 0 (0 : Int32)) 0 53 (((sI h 0 0 (0 : Int32)).1 0 53) - (1 : Int32))).1 0 53)))] [] (sI (sI h 0 0 (0 : Int32)) 0 53 (((sI h 0 0 (0 : Int32)).1 0 53) - (1 : Int32))) (qv fun h1 => R (h1.1 0 53) h1))) ∧ (((sI h 0 0 (0 : Int32)).1 0 53) = 0 → (R (-1 : Int32) (sI h 0 0 (0 : Int32))))) : AW (GM adK adV) l ad (d + 1) mX10_undo 0 [(0, .ref (ad 0))] [] h (qi R) := by
  refine aw_aload_n dX10_undo_0 rfl 0 rfl ?_
  refine aw_iconst (v := 0) dX10_undo_1 (by decide) ?_
  refine aw_putI dX10_undo_2 shM0 ckX10 flX10_160 rfl (fun _ => rfl) rfl rfl ?_
  refine aw_aload_n dX10_undo_5 rfl 0 rfl ?_
  refine aw_get dX10_undo_6 shM0 ckX10 flX10_332 (v := .int ((sI h 0 0 (0 : Int32)).1 0 53)) rfl ?_
  refine aw_if_ne (tgt := 14) dX10_undo_9 (by decide) (fun hc3 => ?_) (fun hc3 => ?_)
  · have H := H.1 hc3
    refine aw_aload_n dX10_undo_14 rfl 0 rfl ?_
    refine aw_dup dX10_undo_15 rfl ?_
    refine aw_get dX10_undo_16 shM0 ckX10 flX10_332 (v := .int ((sI h 0 0 (0 : Int32)).1 0 53)) rfl ?_
    refine aw_iconst (v := 1) dX10_undo_19 (by decide) ?_
    refine aw_isub dX10_undo_20 ?_
    refine aw_putI dX10_undo_21 shM0 ckX10 flX10_332 rfl (fun _ => rfl) rfl rfl ?_
    refine aw_aload_n dX10_undo_24 rfl 0 rfl ?_
    refine aw_iconst (v := 0) dX10_undo_25 (by decide) ?_
    refine aw_iconst (v := 3) dX10_undo_26 (by decide) ?_
    refine aw_aload_n dX10_undo_27 rfl 0 rfl ?_
    refine aw_get dX10_undo_28 shM0 ckX10 flX10_332 (v := .int ((sI (sI h 0 0 (0 : Int32)) 0 53 (((sI h 0 0 (0 : Int32)).1 0 53) - (1 : Int32))).1 0 53)) rfl ?_
    refine aw_iadd dX10_undo_31 ?_
    refine aw_callV (As := [.int (0 : Int32), .int ((3 : Int32) + ((sI (sI h 0 0 (0 : Int32)) 0 53 (((sI h 0 0 (0 : Int32)).1 0 53) - (1 : Int32))).1 0 53))]) (st := []) dX10_undo_32 (stM adK adV) mkX10_copies rfl mlX10_450 miX10_copies mvX10_copies shM0 (show (GM adK adV).1[10]? = some (RX10, TX10, 69) from rfl) rfl (Nat.le_of_ble_eq_true rfl) (Nat.le_of_ble_eq_true rfl) rfl H (fun r h1 hr => ?_)
    obtain ⟨rfl, H⟩ := hr
    refine aw_aload_n dX10_undo_35 rfl 0 rfl ?_
    refine aw_get dX10_undo_36 shM0 ckX10 flX10_332 (v := .int (h1.1 0 53)) rfl ?_
    exact aw_iret dX10_undo_39 rfl ⟨_, rfl, H⟩
  · have H := H.2 hc3
    refine aw_iconst (v := (-1)) dX10_undo_12 (by decide) ?_
    exact aw_iret dX10_undo_13 rfl ⟨_, rfl, H⟩
theorem bX10_image_0 {adK adV : Nat → Nat} {l : Launch} {ad : Nat → Nat} {d : Nat} {R : Int32 → aH → Prop}     (h : aH)
    (H : AW (GM adK adV) l ad d mX10_copies 0 [(0, .ref (ad 0)), (1, .int (2 : Int32)), (2, .int (0 : Int32))] [] (sI h 0 0 (0 : Int32)) (qv fun h1 => R ((sI h1 0 52 (1 : Int32)).1 23 0) (sI h1 0 52 (1 : Int32)))) : AW (GM adK adV) l ad (d + 1) mX10_image 0 [(0, .ref (ad 0))] [] h (qi R) := by
  refine aw_aload_n dX10_image_0 rfl 0 rfl ?_
  refine aw_iconst (v := 0) dX10_image_1 (by decide) ?_
  refine aw_putI dX10_image_2 shM0 ckX10 flX10_160 rfl (fun _ => rfl) rfl rfl ?_
  refine aw_aload_n dX10_image_5 rfl 0 rfl ?_
  refine aw_iconst (v := 2) dX10_image_6 (by decide) ?_
  refine aw_iconst (v := 0) dX10_image_7 (by decide) ?_
  refine aw_callV (As := [.int (2 : Int32), .int (0 : Int32)]) (st := []) dX10_image_8 (stM adK adV) mkX10_copies rfl mlX10_450 miX10_copies mvX10_copies shM0 (show (GM adK adV).1[10]? = some (RX10, TX10, 69) from rfl) rfl (Nat.le_of_ble_eq_true rfl) (Nat.le_of_ble_eq_true rfl) rfl H (fun r h1 hr => ?_)
  obtain ⟨rfl, H⟩ := hr
  refine aw_aload_n dX10_image_11 rfl 0 rfl ?_
  refine aw_iconst (v := 1) dX10_image_12 (by decide) ?_
  refine aw_putI dX10_image_13 shM0 ckX10 flX10_328 rfl (fun _ => rfl) (by decide) (by decide) ?_
  refine aw_aload_n dX10_image_16 rfl 0 rfl ?_
  refine aw_get dX10_image_17 shM0 ckX10 flX10_81 (v := .ref (ad 23)) rfl ?_
  refine aw_iconst (v := 0) dX10_image_20 (by decide) ?_
  refine aw_ialdK (t0 := 0) (j := 0) dX10_image_21 shM23 rfl (by decide) (vp_inK (by decide) (by decide)) ?_
  exact aw_iret dX10_image_22 rfl ⟨_, rfl, H⟩
theorem bX10_back_0 {adK adV : Nat → Nat} {l : Launch} {ad : Nat → Nat} {d : Nat} {R : Int32 → aH → Prop}     (h : aH)
    (H : (¬ ((sI h 0 0 (0 : Int32)).1 0 52) = 0 → (AW (GM adK adV) l ad d mX10_copies 0 [(0, .ref (ad 0)), (1, .int (0 : Int32)), (2, .int (2 : Int32))] [] (sI h 0 0 (0 : Int32)) (qv fun h1 => R ((sI h1 0 53 (0 : Int32)).1 23 0) (sI h1 0 53 (0 : Int32))))) ∧ (((sI h 0 0 (0 : Int32)).1 0 52) = 0 → (R (-1 : Int32) (sI h 0 0 (0 : Int32))))) : AW (GM adK adV) l ad (d + 1) mX10_back 0 [(0, .ref (ad 0))] [] h (qi R) := by
  refine aw_aload_n dX10_back_0 rfl 0 rfl ?_
  refine aw_iconst (v := 0) dX10_back_1 (by decide) ?_
  refine aw_putI dX10_back_2 shM0 ckX10 flX10_160 rfl (fun _ => rfl) rfl rfl ?_
  refine aw_aload_n dX10_back_5 rfl 0 rfl ?_
  refine aw_get dX10_back_6 shM0 ckX10 flX10_328 (v := .int ((sI h 0 0 (0 : Int32)).1 0 52)) rfl ?_
  refine aw_if_ne (tgt := 14) dX10_back_9 (by decide) (fun hc3 => ?_) (fun hc3 => ?_)
  · have H := H.1 hc3
    refine aw_aload_n dX10_back_14 rfl 0 rfl ?_
    refine aw_iconst (v := 0) dX10_back_15 (by decide) ?_
    refine aw_iconst (v := 2) dX10_back_16 (by decide) ?_
    refine aw_callV (As := [.int (0 : Int32), .int (2 : Int32)]) (st := []) dX10_back_17 (stM adK adV) mkX10_copies rfl mlX10_450 miX10_copies mvX10_copies shM0 (show (GM adK adV).1[10]? = some (RX10, TX10, 69) from rfl) rfl (Nat.le_of_ble_eq_true rfl) (Nat.le_of_ble_eq_true rfl) rfl H (fun r h1 hr => ?_)
    obtain ⟨rfl, H⟩ := hr
    refine aw_aload_n dX10_back_20 rfl 0 rfl ?_
    refine aw_iconst (v := 0) dX10_back_21 (by decide) ?_
    refine aw_putI dX10_back_22 shM0 ckX10 flX10_332 rfl (fun _ => rfl) rfl rfl ?_
    refine aw_aload_n dX10_back_25 rfl 0 rfl ?_
    refine aw_get dX10_back_26 shM0 ckX10 flX10_81 (v := .ref (ad 23)) rfl ?_
    refine aw_iconst (v := 0) dX10_back_29 (by decide) ?_
    refine aw_ialdK (t0 := 0) (j := 0) dX10_back_30 shM23 rfl (by decide) (vp_inK (by decide) (by decide)) ?_
    exact aw_iret dX10_back_31 rfl ⟨_, rfl, H⟩
  · have H := H.2 hc3
    refine aw_iconst (v := (-1)) dX10_back_12 (by decide) ?_
    exact aw_iret dX10_back_13 rfl ⟨_, rfl, H⟩
theorem bX10_count_0 {adK adV : Nat → Nat} {l : Launch} {ad : Nat → Nat} {d : Nat} {R : Int32 → aH → Prop}   (x1 : Int32)  (h : aH)
    (H : (x1 = (0 : Int32) → (R ((sI h 0 0 (0 : Int32)).1 2 0) (sI h 0 0 (0 : Int32)))) ∧ ((x1 = (1 : Int32) → (R ((sI h 0 0 (0 : Int32)).1 2 1) (sI h 0 0 (0 : Int32)))) ∧ ((x1 = (2 : Int32) → (R ((sI h 0 0 (0 : Int32)).1 25 0) (sI h 0 0 (0 : Int32)))) ∧ ((x1 = (3 : Int32) → (R ((sI h 0 0 (0 : Int32)).1 2 6) (sI h 0 0 (0 : Int32)))) ∧ ((x1 = (4 : Int32) → (R ((sI h 0 0 (0 : Int32)).1 23 0) (sI h 0 0 (0 : Int32)))) ∧ ((x1 = (5 : Int32) → (AW (GM adK adV) l ad d mX10_manyOf 0 [(0, .ref (ad 0)), (1, .int (0 : Int32)), (2, .int (1 : Int32))] [] (sI h 0 0 (0 : Int32)) (qi fun v3 h2 => R v3 h2))) ∧ ((x1 = (6 : Int32) → (AW (GM adK adV) l ad d mX10_manyOf 0 [(0, .ref (ad 0)), (1, .int (0 : Int32)), (2, .int (2 : Int32))] [] (sI h 0 0 (0 : Int32)) (qi fun v5 h4 => R v5 h4))) ∧ ((x1 = (7 : Int32) → (AW (GM adK adV) l ad d mX10_manyOf 0 [(0, .ref (ad 0)), (1, .int (0 : Int32)), (2, .int (3 : Int32))] [] (sI h 0 0 (0 : Int32)) (qi fun v7 h6 => R v7 h6))) ∧ ((x1 = (8 : Int32) → (AW (GM adK adV) l ad d mX10_manyOf 0 [(0, .ref (ad 0)), (1, .int (0 : Int32)), (2, .int (4 : Int32))] [] (sI h 0 0 (0 : Int32)) (qi fun v9 h8 => R v9 h8))) ∧ ((x1 = (9 : Int32) → (AW (GM adK adV) l ad d mX10_bitsOf 0 [(0, .int ((sI h 0 0 (0 : Int32)).1 26 0))] [] (sI h 0 0 (0 : Int32)) (qi fun v11 h10 => R v11 h10))) ∧ ((x1 = (10 : Int32) → (AW (GM adK adV) l ad (d + 1) mX10_count 160 [(0, .ref (ad 0)), (2, .int (0 : Int32)), (3, .int (0 : Int32))] [] (sI h 0 0 (0 : Int32)) (qi R))) ∧ ((x1 = (11 : Int32) → (AW (GM adK adV) l ad (d + 1) mX10_count 189 [(0, .ref (ad 0)), (2, .int (0 : Int32)), (3, .int (0 : Int32))] [] (sI h 0 0 (0 : Int32)) (qi R))) ∧ ((x1 = (12 : Int32) → (R ((sI h 0 0 (0 : Int32)).1 0 62) (sI h 0 0 (0 : Int32)))) ∧ ((x1 = (13 : Int32) → (AW (GM adK adV) l ad d mX10_knownMany 0 [(0, .ref (ad 0))] [] (sI h 0 0 (0 : Int32)) (qi fun v13 h12 => R v13 h12))) ∧ ((x1 = (14 : Int32) → (R ((sI h 0 0 (0 : Int32)).1 0 53) (sI h 0 0 (0 : Int32)))) ∧ (¬ x1 = (0 : Int32) → ¬ x1 = (1 : Int32) → ¬ x1 = (2 : Int32) → ¬ x1 = (3 : Int32) → ¬ x1 = (4 : Int32) → ¬ x1 = (5 : Int32) → ¬ x1 = (6 : Int32) → ¬ x1 = (7 : Int32) → ¬ x1 = (8 : Int32) → ¬ x1 = (9 : Int32) → ¬ x1 = (10 : Int32) → ¬ x1 = (11 : Int32) → ¬ x1 = (12 : Int32) → ¬ x1 = (13 : Int32) → ¬ x1 = (14 : Int32) → (R (-1 : Int32) (sI h 0 0 (0 : Int32))))))))))))))))))) : AW (GM adK adV) l ad (d + 1) mX10_count 0 [(0, .ref (ad 0)), (1, .int x1)] [] h (qi R) := by
  refine aw_aload_n dX10_count_0 rfl 0 rfl ?_
  refine aw_iconst (v := 0) dX10_count_1 (by decide) ?_
  refine aw_putI dX10_count_2 shM0 ckX10 flX10_160 rfl (fun _ => rfl) rfl rfl ?_
  refine aw_iconst (v := 0) dX10_count_5 (by decide) ?_
  refine aw_istore_n (ls' := [(2, .int (0 : Int32)), (0, .ref (ad 0)), (1, .int x1)]) dX10_count_6 rfl (by decide) rfl ?_
  refine aw_iload_n dX10_count_7 rfl 2 rfl ?_
  by_cases hx1_0 : x1 = (0 : Int32)
  · have H := H.1 hx1_0
    refine aw_tableIn (off := 76) (tgt := 84) dX10_count_8 (by rw [hx1_0]; decide) (by rw [hx1_0]; decide) (by rw [hx1_0]; decide) (by decide) ?_
    refine aw_aload_n dX10_count_84 rfl 1 rfl ?_
    refine aw_get dX10_count_85 shM0 ckX10 flX10_13 (v := .ref (ad 2)) rfl ?_
    refine aw_iconst (v := 0) dX10_count_88 (by decide) ?_
    refine aw_ialdK (t0 := 0) (j := 0) dX10_count_89 shM2 rfl (by decide) (vp_inK (by decide) (by decide)) ?_
    exact aw_iret dX10_count_90 rfl ⟨_, rfl, H⟩
  by_cases hx1_1 : x1 = (1 : Int32)
  · have H := H.2.1 hx1_1
    refine aw_tableIn (off := 83) (tgt := 91) dX10_count_8 (by rw [hx1_1]; decide) (by rw [hx1_1]; decide) (by rw [hx1_1]; decide) (by decide) ?_
    refine aw_aload_n dX10_count_91 rfl 1 rfl ?_
    refine aw_get dX10_count_92 shM0 ckX10 flX10_13 (v := .ref (ad 2)) rfl ?_
    refine aw_iconst (v := 1) dX10_count_95 (by decide) ?_
    refine aw_ialdK (t0 := 0) (j := 1) dX10_count_96 shM2 rfl (by decide) (vp_inK (by decide) (by decide)) ?_
    exact aw_iret dX10_count_97 rfl ⟨_, rfl, H⟩
  by_cases hx1_2 : x1 = (2 : Int32)
  · have H := H.2.2.1 hx1_2
    refine aw_tableIn (off := 90) (tgt := 98) dX10_count_8 (by rw [hx1_2]; decide) (by rw [hx1_2]; decide) (by rw [hx1_2]; decide) (by decide) ?_
    refine aw_aload_n dX10_count_98 rfl 1 rfl ?_
    refine aw_get dX10_count_99 shM0 ckX10 flX10_87 (v := .ref (ad 25)) rfl ?_
    refine aw_iconst (v := 0) dX10_count_102 (by decide) ?_
    refine aw_ialdK (t0 := 0) (j := 0) dX10_count_103 shM25 rfl (by decide) (vp_inK (by decide) (by decide)) ?_
    exact aw_iret dX10_count_104 rfl ⟨_, rfl, H⟩
  by_cases hx1_3 : x1 = (3 : Int32)
  · have H := H.2.2.2.1 hx1_3
    refine aw_tableIn (off := 97) (tgt := 105) dX10_count_8 (by rw [hx1_3]; decide) (by rw [hx1_3]; decide) (by rw [hx1_3]; decide) (by decide) ?_
    refine aw_aload_n dX10_count_105 rfl 1 rfl ?_
    refine aw_get dX10_count_106 shM0 ckX10 flX10_13 (v := .ref (ad 2)) rfl ?_
    refine aw_bipush (v := 6) dX10_count_109 (by decide) ?_
    refine aw_ialdK (t0 := 0) (j := 6) dX10_count_111 shM2 rfl (by decide) (vp_inK (by decide) (by decide)) ?_
    exact aw_iret dX10_count_112 rfl ⟨_, rfl, H⟩
  by_cases hx1_4 : x1 = (4 : Int32)
  · have H := H.2.2.2.2.1 hx1_4
    refine aw_tableIn (off := 105) (tgt := 113) dX10_count_8 (by rw [hx1_4]; decide) (by rw [hx1_4]; decide) (by rw [hx1_4]; decide) (by decide) ?_
    refine aw_aload_n dX10_count_113 rfl 1 rfl ?_
    refine aw_get dX10_count_114 shM0 ckX10 flX10_81 (v := .ref (ad 23)) rfl ?_
    refine aw_iconst (v := 0) dX10_count_117 (by decide) ?_
    refine aw_ialdK (t0 := 0) (j := 0) dX10_count_118 shM23 rfl (by decide) (vp_inK (by decide) (by decide)) ?_
    exact aw_iret dX10_count_119 rfl ⟨_, rfl, H⟩
  by_cases hx1_5 : x1 = (5 : Int32)
  · have H := H.2.2.2.2.2.1 hx1_5
    refine aw_tableIn (off := 112) (tgt := 120) dX10_count_8 (by rw [hx1_5]; decide) (by rw [hx1_5]; decide) (by rw [hx1_5]; decide) (by decide) ?_
    refine aw_aload_n dX10_count_120 rfl 1 rfl ?_
    refine aw_iconst (v := 0) dX10_count_121 (by decide) ?_
    refine aw_iconst (v := 1) dX10_count_122 (by decide) ?_
    refine aw_callV (As := [.int (0 : Int32), .int (1 : Int32)]) (st := []) dX10_count_123 (stM adK adV) mkX10_manyOf rfl mlX10_482 miX10_manyOf mvX10_manyOf shM0 (show (GM adK adV).1[10]? = some (RX10, TX10, 69) from rfl) rfl (Nat.le_of_ble_eq_true rfl) (Nat.le_of_ble_eq_true rfl) rfl H (fun r h2 hr => ?_)
    obtain ⟨v3, rfl, H⟩ := hr
    exact aw_iret dX10_count_126 rfl ⟨_, rfl, H⟩
  by_cases hx1_6 : x1 = (6 : Int32)
  · have H := H.2.2.2.2.2.2.1 hx1_6
    refine aw_tableIn (off := 119) (tgt := 127) dX10_count_8 (by rw [hx1_6]; decide) (by rw [hx1_6]; decide) (by rw [hx1_6]; decide) (by decide) ?_
    refine aw_aload_n dX10_count_127 rfl 1 rfl ?_
    refine aw_iconst (v := 0) dX10_count_128 (by decide) ?_
    refine aw_iconst (v := 2) dX10_count_129 (by decide) ?_
    refine aw_callV (As := [.int (0 : Int32), .int (2 : Int32)]) (st := []) dX10_count_130 (stM adK adV) mkX10_manyOf rfl mlX10_482 miX10_manyOf mvX10_manyOf shM0 (show (GM adK adV).1[10]? = some (RX10, TX10, 69) from rfl) rfl (Nat.le_of_ble_eq_true rfl) (Nat.le_of_ble_eq_true rfl) rfl H (fun r h4 hr => ?_)
    obtain ⟨v5, rfl, H⟩ := hr
    exact aw_iret dX10_count_133 rfl ⟨_, rfl, H⟩
  by_cases hx1_7 : x1 = (7 : Int32)
  · have H := H.2.2.2.2.2.2.2.1 hx1_7
    refine aw_tableIn (off := 126) (tgt := 134) dX10_count_8 (by rw [hx1_7]; decide) (by rw [hx1_7]; decide) (by rw [hx1_7]; decide) (by decide) ?_
    refine aw_aload_n dX10_count_134 rfl 1 rfl ?_
    refine aw_iconst (v := 0) dX10_count_135 (by decide) ?_
    refine aw_iconst (v := 3) dX10_count_136 (by decide) ?_
    refine aw_callV (As := [.int (0 : Int32), .int (3 : Int32)]) (st := []) dX10_count_137 (stM adK adV) mkX10_manyOf rfl mlX10_482 miX10_manyOf mvX10_manyOf shM0 (show (GM adK adV).1[10]? = some (RX10, TX10, 69) from rfl) rfl (Nat.le_of_ble_eq_true rfl) (Nat.le_of_ble_eq_true rfl) rfl H (fun r h6 hr => ?_)
    obtain ⟨v7, rfl, H⟩ := hr
    exact aw_iret dX10_count_140 rfl ⟨_, rfl, H⟩
  by_cases hx1_8 : x1 = (8 : Int32)
  · have H := H.2.2.2.2.2.2.2.2.1 hx1_8
    refine aw_tableIn (off := 133) (tgt := 141) dX10_count_8 (by rw [hx1_8]; decide) (by rw [hx1_8]; decide) (by rw [hx1_8]; decide) (by decide) ?_
    refine aw_aload_n dX10_count_141 rfl 1 rfl ?_
    refine aw_iconst (v := 0) dX10_count_142 (by decide) ?_
    refine aw_iconst (v := 4) dX10_count_143 (by decide) ?_
    refine aw_callV (As := [.int (0 : Int32), .int (4 : Int32)]) (st := []) dX10_count_144 (stM adK adV) mkX10_manyOf rfl mlX10_482 miX10_manyOf mvX10_manyOf shM0 (show (GM adK adV).1[10]? = some (RX10, TX10, 69) from rfl) rfl (Nat.le_of_ble_eq_true rfl) (Nat.le_of_ble_eq_true rfl) rfl H (fun r h8 hr => ?_)
    obtain ⟨v9, rfl, H⟩ := hr
    exact aw_iret dX10_count_147 rfl ⟨_, rfl, H⟩
  by_cases hx1_9 : x1 = (9 : Int32)
  · have H := H.2.2.2.2.2.2.2.2.2.1 hx1_9
    refine aw_tableIn (off := 140) (tgt := 148) dX10_count_8 (by rw [hx1_9]; decide) (by rw [hx1_9]; decide) (by rw [hx1_9]; decide) (by decide) ?_
    refine aw_aload_n dX10_count_148 rfl 1 rfl ?_
    refine aw_get dX10_count_149 shM0 ckX10 flX10_90 (v := .ref (ad 26)) rfl ?_
    refine aw_iconst (v := 0) dX10_count_152 (by decide) ?_
    refine aw_ialdK (t0 := 0) (j := 0) dX10_count_153 shM26 rfl (by decide) (vp_inK (by decide) (by decide)) ?_
    refine aw_callS (As := [.int ((sI h 0 0 (0 : Int32)).1 26 0)]) (st := []) dX10_count_154 (stM adK adV) mkX10_bitsOf rfl mlX10_361 msX10_bitsOf (Nat.le_of_ble_eq_true rfl) (Nat.le_of_ble_eq_true rfl) rfl H (fun r h10 hr => ?_)
    obtain ⟨v11, rfl, H⟩ := hr
    exact aw_iret dX10_count_157 rfl ⟨_, rfl, H⟩
  by_cases hx1_10 : x1 = (10 : Int32)
  · have H := H.2.2.2.2.2.2.2.2.2.2.1 hx1_10
    refine aw_tableIn (off := 150) (tgt := 158) dX10_count_8 (by rw [hx1_10]; decide) (by rw [hx1_10]; decide) (by rw [hx1_10]; decide) (by decide) ?_
    refine aw_iconst (v := 0) dX10_count_158 (by decide) ?_
    refine aw_istore_n (ls' := [(3, .int (0 : Int32)), (2, .int (0 : Int32)), (0, .ref (ad 0)), (1, .int x1)]) dX10_count_159 rfl (by decide) rfl ?_
    exact aw_ls [2, 1, 0] rfl H
  by_cases hx1_11 : x1 = (11 : Int32)
  · have H := H.2.2.2.2.2.2.2.2.2.2.2.1 hx1_11
    refine aw_tableIn (off := 179) (tgt := 187) dX10_count_8 (by rw [hx1_11]; decide) (by rw [hx1_11]; decide) (by rw [hx1_11]; decide) (by decide) ?_
    refine aw_iconst (v := 0) dX10_count_187 (by decide) ?_
    refine aw_istore_n (ls' := [(3, .int (0 : Int32)), (2, .int (0 : Int32)), (0, .ref (ad 0)), (1, .int x1)]) dX10_count_188 rfl (by decide) rfl ?_
    exact aw_ls [2, 1, 0] rfl H
  by_cases hx1_12 : x1 = (12 : Int32)
  · have H := H.2.2.2.2.2.2.2.2.2.2.2.2.1 hx1_12
    refine aw_tableIn (off := 208) (tgt := 216) dX10_count_8 (by rw [hx1_12]; decide) (by rw [hx1_12]; decide) (by rw [hx1_12]; decide) (by decide) ?_
    refine aw_aload_n dX10_count_216 rfl 1 rfl ?_
    refine aw_get dX10_count_217 shM0 ckX10 flX10_325 (v := .int ((sI h 0 0 (0 : Int32)).1 0 62)) rfl ?_
    exact aw_iret dX10_count_220 rfl ⟨_, rfl, H⟩
  by_cases hx1_13 : x1 = (13 : Int32)
  · have H := H.2.2.2.2.2.2.2.2.2.2.2.2.2.1 hx1_13
    refine aw_tableIn (off := 213) (tgt := 221) dX10_count_8 (by rw [hx1_13]; decide) (by rw [hx1_13]; decide) (by rw [hx1_13]; decide) (by decide) ?_
    refine aw_aload_n dX10_count_221 rfl 1 rfl ?_
    refine aw_callV (As := []) (st := []) dX10_count_222 (stM adK adV) mkX10_knownMany rfl mlX10_522 miX10_knownMany mvX10_knownMany shM0 (show (GM adK adV).1[10]? = some (RX10, TX10, 69) from rfl) rfl (Nat.le_of_ble_eq_true rfl) (Nat.le_of_ble_eq_true rfl) rfl H (fun r h12 hr => ?_)
    obtain ⟨v13, rfl, H⟩ := hr
    exact aw_iret dX10_count_225 rfl ⟨_, rfl, H⟩
  by_cases hx1_14 : x1 = (14 : Int32)
  · have H := H.2.2.2.2.2.2.2.2.2.2.2.2.2.2.1 hx1_14
    refine aw_tableIn (off := 218) (tgt := 226) dX10_count_8 (by rw [hx1_14]; decide) (by rw [hx1_14]; decide) (by rw [hx1_14]; decide) (by decide) ?_
    refine aw_aload_n dX10_count_226 rfl 1 rfl ?_
    refine aw_get dX10_count_227 shM0 ckX10 flX10_332 (v := .int ((sI h 0 0 (0 : Int32)).1 0 53)) rfl ?_
    exact aw_iret dX10_count_230 rfl ⟨_, rfl, H⟩
  have H := H.2.2.2.2.2.2.2.2.2.2.2.2.2.2.2 hx1_0 hx1_1 hx1_2 hx1_3 hx1_4 hx1_5 hx1_6 hx1_7 hx1_8 hx1_9 hx1_10 hx1_11 hx1_12 hx1_13 hx1_14
  have hx1_0e := tab_ne hx1_0 (a := 0) (by decide)
  have hx1_1e := tab_ne hx1_1 (a := 1) (by decide)
  have hx1_2e := tab_ne hx1_2 (a := 2) (by decide)
  have hx1_3e := tab_ne hx1_3 (a := 3) (by decide)
  have hx1_4e := tab_ne hx1_4 (a := 4) (by decide)
  have hx1_5e := tab_ne hx1_5 (a := 5) (by decide)
  have hx1_6e := tab_ne hx1_6 (a := 6) (by decide)
  have hx1_7e := tab_ne hx1_7 (a := 7) (by decide)
  have hx1_8e := tab_ne hx1_8 (a := 8) (by decide)
  have hx1_9e := tab_ne hx1_9 (a := 9) (by decide)
  have hx1_10e := tab_ne hx1_10 (a := 10) (by decide)
  have hx1_11e := tab_ne hx1_11 (a := 11) (by decide)
  have hx1_12e := tab_ne hx1_12 (a := 12) (by decide)
  have hx1_13e := tab_ne hx1_13 (a := 13) (by decide)
  have hx1_14e := tab_ne hx1_14 (a := 14) (by decide)
  refine aw_tableOut (tgt := 231) dX10_count_8 (by omega) (by decide) ?_
  refine aw_iconst (v := (-1)) dX10_count_231 (by decide) ?_
  exact aw_iret dX10_count_232 rfl ⟨_, rfl, H⟩
theorem bX10_count_160 {adK adV : Nat → Nat} {l : Launch} {ad : Nat → Nat} {d : Nat} {R : Int32 → aH → Prop}   (x2 : Int32) (x3 : Int32)  (h : aH)
    (H : ((h.1 25 0) ≤ x3 → (R x2 h)) ∧ (¬ (h.1 25 0) ≤ x3 → (vp_in x3 184 ∧ (AW (GM adK adV) l ad (d + 1) mX10_count 160 [(0, .ref (ad 0)), (2, .int (x2 + (h.1 36 x3.toNatClampNeg))), (3, .int (x3 + (1 : Int32)))] [] h (qi R))))) : AW (GM adK adV) l ad (d + 1) mX10_count 160 [(0, .ref (ad 0)), (2, .int x2), (3, .int x3)] [] h (qi R) := by
  refine aw_iload_n dX10_count_160 rfl 2 rfl ?_
  refine aw_aload_n dX10_count_161 rfl 0 rfl ?_
  refine aw_get dX10_count_162 shM0 ckX10 flX10_87 (v := .ref (ad 25)) rfl ?_
  refine aw_iconst (v := 0) dX10_count_165 (by decide) ?_
  refine aw_ialdK (t0 := 0) (j := 0) dX10_count_166 shM25 rfl (by decide) (vp_inK (by decide) (by decide)) ?_
  refine aw_icmp_ge (tgt := 185) dX10_count_167 (by decide) (fun hc2 => ?_) (fun hc2 => ?_)
  · have H := H.1 hc2
    refine aw_iload_n dX10_count_185 rfl 1 rfl ?_
    exact aw_iret dX10_count_186 rfl ⟨_, rfl, H⟩
  · have H := H.2 hc2
    refine aw_iload_n dX10_count_170 rfl 1 rfl ?_
    refine aw_aload_n dX10_count_171 rfl 0 rfl ?_
    refine aw_get dX10_count_172 shM0 ckX10 flX10_120 (v := .ref (ad 36)) rfl ?_
    refine aw_iload_n dX10_count_175 rfl 2 rfl ?_
    obtain ⟨hi1, H⟩ := H
    refine aw_ialdK (t0 := 0) (j := x3.toNatClampNeg) dX10_count_176 shM36 rfl rfl hi1 ?_
    refine aw_iadd dX10_count_177 ?_
    refine aw_istore_n (ls' := [(2, .int (x2 + (h.1 36 x3.toNatClampNeg))), (0, .ref (ad 0)), (3, .int x3)]) dX10_count_178 rfl (by decide) rfl ?_
    refine aw_inc (mm := (1)) (ls' := [(3, .int (x3 + (1 : Int32))), (2, .int (x2 + (h.1 36 x3.toNatClampNeg))), (0, .ref (ad 0))]) dX10_count_179 (by decide) (j := 2) rfl (by decide) rfl ?_
    refine aw_goto (tgt := 160) dX10_count_182 (by decide) ?_
    exact aw_ls [2, 1, 0] rfl H
theorem bX10_count_189 {adK adV : Nat → Nat} {l : Launch} {ad : Nat → Nat} {d : Nat} {R : Int32 → aH → Prop}   (x2 : Int32) (x3 : Int32)  (h : aH)
    (H : ((h.1 2 0) ≤ x3 → (R x2 h)) ∧ (¬ (h.1 2 0) ≤ x3 → (vp_in x3 138 ∧ (AW (GM adK adV) l ad (d + 1) mX10_count 189 [(0, .ref (ad 0)), (2, .int (x2 + (h.1 27 x3.toNatClampNeg))), (3, .int (x3 + (1 : Int32)))] [] h (qi R))))) : AW (GM adK adV) l ad (d + 1) mX10_count 189 [(0, .ref (ad 0)), (2, .int x2), (3, .int x3)] [] h (qi R) := by
  refine aw_iload_n dX10_count_189 rfl 2 rfl ?_
  refine aw_aload_n dX10_count_190 rfl 0 rfl ?_
  refine aw_get dX10_count_191 shM0 ckX10 flX10_13 (v := .ref (ad 2)) rfl ?_
  refine aw_iconst (v := 0) dX10_count_194 (by decide) ?_
  refine aw_ialdK (t0 := 0) (j := 0) dX10_count_195 shM2 rfl (by decide) (vp_inK (by decide) (by decide)) ?_
  refine aw_icmp_ge (tgt := 214) dX10_count_196 (by decide) (fun hc2 => ?_) (fun hc2 => ?_)
  · have H := H.1 hc2
    refine aw_iload_n dX10_count_214 rfl 1 rfl ?_
    exact aw_iret dX10_count_215 rfl ⟨_, rfl, H⟩
  · have H := H.2 hc2
    refine aw_iload_n dX10_count_199 rfl 1 rfl ?_
    refine aw_aload_n dX10_count_200 rfl 0 rfl ?_
    refine aw_get dX10_count_201 shM0 ckX10 flX10_93 (v := .ref (ad 27)) rfl ?_
    refine aw_iload_n dX10_count_204 rfl 2 rfl ?_
    obtain ⟨hi1, H⟩ := H
    refine aw_ialdK (t0 := 0) (j := x3.toNatClampNeg) dX10_count_205 shM27 rfl rfl hi1 ?_
    refine aw_iadd dX10_count_206 ?_
    refine aw_istore_n (ls' := [(2, .int (x2 + (h.1 27 x3.toNatClampNeg))), (0, .ref (ad 0)), (3, .int x3)]) dX10_count_207 rfl (by decide) rfl ?_
    refine aw_inc (mm := (1)) (ls' := [(3, .int (x3 + (1 : Int32))), (2, .int (x2 + (h.1 27 x3.toNatClampNeg))), (0, .ref (ad 0))]) dX10_count_208 (by decide) (j := 2) rfl (by decide) rfl ?_
    refine aw_goto (tgt := 189) dX10_count_211 (by decide) ?_
    exact aw_ls [2, 1, 0] rfl H
