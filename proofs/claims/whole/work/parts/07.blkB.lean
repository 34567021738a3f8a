set_option maxRecDepth 8000 in
set_option maxHeartbeats 1000000 in
theorem bX1_add_0 {l : Launch} {ad : Nat → Nat} {d : Nat} {R : aH → Prop} (lw : Nat) (hlw : isL GC lw) (x1 : Int32)  (h : aH)
    (H : ((64 : Int32) ≤ (h.1 lw 2) → (R h)) ∧ (¬ (64 : Int32) ≤ (h.1 lw 2) → (vp_in (h.1 lw 2) 64 ∧ (∀ h2 : aH, h2 = (sI (sI h (lw + 1) (h.1 lw 2).toNatClampNeg x1) lw 2 (((sI h (lw + 1) (h.1 lw 2).toNatClampNeg x1).1 lw 2) + (1 : Int32))) → (R h2))))) : AW GC l ad d mX1_add 0 [(0, .ref (ad lw)), (1, .int x1)] [] h (qv R) := by
  refine aw_aload_n dX1_add_0 rfl 0 rfl ?_
  refine aw_get dX1_add_1 hlw.1 ckX1 flX1_19 (v := .int (h.1 lw 2)) rfl ?_
  refine aw_bipush (v := 64) dX1_add_4 (by decide) ?_
  refine aw_icmp_ge (tgt := 29) dX1_add_6 (by decide) (fun hc3 => ?_) (fun hc3 => ?_)
  · replace H := H.1 hc3
    exact aw_vret dX1_add_29 rfl ⟨rfl, H⟩
  · replace H := H.2 hc3
    refine aw_aload_n dX1_add_9 rfl 0 rfl ?_
    refine aw_get dX1_add_10 hlw.1 ckX1 flX1_9 (v := .ref (ad (lw + 1))) rfl ?_
    refine aw_aload_n dX1_add_13 rfl 0 rfl ?_
    refine aw_get dX1_add_14 hlw.1 ckX1 flX1_19 (v := .int (h.1 lw 2)) rfl ?_
    refine aw_iload_n dX1_add_17 rfl 1 rfl ?_
    obtain ⟨hi1, H⟩ := H
    refine aw_iastK (t0 := 0) (j := (h.1 lw 2).toNatClampNeg) dX1_add_18 hlw.2.1 rfl rfl hi1 ?_
    refine aw_aload_n dX1_add_19 rfl 0 rfl ?_
    refine aw_dup dX1_add_20 rfl ?_
    refine aw_get dX1_add_21 hlw.1 ckX1 flX1_19 (v := .int ((sI h (lw + 1) (h.1 lw 2).toNatClampNeg x1).1 lw 2)) rfl ?_
    refine aw_iconst (v := 1) dX1_add_24 (by decide) ?_
    refine aw_iadd dX1_add_25 ?_
    refine aw_putI dX1_add_26 hlw.1 ckX1 flX1_19 rfl (fun _ => rfl) rfl rfl ?_
    refine aw_toph (fun h2 eh2 => ?_)
    replace H := H h2 eh2
    exact aw_vret dX1_add_29 rfl ⟨rfl, H⟩
set_option maxRecDepth 8000 in
set_option maxHeartbeats 1000000 in
theorem bX1_value_0 {l : Launch} {ad : Nat → Nat} {d : Nat} {R : Int64 → aH → Prop} (lw : Nat) (a1 n1 : Nat) (hlw : isL GC lw) (ha1 : GC.2.2.2.1[a1]? = some (.inr (.long, n1)))   (h : aH)
    (H : AW GC l ad (d + 1) mX1_value 4 [(0, .ref (ad lw)), (1, .ref (ad a1)), (2, .int (0 : Int32)), (3, .int (0 : Int32))] [] h (ql R)) : AW GC l ad (d + 1) mX1_value 0 [(0, .ref (ad lw)), (1, .ref (ad a1))] [] h (ql R) := by
  refine aw_iconst (v := 0) dX1_value_0 (by decide) ?_
  refine aw_istore_n (ls' := [(2, .int (0 : Int32)), (0, .ref (ad lw)), (1, .ref (ad a1))]) dX1_value_1 rfl (by decide) rfl ?_
  refine aw_iconst (v := 0) dX1_value_2 (by decide) ?_
  refine aw_istore_n (ls' := [(3, .int (0 : Int32)), (2, .int (0 : Int32)), (0, .ref (ad lw)), (1, .ref (ad a1))]) dX1_value_3 rfl (by decide) rfl ?_
  exact aw_ls [2, 3, 1, 0] rfl H
set_option maxRecDepth 8000 in
set_option maxHeartbeats 1000000 in
theorem bX1_value_4 {l : Launch} {ad : Nat → Nat} {d : Nat} {R : Int64 → aH → Prop} (lw : Nat) (a1 n1 : Nat) (hlw : isL GC lw) (ha1 : GC.2.2.2.1[a1]? = some (.inr (.long, n1))) (x2 : Int32) (x3 : Int32)  (h : aH)
    (H : ((h.1 lw 2) ≤ x3 → (AW GC l ad (d + 1) mX1_value 160 [(0, .ref (ad lw)), (2, .int x2)] [] h (ql R))) ∧ (¬ (h.1 lw 2) ≤ x3 → (((64 : Int32) ≤ x3 → (AW GC l ad (d + 1) mX1_value 160 [(0, .ref (ad lw)), (2, .int x2)] [] h (ql R))) ∧ (¬ (64 : Int32) ≤ x3 → (vp_in x3 64 ∧ (AW GC l ad d mX1_partsOf 0 [(0, .int (h.1 (lw + 1) x3.toNatClampNeg))] [] h (qi fun z3 h2 => ((x2 - z3) < 0 → (R (-9223372036854775808 : Int64) h2)) ∧ (¬ (x2 - z3) < 0 → (((64 : Int32) ≤ (x2 - z3) → (R (-9223372036854775808 : Int64) h2)) ∧ (¬ (64 : Int32) ≤ (x2 - z3) → ((x2 ≤ (64 : Int32) → ((¬ z3 = 0 → ((¬ z3 = (1 : Int32) → (vp_in (x2 - z3) 64 ∧ (vp_in (x2 - (1 : Int32)) 64 ∧ (AW GC l ad d mX1_joinedValue 0 [(0, .int (h.1 (lw + 1) x3.toNatClampNeg)), (1, .long (h2.2.1 (lw + 2) (x2 - z3).toNatClampNeg)), (3, .long (h2.2.1 (lw + 2) (x2 - (1 : Int32)).toNatClampNeg))] [] h2 (ql fun z7 h6 => AW GC l ad (d + 1) mX1_value 127 [(0, .ref (ad lw)), (1, .ref (ad a1)), (3, .int x3), (6, .int (x2 - z3)), (7, .long z7)] [] h6 (ql R)))))) ∧ (z3 = (1 : Int32) → (vp_in (x2 - z3) 64 ∧ ((¬ (h2.2.1 (lw + 2) (x2 - z3).toNatClampNeg) = (0 : Int64) → (AW GC l ad (d + 1) mX1_value 100 [(0, .ref (ad lw)), (1, .ref (ad a1)), (3, .int x3), (6, .int (x2 - z3))] [.long (0 : Int64)] h2 (ql R))) ∧ ((h2.2.1 (lw + 2) (x2 - z3).toNatClampNeg) = (0 : Int64) → (AW GC l ad (d + 1) mX1_value 100 [(0, .ref (ad lw)), (1, .ref (ad a1)), (3, .int x3), (6, .int (x2 - z3))] [.long (1 : Int64)] h2 (ql R)))))))) ∧ (z3 = 0 → (AW GC l ad d mX1_leaf 0 [(0, .int (h.1 (lw + 1) x3.toNatClampNeg)), (1, .ref (ad a1))] [] h2 (ql fun z12 h11 => AW GC l ad (d + 1) mX1_value 127 [(0, .ref (ad lw)), (1, .ref (ad a1)), (3, .int x3), (6, .int (x2 - z3)), (7, .long z12)] [] h11 (ql R)))))) ∧ (¬ x2 ≤ (64 : Int32) → (R (-9223372036854775808 : Int64) h2))))))))))))) : AW GC l ad (d + 1) mX1_value 4 [(0, .ref (ad lw)), (1, .ref (ad a1)), (2, .int x2), (3, .int x3)] [] h (ql R) := by
  refine aw_iload_n dX1_value_4 rfl 3 rfl ?_
  refine aw_aload_n dX1_value_5 rfl 0 rfl ?_
  refine aw_get dX1_value_6 hlw.1 ckX1 flX1_19 (v := .int (h.1 lw 2)) rfl ?_
  refine aw_icmp_ge (tgt := 160) dX1_value_9 (by decide) (fun hc18 => ?_) (fun hc18 => ?_)
  · replace H := H.1 hc18
    exact aw_ls [0, 2] rfl H
  · replace H := H.2 hc18
    refine aw_iload_n dX1_value_12 rfl 3 rfl ?_
    refine aw_bipush (v := 64) dX1_value_13 (by decide) ?_
    refine aw_icmp_ge (tgt := 160) dX1_value_15 (by decide) (fun hc17 => ?_) (fun hc17 => ?_)
    · replace H := H.1 hc17
      exact aw_ls [0, 2] rfl H
    · replace H := H.2 hc17
      refine aw_aload_n dX1_value_18 rfl 0 rfl ?_
      refine aw_get dX1_value_19 hlw.1 ckX1 flX1_9 (v := .ref (ad (lw + 1))) rfl ?_
      refine aw_iload_n dX1_value_22 rfl 3 rfl ?_
      obtain ⟨hi1, H⟩ := H
      refine aw_ialdK (t0 := 0) (j := x3.toNatClampNeg) dX1_value_23 hlw.2.1 rfl rfl hi1 ?_
      refine aw_istore (ls' := [(4, .int (h.1 (lw + 1) x3.toNatClampNeg)), (0, .ref (ad lw)), (1, .ref (ad a1)), (2, .int x2), (3, .int x3)]) dX1_value_24 (by decide) rfl ?_
      refine aw_iload dX1_value_26 0 rfl ?_
      refine cvX1_partsOf dX1_value_28 mlX1_23 (Nat.le_of_ble_eq_true rfl) H (fun z3 h2 H => ?_)
      refine aw_istore (ls' := [(5, .int z3), (4, .int (h.1 (lw + 1) x3.toNatClampNeg)), (0, .ref (ad lw)), (1, .ref (ad a1)), (2, .int x2), (3, .int x3)]) dX1_value_31 (by decide) rfl ?_
      refine aw_iload_n dX1_value_33 rfl 4 rfl ?_
      refine aw_iload dX1_value_34 0 rfl ?_
      refine aw_isub dX1_value_36 ?_
      refine aw_istore (ls' := [(6, .int (x2 - z3)), (5, .int z3), (4, .int (h.1 (lw + 1) x3.toNatClampNeg)), (0, .ref (ad lw)), (1, .ref (ad a1)), (2, .int x2), (3, .int x3)]) dX1_value_37 (by decide) rfl ?_
      refine aw_iload dX1_value_39 0 rfl ?_
      refine aw_if_lt (tgt := 57) dX1_value_41 (by decide) (fun hc16 => ?_) (fun hc16 => ?_)
      · replace H := H.1 hc16
        refine aw_ldc2 dX1_value_57 clX1_27 ?_
        exact aw_lret dX1_value_60 rfl ⟨_, rfl, H⟩
      · replace H := H.2 hc16
        refine aw_iload dX1_value_44 0 rfl ?_
        refine aw_bipush (v := 64) dX1_value_46 (by decide) ?_
        refine aw_icmp_ge (tgt := 57) dX1_value_48 (by decide) (fun hc15 => ?_) (fun hc15 => ?_)
        · replace H := H.1 hc15
          refine aw_ldc2 dX1_value_57 clX1_27 ?_
          exact aw_lret dX1_value_60 rfl ⟨_, rfl, H⟩
        · replace H := H.2 hc15
          refine aw_iload_n dX1_value_51 rfl 5 rfl ?_
          refine aw_bipush (v := 64) dX1_value_52 (by decide) ?_
          refine aw_icmp_le (tgt := 61) dX1_value_54 (by decide) (fun hc14 => ?_) (fun hc14 => ?_)
          · replace H := H.1 hc14
            refine aw_iload dX1_value_61 1 rfl ?_
            refine aw_if_ne (tgt := 77) dX1_value_63 (by decide) (fun hc13 => ?_) (fun hc13 => ?_)
            · replace H := H.1 hc13
              refine aw_iload dX1_value_77 1 rfl ?_
              refine aw_iconst (v := 1) dX1_value_79 (by decide) ?_
              refine aw_icmp_ne (tgt := 105) dX1_value_80 (by decide) (fun hc10 => ?_) (fun hc10 => ?_)
              · replace H := H.1 hc10
                refine aw_iload dX1_value_105 2 rfl ?_
                refine aw_aload_n dX1_value_107 rfl 3 rfl ?_
                refine aw_get dX1_value_108 hlw.1 ckX1 flX1_15 (v := .ref (ad (lw + 2))) rfl ?_
                refine aw_iload dX1_value_111 0 rfl ?_
                obtain ⟨hi4, H⟩ := H
                refine aw_laldK (t0 := 1) (j := (x2 - z3).toNatClampNeg) dX1_value_113 hlw.2.2 rfl rfl hi4 ?_
                refine aw_aload_n dX1_value_114 rfl 3 rfl ?_
                refine aw_get dX1_value_115 hlw.1 ckX1 flX1_15 (v := .ref (ad (lw + 2))) rfl ?_
                refine aw_iload_n dX1_value_118 rfl 5 rfl ?_
                refine aw_iconst (v := 1) dX1_value_119 (by decide) ?_
                refine aw_isub dX1_value_120 ?_
                obtain ⟨hi5, H⟩ := H
                refine aw_laldK (t0 := 1) (j := (x2 - (1 : Int32)).toNatClampNeg) dX1_value_121 hlw.2.2 rfl rfl hi5 ?_
                refine cvX1_joinedValue dX1_value_122 mlX1_33 (Nat.le_of_ble_eq_true rfl) H (fun z7 h6 H => ?_)
                refine aw_lstore (ls' := [(7, .long z7), (6, .int (x2 - z3)), (5, .int z3), (4, .int (h.1 (lw + 1) x3.toNatClampNeg)), (0, .ref (ad lw)), (1, .ref (ad a1)), (2, .int x2), (3, .int x3)]) dX1_value_125 (by decide) rfl ?_
                exact aw_ls [4, 5, 7, 1, 0] rfl H
              · replace H := H.2 hc10
                refine aw_aload_n dX1_value_83 rfl 3 rfl ?_
                refine aw_get dX1_value_84 hlw.1 ckX1 flX1_15 (v := .ref (ad (lw + 2))) rfl ?_
                refine aw_iload dX1_value_87 0 rfl ?_
                obtain ⟨hi8, H⟩ := H
                refine aw_laldK (t0 := 1) (j := (x2 - z3).toNatClampNeg) dX1_value_89 hlw.2.2 rfl rfl hi8 ?_
                refine aw_lconst (v := 0) dX1_value_90 (by decide) ?_
                refine aw_lif_ne (tgt := 99) dX1_value_91 dX1_value_92 (by decide) (fun hc9 => ?_) (fun hc9 => ?_)
                · replace H := H.1 hc9
                  refine aw_lconst (v := 0) dX1_value_99 (by decide) ?_
                  exact aw_ls [3, 4, 6, 0] rfl H
                · replace H := H.2 hc9
                  refine aw_lconst (v := 1) dX1_value_95 (by decide) ?_
                  refine aw_goto (tgt := 100) dX1_value_96 (by decide) ?_
                  exact aw_ls [3, 4, 6, 0] rfl H
            · replace H := H.2 hc13
              refine aw_iload dX1_value_66 2 rfl ?_
              refine aw_aload_n dX1_value_68 rfl 4 rfl ?_
              refine cvX1_leaf dX1_value_69 mlX1_29 (Nat.le_of_ble_eq_true rfl) H (fun z12 h11 H => ?_)
              refine aw_lstore (ls' := [(7, .long z12), (6, .int (x2 - z3)), (5, .int z3), (4, .int (h.1 (lw + 1) x3.toNatClampNeg)), (0, .ref (ad lw)), (1, .ref (ad a1)), (2, .int x2), (3, .int x3)]) dX1_value_72 (by decide) rfl ?_
              refine aw_goto (tgt := 127) dX1_value_74 (by decide) ?_
              exact aw_ls [4, 5, 7, 1, 0] rfl H
          · replace H := H.2 hc14
            refine aw_ldc2 dX1_value_57 clX1_27 ?_
            exact aw_lret dX1_value_60 rfl ⟨_, rfl, H⟩
set_option maxRecDepth 8000 in
set_option maxHeartbeats 1000000 in
theorem bX1_value_100 {l : Launch} {ad : Nat → Nat} {d : Nat} {R : Int64 → aH → Prop} (lw : Nat) (a1 n1 : Nat) (hlw : isL GC lw) (ha1 : GC.2.2.2.1[a1]? = some (.inr (.long, n1))) (x3 : Int32) (x6 : Int32) (s0 : Int64)  (h : aH)
    (H : AW GC l ad (d + 1) mX1_value 127 [(0, .ref (ad lw)), (1, .ref (ad a1)), (3, .int x3), (6, .int x6), (7, .long s0)] [] h (ql R)) : AW GC l ad (d + 1) mX1_value 100 [(0, .ref (ad lw)), (1, .ref (ad a1)), (3, .int x3), (6, .int x6)] [.long s0] h (ql R) := by
  refine aw_lstore (ls' := [(7, .long s0), (0, .ref (ad lw)), (1, .ref (ad a1)), (3, .int x3), (6, .int x6)]) dX1_value_100 (by decide) rfl ?_
  refine aw_goto (tgt := 127) dX1_value_102 (by decide) ?_
  exact aw_ls [1, 2, 3, 4, 0] rfl H
set_option maxRecDepth 8000 in
set_option maxHeartbeats 1000000 in
theorem bX1_value_127 {l : Launch} {ad : Nat → Nat} {d : Nat} {R : Int64 → aH → Prop} (lw : Nat) (a1 n1 : Nat) (hlw : isL GC lw) (ha1 : GC.2.2.2.1[a1]? = some (.inr (.long, n1))) (x3 : Int32) (x6 : Int32) (x7 : Int64)  (h : aH)
    (H : (¬ x7 = (-9223372036854775808 : Int64) → (vp_in x6 64 ∧ (AW GC l ad (d + 1) mX1_value 4 [(0, .ref (ad lw)), (1, .ref (ad a1)), (2, .int (x6 + (1 : Int32))), (3, .int (x3 + (1 : Int32)))] [] (sJ h (lw + 2) x6.toNatClampNeg x7) (ql R)))) ∧ (x7 = (-9223372036854775808 : Int64) → (R (-9223372036854775808 : Int64) h))) : AW GC l ad (d + 1) mX1_value 127 [(0, .ref (ad lw)), (1, .ref (ad a1)), (3, .int x3), (6, .int x6), (7, .long x7)] [] h (ql R) := by
  refine aw_lload dX1_value_127 4 rfl ?_
  refine aw_ldc2 dX1_value_129 clX1_27 ?_
  refine aw_lif_ne (tgt := 140) dX1_value_132 dX1_value_133 (by decide) (fun hc2 => ?_) (fun hc2 => ?_)
  · replace H := H.1 hc2
    refine aw_aload_n dX1_value_140 rfl 0 rfl ?_
    refine aw_get dX1_value_141 hlw.1 ckX1 flX1_15 (v := .ref (ad (lw + 2))) rfl ?_
    refine aw_iload dX1_value_144 3 rfl ?_
    refine aw_lload dX1_value_146 4 rfl ?_
    obtain ⟨hi1, H⟩ := H
    refine aw_lastK (t0 := 1) (j := x6.toNatClampNeg) dX1_value_148 hlw.2.2 rfl rfl hi1 ?_
    refine aw_iload dX1_value_149 3 rfl ?_
    refine aw_iconst (v := 1) dX1_value_151 (by decide) ?_
    refine aw_iadd dX1_value_152 ?_
    refine aw_istore_n (ls' := [(2, .int (x6 + (1 : Int32))), (0, .ref (ad lw)), (1, .ref (ad a1)), (3, .int x3), (6, .int x6), (7, .long x7)]) dX1_value_153 rfl (by decide) rfl ?_
    refine aw_inc (mm := (1)) (ls' := [(3, .int (x3 + (1 : Int32))), (2, .int (x6 + (1 : Int32))), (0, .ref (ad lw)), (1, .ref (ad a1)), (6, .int x6), (7, .long x7)]) dX1_value_154 (by decide) (j := 3) rfl (by decide) rfl ?_
    refine aw_goto (tgt := 4) dX1_value_157 (by decide) ?_
    exact aw_ls [2, 3, 1, 0] rfl H
  · replace H := H.2 hc2
    refine aw_ldc2 dX1_value_136 clX1_27 ?_
    exact aw_lret dX1_value_139 rfl ⟨_, rfl, H⟩
set_option maxRecDepth 8000 in
set_option maxHeartbeats 1000000 in
theorem bX1_value_160 {l : Launch} {ad : Nat → Nat} {d : Nat} {R : Int64 → aH → Prop} (lw : Nat) (a1 n1 : Nat) (hlw : isL GC lw) (ha1 : GC.2.2.2.1[a1]? = some (.inr (.long, n1))) (x2 : Int32)  (h : aH)
    (H : (¬ x2 = (1 : Int32) → (R (-9223372036854775808 : Int64) h)) ∧ (x2 = (1 : Int32) → (R (h.2.1 (lw + 2) 0) h))) : AW GC l ad (d + 1) mX1_value 160 [(0, .ref (ad lw)), (2, .int x2)] [] h (ql R) := by
  refine aw_iload_n dX1_value_160 rfl 1 rfl ?_
  refine aw_iconst (v := 1) dX1_value_161 (by decide) ?_
  refine aw_icmp_ne (tgt := 174) dX1_value_162 (by decide) (fun hc1 => ?_) (fun hc1 => ?_)
  · replace H := H.1 hc1
    refine aw_ldc2 dX1_value_174 clX1_27 ?_
    exact aw_lret dX1_value_177 rfl ⟨_, rfl, H⟩
  · replace H := H.2 hc1
    refine aw_aload_n dX1_value_165 rfl 0 rfl ?_
    refine aw_get dX1_value_166 hlw.1 ckX1 flX1_15 (v := .ref (ad (lw + 2))) rfl ?_
    refine aw_iconst (v := 0) dX1_value_169 (by decide) ?_
    refine aw_laldK (t0 := 1) (j := 0) dX1_value_170 hlw.2.2 rfl (by decide) (vp_inK (by decide) (by decide)) ?_
    refine aw_goto (tgt := 177) dX1_value_171 (by decide) ?_
    exact aw_lret dX1_value_177 rfl ⟨_, rfl, H⟩
set_option maxRecDepth 8000 in
set_option maxHeartbeats 1000000 in
theorem bX1_partsOf_0 {l : Launch} {ad : Nat → Nat} {d : Nat} {R : Int32 → aH → Prop}   (x0 : Int32)  (h : aH)
    (H : ((64 : Int32) ≤ x0 → (R (0 : Int32) h)) ∧ (¬ (64 : Int32) ≤ x0 → ((x0 < (14 : Int32) → (AW GC l ad d mX1_partsOf 20 [(0, .int x0)] [] h (qi R))) ∧ (¬ x0 < (14 : Int32) → (((20 : Int32) < x0 → (AW GC l ad d mX1_partsOf 20 [(0, .int x0)] [] h (qi R))) ∧ (¬ (20 : Int32) < x0 → (R (0 : Int32) h))))))) : AW GC l ad d mX1_partsOf 0 [(0, .int x0)] [] h (qi R) := by
  refine aw_iload_n dX1_partsOf_0 rfl 0 rfl ?_
  refine aw_bipush (v := 64) dX1_partsOf_1 (by decide) ?_
  refine aw_icmp_ge (tgt := 18) dX1_partsOf_3 (by decide) (fun hc3 => ?_) (fun hc3 => ?_)
  · replace H := H.1 hc3
    refine aw_iconst (v := 0) dX1_partsOf_18 (by decide) ?_
    exact aw_iret dX1_partsOf_19 rfl ⟨_, rfl, H⟩
  · replace H := H.2 hc3
    refine aw_iload_n dX1_partsOf_6 rfl 0 rfl ?_
    refine aw_bipush (v := 14) dX1_partsOf_7 (by decide) ?_
    refine aw_icmp_lt (tgt := 20) dX1_partsOf_9 (by decide) (fun hc2 => ?_) (fun hc2 => ?_)
    · replace H := H.1 hc2
      exact aw_ls [0] rfl H
    · replace H := H.2 hc2
      refine aw_iload_n dX1_partsOf_12 rfl 0 rfl ?_
      refine aw_bipush (v := 20) dX1_partsOf_13 (by decide) ?_
      refine aw_icmp_gt (tgt := 20) dX1_partsOf_15 (by decide) (fun hc1 => ?_) (fun hc1 => ?_)
      · replace H := H.1 hc1
        exact aw_ls [0] rfl H
      · replace H := H.2 hc1
        refine aw_iconst (v := 0) dX1_partsOf_18 (by decide) ?_
        exact aw_iret dX1_partsOf_19 rfl ⟨_, rfl, H⟩
set_option maxRecDepth 8000 in
set_option maxHeartbeats 1000000 in
theorem bX1_partsOf_20 {l : Launch} {ad : Nat → Nat} {d : Nat} {R : Int32 → aH → Prop}   (x0 : Int32)  (h : aH)
    (H : (¬ x0 = (11 : Int32) → (R (2 : Int32) h)) ∧ (x0 = (11 : Int32) → (R (1 : Int32) h))) : AW GC l ad d mX1_partsOf 20 [(0, .int x0)] [] h (qi R) := by
  refine aw_iload_n dX1_partsOf_20 rfl 0 rfl ?_
  refine aw_bipush (v := 11) dX1_partsOf_21 (by decide) ?_
  refine aw_icmp_ne (tgt := 30) dX1_partsOf_23 (by decide) (fun hc1 => ?_) (fun hc1 => ?_)
  · replace H := H.1 hc1
    refine aw_iconst (v := 2) dX1_partsOf_30 (by decide) ?_
    exact aw_iret dX1_partsOf_31 rfl ⟨_, rfl, H⟩
  · replace H := H.2 hc1
    refine aw_iconst (v := 1) dX1_partsOf_26 (by decide) ?_
    refine aw_goto (tgt := 31) dX1_partsOf_27 (by decide) ?_
    exact aw_iret dX1_partsOf_31 rfl ⟨_, rfl, H⟩
set_option maxRecDepth 8000 in
set_option maxHeartbeats 1000000 in
theorem bX1_leaf_0 {l : Launch} {ad : Nat → Nat} {d : Nat} {R : Int64 → aH → Prop} (a1 n1 : Nat) (ha1 : GC.2.2.2.1[a1]? = some (.inr (.long, n1))) (x0 : Int32)  (h : aH)
    (H : (x0 < (64 : Int32) → (((x0 - (14 : Int32)) < 0 → (R (-9223372036854775808 : Int64) h)) ∧ (¬ (x0 - (14 : Int32)) < 0 → (((Int32.ofNat n1) ≤ (x0 - (14 : Int32)) → (R (-9223372036854775808 : Int64) h)) ∧ (¬ (Int32.ofNat n1) ≤ (x0 - (14 : Int32)) → (vp_in (x0 - (14 : Int32)) n1 ∧ (R (h.2.1 a1 (x0 - (14 : Int32)).toNatClampNeg) h))))))) ∧ (¬ x0 < (64 : Int32) → (R (x0 - (64 : Int32)).toInt64 h))) : AW GC l ad d mX1_leaf 0 [(0, .int x0), (1, .ref (ad a1))] [] h (ql R) := by
  refine aw_iload_n dX1_leaf_0 rfl 0 rfl ?_
  refine aw_bipush (v := 64) dX1_leaf_1 (by decide) ?_
  refine aw_icmp_lt (tgt := 12) dX1_leaf_3 (by decide) (fun hc4 => ?_) (fun hc4 => ?_)
  · replace H := H.1 hc4
    refine aw_iload_n dX1_leaf_12 rfl 0 rfl ?_
    refine aw_bipush (v := 14) dX1_leaf_13 (by decide) ?_
    refine aw_isub dX1_leaf_15 ?_
    refine aw_istore_n (ls' := [(2, .int (x0 - (14 : Int32))), (0, .int x0), (1, .ref (ad a1))]) dX1_leaf_16 rfl (by decide) rfl ?_
    refine aw_iload_n dX1_leaf_17 rfl 0 rfl ?_
    refine aw_if_lt (tgt := 33) dX1_leaf_18 (by decide) (fun hc3 => ?_) (fun hc3 => ?_)
    · replace H := H.1 hc3
      refine aw_ldc2 dX1_leaf_33 clX1_27 ?_
      exact aw_lret dX1_leaf_36 rfl ⟨_, rfl, H⟩
    · replace H := H.2 hc3
      refine aw_iload_n dX1_leaf_21 rfl 0 rfl ?_
      refine aw_aload_n dX1_leaf_22 rfl 2 rfl ?_
      refine aw_alen (t0 := 1) dX1_leaf_23 ha1 rfl ?_
      refine aw_icmp_ge (tgt := 33) dX1_leaf_24 (by decide) (fun hc2 => ?_) (fun hc2 => ?_)
      · replace H := H.1 hc2
        refine aw_ldc2 dX1_leaf_33 clX1_27 ?_
        exact aw_lret dX1_leaf_36 rfl ⟨_, rfl, H⟩
      · replace H := H.2 hc2
        refine aw_aload_n dX1_leaf_27 rfl 2 rfl ?_
        refine aw_iload_n dX1_leaf_28 rfl 0 rfl ?_
        obtain ⟨hi1, H⟩ := H
        refine aw_laldK (t0 := 1) (j := (x0 - (14 : Int32)).toNatClampNeg) dX1_leaf_29 ha1 rfl rfl hi1 ?_
        refine aw_goto (tgt := 36) dX1_leaf_30 (by decide) ?_
        exact aw_lret dX1_leaf_36 rfl ⟨_, rfl, H⟩
  · replace H := H.2 hc4
    refine aw_iload_n dX1_leaf_6 rfl 0 rfl ?_
    refine aw_bipush (v := 64) dX1_leaf_7 (by decide) ?_
    refine aw_isub dX1_leaf_9 ?_
    refine aw_i2l dX1_leaf_10 ?_
    exact aw_lret dX1_leaf_11 rfl ⟨_, rfl, H⟩
set_option maxRecDepth 8000 in
set_option maxHeartbeats 1000000 in
theorem bX1_joinedValue_0 {l : Launch} {ad : Nat → Nat} {d : Nat} {R : Int64 → aH → Prop}   (x0 : Int32) (x1 : Int64) (x3 : Int64)  (h : aH)
    (H : (x0 = (12 : Int32) → ((x1 = (0 : Int64) → (AW GC l ad d mX1_joinedValue 204 [] [] h (ql R))) ∧ (¬ x1 = (0 : Int64) → ((x3 = (0 : Int64) → (AW GC l ad d mX1_joinedValue 204 [] [] h (ql R))) ∧ (¬ x3 = (0 : Int64) → (AW GC l ad d mX1_joinedValue 205 [] [.long (1 : Int64)] h (ql R))))))) ∧ ((x0 = (13 : Int32) → ((¬ x1 = (0 : Int64) → (AW GC l ad d mX1_joinedValue 222 [] [] h (ql R))) ∧ (x1 = (0 : Int64) → ((x3 = (0 : Int64) → (AW GC l ad d mX1_joinedValue 227 [] [.long (0 : Int64)] h (ql R))) ∧ (¬ x3 = (0 : Int64) → (AW GC l ad d mX1_joinedValue 222 [] [] h (ql R))))))) ∧ ((x0 = (14 : Int32) → ((x1 ≤ x3 → (AW GC l ad d mX1_joinedValue 323 [] [.long (0 : Int64)] h (ql R))) ∧ (¬ x1 ≤ x3 → (AW GC l ad d mX1_joinedValue 323 [] [.long (1 : Int64)] h (ql R))))) ∧ ((x0 = (15 : Int32) → ((x1 ≤ x3 → (AW GC l ad d mX1_joinedValue 323 [] [.long (0 : Int64)] h (ql R))) ∧ (¬ x1 ≤ x3 → (AW GC l ad d mX1_joinedValue 323 [] [.long (1 : Int64)] h (ql R))))) ∧ ((x0 = (16 : Int32) → ((x1 ≤ x3 → (AW GC l ad d mX1_joinedValue 323 [] [.long (0 : Int64)] h (ql R))) ∧ (¬ x1 ≤ x3 → (AW GC l ad d mX1_joinedValue 323 [] [.long (1 : Int64)] h (ql R))))) ∧ ((x0 = (17 : Int32) → ((x1 ≤ x3 → (AW GC l ad d mX1_joinedValue 323 [] [.long (0 : Int64)] h (ql R))) ∧ (¬ x1 ≤ x3 → (AW GC l ad d mX1_joinedValue 323 [] [.long (1 : Int64)] h (ql R))))) ∧ ((x0 = (18 : Int32) → ((x1 ≤ x3 → (AW GC l ad d mX1_joinedValue 323 [] [.long (0 : Int64)] h (ql R))) ∧ (¬ x1 ≤ x3 → (AW GC l ad d mX1_joinedValue 323 [] [.long (1 : Int64)] h (ql R))))) ∧ ((x0 = (19 : Int32) → ((x1 ≤ x3 → (AW GC l ad d mX1_joinedValue 323 [] [.long (0 : Int64)] h (ql R))) ∧ (¬ x1 ≤ x3 → (AW GC l ad d mX1_joinedValue 323 [] [.long (1 : Int64)] h (ql R))))) ∧ ((x0 = (20 : Int32) → ((x1 ≤ x3 → (AW GC l ad d mX1_joinedValue 323 [] [.long (0 : Int64)] h (ql R))) ∧ (¬ x1 ≤ x3 → (AW GC l ad d mX1_joinedValue 323 [] [.long (1 : Int64)] h (ql R))))) ∧ ((x0 = (21 : Int32) → ((x1 ≤ x3 → (AW GC l ad d mX1_joinedValue 323 [] [.long (0 : Int64)] h (ql R))) ∧ (¬ x1 ≤ x3 → (AW GC l ad d mX1_joinedValue 323 [] [.long (1 : Int64)] h (ql R))))) ∧ ((x0 = (22 : Int32) → ((x1 ≤ x3 → (AW GC l ad d mX1_joinedValue 323 [] [.long (0 : Int64)] h (ql R))) ∧ (¬ x1 ≤ x3 → (AW GC l ad d mX1_joinedValue 323 [] [.long (1 : Int64)] h (ql R))))) ∧ ((x0 = (23 : Int32) → ((x1 ≤ x3 → (AW GC l ad d mX1_joinedValue 323 [] [.long (0 : Int64)] h (ql R))) ∧ (¬ x1 ≤ x3 → (AW GC l ad d mX1_joinedValue 323 [] [.long (1 : Int64)] h (ql R))))) ∧ ((x0 = (24 : Int32) → (AW GC l ad d mX1_joinedValue 325 [(5, .long (x1 + x3))] [] h (ql R))) ∧ ((x0 = (25 : Int32) → (AW GC l ad d mX1_joinedValue 325 [(5, .long (x1 - x3))] [] h (ql R))) ∧ ((x0 = (26 : Int32) → ((x1 = (0 : Int64) → (AW GC l ad d mX1_joinedValue 162 [(1, .long x1), (3, .long x3)] [] h (ql R))) ∧ (¬ x1 = (0 : Int64) → (((0 : Int64) ≤ x3 → (AW GC l ad d mX1_joinedValue 138 [(1, .long x1), (3, .long x3)] [.long x3] h (ql R))) ∧ (¬ (0 : Int64) ≤ x3 → (AW GC l ad d mX1_joinedValue 138 [(1, .long x1), (3, .long x3)] [.long (-x3)] h (ql R))))))) ∧ ((x0 = (27 : Int32) → ((¬ x3 = (0 : Int64) → (¬ x3 = 0 ∧ (AW GC l ad d mX1_joinedValue 325 [(5, .long (x1 / x3))] [] h (ql R)))) ∧ (x3 = (0 : Int64) → (R (-9223372036854775808 : Int64) h)))) ∧ ((x0 = (28 : Int32) → ((x3 ≤ x1 → (AW GC l ad d mX1_joinedValue 243 [] [.long (0 : Int64)] h (ql R))) ∧ (¬ x3 ≤ x1 → (AW GC l ad d mX1_joinedValue 243 [] [.long (1 : Int64)] h (ql R))))) ∧ ((x0 = (29 : Int32) → ((x3 < x1 → (AW GC l ad d mX1_joinedValue 259 [] [.long (0 : Int64)] h (ql R))) ∧ (¬ x3 < x1 → (AW GC l ad d mX1_joinedValue 259 [] [.long (1 : Int64)] h (ql R))))) ∧ ((x0 = (30 : Int32) → ((¬ x1 = x3 → (AW GC l ad d mX1_joinedValue 275 [] [.long (0 : Int64)] h (ql R))) ∧ (x1 = x3 → (AW GC l ad d mX1_joinedValue 275 [] [.long (1 : Int64)] h (ql R))))) ∧ ((x0 = (31 : Int32) → ((x1 = x3 → (AW GC l ad d mX1_joinedValue 291 [] [.long (0 : Int64)] h (ql R))) ∧ (¬ x1 = x3 → (AW GC l ad d mX1_joinedValue 291 [] [.long (1 : Int64)] h (ql R))))) ∧ ((x0 = (32 : Int32) → ((x1 < x3 → (AW GC l ad d mX1_joinedValue 307 [] [.long (0 : Int64)] h (ql R))) ∧ (¬ x1 < x3 → (AW GC l ad d mX1_joinedValue 307 [] [.long (1 : Int64)] h (ql R))))) ∧ (¬ x0 = (12 : Int32) → ¬ x0 = (13 : Int32) → ¬ x0 = (14 : Int32) → ¬ x0 = (15 : Int32) → ¬ x0 = (16 : Int32) → ¬ x0 = (17 : Int32) → ¬ x0 = (18 : Int32) → ¬ x0 = (19 : Int32) → ¬ x0 = (20 : Int32) → ¬ x0 = (21 : Int32) → ¬ x0 = (22 : Int32) → ¬ x0 = (23 : Int32) → ¬ x0 = (24 : Int32) → ¬ x0 = (25 : Int32) → ¬ x0 = (26 : Int32) → ¬ x0 = (27 : Int32) → ¬ x0 = (28 : Int32) → ¬ x0 = (29 : Int32) → ¬ x0 = (30 : Int32) → ¬ x0 = (31 : Int32) → ¬ x0 = (32 : Int32) → ((x1 ≤ x3 → (AW GC l ad d mX1_joinedValue 323 [] [.long (0 : Int64)] h (ql R))) ∧ (¬ x1 ≤ x3 → (AW GC l ad d mX1_joinedValue 323 [] [.long (1 : Int64)] h (ql R)))))))))))))))))))))))))) : AW GC l ad d mX1_joinedValue 0 [(0, .int x0), (1, .long x1), (3, .long x3)] [] h (ql R) := by
  refine aw_lconst (v := 0) dX1_joinedValue_0 (by decide) ?_
  refine aw_lstore (ls' := [(5, .long (0 : Int64)), (0, .int x0), (1, .long x1), (3, .long x3)]) dX1_joinedValue_1 (by decide) rfl ?_
  refine aw_iload_n dX1_joinedValue_3 rfl 1 rfl ?_
  by_cases hx1_0 : x0 = (12 : Int32)
  · replace H := H.1 hx1_0
    refine aw_tableIn (off := 184) (tgt := 188) dX1_joinedValue_4 (by rw [hx1_0]; decide) (by rw [hx1_0]; decide) (by rw [hx1_0]; decide) (by decide) ?_
    refine aw_lload_n dX1_joinedValue_188 rfl 2 rfl ?_
    refine aw_lconst (v := 0) dX1_joinedValue_189 (by decide) ?_
    refine aw_lif_eq (tgt := 204) dX1_joinedValue_190 dX1_joinedValue_191 (by decide) (fun hc3 => ?_) (fun hc3 => ?_)
    · replace H := H.1 hc3
      exact aw_ls [] rfl H
    · replace H := H.2 hc3
      refine aw_lload_n dX1_joinedValue_194 rfl 3 rfl ?_
      refine aw_lconst (v := 0) dX1_joinedValue_195 (by decide) ?_
      refine aw_lif_eq (tgt := 204) dX1_joinedValue_196 dX1_joinedValue_197 (by decide) (fun hc2 => ?_) (fun hc2 => ?_)
      · replace H := H.1 hc2
        exact aw_ls [] rfl H
      · replace H := H.2 hc2
        refine aw_lconst (v := 1) dX1_joinedValue_200 (by decide) ?_
        refine aw_goto (tgt := 205) dX1_joinedValue_201 (by decide) ?_
        exact aw_ls [] rfl H
  by_cases hx1_1 : x0 = (13 : Int32)
  · replace H := H.2.1 hx1_1
    refine aw_tableIn (off := 206) (tgt := 210) dX1_joinedValue_4 (by rw [hx1_1]; decide) (by rw [hx1_1]; decide) (by rw [hx1_1]; decide) (by decide) ?_
    refine aw_lload_n dX1_joinedValue_210 rfl 2 rfl ?_
    refine aw_lconst (v := 0) dX1_joinedValue_211 (by decide) ?_
    refine aw_lif_ne (tgt := 222) dX1_joinedValue_212 dX1_joinedValue_213 (by decide) (fun hc5 => ?_) (fun hc5 => ?_)
    · replace H := H.1 hc5
      exact aw_ls [] rfl H
    · replace H := H.2 hc5
      refine aw_lload_n dX1_joinedValue_216 rfl 3 rfl ?_
      refine aw_lconst (v := 0) dX1_joinedValue_217 (by decide) ?_
      refine aw_lif_eq (tgt := 226) dX1_joinedValue_218 dX1_joinedValue_219 (by decide) (fun hc4 => ?_) (fun hc4 => ?_)
      · replace H := H.1 hc4
        refine aw_lconst (v := 0) dX1_joinedValue_226 (by decide) ?_
        exact aw_ls [] rfl H
      · replace H := H.2 hc4
        exact aw_ls [] rfl H
  by_cases hx1_2 : x0 = (14 : Int32)
  · replace H := H.2.2.1 hx1_2
    refine aw_tableIn (off := 308) (tgt := 312) dX1_joinedValue_4 (by rw [hx1_2]; decide) (by rw [hx1_2]; decide) (by rw [hx1_2]; decide) (by decide) ?_
    refine aw_lload_n dX1_joinedValue_312 rfl 2 rfl ?_
    refine aw_lload_n dX1_joinedValue_313 rfl 3 rfl ?_
    refine aw_lif_le (tgt := 322) dX1_joinedValue_314 dX1_joinedValue_315 (by decide) (fun hc6 => ?_) (fun hc6 => ?_)
    · replace H := H.1 hc6
      refine aw_lconst (v := 0) dX1_joinedValue_322 (by decide) ?_
      exact aw_ls [] rfl H
    · replace H := H.2 hc6
      refine aw_lconst (v := 1) dX1_joinedValue_318 (by decide) ?_
      refine aw_goto (tgt := 323) dX1_joinedValue_319 (by decide) ?_
      exact aw_ls [] rfl H
  by_cases hx1_3 : x0 = (15 : Int32)
  · replace H := H.2.2.2.1 hx1_3
    refine aw_tableIn (off := 308) (tgt := 312) dX1_joinedValue_4 (by rw [hx1_3]; decide) (by rw [hx1_3]; decide) (by rw [hx1_3]; decide) (by decide) ?_
    refine aw_lload_n dX1_joinedValue_312 rfl 2 rfl ?_
    refine aw_lload_n dX1_joinedValue_313 rfl 3 rfl ?_
    refine aw_lif_le (tgt := 322) dX1_joinedValue_314 dX1_joinedValue_315 (by decide) (fun hc7 => ?_) (fun hc7 => ?_)
    · replace H := H.1 hc7
      refine aw_lconst (v := 0) dX1_joinedValue_322 (by decide) ?_
      exact aw_ls [] rfl H
    · replace H := H.2 hc7
      refine aw_lconst (v := 1) dX1_joinedValue_318 (by decide) ?_
      refine aw_goto (tgt := 323) dX1_joinedValue_319 (by decide) ?_
      exact aw_ls [] rfl H
  by_cases hx1_4 : x0 = (16 : Int32)
  · replace H := H.2.2.2.2.1 hx1_4
    refine aw_tableIn (off := 308) (tgt := 312) dX1_joinedValue_4 (by rw [hx1_4]; decide) (by rw [hx1_4]; decide) (by rw [hx1_4]; decide) (by decide) ?_
    refine aw_lload_n dX1_joinedValue_312 rfl 2 rfl ?_
    refine aw_lload_n dX1_joinedValue_313 rfl 3 rfl ?_
    refine aw_lif_le (tgt := 322) dX1_joinedValue_314 dX1_joinedValue_315 (by decide) (fun hc8 => ?_) (fun hc8 => ?_)
    · replace H := H.1 hc8
      refine aw_lconst (v := 0) dX1_joinedValue_322 (by decide) ?_
      exact aw_ls [] rfl H
    · replace H := H.2 hc8
      refine aw_lconst (v := 1) dX1_joinedValue_318 (by decide) ?_
      refine aw_goto (tgt := 323) dX1_joinedValue_319 (by decide) ?_
      exact aw_ls [] rfl H
  by_cases hx1_5 : x0 = (17 : Int32)
  · replace H := H.2.2.2.2.2.1 hx1_5
    refine aw_tableIn (off := 308) (tgt := 312) dX1_joinedValue_4 (by rw [hx1_5]; decide) (by rw [hx1_5]; decide) (by rw [hx1_5]; decide) (by decide) ?_
    refine aw_lload_n dX1_joinedValue_312 rfl 2 rfl ?_
    refine aw_lload_n dX1_joinedValue_313 rfl 3 rfl ?_
    refine aw_lif_le (tgt := 322) dX1_joinedValue_314 dX1_joinedValue_315 (by decide) (fun hc9 => ?_) (fun hc9 => ?_)
    · replace H := H.1 hc9
      refine aw_lconst (v := 0) dX1_joinedValue_322 (by decide) ?_
      exact aw_ls [] rfl H
    · replace H := H.2 hc9
      refine aw_lconst (v := 1) dX1_joinedValue_318 (by decide) ?_
      refine aw_goto (tgt := 323) dX1_joinedValue_319 (by decide) ?_
      exact aw_ls [] rfl H
  by_cases hx1_6 : x0 = (18 : Int32)
  · replace H := H.2.2.2.2.2.2.1 hx1_6
    refine aw_tableIn (off := 308) (tgt := 312) dX1_joinedValue_4 (by rw [hx1_6]; decide) (by rw [hx1_6]; decide) (by rw [hx1_6]; decide) (by decide) ?_
    refine aw_lload_n dX1_joinedValue_312 rfl 2 rfl ?_
    refine aw_lload_n dX1_joinedValue_313 rfl 3 rfl ?_
    refine aw_lif_le (tgt := 322) dX1_joinedValue_314 dX1_joinedValue_315 (by decide) (fun hc10 => ?_) (fun hc10 => ?_)
    · replace H := H.1 hc10
      refine aw_lconst (v := 0) dX1_joinedValue_322 (by decide) ?_
      exact aw_ls [] rfl H
    · replace H := H.2 hc10
      refine aw_lconst (v := 1) dX1_joinedValue_318 (by decide) ?_
      refine aw_goto (tgt := 323) dX1_joinedValue_319 (by decide) ?_
      exact aw_ls [] rfl H
  by_cases hx1_7 : x0 = (19 : Int32)
  · replace H := H.2.2.2.2.2.2.2.1 hx1_7
    refine aw_tableIn (off := 308) (tgt := 312) dX1_joinedValue_4 (by rw [hx1_7]; decide) (by rw [hx1_7]; decide) (by rw [hx1_7]; decide) (by decide) ?_
    refine aw_lload_n dX1_joinedValue_312 rfl 2 rfl ?_
    refine aw_lload_n dX1_joinedValue_313 rfl 3 rfl ?_
    refine aw_lif_le (tgt := 322) dX1_joinedValue_314 dX1_joinedValue_315 (by decide) (fun hc11 => ?_) (fun hc11 => ?_)
    · replace H := H.1 hc11
      refine aw_lconst (v := 0) dX1_joinedValue_322 (by decide) ?_
      exact aw_ls [] rfl H
    · replace H := H.2 hc11
      refine aw_lconst (v := 1) dX1_joinedValue_318 (by decide) ?_
      refine aw_goto (tgt := 323) dX1_joinedValue_319 (by decide) ?_
      exact aw_ls [] rfl H
  by_cases hx1_8 : x0 = (20 : Int32)
  · replace H := H.2.2.2.2.2.2.2.2.1 hx1_8
    refine aw_tableIn (off := 308) (tgt := 312) dX1_joinedValue_4 (by rw [hx1_8]; decide) (by rw [hx1_8]; decide) (by rw [hx1_8]; decide) (by decide) ?_
    refine aw_lload_n dX1_joinedValue_312 rfl 2 rfl ?_
    refine aw_lload_n dX1_joinedValue_313 rfl 3 rfl ?_
    refine aw_lif_le (tgt := 322) dX1_joinedValue_314 dX1_joinedValue_315 (by decide) (fun hc12 => ?_) (fun hc12 => ?_)
    · replace H := H.1 hc12
      refine aw_lconst (v := 0) dX1_joinedValue_322 (by decide) ?_
      exact aw_ls [] rfl H
    · replace H := H.2 hc12
      refine aw_lconst (v := 1) dX1_joinedValue_318 (by decide) ?_
      refine aw_goto (tgt := 323) dX1_joinedValue_319 (by decide) ?_
      exact aw_ls [] rfl H
  by_cases hx1_9 : x0 = (21 : Int32)
  · replace H := H.2.2.2.2.2.2.2.2.2.1 hx1_9
    refine aw_tableIn (off := 308) (tgt := 312) dX1_joinedValue_4 (by rw [hx1_9]; decide) (by rw [hx1_9]; decide) (by rw [hx1_9]; decide) (by decide) ?_
    refine aw_lload_n dX1_joinedValue_312 rfl 2 rfl ?_
    refine aw_lload_n dX1_joinedValue_313 rfl 3 rfl ?_
    refine aw_lif_le (tgt := 322) dX1_joinedValue_314 dX1_joinedValue_315 (by decide) (fun hc13 => ?_) (fun hc13 => ?_)
    · replace H := H.1 hc13
      refine aw_lconst (v := 0) dX1_joinedValue_322 (by decide) ?_
      exact aw_ls [] rfl H
    · replace H := H.2 hc13
      refine aw_lconst (v := 1) dX1_joinedValue_318 (by decide) ?_
      refine aw_goto (tgt := 323) dX1_joinedValue_319 (by decide) ?_
      exact aw_ls [] rfl H
  by_cases hx1_10 : x0 = (22 : Int32)
  · replace H := H.2.2.2.2.2.2.2.2.2.2.1 hx1_10
    refine aw_tableIn (off := 308) (tgt := 312) dX1_joinedValue_4 (by rw [hx1_10]; decide) (by rw [hx1_10]; decide) (by rw [hx1_10]; decide) (by decide) ?_
    refine aw_lload_n dX1_joinedValue_312 rfl 2 rfl ?_
    refine aw_lload_n dX1_joinedValue_313 rfl 3 rfl ?_
    refine aw_lif_le (tgt := 322) dX1_joinedValue_314 dX1_joinedValue_315 (by decide) (fun hc14 => ?_) (fun hc14 => ?_)
    · replace H := H.1 hc14
      refine aw_lconst (v := 0) dX1_joinedValue_322 (by decide) ?_
      exact aw_ls [] rfl H
    · replace H := H.2 hc14
      refine aw_lconst (v := 1) dX1_joinedValue_318 (by decide) ?_
      refine aw_goto (tgt := 323) dX1_joinedValue_319 (by decide) ?_
      exact aw_ls [] rfl H
  by_cases hx1_11 : x0 = (23 : Int32)
  · replace H := H.2.2.2.2.2.2.2.2.2.2.2.1 hx1_11
    refine aw_tableIn (off := 308) (tgt := 312) dX1_joinedValue_4 (by rw [hx1_11]; decide) (by rw [hx1_11]; decide) (by rw [hx1_11]; decide) (by decide) ?_
    refine aw_lload_n dX1_joinedValue_312 rfl 2 rfl ?_
    refine aw_lload_n dX1_joinedValue_313 rfl 3 rfl ?_
    refine aw_lif_le (tgt := 322) dX1_joinedValue_314 dX1_joinedValue_315 (by decide) (fun hc15 => ?_) (fun hc15 => ?_)
    · replace H := H.1 hc15
      refine aw_lconst (v := 0) dX1_joinedValue_322 (by decide) ?_
      exact aw_ls [] rfl H
    · replace H := H.2 hc15
      refine aw_lconst (v := 1) dX1_joinedValue_318 (by decide) ?_
      refine aw_goto (tgt := 323) dX1_joinedValue_319 (by decide) ?_
      exact aw_ls [] rfl H
  by_cases hx1_12 : x0 = (24 : Int32)
  · replace H := H.2.2.2.2.2.2.2.2.2.2.2.2.1 hx1_12
    refine aw_tableIn (off := 100) (tgt := 104) dX1_joinedValue_4 (by rw [hx1_12]; decide) (by rw [hx1_12]; decide) (by rw [hx1_12]; decide) (by decide) ?_
    refine aw_lload_n dX1_joinedValue_104 rfl 2 rfl ?_
    refine aw_lload_n dX1_joinedValue_105 rfl 3 rfl ?_
    refine aw_ladd dX1_joinedValue_106 ?_
    refine aw_lstore (ls' := [(5, .long (x1 + x3)), (0, .int x0), (1, .long x1), (3, .long x3)]) dX1_joinedValue_107 (by decide) rfl ?_
    refine aw_goto (tgt := 325) dX1_joinedValue_109 (by decide) ?_
    exact aw_ls [0] rfl H
  by_cases hx1_13 : x0 = (25 : Int32)
  · replace H := H.2.2.2.2.2.2.2.2.2.2.2.2.2.1 hx1_13
    refine aw_tableIn (off := 108) (tgt := 112) dX1_joinedValue_4 (by rw [hx1_13]; decide) (by rw [hx1_13]; decide) (by rw [hx1_13]; decide) (by decide) ?_
    refine aw_lload_n dX1_joinedValue_112 rfl 2 rfl ?_
    refine aw_lload_n dX1_joinedValue_113 rfl 3 rfl ?_
    refine aw_lsub dX1_joinedValue_114 ?_
    refine aw_lstore (ls' := [(5, .long (x1 - x3)), (0, .int x0), (1, .long x1), (3, .long x3)]) dX1_joinedValue_115 (by decide) rfl ?_
    refine aw_goto (tgt := 325) dX1_joinedValue_117 (by decide) ?_
    exact aw_ls [0] rfl H
  by_cases hx1_14 : x0 = (26 : Int32)
  · replace H := H.2.2.2.2.2.2.2.2.2.2.2.2.2.2.1 hx1_14
    refine aw_tableIn (off := 116) (tgt := 120) dX1_joinedValue_4 (by rw [hx1_14]; decide) (by rw [hx1_14]; decide) (by rw [hx1_14]; decide) (by decide) ?_
    refine aw_lload_n dX1_joinedValue_120 rfl 2 rfl ?_
    refine aw_lconst (v := 0) dX1_joinedValue_121 (by decide) ?_
    refine aw_lif_eq (tgt := 162) dX1_joinedValue_122 dX1_joinedValue_123 (by decide) (fun hc17 => ?_) (fun hc17 => ?_)
    · replace H := H.1 hc17
      exact aw_ls [2, 3] rfl H
    · replace H := H.2 hc17
      refine aw_lload_n dX1_joinedValue_126 rfl 3 rfl ?_
      refine aw_lconst (v := 0) dX1_joinedValue_127 (by decide) ?_
      refine aw_lif_ge (tgt := 137) dX1_joinedValue_128 dX1_joinedValue_129 (by decide) (fun hc16 => ?_) (fun hc16 => ?_)
      · replace H := H.1 hc16
        refine aw_lload_n dX1_joinedValue_137 rfl 3 rfl ?_
        exact aw_ls [2, 3] rfl H
      · replace H := H.2 hc16
        refine aw_lload_n dX1_joinedValue_132 rfl 3 rfl ?_
        refine aw_lneg dX1_joinedValue_133 ?_
        refine aw_goto (tgt := 138) dX1_joinedValue_134 (by decide) ?_
        exact aw_ls [2, 3] rfl H
  by_cases hx1_15 : x0 = (27 : Int32)
  · replace H := H.2.2.2.2.2.2.2.2.2.2.2.2.2.2.2.1 hx1_15
    refine aw_tableIn (off := 166) (tgt := 170) dX1_joinedValue_4 (by rw [hx1_15]; decide) (by rw [hx1_15]; decide) (by rw [hx1_15]; decide) (by decide) ?_
    refine aw_lload_n dX1_joinedValue_170 rfl 3 rfl ?_
    refine aw_lconst (v := 0) dX1_joinedValue_171 (by decide) ?_
    refine aw_lif_ne (tgt := 180) dX1_joinedValue_172 dX1_joinedValue_173 (by decide) (fun hc19 => ?_) (fun hc19 => ?_)
    · replace H := H.1 hc19
      refine aw_lload_n dX1_joinedValue_180 rfl 2 rfl ?_
      refine aw_lload_n dX1_joinedValue_181 rfl 3 rfl ?_
      obtain ⟨hn18, H⟩ := H
      refine aw_ldiv dX1_joinedValue_182 hn18 ?_
      refine aw_lstore (ls' := [(5, .long (x1 / x3)), (0, .int x0), (1, .long x1), (3, .long x3)]) dX1_joinedValue_183 (by decide) rfl ?_
      refine aw_goto (tgt := 325) dX1_joinedValue_185 (by decide) ?_
      exact aw_ls [0] rfl H
    · replace H := H.2 hc19
      refine aw_ldc2 dX1_joinedValue_176 clX1_27 ?_
      exact aw_lret dX1_joinedValue_179 rfl ⟨_, rfl, H⟩
  by_cases hx1_16 : x0 = (28 : Int32)
  · replace H := H.2.2.2.2.2.2.2.2.2.2.2.2.2.2.2.2.1 hx1_16
    refine aw_tableIn (off := 228) (tgt := 232) dX1_joinedValue_4 (by rw [hx1_16]; decide) (by rw [hx1_16]; decide) (by rw [hx1_16]; decide) (by decide) ?_
    refine aw_lload_n dX1_joinedValue_232 rfl 2 rfl ?_
    refine aw_lload_n dX1_joinedValue_233 rfl 3 rfl ?_
    refine aw_lif_ge (tgt := 242) dX1_joinedValue_234 dX1_joinedValue_235 (by decide) (fun hc20 => ?_) (fun hc20 => ?_)
    · replace H := H.1 hc20
      refine aw_lconst (v := 0) dX1_joinedValue_242 (by decide) ?_
      exact aw_ls [] rfl H
    · replace H := H.2 hc20
      refine aw_lconst (v := 1) dX1_joinedValue_238 (by decide) ?_
      refine aw_goto (tgt := 243) dX1_joinedValue_239 (by decide) ?_
      exact aw_ls [] rfl H
  by_cases hx1_17 : x0 = (29 : Int32)
  · replace H := H.2.2.2.2.2.2.2.2.2.2.2.2.2.2.2.2.2.1 hx1_17
    refine aw_tableIn (off := 244) (tgt := 248) dX1_joinedValue_4 (by rw [hx1_17]; decide) (by rw [hx1_17]; decide) (by rw [hx1_17]; decide) (by decide) ?_
    refine aw_lload_n dX1_joinedValue_248 rfl 2 rfl ?_
    refine aw_lload_n dX1_joinedValue_249 rfl 3 rfl ?_
    refine aw_lif_gt (tgt := 258) dX1_joinedValue_250 dX1_joinedValue_251 (by decide) (fun hc21 => ?_) (fun hc21 => ?_)
    · replace H := H.1 hc21
      refine aw_lconst (v := 0) dX1_joinedValue_258 (by decide) ?_
      exact aw_ls [] rfl H
    · replace H := H.2 hc21
      refine aw_lconst (v := 1) dX1_joinedValue_254 (by decide) ?_
      refine aw_goto (tgt := 259) dX1_joinedValue_255 (by decide) ?_
      exact aw_ls [] rfl H
  by_cases hx1_18 : x0 = (30 : Int32)
  · replace H := H.2.2.2.2.2.2.2.2.2.2.2.2.2.2.2.2.2.2.1 hx1_18
    refine aw_tableIn (off := 260) (tgt := 264) dX1_joinedValue_4 (by rw [hx1_18]; decide) (by rw [hx1_18]; decide) (by rw [hx1_18]; decide) (by decide) ?_
    refine aw_lload_n dX1_joinedValue_264 rfl 2 rfl ?_
    refine aw_lload_n dX1_joinedValue_265 rfl 3 rfl ?_
    refine aw_lif_ne (tgt := 274) dX1_joinedValue_266 dX1_joinedValue_267 (by decide) (fun hc22 => ?_) (fun hc22 => ?_)
    · replace H := H.1 hc22
      refine aw_lconst (v := 0) dX1_joinedValue_274 (by decide) ?_
      exact aw_ls [] rfl H
    · replace H := H.2 hc22
      refine aw_lconst (v := 1) dX1_joinedValue_270 (by decide) ?_
      refine aw_goto (tgt := 275) dX1_joinedValue_271 (by decide) ?_
      exact aw_ls [] rfl H
  by_cases hx1_19 : x0 = (31 : Int32)
  · replace H := H.2.2.2.2.2.2.2.2.2.2.2.2.2.2.2.2.2.2.2.1 hx1_19
    refine aw_tableIn (off := 276) (tgt := 280) dX1_joinedValue_4 (by rw [hx1_19]; decide) (by rw [hx1_19]; decide) (by rw [hx1_19]; decide) (by decide) ?_
    refine aw_lload_n dX1_joinedValue_280 rfl 2 rfl ?_
    refine aw_lload_n dX1_joinedValue_281 rfl 3 rfl ?_
    refine aw_lif_eq (tgt := 290) dX1_joinedValue_282 dX1_joinedValue_283 (by decide) (fun hc23 => ?_) (fun hc23 => ?_)
    · replace H := H.1 hc23
      refine aw_lconst (v := 0) dX1_joinedValue_290 (by decide) ?_
      exact aw_ls [] rfl H
    · replace H := H.2 hc23
      refine aw_lconst (v := 1) dX1_joinedValue_286 (by decide) ?_
      refine aw_goto (tgt := 291) dX1_joinedValue_287 (by decide) ?_
      exact aw_ls [] rfl H
  by_cases hx1_20 : x0 = (32 : Int32)
  · replace H := H.2.2.2.2.2.2.2.2.2.2.2.2.2.2.2.2.2.2.2.2.1 hx1_20
    refine aw_tableIn (off := 292) (tgt := 296) dX1_joinedValue_4 (by rw [hx1_20]; decide) (by rw [hx1_20]; decide) (by rw [hx1_20]; decide) (by decide) ?_
    refine aw_lload_n dX1_joinedValue_296 rfl 2 rfl ?_
    refine aw_lload_n dX1_joinedValue_297 rfl 3 rfl ?_
    refine aw_lif_lt (tgt := 306) dX1_joinedValue_298 dX1_joinedValue_299 (by decide) (fun hc24 => ?_) (fun hc24 => ?_)
    · replace H := H.1 hc24
      refine aw_lconst (v := 0) dX1_joinedValue_306 (by decide) ?_
      exact aw_ls [] rfl H
    · replace H := H.2 hc24
      refine aw_lconst (v := 1) dX1_joinedValue_302 (by decide) ?_
      refine aw_goto (tgt := 307) dX1_joinedValue_303 (by decide) ?_
      exact aw_ls [] rfl H
  replace H := H.2.2.2.2.2.2.2.2.2.2.2.2.2.2.2.2.2.2.2.2.2 hx1_0 hx1_1 hx1_2 hx1_3 hx1_4 hx1_5 hx1_6 hx1_7 hx1_8 hx1_9 hx1_10 hx1_11 hx1_12 hx1_13 hx1_14 hx1_15 hx1_16 hx1_17 hx1_18 hx1_19 hx1_20
  have hx1_0e := tab_ne hx1_0 (a := 12) (by decide)
  have hx1_1e := tab_ne hx1_1 (a := 13) (by decide)
  have hx1_2e := tab_ne hx1_2 (a := 14) (by decide)
  have hx1_3e := tab_ne hx1_3 (a := 15) (by decide)
  have hx1_4e := tab_ne hx1_4 (a := 16) (by decide)
  have hx1_5e := tab_ne hx1_5 (a := 17) (by decide)
  have hx1_6e := tab_ne hx1_6 (a := 18) (by decide)
  have hx1_7e := tab_ne hx1_7 (a := 19) (by decide)
  have hx1_8e := tab_ne hx1_8 (a := 20) (by decide)
  have hx1_9e := tab_ne hx1_9 (a := 21) (by decide)
  have hx1_10e := tab_ne hx1_10 (a := 22) (by decide)
  have hx1_11e := tab_ne hx1_11 (a := 23) (by decide)
  have hx1_12e := tab_ne hx1_12 (a := 24) (by decide)
  have hx1_13e := tab_ne hx1_13 (a := 25) (by decide)
  have hx1_14e := tab_ne hx1_14 (a := 26) (by decide)
  have hx1_15e := tab_ne hx1_15 (a := 27) (by decide)
  have hx1_16e := tab_ne hx1_16 (a := 28) (by decide)
  have hx1_17e := tab_ne hx1_17 (a := 29) (by decide)
  have hx1_18e := tab_ne hx1_18 (a := 30) (by decide)
  have hx1_19e := tab_ne hx1_19 (a := 31) (by decide)
  have hx1_20e := tab_ne hx1_20 (a := 32) (by decide)
  refine aw_tableOut (tgt := 312) dX1_joinedValue_4 (by omega) (by decide) ?_
  refine aw_lload_n dX1_joinedValue_312 rfl 2 rfl ?_
  refine aw_lload_n dX1_joinedValue_313 rfl 3 rfl ?_
  refine aw_lif_le (tgt := 322) dX1_joinedValue_314 dX1_joinedValue_315 (by decide) (fun hc25 => ?_) (fun hc25 => ?_)
  · replace H := H.1 hc25
    refine aw_lconst (v := 0) dX1_joinedValue_322 (by decide) ?_
    exact aw_ls [] rfl H
  · replace H := H.2 hc25
    refine aw_lconst (v := 1) dX1_joinedValue_318 (by decide) ?_
    refine aw_goto (tgt := 323) dX1_joinedValue_319 (by decide) ?_
    exact aw_ls [] rfl H
set_option maxRecDepth 8000 in
set_option maxHeartbeats 1000000 in
theorem bX1_joinedValue_138 {l : Launch} {ad : Nat → Nat} {d : Nat} {R : Int64 → aH → Prop}   (x1 : Int64) (x3 : Int64) (s0 : Int64)  (h : aH)
    (H : ((0 : Int64) ≤ x1 → (AW GC l ad d mX1_joinedValue 153 [(1, .long x1), (3, .long x3)] [.long x1, .long (1000000000000 : Int64), .long s0] h (ql R))) ∧ (¬ (0 : Int64) ≤ x1 → (AW GC l ad d mX1_joinedValue 153 [(1, .long x1), (3, .long x3)] [.long (-x1), .long (1000000000000 : Int64), .long s0] h (ql R)))) : AW GC l ad d mX1_joinedValue 138 [(1, .long x1), (3, .long x3)] [.long s0] h (ql R) := by
  refine aw_ldc2 dX1_joinedValue_138 clX1_37 ?_
  refine aw_lload_n dX1_joinedValue_141 rfl 0 rfl ?_
  refine aw_lconst (v := 0) dX1_joinedValue_142 (by decide) ?_
  refine aw_lif_ge (tgt := 152) dX1_joinedValue_143 dX1_joinedValue_144 (by decide) (fun hc1 => ?_) (fun hc1 => ?_)
  · replace H := H.1 hc1
    refine aw_lload_n dX1_joinedValue_152 rfl 0 rfl ?_
    exact aw_ls [0, 1] rfl H
  · replace H := H.2 hc1
    refine aw_lload_n dX1_joinedValue_147 rfl 0 rfl ?_
    refine aw_lneg dX1_joinedValue_148 ?_
    refine aw_goto (tgt := 153) dX1_joinedValue_149 (by decide) ?_
    exact aw_ls [0, 1] rfl H
set_option maxRecDepth 8000 in
set_option maxHeartbeats 1000000 in
theorem bX1_joinedValue_153 {l : Launch} {ad : Nat → Nat} {d : Nat} {R : Int64 → aH → Prop}   (x1 : Int64) (x3 : Int64) (s0 : Int64) (s1 : Int64) (s2 : Int64)  (h : aH)
    (H : ¬ s0 = 0 ∧ ((s2 ≤ (s1 / s0) → (AW GC l ad d mX1_joinedValue 162 [(1, .long x1), (3, .long x3)] [] h (ql R))) ∧ (¬ s2 ≤ (s1 / s0) → (R (-9223372036854775808 : Int64) h)))) : AW GC l ad d mX1_joinedValue 153 [(1, .long x1), (3, .long x3)] [.long s0, .long s1, .long s2] h (ql R) := by
  obtain ⟨hn1, H⟩ := H
  refine aw_ldiv dX1_joinedValue_153 hn1 ?_
  refine aw_lif_le (tgt := 162) dX1_joinedValue_154 dX1_joinedValue_155 (by decide) (fun hc2 => ?_) (fun hc2 => ?_)
  · replace H := H.1 hc2
    exact aw_ls [0, 1] rfl H
  · replace H := H.2 hc2
    refine aw_ldc2 dX1_joinedValue_158 clX1_27 ?_
    exact aw_lret dX1_joinedValue_161 rfl ⟨_, rfl, H⟩
set_option maxRecDepth 8000 in
set_option maxHeartbeats 1000000 in
theorem bX1_joinedValue_162 {l : Launch} {ad : Nat → Nat} {d : Nat} {R : Int64 → aH → Prop}   (x1 : Int64) (x3 : Int64)  (h : aH)
    (H : AW GC l ad d mX1_joinedValue 325 [(5, .long (x1 * x3))] [] h (ql R)) : AW GC l ad d mX1_joinedValue 162 [(1, .long x1), (3, .long x3)] [] h (ql R) := by
  refine aw_lload_n dX1_joinedValue_162 rfl 0 rfl ?_
  refine aw_lload_n dX1_joinedValue_163 rfl 1 rfl ?_
  refine aw_lmul dX1_joinedValue_164 ?_
  refine aw_lstore (ls' := [(5, .long (x1 * x3)), (1, .long x1), (3, .long x3)]) dX1_joinedValue_165 (by decide) rfl ?_
  refine aw_goto (tgt := 325) dX1_joinedValue_167 (by decide) ?_
  exact aw_ls [0] rfl H
set_option maxRecDepth 8000 in
set_option maxHeartbeats 1000000 in
theorem bX1_joinedValue_204 {l : Launch} {ad : Nat → Nat} {d : Nat} {R : Int64 → aH → Prop}     (h : aH)
    (H : AW GC l ad d mX1_joinedValue 205 [] [.long (0 : Int64)] h (ql R)) : AW GC l ad d mX1_joinedValue 204 [] [] h (ql R) := by
  refine aw_lconst (v := 0) dX1_joinedValue_204 (by decide) ?_
  exact aw_ls [] rfl H
set_option maxRecDepth 8000 in
set_option maxHeartbeats 1000000 in
theorem bX1_joinedValue_205 {l : Launch} {ad : Nat → Nat} {d : Nat} {R : Int64 → aH → Prop}   (s0 : Int64)  (h : aH)
    (H : AW GC l ad d mX1_joinedValue 325 [(5, .long s0)] [] h (ql R)) : AW GC l ad d mX1_joinedValue 205 [] [.long s0] h (ql R) := by
  refine aw_lstore (ls' := [(5, .long s0)]) dX1_joinedValue_205 (by decide) rfl ?_
  refine aw_goto (tgt := 325) dX1_joinedValue_207 (by decide) ?_
  exact aw_ls [0] rfl H
set_option maxRecDepth 8000 in
set_option maxHeartbeats 1000000 in
theorem bX1_joinedValue_222 {l : Launch} {ad : Nat → Nat} {d : Nat} {R : Int64 → aH → Prop}     (h : aH)
    (H : AW GC l ad d mX1_joinedValue 227 [] [.long (1 : Int64)] h (ql R)) : AW GC l ad d mX1_joinedValue 222 [] [] h (ql R) := by
  refine aw_lconst (v := 1) dX1_joinedValue_222 (by decide) ?_
  refine aw_goto (tgt := 227) dX1_joinedValue_223 (by decide) ?_
  exact aw_ls [] rfl H
set_option maxRecDepth 8000 in
set_option maxHeartbeats 1000000 in
theorem bX1_joinedValue_227 {l : Launch} {ad : Nat → Nat} {d : Nat} {R : Int64 → aH → Prop}   (s0 : Int64)  (h : aH)
    (H : AW GC l ad d mX1_joinedValue 325 [(5, .long s0)] [] h (ql R)) : AW GC l ad d mX1_joinedValue 227 [] [.long s0] h (ql R) := by
  refine aw_lstore (ls' := [(5, .long s0)]) dX1_joinedValue_227 (by decide) rfl ?_
  refine aw_goto (tgt := 325) dX1_joinedValue_229 (by decide) ?_
  exact aw_ls [0] rfl H
set_option maxRecDepth 8000 in
set_option maxHeartbeats 1000000 in
theorem bX1_joinedValue_243 {l : Launch} {ad : Nat → Nat} {d : Nat} {R : Int64 → aH → Prop}   (s0 : Int64)  (h : aH)
    (H : AW GC l ad d mX1_joinedValue 325 [(5, .long s0)] [] h (ql R)) : AW GC l ad d mX1_joinedValue 243 [] [.long s0] h (ql R) := by
  refine aw_lstore (ls' := [(5, .long s0)]) dX1_joinedValue_243 (by decide) rfl ?_
  refine aw_goto (tgt := 325) dX1_joinedValue_245 (by decide) ?_
  exact aw_ls [0] rfl H
set_option maxRecDepth 8000 in
set_option maxHeartbeats 1000000 in
theorem bX1_joinedValue_259 {l : Launch} {ad : Nat → Nat} {d : Nat} {R : Int64 → aH → Prop}   (s0 : Int64)  (h : aH)
    (H : AW GC l ad d mX1_joinedValue 325 [(5, .long s0)] [] h (ql R)) : AW GC l ad d mX1_joinedValue 259 [] [.long s0] h (ql R) := by
  refine aw_lstore (ls' := [(5, .long s0)]) dX1_joinedValue_259 (by decide) rfl ?_
  refine aw_goto (tgt := 325) dX1_joinedValue_261 (by decide) ?_
  exact aw_ls [0] rfl H
set_option maxRecDepth 8000 in
set_option maxHeartbeats 1000000 in
theorem bX1_joinedValue_275 {l : Launch} {ad : Nat → Nat} {d : Nat} {R : Int64 → aH → Prop}   (s0 : Int64)  (h : aH)
    (H : AW GC l ad d mX1_joinedValue 325 [(5, .long s0)] [] h (ql R)) : AW GC l ad d mX1_joinedValue 275 [] [.long s0] h (ql R) := by
  refine aw_lstore (ls' := [(5, .long s0)]) dX1_joinedValue_275 (by decide) rfl ?_
  refine aw_goto (tgt := 325) dX1_joinedValue_277 (by decide) ?_
  exact aw_ls [0] rfl H
set_option maxRecDepth 8000 in
set_option maxHeartbeats 1000000 in
theorem bX1_joinedValue_291 {l : Launch} {ad : Nat → Nat} {d : Nat} {R : Int64 → aH → Prop}   (s0 : Int64)  (h : aH)
    (H : AW GC l ad d mX1_joinedValue 325 [(5, .long s0)] [] h (ql R)) : AW GC l ad d mX1_joinedValue 291 [] [.long s0] h (ql R) := by
  refine aw_lstore (ls' := [(5, .long s0)]) dX1_joinedValue_291 (by decide) rfl ?_
  refine aw_goto (tgt := 325) dX1_joinedValue_293 (by decide) ?_
  exact aw_ls [0] rfl H
set_option maxRecDepth 8000 in
set_option maxHeartbeats 1000000 in
theorem bX1_joinedValue_307 {l : Launch} {ad : Nat → Nat} {d : Nat} {R : Int64 → aH → Prop}   (s0 : Int64)  (h : aH)
    (H : AW GC l ad d mX1_joinedValue 325 [(5, .long s0)] [] h (ql R)) : AW GC l ad d mX1_joinedValue 307 [] [.long s0] h (ql R) := by
  refine aw_lstore (ls' := [(5, .long s0)]) dX1_joinedValue_307 (by decide) rfl ?_
  refine aw_goto (tgt := 325) dX1_joinedValue_309 (by decide) ?_
  exact aw_ls [0] rfl H
set_option maxRecDepth 8000 in
set_option maxHeartbeats 1000000 in
theorem bX1_joinedValue_323 {l : Launch} {ad : Nat → Nat} {d : Nat} {R : Int64 → aH → Prop}   (s0 : Int64)  (h : aH)
    (H : AW GC l ad d mX1_joinedValue 325 [(5, .long s0)] [] h (ql R)) : AW GC l ad d mX1_joinedValue 323 [] [.long s0] h (ql R) := by
  refine aw_lstore (ls' := [(5, .long s0)]) dX1_joinedValue_323 (by decide) rfl ?_
  exact aw_ls [0] rfl H
set_option maxRecDepth 8000 in
set_option maxHeartbeats 1000000 in
theorem bX1_joinedValue_325 {l : Launch} {ad : Nat → Nat} {d : Nat} {R : Int64 → aH → Prop}   (x5 : Int64)  (h : aH)
    (H : ((1000000000000 : Int64) < x5 → (R (-9223372036854775808 : Int64) h)) ∧ (¬ (1000000000000 : Int64) < x5 → (((-1000000000000 : Int64) ≤ x5 → (R x5 h)) ∧ (¬ (-1000000000000 : Int64) ≤ x5 → (R (-9223372036854775808 : Int64) h))))) : AW GC l ad d mX1_joinedValue 325 [(5, .long x5)] [] h (ql R) := by
  refine aw_lload dX1_joinedValue_325 0 rfl ?_
  refine aw_ldc2 dX1_joinedValue_327 clX1_37 ?_
  refine aw_lif_gt (tgt := 343) dX1_joinedValue_330 dX1_joinedValue_331 (by decide) (fun hc2 => ?_) (fun hc2 => ?_)
  · replace H := H.1 hc2
    refine aw_ldc2 dX1_joinedValue_343 clX1_27 ?_
    refine aw_goto (tgt := 351) dX1_joinedValue_346 (by decide) ?_
    exact aw_lret dX1_joinedValue_351 rfl ⟨_, rfl, H⟩
  · replace H := H.2 hc2
    refine aw_lload dX1_joinedValue_334 0 rfl ?_
    refine aw_ldc2 dX1_joinedValue_336 clX1_39 ?_
    refine aw_lif_ge (tgt := 349) dX1_joinedValue_339 dX1_joinedValue_340 (by decide) (fun hc1 => ?_) (fun hc1 => ?_)
    · replace H := H.1 hc1
      refine aw_lload dX1_joinedValue_349 0 rfl ?_
      exact aw_lret dX1_joinedValue_351 rfl ⟨_, rfl, H⟩
    · replace H := H.2 hc1
      refine aw_ldc2 dX1_joinedValue_343 clX1_27 ?_
      refine aw_goto (tgt := 351) dX1_joinedValue_346 (by decide) ?_
      exact aw_lret dX1_joinedValue_351 rfl ⟨_, rfl, H⟩
set_option maxRecDepth 8000 in
set_option maxHeartbeats 1000000 in
theorem bX2_store_0 {l : Launch} {ad : Nat → Nat} {d : Nat} {R : aH → Prop} (v1 : Nat) (hv1 : isW GC v1)   (h : aH)
    (H : ((h.1 102 1) < (20 : Int32) → (AW GC l ad (d + 1) mX2_store 13 [(0, .ref (ad 102)), (1, .ref (ad v1))] [] h (qv R))) ∧ (¬ (h.1 102 1) < (20 : Int32) → (AW GC l ad d mX2_dropFirst 0 [(0, .ref (ad 102))] [] h (qv fun h1 => AW GC l ad (d + 1) mX2_store 13 [(0, .ref (ad 102)), (1, .ref (ad v1))] [] h1 (qv R))))) : AW GC l ad (d + 1) mX2_store 0 [(0, .ref (ad 102)), (1, .ref (ad v1))] [] h (qv R) := by
  refine aw_aload_n dX2_store_0 rfl 0 rfl ?_
  refine aw_get dX2_store_1 shC102 ckX2 flX2_18 (v := .int (h.1 102 1)) rfl ?_
  refine aw_bipush (v := 20) dX2_store_4 (by decide) ?_
  refine aw_icmp_lt (tgt := 13) dX2_store_6 (by decide) (fun hc3 => ?_) (fun hc3 => ?_)
  · replace H := H.1 hc3
    exact aw_ls [0, 1] rfl H
  · replace H := H.2 hc3
    refine aw_aload_n dX2_store_9 rfl 0 rfl ?_
    refine cvX2_dropFirst dX2_store_10 mlX2_22 shC102 (Nat.le_of_ble_eq_true rfl) H (fun h1 H => ?_)
    exact aw_ls [0, 1] rfl H
set_option maxRecDepth 8000 in
set_option maxHeartbeats 1000000 in
theorem bX2_store_13 {l : Launch} {ad : Nat → Nat} {d : Nat} {R : aH → Prop} (v1 : Nat) (hv1 : isW GC v1)   (h : aH)
    (H : ((h.1 102 1) < 0 → (R h)) ∧ (¬ (h.1 102 1) < 0 → (((20 : Int32) ≤ (h.1 102 1) → (R h)) ∧ (¬ (20 : Int32) ≤ (h.1 102 1) → (vp_in (h.1 102 1) 20 ∧ (∀ w2 : Nat, w2 = h.2.2 103 (h.1 102 1).toNatClampNeg → isW GC w2 ∧ (AW GC l ad d mX8_copyFrom 0 [(0, .ref (ad w2)), (1, .ref (ad v1))] [] h (qv fun h3 => R (sI h3 102 1 ((h3.1 102 1) + (1 : Int32))))))))))) : AW GC l ad (d + 1) mX2_store 13 [(0, .ref (ad 102)), (1, .ref (ad v1))] [] h (qv R) := by
  refine aw_aload_n dX2_store_13 rfl 0 rfl ?_
  refine aw_get dX2_store_14 shC102 ckX2 flX2_18 (v := .int (h.1 102 1)) rfl ?_
  refine aw_if_lt (tgt := 52) dX2_store_17 (by decide) (fun hc6 => ?_) (fun hc6 => ?_)
  · replace H := H.1 hc6
    exact aw_vret dX2_store_52 rfl ⟨rfl, H⟩
  · replace H := H.2 hc6
    refine aw_aload_n dX2_store_20 rfl 0 rfl ?_
    refine aw_get dX2_store_21 shC102 ckX2 flX2_18 (v := .int (h.1 102 1)) rfl ?_
    refine aw_bipush (v := 20) dX2_store_24 (by decide) ?_
    refine aw_icmp_ge (tgt := 52) dX2_store_26 (by decide) (fun hc5 => ?_) (fun hc5 => ?_)
    · replace H := H.1 hc5
      exact aw_vret dX2_store_52 rfl ⟨rfl, H⟩
    · replace H := H.2 hc5
      refine aw_aload_n dX2_store_29 rfl 0 rfl ?_
      refine aw_get dX2_store_30 shC102 ckX2 flX2_11 (v := .ref (ad 103)) rfl ?_
      refine aw_aload_n dX2_store_33 rfl 0 rfl ?_
      refine aw_get dX2_store_34 shC102 ckX2 flX2_18 (v := .int (h.1 102 1)) rfl ?_
      obtain ⟨hi1, H⟩ := H
      obtain ⟨w2, ew2⟩ : ∃ z, z = h.2.2 103 (h.1 102 1).toNatClampNeg := ⟨_, rfl⟩
      obtain ⟨hw2, H⟩ := H w2 ew2
      refine aw_aaldK (t0 := 3) (j := (h.1 102 1).toNatClampNeg) dX2_store_37 shC103 rfl rfl hi1 ?_
      rw [← ew2]
      refine aw_aload_n dX2_store_38 rfl 1 rfl ?_
      refine cvX8_copyFrom dX2_store_39 mlX2_25 hw2.1 (Nat.le_of_ble_eq_true rfl) H (fun h3 H => ?_)
      refine aw_aload_n dX2_store_42 rfl 0 rfl ?_
      refine aw_dup dX2_store_43 rfl ?_
      refine aw_get dX2_store_44 shC102 ckX2 flX2_18 (v := .int (h3.1 102 1)) rfl ?_
      refine aw_iconst (v := 1) dX2_store_47 (by decide) ?_
      refine aw_iadd dX2_store_48 ?_
      refine aw_putI dX2_store_49 shC102 ckX2 flX2_18 rfl (fun _ => rfl) rfl rfl ?_
      exact aw_vret dX2_store_52 rfl ⟨rfl, H⟩
set_option maxRecDepth 8000 in
set_option maxHeartbeats 1000000 in
theorem bX2_dropFirst_0 {l : Launch} {ad : Nat → Nat} {d : Nat} {R : aH → Prop}     (h : aH)
    (H : ∀ w1 : Nat, w1 = h.2.2 103 0 → isW GC w1 ∧ (AW GC l ad d mX2_dropFirst 9 [(0, .ref (ad 102)), (1, .ref (ad w1)), (2, .int (1 : Int32))] [] h (qv R))) : AW GC l ad d mX2_dropFirst 0 [(0, .ref (ad 102))] [] h (qv R) := by
  refine aw_aload_n dX2_dropFirst_0 rfl 0 rfl ?_
  refine aw_get dX2_dropFirst_1 shC102 ckX2 flX2_11 (v := .ref (ad 103)) rfl ?_
  refine aw_iconst (v := 0) dX2_dropFirst_4 (by decide) ?_
  obtain ⟨w1, ew1⟩ : ∃ z, z = h.2.2 103 0 := ⟨_, rfl⟩
  obtain ⟨hw1, H⟩ := H w1 ew1
  refine aw_aaldK (t0 := 3) (j := 0) dX2_dropFirst_5 shC103 rfl (by decide) (vp_inK (by decide) (by decide)) ?_
  rw [← ew1]
  refine aw_astore_n (ls' := [(1, .ref (ad w1)), (0, .ref (ad 102))]) dX2_dropFirst_6 rfl (by decide) rfl ?_
  refine aw_iconst (v := 1) dX2_dropFirst_7 (by decide) ?_
  refine aw_istore_n (ls' := [(2, .int (1 : Int32)), (1, .ref (ad w1)), (0, .ref (ad 102))]) dX2_dropFirst_8 rfl (by decide) rfl ?_
  exact aw_ls [2, 1, 0] rfl H
set_option maxRecDepth 8000 in
set_option maxHeartbeats 1000000 in
theorem bX2_dropFirst_9 {l : Launch} {ad : Nat → Nat} {d : Nat} {R : aH → Prop}   (r1 : Nat) (x2 : Int32) (hr1 : isW GC r1) (h : aH)
    (H : ((20 : Int32) ≤ x2 → (R (sI (sR h 103 19 r1) 102 1 (19 : Int32)))) ∧ (¬ (20 : Int32) ≤ x2 → (vp_in x2 20 ∧ (∀ w2 : Nat, w2 = h.2.2 103 x2.toNatClampNeg → isW GC w2 ∧ (vp_in (x2 - (1 : Int32)) 20 ∧ (AW GC l ad d mX2_dropFirst 9 [(0, .ref (ad 102)), (1, .ref (ad r1)), (2, .int (x2 + (1 : Int32)))] [] (sR h 103 (x2 - (1 : Int32)).toNatClampNeg w2) (qv R))))))) : AW GC l ad d mX2_dropFirst 9 [(0, .ref (ad 102)), (1, .ref (ad r1)), (2, .int x2)] [] h (qv R) := by
  refine aw_iload_n dX2_dropFirst_9 rfl 2 rfl ?_
  refine aw_bipush (v := 20) dX2_dropFirst_10 (by decide) ?_
  refine aw_icmp_ge (tgt := 35) dX2_dropFirst_12 (by decide) (fun hc4 => ?_) (fun hc4 => ?_)
  · replace H := H.1 hc4
    refine aw_aload_n dX2_dropFirst_35 rfl 0 rfl ?_
    refine aw_get dX2_dropFirst_36 shC102 ckX2 flX2_11 (v := .ref (ad 103)) rfl ?_
    refine aw_bipush (v := 19) dX2_dropFirst_39 (by decide) ?_
    refine aw_aload_n dX2_dropFirst_41 rfl 1 rfl ?_
    refine aw_aastK (t0 := 3) (j := 19) (r := (RX8, TX8, 15)) dX2_dropFirst_42 shC103 rfl hr1.1 rfl (by decide) (vp_inK (by decide) (by decide)) ?_
    refine aw_aload_n dX2_dropFirst_43 rfl 0 rfl ?_
    refine aw_bipush (v := 19) dX2_dropFirst_44 (by decide) ?_
    refine aw_putI dX2_dropFirst_46 shC102 ckX2 flX2_18 rfl (fun _ => rfl) rfl rfl ?_
    exact aw_vret dX2_dropFirst_49 rfl ⟨rfl, H⟩
  · replace H := H.2 hc4
    refine aw_aload_n dX2_dropFirst_15 rfl 0 rfl ?_
    refine aw_get dX2_dropFirst_16 shC102 ckX2 flX2_11 (v := .ref (ad 103)) rfl ?_
    refine aw_iload_n dX2_dropFirst_19 rfl 2 rfl ?_
    refine aw_iconst (v := 1) dX2_dropFirst_20 (by decide) ?_
    refine aw_isub dX2_dropFirst_21 ?_
    refine aw_aload_n dX2_dropFirst_22 rfl 0 rfl ?_
    refine aw_get dX2_dropFirst_23 shC102 ckX2 flX2_11 (v := .ref (ad 103)) rfl ?_
    refine aw_iload_n dX2_dropFirst_26 rfl 2 rfl ?_
    obtain ⟨hi1, H⟩ := H
    obtain ⟨w2, ew2⟩ : ∃ z, z = h.2.2 103 x2.toNatClampNeg := ⟨_, rfl⟩
    obtain ⟨hw2, H⟩ := H w2 ew2
    refine aw_aaldK (t0 := 3) (j := x2.toNatClampNeg) dX2_dropFirst_27 shC103 rfl rfl hi1 ?_
    rw [← ew2]
    obtain ⟨hi3, H⟩ := H
    refine aw_aastK (t0 := 3) (j := (x2 - (1 : Int32)).toNatClampNeg) (r := (RX8, TX8, 15)) dX2_dropFirst_28 shC103 rfl hw2.1 rfl rfl hi3 ?_
    refine aw_inc (mm := (1)) (ls' := [(2, .int (x2 + (1 : Int32))), (0, .ref (ad 102)), (1, .ref (ad r1))]) dX2_dropFirst_29 (by decide) (j := 2) rfl (by decide) rfl ?_
    refine aw_goto (tgt := 9) dX2_dropFirst_32 (by decide) ?_
    exact aw_ls [1, 2, 0] rfl H
set_option maxRecDepth 8000 in
set_option maxHeartbeats 1000000 in
theorem bX2_restore_0 {l : Launch} {ad : Nat → Nat} {d : Nat} {R : aH → Prop} (v1 : Nat) (hv1 : isW GC v1)   (h : aH)
    (H : ((h.1 102 1) ≤ 0 → (R h)) ∧ (¬ (h.1 102 1) ≤ 0 → (((20 : Int32) < (h.1 102 1) → (R h)) ∧ (¬ (20 : Int32) < (h.1 102 1) → (vp_in ((sI h 102 1 ((h.1 102 1) - (1 : Int32))).1 102 1) 20 ∧ (∀ w2 : Nat, w2 = (sI h 102 1 ((h.1 102 1) - (1 : Int32))).2.2 103 ((sI h 102 1 ((h.1 102 1) - (1 : Int32))).1 102 1).toNatClampNeg → isW GC w2 ∧ (AW GC l ad d mX8_copyFrom 0 [(0, .ref (ad v1)), (1, .ref (ad w2))] [] (sI h 102 1 ((h.1 102 1) - (1 : Int32))) (qv fun h3 => R h3)))))))) : AW GC l ad (d + 1) mX2_restore 0 [(0, .ref (ad 102)), (1, .ref (ad v1))] [] h (qv R) := by
  refine aw_aload_n dX2_restore_0 rfl 0 rfl ?_
  refine aw_get dX2_restore_1 shC102 ckX2 flX2_18 (v := .int (h.1 102 1)) rfl ?_
  refine aw_if_le (tgt := 39) dX2_restore_4 (by decide) (fun hc6 => ?_) (fun hc6 => ?_)
  · replace H := H.1 hc6
    exact aw_vret dX2_restore_39 rfl ⟨rfl, H⟩
  · replace H := H.2 hc6
    refine aw_aload_n dX2_restore_7 rfl 0 rfl ?_
    refine aw_get dX2_restore_8 shC102 ckX2 flX2_18 (v := .int (h.1 102 1)) rfl ?_
    refine aw_bipush (v := 20) dX2_restore_11 (by decide) ?_
    refine aw_icmp_gt (tgt := 39) dX2_restore_13 (by decide) (fun hc5 => ?_) (fun hc5 => ?_)
    · replace H := H.1 hc5
      exact aw_vret dX2_restore_39 rfl ⟨rfl, H⟩
    · replace H := H.2 hc5
      refine aw_aload_n dX2_restore_16 rfl 0 rfl ?_
      refine aw_dup dX2_restore_17 rfl ?_
      refine aw_get dX2_restore_18 shC102 ckX2 flX2_18 (v := .int (h.1 102 1)) rfl ?_
      refine aw_iconst (v := 1) dX2_restore_21 (by decide) ?_
      refine aw_isub dX2_restore_22 ?_
      refine aw_putI dX2_restore_23 shC102 ckX2 flX2_18 rfl (fun _ => rfl) rfl rfl ?_
      refine aw_aload_n dX2_restore_26 rfl 1 rfl ?_
      refine aw_aload_n dX2_restore_27 rfl 0 rfl ?_
      refine aw_get dX2_restore_28 shC102 ckX2 flX2_11 (v := .ref (ad 103)) rfl ?_
      refine aw_aload_n dX2_restore_31 rfl 0 rfl ?_
      refine aw_get dX2_restore_32 shC102 ckX2 flX2_18 (v := .int ((sI h 102 1 ((h.1 102 1) - (1 : Int32))).1 102 1)) rfl ?_
      obtain ⟨hi1, H⟩ := H
      obtain ⟨w2, ew2⟩ : ∃ z, z = (sI h 102 1 ((h.1 102 1) - (1 : Int32))).2.2 103 ((sI h 102 1 ((h.1 102 1) - (1 : Int32))).1 102 1).toNatClampNeg := ⟨_, rfl⟩
      obtain ⟨hw2, H⟩ := H w2 ew2
      refine aw_aaldK (t0 := 3) (j := ((sI h 102 1 ((h.1 102 1) - (1 : Int32))).1 102 1).toNatClampNeg) dX2_restore_35 shC103 rfl rfl hi1 ?_
      rw [← ew2]
      refine cvX8_copyFrom dX2_restore_36 mlX2_25 hv1.1 (Nat.le_of_ble_eq_true rfl) H (fun h3 H => ?_)
      exact aw_vret dX2_restore_39 rfl ⟨rfl, H⟩
set_option maxRecDepth 8000 in
set_option maxHeartbeats 1000000 in
theorem bX5_forget_0 {l : Launch} {ad : Nat → Nat} {d : Nat} {R : aH → Prop}     (h : aH)
    (H : R (sI (sI h 346 5 (0 : Int32)) 346 6 (-1 : Int32))) : AW GC l ad d mX5_forget 0 [(0, .ref (ad 346))] [] h (qv R) := by
  refine aw_aload_n dX5_forget_0 rfl 0 rfl ?_
  refine aw_iconst (v := 0) dX5_forget_1 (by decide) ?_
  refine aw_putI dX5_forget_2 shC346 ckX5 flX5_32 rfl (fun _ => rfl) rfl rfl ?_
  refine aw_aload_n dX5_forget_5 rfl 0 rfl ?_
  refine aw_iconst (v := (-1)) dX5_forget_6 (by decide) ?_
  refine aw_putI dX5_forget_7 shC346 ckX5 flX5_28 rfl (fun _ => rfl) rfl rfl ?_
  exact aw_vret dX5_forget_10 rfl ⟨rfl, H⟩
set_option maxRecDepth 8000 in
set_option maxHeartbeats 1000000 in
theorem bX5_add_0 {l : Launch} {ad : Nat → Nat} {d : Nat} {R : Int32 → aH → Prop}   (x1 : Int32) (x2 : Int32) (x3 : Int32) (x4 : Int32)  (h : aH)
    (H : ((h.1 346 5) < (24 : Int32) → (vp_in (h.1 346 5) 24 ∧ (vp_in ((sI h 347 (h.1 346 5).toNatClampNeg x1).1 346 5) 24 ∧ (∀ h3 : aH, h3 = (sI (sI h 347 (h.1 346 5).toNatClampNeg x1) 348 ((sI h 347 (h.1 346 5).toNatClampNeg x1).1 346 5).toNatClampNeg x2) → (vp_in (h3.1 346 5) 24 ∧ (vp_in ((sI h3 349 (h3.1 346 5).toNatClampNeg (vp_nar .boolean x3)).1 346 5) 24 ∧ (∀ h6 : aH, h6 = (sI (sI h3 349 (h3.1 346 5).toNatClampNeg (vp_nar .boolean x3)) 350 ((sI h3 349 (h3.1 346 5).toNatClampNeg (vp_nar .boolean x3)).1 346 5).toNatClampNeg x4) → (R (((sI h6 346 5 ((h6.1 346 5) + (1 : Int32))).1 346 5) - (1 : Int32)) (sI h6 346 5 ((h6.1 346 5) + (1 : Int32))))))))))) ∧ (¬ (h.1 346 5) < (24 : Int32) → (R (-1 : Int32) h))) : AW GC l ad d mX5_add 0 [(0, .ref (ad 346)), (1, .int x1), (2, .int x2), (3, .int x3), (4, .int x4)] [] h (qi R) := by
  refine aw_aload_n dX5_add_0 rfl 0 rfl ?_
  refine aw_get dX5_add_1 shC346 ckX5 flX5_32 (v := .int (h.1 346 5)) rfl ?_
  refine aw_bipush (v := 24) dX5_add_4 (by decide) ?_
  refine aw_icmp_lt (tgt := 11) dX5_add_6 (by decide) (fun hc7 => ?_) (fun hc7 => ?_)
  · replace H := H.1 hc7
    refine aw_aload_n dX5_add_11 rfl 0 rfl ?_
    refine aw_get dX5_add_12 shC346 ckX5 flX5_9 (v := .ref (ad 347)) rfl ?_
    refine aw_aload_n dX5_add_15 rfl 0 rfl ?_
    refine aw_get dX5_add_16 shC346 ckX5 flX5_32 (v := .int (h.1 346 5)) rfl ?_
    refine aw_iload_n dX5_add_19 rfl 1 rfl ?_
    obtain ⟨hi1, H⟩ := H
    refine aw_iastK (t0 := 0) (j := (h.1 346 5).toNatClampNeg) dX5_add_20 shC347 rfl rfl hi1 ?_
    refine aw_aload_n dX5_add_21 rfl 0 rfl ?_
    refine aw_get dX5_add_22 shC346 ckX5 flX5_15 (v := .ref (ad 348)) rfl ?_
    refine aw_aload_n dX5_add_25 rfl 0 rfl ?_
    refine aw_get dX5_add_26 shC346 ckX5 flX5_32 (v := .int ((sI h 347 (h.1 346 5).toNatClampNeg x1).1 346 5)) rfl ?_
    refine aw_iload_n dX5_add_29 rfl 2 rfl ?_
    obtain ⟨hi2, H⟩ := H
    refine aw_iastK (t0 := 0) (j := ((sI h 347 (h.1 346 5).toNatClampNeg x1).1 346 5).toNatClampNeg) dX5_add_30 shC348 rfl rfl hi2 ?_
    refine aw_toph (fun h3 eh3 => ?_)
    replace H := H h3 eh3
    refine aw_aload_n dX5_add_31 rfl 0 rfl ?_
    refine aw_get dX5_add_32 shC346 ckX5 flX5_18 (v := .ref (ad 349)) rfl ?_
    refine aw_aload_n dX5_add_35 rfl 0 rfl ?_
    refine aw_get dX5_add_36 shC346 ckX5 flX5_32 (v := .int (h3.1 346 5)) rfl ?_
    refine aw_iload_n dX5_add_39 rfl 3 rfl ?_
    obtain ⟨hi4, H⟩ := H
    refine aw_zastK (t0 := 2) (j := (h3.1 346 5).toNatClampNeg) dX5_add_40 shC349 rfl rfl hi4 ?_
    refine aw_aload_n dX5_add_41 rfl 0 rfl ?_
    refine aw_get dX5_add_42 shC346 ckX5 flX5_22 (v := .ref (ad 350)) rfl ?_
    refine aw_aload_n dX5_add_45 rfl 0 rfl ?_
    refine aw_get dX5_add_46 shC346 ckX5 flX5_32 (v := .int ((sI h3 349 (h3.1 346 5).toNatClampNeg (vp_nar .boolean x3)).1 346 5)) rfl ?_
    refine aw_iload dX5_add_49 4 rfl ?_
    obtain ⟨hi5, H⟩ := H
    refine aw_iastK (t0 := 0) (j := ((sI h3 349 (h3.1 346 5).toNatClampNeg (vp_nar .boolean x3)).1 346 5).toNatClampNeg) dX5_add_51 shC350 rfl rfl hi5 ?_
    refine aw_toph (fun h6 eh6 => ?_)
    replace H := H h6 eh6
    refine aw_aload_n dX5_add_52 rfl 0 rfl ?_
    refine aw_dup dX5_add_53 rfl ?_
    refine aw_get dX5_add_54 shC346 ckX5 flX5_32 (v := .int (h6.1 346 5)) rfl ?_
    refine aw_iconst (v := 1) dX5_add_57 (by decide) ?_
    refine aw_iadd dX5_add_58 ?_
    refine aw_putI dX5_add_59 shC346 ckX5 flX5_32 rfl (fun _ => rfl) rfl rfl ?_
    refine aw_aload_n dX5_add_62 rfl 0 rfl ?_
    refine aw_get dX5_add_63 shC346 ckX5 flX5_32 (v := .int ((sI h6 346 5 ((h6.1 346 5) + (1 : Int32))).1 346 5)) rfl ?_
    refine aw_iconst (v := 1) dX5_add_66 (by decide) ?_
    refine aw_isub dX5_add_67 ?_
    exact aw_iret dX5_add_68 rfl ⟨_, rfl, H⟩
  · replace H := H.2 hc7
    refine aw_iconst (v := (-1)) dX5_add_9 (by decide) ?_
    exact aw_iret dX5_add_10 rfl ⟨_, rfl, H⟩
set_option maxRecDepth 8000 in
set_option maxHeartbeats 1000000 in
theorem bX5_ruling_0 {l : Launch} {ad : Nat → Nat} {d : Nat} {R : Int32 → aH → Prop}     (h : aH)
    (H : (¬ (h.1 346 6) = (-1 : Int32) → (R (h.1 346 6) h)) ∧ ((h.1 346 6) = (-1 : Int32) → (R (h.1 346 5) h))) : AW GC l ad d mX5_ruling 0 [(0, .ref (ad 346))] [] h (qi R) := by
  refine aw_aload_n dX5_ruling_0 rfl 0 rfl ?_
  refine aw_get dX5_ruling_1 shC346 ckX5 flX5_28 (v := .int (h.1 346 6)) rfl ?_
  refine aw_iconst (v := (-1)) dX5_ruling_4 (by decide) ?_
  refine aw_icmp_ne (tgt := 15) dX5_ruling_5 (by decide) (fun hc1 => ?_) (fun hc1 => ?_)
  · replace H := H.1 hc1
    refine aw_aload_n dX5_ruling_15 rfl 0 rfl ?_
    refine aw_get dX5_ruling_16 shC346 ckX5 flX5_28 (v := .int (h.1 346 6)) rfl ?_
    exact aw_iret dX5_ruling_19 rfl ⟨_, rfl, H⟩
  · replace H := H.2 hc1
    refine aw_aload_n dX5_ruling_8 rfl 0 rfl ?_
    refine aw_get dX5_ruling_9 shC346 ckX5 flX5_32 (v := .int (h.1 346 5)) rfl ?_
    refine aw_goto (tgt := 19) dX5_ruling_12 (by decide) ?_
    exact aw_iret dX5_ruling_19 rfl ⟨_, rfl, H⟩
set_option maxRecDepth 8000 in
set_option maxHeartbeats 1000000 in
theorem bX5_strikeOut_0 {l : Launch} {ad : Nat → Nat} {d : Nat} {R : aH → Prop}     (h : aH)
    (H : AW GC l ad d mX5_ruling 0 [(0, .ref (ad 346))] [] h (qi fun z2 h1 => AW GC l ad (d + 1) mX5_strikeOut 12 [(0, .ref (ad 346)), (1, .int (if (24 : Int32) < z2 then (24 : Int32) else z2)), (2, .int (0 : Int32))] [] h1 (qv R))) : AW GC l ad (d + 1) mX5_strikeOut 0 [(0, .ref (ad 346))] [] h (qv R) := by
  refine aw_aload_n dX5_strikeOut_0 rfl 0 rfl ?_
  refine cvX5_ruling dX5_strikeOut_1 mlX5_35 shC346 (Nat.le_of_ble_eq_true rfl) H (fun z2 h1 H => ?_)
  refine aw_bipush (v := 24) dX5_strikeOut_4 (by decide) ?_
  refine aw_mmin dX5_strikeOut_6 mlX5_39 (Nat.le_of_ble_eq_true rfl) ?_
  refine aw_istore_n (ls' := [(1, .int (if (24 : Int32) < z2 then (24 : Int32) else z2)), (0, .ref (ad 346))]) dX5_strikeOut_9 rfl (by decide) rfl ?_
  refine aw_iconst (v := 0) dX5_strikeOut_10 (by decide) ?_
  refine aw_istore_n (ls' := [(2, .int (0 : Int32)), (1, .int (if (24 : Int32) < z2 then (24 : Int32) else z2)), (0, .ref (ad 346))]) dX5_strikeOut_11 rfl (by decide) rfl ?_
  exact aw_ls [2, 1, 0] rfl H
set_option maxRecDepth 8000 in
set_option maxHeartbeats 1000000 in
theorem bX5_strikeOut_12 {l : Launch} {ad : Nat → Nat} {d : Nat} {R : aH → Prop}   (x1 : Int32) (x2 : Int32)  (h : aH)
    (H : (x1 ≤ x2 → (AW GC l ad (d + 1) mX5_strikeOut 34 [(0, .ref (ad 346)), (2, .int (x1 - (1 : Int32)))] [] h (qv R))) ∧ (¬ x1 ≤ x2 → (vp_in x2 24 ∧ (AW GC l ad (d + 1) mX5_strikeOut 12 [(0, .ref (ad 346)), (1, .int x1), (2, .int (x2 + (1 : Int32)))] [] (sI h 351 x2.toNatClampNeg (vp_nar .boolean (0 : Int32))) (qv R))))) : AW GC l ad (d + 1) mX5_strikeOut 12 [(0, .ref (ad 346)), (1, .int x1), (2, .int x2)] [] h (qv R) := by
  refine aw_iload_n dX5_strikeOut_12 rfl 2 rfl ?_
  refine aw_iload_n dX5_strikeOut_13 rfl 1 rfl ?_
  refine aw_icmp_ge (tgt := 30) dX5_strikeOut_14 (by decide) (fun hc2 => ?_) (fun hc2 => ?_)
  · replace H := H.1 hc2
    refine aw_iload_n dX5_strikeOut_30 rfl 1 rfl ?_
    refine aw_iconst (v := 1) dX5_strikeOut_31 (by decide) ?_
    refine aw_isub dX5_strikeOut_32 ?_
    refine aw_istore_n (ls' := [(2, .int (x1 - (1 : Int32))), (0, .ref (ad 346)), (1, .int x1)]) dX5_strikeOut_33 rfl (by decide) rfl ?_
    exact aw_ls [1, 0] rfl H
  · replace H := H.2 hc2
    refine aw_aload_n dX5_strikeOut_17 rfl 0 rfl ?_
    refine aw_get dX5_strikeOut_18 shC346 ckX5 flX5_25 (v := .ref (ad 351)) rfl ?_
    refine aw_iload_n dX5_strikeOut_21 rfl 2 rfl ?_
    refine aw_iconst (v := 0) dX5_strikeOut_22 (by decide) ?_
    obtain ⟨hi1, H⟩ := H
    refine aw_zastK (t0 := 2) (j := x2.toNatClampNeg) dX5_strikeOut_23 shC351 rfl rfl hi1 ?_
    refine aw_inc (mm := (1)) (ls' := [(2, .int (x2 + (1 : Int32))), (0, .ref (ad 346)), (1, .int x1)]) dX5_strikeOut_24 (by decide) (j := 2) rfl (by decide) rfl ?_
    refine aw_goto (tgt := 12) dX5_strikeOut_27 (by decide) ?_
    exact aw_ls [1, 2, 0] rfl H
set_option maxRecDepth 8000 in
set_option maxHeartbeats 1000000 in
theorem bX5_strikeOut_34 {l : Launch} {ad : Nat → Nat} {d : Nat} {R : aH → Prop}   (x2 : Int32)  (h : aH)
    (H : (x2 < 0 → (R h)) ∧ (¬ x2 < 0 → (vp_in x2 24 ∧ ((¬ (h.1 351 x2.toNatClampNeg) = 0 → (AW GC l ad (d + 1) mX5_strikeOut 34 [(0, .ref (ad 346)), (2, .int (x2 + (-1 : Int32)))] [] h (qv R))) ∧ ((h.1 351 x2.toNatClampNeg) = 0 → (((h.1 350 x2.toNatClampNeg) < 0 → (AW GC l ad (d + 1) mX5_strikeOut 34 [(0, .ref (ad 346)), (2, .int (x2 + (-1 : Int32)))] [] h (qv R))) ∧ (¬ (h.1 350 x2.toNatClampNeg) < 0 → ((x2 ≤ (h.1 350 x2.toNatClampNeg) → (AW GC l ad (d + 1) mX5_strikeOut 34 [(0, .ref (ad 346)), (2, .int (x2 + (-1 : Int32)))] [] h (qv R))) ∧ (¬ x2 ≤ (h.1 350 x2.toNatClampNeg) → (vp_in (h.1 350 x2.toNatClampNeg) 24 ∧ (AW GC l ad (d + 1) mX5_strikeOut 34 [(0, .ref (ad 346)), (2, .int (x2 + (-1 : Int32)))] [] (sI h 351 (h.1 350 x2.toNatClampNeg).toNatClampNeg (vp_nar .boolean (1 : Int32))) (qv R)))))))))))) : AW GC l ad (d + 1) mX5_strikeOut 34 [(0, .ref (ad 346)), (2, .int x2)] [] h (qv R) := by
  refine aw_iload_n dX5_strikeOut_34 rfl 1 rfl ?_
  refine aw_if_lt (tgt := 76) dX5_strikeOut_35 (by decide) (fun hc6 => ?_) (fun hc6 => ?_)
  · replace H := H.1 hc6
    exact aw_vret dX5_strikeOut_76 rfl ⟨rfl, H⟩
  · replace H := H.2 hc6
    refine aw_aload_n dX5_strikeOut_38 rfl 0 rfl ?_
    refine aw_get dX5_strikeOut_39 shC346 ckX5 flX5_22 (v := .ref (ad 350)) rfl ?_
    refine aw_iload_n dX5_strikeOut_42 rfl 1 rfl ?_
    obtain ⟨hi1, H⟩ := H
    refine aw_ialdK (t0 := 0) (j := x2.toNatClampNeg) dX5_strikeOut_43 shC350 rfl rfl hi1 ?_
    refine aw_istore_n (ls' := [(3, .int (h.1 350 x2.toNatClampNeg)), (0, .ref (ad 346)), (2, .int x2)]) dX5_strikeOut_44 rfl (by decide) rfl ?_
    refine aw_aload_n dX5_strikeOut_45 rfl 1 rfl ?_
    refine aw_get dX5_strikeOut_46 shC346 ckX5 flX5_25 (v := .ref (ad 351)) rfl ?_
    refine aw_iload_n dX5_strikeOut_49 rfl 2 rfl ?_
    refine aw_zaldK (t0 := 2) (j := x2.toNatClampNeg) dX5_strikeOut_50 shC351 rfl rfl hi1 ?_
    refine aw_if_ne (tgt := 70) dX5_strikeOut_51 (by decide) (fun hc5 => ?_) (fun hc5 => ?_)
    · replace H := H.1 hc5
      refine aw_inc (mm := (-1)) (ls' := [(2, .int (x2 + (-1 : Int32))), (3, .int (h.1 350 x2.toNatClampNeg)), (0, .ref (ad 346))]) dX5_strikeOut_70 (by decide) (j := 2) rfl (by decide) rfl ?_
      refine aw_goto (tgt := 34) dX5_strikeOut_73 (by decide) ?_
      exact aw_ls [2, 0] rfl H
    · replace H := H.2 hc5
      refine aw_iload_n dX5_strikeOut_54 rfl 0 rfl ?_
      refine aw_if_lt (tgt := 70) dX5_strikeOut_55 (by decide) (fun hc4 => ?_) (fun hc4 => ?_)
      · replace H := H.1 hc4
        refine aw_inc (mm := (-1)) (ls' := [(2, .int (x2 + (-1 : Int32))), (3, .int (h.1 350 x2.toNatClampNeg)), (0, .ref (ad 346))]) dX5_strikeOut_70 (by decide) (j := 2) rfl (by decide) rfl ?_
        refine aw_goto (tgt := 34) dX5_strikeOut_73 (by decide) ?_
        exact aw_ls [2, 0] rfl H
      · replace H := H.2 hc4
        refine aw_iload_n dX5_strikeOut_58 rfl 0 rfl ?_
        refine aw_iload_n dX5_strikeOut_59 rfl 2 rfl ?_
        refine aw_icmp_ge (tgt := 70) dX5_strikeOut_60 (by decide) (fun hc3 => ?_) (fun hc3 => ?_)
        · replace H := H.1 hc3
          refine aw_inc (mm := (-1)) (ls' := [(2, .int (x2 + (-1 : Int32))), (3, .int (h.1 350 x2.toNatClampNeg)), (0, .ref (ad 346))]) dX5_strikeOut_70 (by decide) (j := 2) rfl (by decide) rfl ?_
          refine aw_goto (tgt := 34) dX5_strikeOut_73 (by decide) ?_
          exact aw_ls [2, 0] rfl H
        · replace H := H.2 hc3
          refine aw_aload_n dX5_strikeOut_63 rfl 1 rfl ?_
          refine aw_get dX5_strikeOut_64 shC346 ckX5 flX5_25 (v := .ref (ad 351)) rfl ?_
          refine aw_iload_n dX5_strikeOut_67 rfl 0 rfl ?_
          refine aw_iconst (v := 1) dX5_strikeOut_68 (by decide) ?_
          obtain ⟨hi2, H⟩ := H
          refine aw_zastK (t0 := 2) (j := (h.1 350 x2.toNatClampNeg).toNatClampNeg) dX5_strikeOut_69 shC351 rfl rfl hi2 ?_
          refine aw_inc (mm := (-1)) (ls' := [(2, .int (x2 + (-1 : Int32))), (3, .int (h.1 350 x2.toNatClampNeg)), (0, .ref (ad 346))]) dX5_strikeOut_70 (by decide) (j := 2) rfl (by decide) rfl ?_
          refine aw_goto (tgt := 34) dX5_strikeOut_73 (by decide) ?_
          exact aw_ls [2, 0] rfl H
set_option maxRecDepth 8000 in
set_option maxHeartbeats 1000000 in
theorem bX5_agrees_0 {l : Launch} {ad : Nat → Nat} {d : Nat} {R : Int32 → aH → Prop} (v2 : Nat) (hv2 : isW GC v2) (x1 : Int32)  (h : aH)
    (H : AW GC l ad d mX5_ruling 0 [(0, .ref (ad 346))] [] h (qi fun z2 h1 => AW GC l ad (d + 1) mX5_agrees 13 [(0, .ref (ad 346)), (1, .int x1), (2, .ref (ad v2)), (3, .int (if (24 : Int32) < z2 then (24 : Int32) else z2)), (4, .int (0 : Int32))] [] h1 (qi R))) : AW GC l ad (d + 1) mX5_agrees 0 [(0, .ref (ad 346)), (1, .int x1), (2, .ref (ad v2))] [] h (qi R) := by
  refine aw_aload_n dX5_agrees_0 rfl 0 rfl ?_
  refine cvX5_ruling dX5_agrees_1 mlX5_35 shC346 (Nat.le_of_ble_eq_true rfl) H (fun z2 h1 H => ?_)
  refine aw_bipush (v := 24) dX5_agrees_4 (by decide) ?_
  refine aw_mmin dX5_agrees_6 mlX5_39 (Nat.le_of_ble_eq_true rfl) ?_
  refine aw_istore_n (ls' := [(3, .int (if (24 : Int32) < z2 then (24 : Int32) else z2)), (0, .ref (ad 346)), (1, .int x1), (2, .ref (ad v2))]) dX5_agrees_9 rfl (by decide) rfl ?_
  refine aw_iconst (v := 0) dX5_agrees_10 (by decide) ?_
  refine aw_istore (ls' := [(4, .int (0 : Int32)), (3, .int (if (24 : Int32) < z2 then (24 : Int32) else z2)), (0, .ref (ad 346)), (1, .int x1), (2, .ref (ad v2))]) dX5_agrees_11 (by decide) rfl ?_
  exact aw_ls [2, 3, 4, 1, 0] rfl H
set_option maxRecDepth 8000 in
set_option maxHeartbeats 1000000 in
theorem bX5_agrees_13 {l : Launch} {ad : Nat → Nat} {d : Nat} {R : Int32 → aH → Prop} (v2 : Nat) (hv2 : isW GC v2) (x1 : Int32) (x3 : Int32) (x4 : Int32)  (h : aH)
    (H : (x3 ≤ x4 → (R (1 : Int32) h)) ∧ (¬ x3 ≤ x4 → (vp_in x4 24 ∧ ((¬ (h.1 351 x4.toNatClampNeg) = 0 → (AW GC l ad (d + 1) mX5_agrees 13 [(0, .ref (ad 346)), (1, .int x1), (2, .ref (ad v2)), (3, .int x3), (4, .int (x4 + (1 : Int32)))] [] h (qi R))) ∧ ((h.1 351 x4.toNatClampNeg) = 0 → ((¬ (h.1 350 x4.toNatClampNeg) = (-1 : Int32) → (AW GC l ad (d + 1) mX5_agrees 13 [(0, .ref (ad 346)), (1, .int x1), (2, .ref (ad v2)), (3, .int x3), (4, .int (x4 + (1 : Int32)))] [] h (qi R))) ∧ ((h.1 350 x4.toNatClampNeg) = (-1 : Int32) → ((¬ (h.1 347 x4.toNatClampNeg) = x1 → (AW GC l ad (d + 1) mX5_agrees 13 [(0, .ref (ad 346)), (1, .int x1), (2, .ref (ad v2)), (3, .int x3), (4, .int (x4 + (1 : Int32)))] [] h (qi R))) ∧ ((h.1 347 x4.toNatClampNeg) = x1 → (AW GC l ad d mX5_isPaid 0 [(0, .int (h.1 348 x4.toNatClampNeg)), (1, .ref (ad v2))] [] h (qi fun z3 h2 => (z3 = (h2.1 349 x4.toNatClampNeg) → (AW GC l ad (d + 1) mX5_agrees 13 [(0, .ref (ad 346)), (1, .int x1), (2, .ref (ad v2)), (3, .int x3), (4, .int (x4 + (1 : Int32)))] [] h2 (qi R))) ∧ (¬ z3 = (h2.1 349 x4.toNatClampNeg) → (R (0 : Int32) h2))))))))))))) : AW GC l ad (d + 1) mX5_agrees 13 [(0, .ref (ad 346)), (1, .int x1), (2, .ref (ad v2)), (3, .int x3), (4, .int x4)] [] h (qi R) := by
  refine aw_iload dX5_agrees_13 4 rfl ?_
  refine aw_iload_n dX5_agrees_15 rfl 3 rfl ?_
  refine aw_icmp_ge (tgt := 80) dX5_agrees_16 (by decide) (fun hc8 => ?_) (fun hc8 => ?_)
  · replace H := H.1 hc8
    refine aw_iconst (v := 1) dX5_agrees_80 (by decide) ?_
    exact aw_zret dX5_agrees_81 rfl (by decide) ⟨_, rfl, H⟩
  · replace H := H.2 hc8
    refine aw_aload_n dX5_agrees_19 rfl 0 rfl ?_
    refine aw_get dX5_agrees_20 shC346 ckX5 flX5_25 (v := .ref (ad 351)) rfl ?_
    refine aw_iload dX5_agrees_23 4 rfl ?_
    obtain ⟨hi1, H⟩ := H
    refine aw_zaldK (t0 := 2) (j := x4.toNatClampNeg) dX5_agrees_25 shC351 rfl rfl hi1 ?_
    refine aw_if_ne (tgt := 74) dX5_agrees_26 (by decide) (fun hc7 => ?_) (fun hc7 => ?_)
    · replace H := H.1 hc7
      refine aw_inc (mm := (1)) (ls' := [(4, .int (x4 + (1 : Int32))), (0, .ref (ad 346)), (1, .int x1), (2, .ref (ad v2)), (3, .int x3)]) dX5_agrees_74 (by decide) (j := 4) rfl (by decide) rfl ?_
      refine aw_goto (tgt := 13) dX5_agrees_77 (by decide) ?_
      exact aw_ls [1, 2, 3, 4, 0] rfl H
    · replace H := H.2 hc7
      refine aw_aload_n dX5_agrees_29 rfl 0 rfl ?_
      refine aw_get dX5_agrees_30 shC346 ckX5 flX5_22 (v := .ref (ad 350)) rfl ?_
      refine aw_iload dX5_agrees_33 4 rfl ?_
      refine aw_ialdK (t0 := 0) (j := x4.toNatClampNeg) dX5_agrees_35 shC350 rfl rfl hi1 ?_
      refine aw_iconst (v := (-1)) dX5_agrees_36 (by decide) ?_
      refine aw_icmp_ne (tgt := 74) dX5_agrees_37 (by decide) (fun hc6 => ?_) (fun hc6 => ?_)
      · replace H := H.1 hc6
        refine aw_inc (mm := (1)) (ls' := [(4, .int (x4 + (1 : Int32))), (0, .ref (ad 346)), (1, .int x1), (2, .ref (ad v2)), (3, .int x3)]) dX5_agrees_74 (by decide) (j := 4) rfl (by decide) rfl ?_
        refine aw_goto (tgt := 13) dX5_agrees_77 (by decide) ?_
        exact aw_ls [1, 2, 3, 4, 0] rfl H
      · replace H := H.2 hc6
        refine aw_aload_n dX5_agrees_40 rfl 0 rfl ?_
        refine aw_get dX5_agrees_41 shC346 ckX5 flX5_9 (v := .ref (ad 347)) rfl ?_
        refine aw_iload dX5_agrees_44 4 rfl ?_
        refine aw_ialdK (t0 := 0) (j := x4.toNatClampNeg) dX5_agrees_46 shC347 rfl rfl hi1 ?_
        refine aw_iload_n dX5_agrees_47 rfl 1 rfl ?_
        refine aw_icmp_ne (tgt := 74) dX5_agrees_48 (by decide) (fun hc5 => ?_) (fun hc5 => ?_)
        · replace H := H.1 hc5
          refine aw_inc (mm := (1)) (ls' := [(4, .int (x4 + (1 : Int32))), (0, .ref (ad 346)), (1, .int x1), (2, .ref (ad v2)), (3, .int x3)]) dX5_agrees_74 (by decide) (j := 4) rfl (by decide) rfl ?_
          refine aw_goto (tgt := 13) dX5_agrees_77 (by decide) ?_
          exact aw_ls [1, 2, 3, 4, 0] rfl H
        · replace H := H.2 hc5
          refine aw_aload_n dX5_agrees_51 rfl 0 rfl ?_
          refine aw_get dX5_agrees_52 shC346 ckX5 flX5_15 (v := .ref (ad 348)) rfl ?_
          refine aw_iload dX5_agrees_55 4 rfl ?_
          refine aw_ialdK (t0 := 0) (j := x4.toNatClampNeg) dX5_agrees_57 shC348 rfl rfl hi1 ?_
          refine aw_aload_n dX5_agrees_58 rfl 2 rfl ?_
          refine cvX5_isPaid dX5_agrees_59 mlX5_45 (Nat.le_of_ble_eq_true rfl) H (fun z3 h2 H => ?_)
          refine aw_aload_n dX5_agrees_62 rfl 0 rfl ?_
          refine aw_get dX5_agrees_63 shC346 ckX5 flX5_18 (v := .ref (ad 349)) rfl ?_
          refine aw_iload dX5_agrees_66 4 rfl ?_
          refine aw_zaldK (t0 := 2) (j := x4.toNatClampNeg) dX5_agrees_68 shC349 rfl rfl hi1 ?_
          refine aw_icmp_eq (tgt := 74) dX5_agrees_69 (by decide) (fun hc4 => ?_) (fun hc4 => ?_)
          · replace H := H.1 hc4
            refine aw_inc (mm := (1)) (ls' := [(4, .int (x4 + (1 : Int32))), (0, .ref (ad 346)), (1, .int x1), (2, .ref (ad v2)), (3, .int x3)]) dX5_agrees_74 (by decide) (j := 4) rfl (by decide) rfl ?_
            refine aw_goto (tgt := 13) dX5_agrees_77 (by decide) ?_
            exact aw_ls [1, 2, 3, 4, 0] rfl H
          · replace H := H.2 hc4
            refine aw_iconst (v := 0) dX5_agrees_72 (by decide) ?_
            exact aw_zret dX5_agrees_73 rfl (by decide) ⟨_, rfl, H⟩
set_option maxRecDepth 8000 in
set_option maxHeartbeats 1000000 in
theorem bX5_isPaid_0 {l : Launch} {ad : Nat → Nat} {d : Nat} {R : Int32 → aH → Prop} (v1 : Nat) (hv1 : isW GC v1) (x0 : Int32)  (h : aH)
    (H : (x0 < 0 → (R (0 : Int32) h)) ∧ (¬ x0 < 0 → (((h.1 v1 11) ≤ x0 → (R (0 : Int32) h)) ∧ (¬ (h.1 v1 11) ≤ x0 → (vp_in x0 8 ∧ ((¬ (h.1 (v1 + 8) x0.toNatClampNeg) = (2 : Int32) → (R (0 : Int32) h)) ∧ ((h.1 (v1 + 8) x0.toNatClampNeg) = (2 : Int32) → (R (1 : Int32) h)))))))) : AW GC l ad d mX5_isPaid 0 [(0, .int x0), (1, .ref (ad v1))] [] h (qi R) := by
  refine aw_iload_n dX5_isPaid_0 rfl 0 rfl ?_
  refine aw_if_lt (tgt := 26) dX5_isPaid_1 (by decide) (fun hc4 => ?_) (fun hc4 => ?_)
  · replace H := H.1 hc4
    refine aw_iconst (v := 0) dX5_isPaid_26 (by decide) ?_
    exact aw_zret dX5_isPaid_27 rfl (by decide) ⟨_, rfl, H⟩
  · replace H := H.2 hc4
    refine aw_iload_n dX5_isPaid_4 rfl 0 rfl ?_
    refine aw_aload_n dX5_isPaid_5 rfl 1 rfl ?_
    refine aw_get dX5_isPaid_6 hv1.1 ckX8 flX5_49 (v := .int (h.1 v1 11)) rfl ?_
    refine aw_icmp_ge (tgt := 26) dX5_isPaid_9 (by decide) (fun hc3 => ?_) (fun hc3 => ?_)
    · replace H := H.1 hc3
      refine aw_iconst (v := 0) dX5_isPaid_26 (by decide) ?_
      exact aw_zret dX5_isPaid_27 rfl (by decide) ⟨_, rfl, H⟩
    · replace H := H.2 hc3
      refine aw_aload_n dX5_isPaid_12 rfl 1 rfl ?_
      refine aw_get dX5_isPaid_13 hv1.1 ckX8 flX5_53 (v := .ref (ad (v1 + 8))) rfl ?_
      refine aw_iload_n dX5_isPaid_16 rfl 0 rfl ?_
      obtain ⟨hi1, H⟩ := H
      refine aw_ialdK (t0 := 0) (j := x0.toNatClampNeg) dX5_isPaid_17 (hv1.2 7 (by decide)) rfl rfl hi1 ?_
      refine aw_iconst (v := 2) dX5_isPaid_18 (by decide) ?_
      refine aw_icmp_ne (tgt := 26) dX5_isPaid_19 (by decide) (fun hc2 => ?_) (fun hc2 => ?_)
      · replace H := H.1 hc2
        refine aw_iconst (v := 0) dX5_isPaid_26 (by decide) ?_
        exact aw_zret dX5_isPaid_27 rfl (by decide) ⟨_, rfl, H⟩
      · replace H := H.2 hc2
        refine aw_iconst (v := 1) dX5_isPaid_22 (by decide) ?_
        refine aw_goto (tgt := 27) dX5_isPaid_23 (by decide) ?_
        exact aw_zret dX5_isPaid_27 rfl (by decide) ⟨_, rfl, H⟩
set_option maxRecDepth 8000 in
set_option maxHeartbeats 1000000 in
theorem bX6_empty_0 {l : Launch} {ad : Nat → Nat} {d : Nat} {R : aH → Prop} (sy : Nat) (hsy : isS GC sy)   (h : aH)
    (H : AW GC l ad d mX8_empty 0 [(0, .ref (ad (sy + 17)))] [] (sI (sI (sI h (sy + 8) 2 (0 : Int32)) (sy + 11) 2 (0 : Int32)) (sy + 14) 2 (0 : Int32)) (qv fun h1 => ∀ h3 : aH, h3 = (sI (sI (sI (sI (sI h1 sy 11 (0 : Int32)) sy 12 (0 : Int32)) sy 13 (0 : Int32)) sy 14 (0 : Int32)) sy 15 (0 : Int32)) → (R (sI (sI (sI h3 sy 16 (0 : Int32)) sy 17 (0 : Int32)) sy 18 (0 : Int32))))) : AW GC l ad (d + 1) mX6_empty 0 [(0, .ref (ad sy))] [] h (qv R) := by
  refine aw_aload_n dX6_empty_0 rfl 0 rfl ?_
  refine aw_get dX6_empty_1 hsy.1 ckX6 flX6_36 (v := .ref (ad (sy + 8))) rfl ?_
  refine aw_iconst (v := 0) dX6_empty_4 (by decide) ?_
  refine aw_putI dX6_empty_5 hsy.2.2.1.1 ckX1 flX6_53 rfl (fun _ => rfl) rfl rfl ?_
  refine aw_aload_n dX6_empty_8 rfl 0 rfl ?_
  refine aw_get dX6_empty_9 hsy.1 ckX6 flX6_40 (v := .ref (ad (sy + 11))) rfl ?_
  refine aw_iconst (v := 0) dX6_empty_12 (by decide) ?_
  refine aw_putI dX6_empty_13 hsy.2.2.2.1.1 ckX1 flX6_53 rfl (fun _ => rfl) rfl rfl ?_
  refine aw_aload_n dX6_empty_16 rfl 0 rfl ?_
  refine aw_get dX6_empty_17 hsy.1 ckX6 flX6_43 (v := .ref (ad (sy + 14))) rfl ?_
  refine aw_iconst (v := 0) dX6_empty_20 (by decide) ?_
  refine aw_putI dX6_empty_21 hsy.2.2.2.2.1.1 ckX1 flX6_53 rfl (fun _ => rfl) rfl rfl ?_
  refine aw_aload_n dX6_empty_24 rfl 0 rfl ?_
  refine aw_get dX6_empty_25 hsy.1 ckX6 flX6_49 (v := .ref (ad (sy + 17))) rfl ?_
  refine cvX8_empty dX6_empty_28 mlX6_57 hsy.2.2.2.2.2.1 (Nat.le_of_ble_eq_true rfl) H (fun h1 H => ?_)
  refine aw_aload_n dX6_empty_31 rfl 0 rfl ?_
  refine aw_iconst (v := 0) dX6_empty_32 (by decide) ?_
  refine aw_putI dX6_empty_33 hsy.1 ckX6 flX6_60 rfl (fun _ => rfl) rfl rfl ?_
  refine aw_aload_n dX6_empty_36 rfl 0 rfl ?_
  refine aw_iconst (v := 0) dX6_empty_37 (by decide) ?_
  refine aw_putI dX6_empty_38 hsy.1 ckX6 flX6_63 rfl (fun _ => rfl) rfl rfl ?_
  refine aw_aload_n dX6_empty_41 rfl 0 rfl ?_
  refine aw_iconst (v := 0) dX6_empty_42 (by decide) ?_
  refine aw_putI dX6_empty_43 hsy.1 ckX6 flX6_66 rfl (fun _ => rfl) rfl rfl ?_
  refine aw_aload_n dX6_empty_46 rfl 0 rfl ?_
  refine aw_iconst (v := 0) dX6_empty_47 (by decide) ?_
  refine aw_putI dX6_empty_48 hsy.1 ckX6 flX6_69 rfl (fun _ => rfl) rfl rfl ?_
  refine aw_aload_n dX6_empty_51 rfl 0 rfl ?_
  refine aw_iconst (v := 0) dX6_empty_52 (by decide) ?_
  refine aw_putI dX6_empty_53 hsy.1 ckX6 flX6_72 rfl (fun _ => rfl) (show narrow .boolean (.int (0 : Int32)) = .int (0 : Int32) by decide) (show fits .boolean (.int (0 : Int32)) = true by decide) ?_
  refine aw_toph (fun h3 eh3 => ?_)
  replace H := H h3 eh3
  refine aw_aload_n dX6_empty_56 rfl 0 rfl ?_
  refine aw_iconst (v := 0) dX6_empty_57 (by decide) ?_
  refine aw_putI dX6_empty_58 hsy.1 ckX6 flX6_76 rfl (fun _ => rfl) (show narrow .boolean (.int (0 : Int32)) = .int (0 : Int32) by decide) (show fits .boolean (.int (0 : Int32)) = true by decide) ?_
  refine aw_aload_n dX6_empty_61 rfl 0 rfl ?_
  refine aw_iconst (v := 0) dX6_empty_62 (by decide) ?_
  refine aw_putI dX6_empty_63 hsy.1 ckX6 flX6_79 rfl (fun _ => rfl) rfl rfl ?_
  refine aw_aload_n dX6_empty_66 rfl 0 rfl ?_
  refine aw_iconst (v := 0) dX6_empty_67 (by decide) ?_
  refine aw_putI dX6_empty_68 hsy.1 ckX6 flX6_82 rfl (fun _ => rfl) rfl rfl ?_
  exact aw_vret dX6_empty_71 rfl ⟨rfl, H⟩
set_option maxRecDepth 8000 in
set_option maxHeartbeats 1000000 in
theorem bX6_addMan_0 {l : Launch} {ad : Nat → Nat} {d : Nat} {R : aH → Prop} (sy : Nat) (hsy : isS GC sy) (x1 : Int32) (x2 : Int32)  (h : aH)
    (H : ((6 : Int32) ≤ (h.1 sy 11) → (R h)) ∧ (¬ (6 : Int32) ≤ (h.1 sy 11) → (vp_in (h.1 sy 11) 6 ∧ (vp_in ((sI h (sy + 1) (h.1 sy 11).toNatClampNeg x1).1 sy 11) 6 ∧ (∀ h3 : aH, h3 = (sI (sI h (sy + 1) (h.1 sy 11).toNatClampNeg x1) ((sy + 17) + 1) ((sI h (sy + 1) (h.1 sy 11).toNatClampNeg x1).1 sy 11).toNatClampNeg x2) → (R (sI h3 sy 11 ((h3.1 sy 11) + (1 : Int32))))))))) : AW GC l ad d mX6_addMan 0 [(0, .ref (ad sy)), (1, .int x1), (2, .int x2)] [] h (qv R) := by
  refine aw_aload_n dX6_addMan_0 rfl 0 rfl ?_
  refine aw_get dX6_addMan_1 hsy.1 ckX6 flX6_60 (v := .int (h.1 sy 11)) rfl ?_
  refine aw_bipush (v := 6) dX6_addMan_4 (by decide) ?_
  refine aw_icmp_ge (tgt := 42) dX6_addMan_6 (by decide) (fun hc4 => ?_) (fun hc4 => ?_)
  · replace H := H.1 hc4
    exact aw_vret dX6_addMan_42 rfl ⟨rfl, H⟩
  · replace H := H.2 hc4
    refine aw_aload_n dX6_addMan_9 rfl 0 rfl ?_
    refine aw_get dX6_addMan_10 hsy.1 ckX6 flX6_9 (v := .ref (ad (sy + 1))) rfl ?_
    refine aw_aload_n dX6_addMan_13 rfl 0 rfl ?_
    refine aw_get dX6_addMan_14 hsy.1 ckX6 flX6_60 (v := .int (h.1 sy 11)) rfl ?_
    refine aw_iload_n dX6_addMan_17 rfl 1 rfl ?_
    obtain ⟨hi1, H⟩ := H
    refine aw_iastK (t0 := 0) (j := (h.1 sy 11).toNatClampNeg) dX6_addMan_18 (hsy.2.1 0 (by decide)) rfl rfl hi1 ?_
    refine aw_aload_n dX6_addMan_19 rfl 0 rfl ?_
    refine aw_get dX6_addMan_20 hsy.1 ckX6 flX6_49 (v := .ref (ad (sy + 17))) rfl ?_
    refine aw_get dX6_addMan_23 hsy.2.2.2.2.2.1 ckX8 flX6_85 (v := .ref (ad ((sy + 17) + 1))) rfl ?_
    refine aw_aload_n dX6_addMan_26 rfl 0 rfl ?_
    refine aw_get dX6_addMan_27 hsy.1 ckX6 flX6_60 (v := .int ((sI h (sy + 1) (h.1 sy 11).toNatClampNeg x1).1 sy 11)) rfl ?_
    refine aw_iload_n dX6_addMan_30 rfl 2 rfl ?_
    obtain ⟨hi2, H⟩ := H
    refine aw_iastK (t0 := 0) (j := ((sI h (sy + 1) (h.1 sy 11).toNatClampNeg x1).1 sy 11).toNatClampNeg) dX6_addMan_31 (hsy.2.2.2.2.2.2 0 (by decide)) rfl rfl hi2 ?_
    refine aw_toph (fun h3 eh3 => ?_)
    replace H := H h3 eh3
    refine aw_aload_n dX6_addMan_32 rfl 0 rfl ?_
    refine aw_dup dX6_addMan_33 rfl ?_
    refine aw_get dX6_addMan_34 hsy.1 ckX6 flX6_60 (v := .int (h3.1 sy 11)) rfl ?_
    refine aw_iconst (v := 1) dX6_addMan_37 (by decide) ?_
    refine aw_iadd dX6_addMan_38 ?_
    refine aw_putI dX6_addMan_39 hsy.1 ckX6 flX6_60 rfl (fun _ => rfl) rfl rfl ?_
    exact aw_vret dX6_addMan_42 rfl ⟨rfl, H⟩
set_option maxRecDepth 8000 in
set_option maxHeartbeats 1000000 in
theorem bX6_addTusk_0 {l : Launch} {ad : Nat → Nat} {d : Nat} {R : aH → Prop} (sy : Nat) (hsy : isS GC sy) (x1 : Int32) (x2 : Int32) (x3 : Int32)  (h : aH)
    (H : ((6 : Int32) ≤ (h.1 sy 12) → (R h)) ∧ (¬ (6 : Int32) ≤ (h.1 sy 12) → (vp_in (h.1 sy 12) 6 ∧ (vp_in ((sI h (sy + 2) (h.1 sy 12).toNatClampNeg x1).1 sy 12) 6 ∧ (∀ h3 : aH, h3 = (sI (sI h (sy + 2) (h.1 sy 12).toNatClampNeg x1) ((sy + 17) + 2) ((sI h (sy + 2) (h.1 sy 12).toNatClampNeg x1).1 sy 12).toNatClampNeg x2) → (vp_in (h3.1 sy 12) 6 ∧ (vp_in ((sI h3 (sy + 3) (h3.1 sy 12).toNatClampNeg x3).1 sy 12) 6 ∧ (∀ h6 : aH, h6 = (sI (sI h3 (sy + 3) (h3.1 sy 12).toNatClampNeg x3) (sy + 4) ((sI h3 (sy + 3) (h3.1 sy 12).toNatClampNeg x3).1 sy 12).toNatClampNeg (-1 : Int32)) → (∀ h7 : aH, h7 = (sI (sI h6 (sy + 17) 12 ((h6.1 (sy + 17) 12) ||| ((1 : Int32) <<< ((h6.1 sy 12) &&& 31)))) sy 12 (((sI h6 (sy + 17) 12 ((h6.1 (sy + 17) 12) ||| ((1 : Int32) <<< ((h6.1 sy 12) &&& 31)))).1 sy 12) + (1 : Int32))) → (R h7)))))))))) : AW GC l ad d mX6_addTusk 0 [(0, .ref (ad sy)), (1, .int x1), (2, .int x2), (3, .int x3)] [] h (qv R) := by
  refine aw_aload_n dX6_addTusk_0 rfl 0 rfl ?_
  refine aw_get dX6_addTusk_1 hsy.1 ckX6 flX6_63 (v := .int (h.1 sy 12)) rfl ?_
  refine aw_bipush (v := 6) dX6_addTusk_4 (by decide) ?_
  refine aw_icmp_ge (tgt := 80) dX6_addTusk_6 (by decide) (fun hc8 => ?_) (fun hc8 => ?_)
  · replace H := H.1 hc8
    exact aw_vret dX6_addTusk_80 rfl ⟨rfl, H⟩
  · replace H := H.2 hc8
    refine aw_aload_n dX6_addTusk_9 rfl 0 rfl ?_
    refine aw_get dX6_addTusk_10 hsy.1 ckX6 flX6_15 (v := .ref (ad (sy + 2))) rfl ?_
    refine aw_aload_n dX6_addTusk_13 rfl 0 rfl ?_
    refine aw_get dX6_addTusk_14 hsy.1 ckX6 flX6_63 (v := .int (h.1 sy 12)) rfl ?_
    refine aw_iload_n dX6_addTusk_17 rfl 1 rfl ?_
    obtain ⟨hi1, H⟩ := H
    refine aw_iastK (t0 := 0) (j := (h.1 sy 12).toNatClampNeg) dX6_addTusk_18 (hsy.2.1 1 (by decide)) rfl rfl hi1 ?_
    refine aw_aload_n dX6_addTusk_19 rfl 0 rfl ?_
    refine aw_get dX6_addTusk_20 hsy.1 ckX6 flX6_49 (v := .ref (ad (sy + 17))) rfl ?_
    refine aw_get dX6_addTusk_23 hsy.2.2.2.2.2.1 ckX8 flX6_88 (v := .ref (ad ((sy + 17) + 2))) rfl ?_
    refine aw_aload_n dX6_addTusk_26 rfl 0 rfl ?_
    refine aw_get dX6_addTusk_27 hsy.1 ckX6 flX6_63 (v := .int ((sI h (sy + 2) (h.1 sy 12).toNatClampNeg x1).1 sy 12)) rfl ?_
    refine aw_iload_n dX6_addTusk_30 rfl 2 rfl ?_
    obtain ⟨hi2, H⟩ := H
    refine aw_iastK (t0 := 0) (j := ((sI h (sy + 2) (h.1 sy 12).toNatClampNeg x1).1 sy 12).toNatClampNeg) dX6_addTusk_31 (hsy.2.2.2.2.2.2 1 (by decide)) rfl rfl hi2 ?_
    refine aw_toph (fun h3 eh3 => ?_)
    replace H := H h3 eh3
    refine aw_aload_n dX6_addTusk_32 rfl 0 rfl ?_
    refine aw_get dX6_addTusk_33 hsy.1 ckX6 flX6_18 (v := .ref (ad (sy + 3))) rfl ?_
    refine aw_aload_n dX6_addTusk_36 rfl 0 rfl ?_
    refine aw_get dX6_addTusk_37 hsy.1 ckX6 flX6_63 (v := .int (h3.1 sy 12)) rfl ?_
    refine aw_iload_n dX6_addTusk_40 rfl 3 rfl ?_
    obtain ⟨hi4, H⟩ := H
    refine aw_iastK (t0 := 0) (j := (h3.1 sy 12).toNatClampNeg) dX6_addTusk_41 (hsy.2.1 2 (by decide)) rfl rfl hi4 ?_
    refine aw_aload_n dX6_addTusk_42 rfl 0 rfl ?_
    refine aw_get dX6_addTusk_43 hsy.1 ckX6 flX6_21 (v := .ref (ad (sy + 4))) rfl ?_
    refine aw_aload_n dX6_addTusk_46 rfl 0 rfl ?_
    refine aw_get dX6_addTusk_47 hsy.1 ckX6 flX6_63 (v := .int ((sI h3 (sy + 3) (h3.1 sy 12).toNatClampNeg x3).1 sy 12)) rfl ?_
    refine aw_iconst (v := (-1)) dX6_addTusk_50 (by decide) ?_
    obtain ⟨hi5, H⟩ := H
    refine aw_iastK (t0 := 0) (j := ((sI h3 (sy + 3) (h3.1 sy 12).toNatClampNeg x3).1 sy 12).toNatClampNeg) dX6_addTusk_51 (hsy.2.1 3 (by decide)) rfl rfl hi5 ?_
    refine aw_toph (fun h6 eh6 => ?_)
    replace H := H h6 eh6
    refine aw_aload_n dX6_addTusk_52 rfl 0 rfl ?_
    refine aw_get dX6_addTusk_53 hsy.1 ckX6 flX6_49 (v := .ref (ad (sy + 17))) rfl ?_
    refine aw_dup dX6_addTusk_56 rfl ?_
    refine aw_get dX6_addTusk_57 hsy.2.2.2.2.2.1 ckX8 flX6_91 (v := .int (h6.1 (sy + 17) 12)) rfl ?_
    refine aw_iconst (v := 1) dX6_addTusk_60 (by decide) ?_
    refine aw_aload_n dX6_addTusk_61 rfl 0 rfl ?_
    refine aw_get dX6_addTusk_62 hsy.1 ckX6 flX6_63 (v := .int (h6.1 sy 12)) rfl ?_
    refine aw_ishl dX6_addTusk_65 ?_
    refine aw_ior dX6_addTusk_66 ?_
    refine aw_putI dX6_addTusk_67 hsy.2.2.2.2.2.1 ckX8 flX6_91 rfl (fun _ => rfl) rfl rfl ?_
    refine aw_aload_n dX6_addTusk_70 rfl 0 rfl ?_
    refine aw_dup dX6_addTusk_71 rfl ?_
    refine aw_get dX6_addTusk_72 hsy.1 ckX6 flX6_63 (v := .int ((sI h6 (sy + 17) 12 ((h6.1 (sy + 17) 12) ||| ((1 : Int32) <<< ((h6.1 sy 12) &&& 31)))).1 sy 12)) rfl ?_
    refine aw_iconst (v := 1) dX6_addTusk_75 (by decide) ?_
    refine aw_iadd dX6_addTusk_76 ?_
    refine aw_putI dX6_addTusk_77 hsy.1 ckX6 flX6_63 rfl (fun _ => rfl) rfl rfl ?_
    refine aw_toph (fun h7 eh7 => ?_)
    replace H := H h7 eh7
    exact aw_vret dX6_addTusk_80 rfl ⟨rfl, H⟩
set_option maxRecDepth 8000 in
set_option maxHeartbeats 1000000 in
theorem bX6_addLeaning_0 {l : Launch} {ad : Nat → Nat} {d : Nat} {R : aH → Prop} (sy : Nat) (hsy : isS GC sy) (x1 : Int32) (x2 : Int32) (x3 : Int32)  (h : aH)
    (H : ((10 : Int32) ≤ (h.1 sy 13) → (R h)) ∧ (¬ (10 : Int32) ≤ (h.1 sy 13) → (vp_in (h.1 sy 13) 10 ∧ (vp_in ((sI h (sy + 5) (h.1 sy 13).toNatClampNeg x1).1 sy 13) 10 ∧ (∀ h3 : aH, h3 = (sI (sI h (sy + 5) (h.1 sy 13).toNatClampNeg x1) (sy + 6) ((sI h (sy + 5) (h.1 sy 13).toNatClampNeg x1).1 sy 13).toNatClampNeg x2) → (vp_in (h3.1 sy 13) 10 ∧ (∀ h5 : aH, h5 = (sI (sI h3 (sy + 7) (h3.1 sy 13).toNatClampNeg x3) sy 13 (((sI h3 (sy + 7) (h3.1 sy 13).toNatClampNeg x3).1 sy 13) + (1 : Int32))) → (R h5)))))))) : AW GC l ad d mX6_addLeaning 0 [(0, .ref (ad sy)), (1, .int x1), (2, .int x2), (3, .int x3)] [] h (qv R) := by
  refine aw_aload_n dX6_addLeaning_0 rfl 0 rfl ?_
  refine aw_get dX6_addLeaning_1 hsy.1 ckX6 flX6_66 (v := .int (h.1 sy 13)) rfl ?_
  refine aw_bipush (v := 10) dX6_addLeaning_4 (by decide) ?_
  refine aw_icmp_ge (tgt := 49) dX6_addLeaning_6 (by decide) (fun hc6 => ?_) (fun hc6 => ?_)
  · replace H := H.1 hc6
    exact aw_vret dX6_addLeaning_49 rfl ⟨rfl, H⟩
  · replace H := H.2 hc6
    refine aw_aload_n dX6_addLeaning_9 rfl 0 rfl ?_
    refine aw_get dX6_addLeaning_10 hsy.1 ckX6 flX6_24 (v := .ref (ad (sy + 5))) rfl ?_
    refine aw_aload_n dX6_addLeaning_13 rfl 0 rfl ?_
    refine aw_get dX6_addLeaning_14 hsy.1 ckX6 flX6_66 (v := .int (h.1 sy 13)) rfl ?_
    refine aw_iload_n dX6_addLeaning_17 rfl 1 rfl ?_
    obtain ⟨hi1, H⟩ := H
    refine aw_iastK (t0 := 0) (j := (h.1 sy 13).toNatClampNeg) dX6_addLeaning_18 (hsy.2.1 4 (by decide)) rfl rfl hi1 ?_
    refine aw_aload_n dX6_addLeaning_19 rfl 0 rfl ?_
    refine aw_get dX6_addLeaning_20 hsy.1 ckX6 flX6_27 (v := .ref (ad (sy + 6))) rfl ?_
    refine aw_aload_n dX6_addLeaning_23 rfl 0 rfl ?_
    refine aw_get dX6_addLeaning_24 hsy.1 ckX6 flX6_66 (v := .int ((sI h (sy + 5) (h.1 sy 13).toNatClampNeg x1).1 sy 13)) rfl ?_
    refine aw_iload_n dX6_addLeaning_27 rfl 2 rfl ?_
    obtain ⟨hi2, H⟩ := H
    refine aw_iastK (t0 := 0) (j := ((sI h (sy + 5) (h.1 sy 13).toNatClampNeg x1).1 sy 13).toNatClampNeg) dX6_addLeaning_28 (hsy.2.1 5 (by decide)) rfl rfl hi2 ?_
    refine aw_toph (fun h3 eh3 => ?_)
    replace H := H h3 eh3
    refine aw_aload_n dX6_addLeaning_29 rfl 0 rfl ?_
    refine aw_get dX6_addLeaning_30 hsy.1 ckX6 flX6_30 (v := .ref (ad (sy + 7))) rfl ?_
    refine aw_aload_n dX6_addLeaning_33 rfl 0 rfl ?_
    refine aw_get dX6_addLeaning_34 hsy.1 ckX6 flX6_66 (v := .int (h3.1 sy 13)) rfl ?_
    refine aw_iload_n dX6_addLeaning_37 rfl 3 rfl ?_
    obtain ⟨hi4, H⟩ := H
    refine aw_iastK (t0 := 0) (j := (h3.1 sy 13).toNatClampNeg) dX6_addLeaning_38 (hsy.2.1 6 (by decide)) rfl rfl hi4 ?_
    refine aw_aload_n dX6_addLeaning_39 rfl 0 rfl ?_
    refine aw_dup dX6_addLeaning_40 rfl ?_
    refine aw_get dX6_addLeaning_41 hsy.1 ckX6 flX6_66 (v := .int ((sI h3 (sy + 7) (h3.1 sy 13).toNatClampNeg x3).1 sy 13)) rfl ?_
    refine aw_iconst (v := 1) dX6_addLeaning_44 (by decide) ?_
    refine aw_iadd dX6_addLeaning_45 ?_
    refine aw_putI dX6_addLeaning_46 hsy.1 ckX6 flX6_66 rfl (fun _ => rfl) rfl rfl ?_
    refine aw_toph (fun h5 eh5 => ?_)
    replace H := H h5 eh5
    exact aw_vret dX6_addLeaning_49 rfl ⟨rfl, H⟩
set_option maxRecDepth 8000 in
set_option maxHeartbeats 1000000 in
theorem bX6_bunsOf_0 {l : Launch} {ad : Nat → Nat} {d : Nat} {R : Int32 → aH → Prop} (sy : Nat) (hsy : isS GC sy) (x1 : Int32)  (h : aH)
    (H : (x1 < 0 → (R (0 : Int32) h)) ∧ (¬ x1 < 0 → (((6 : Int32) ≤ x1 → (R (0 : Int32) h)) ∧ (¬ (6 : Int32) ≤ x1 → (vp_in x1 6 ∧ (R (h.1 (sy + 3) x1.toNatClampNeg) h)))))) : AW GC l ad d mX6_bunsOf 0 [(0, .ref (ad sy)), (1, .int x1)] [] h (qi R) := by
  refine aw_iload_n dX6_bunsOf_0 rfl 1 rfl ?_
  refine aw_if_lt (tgt := 19) dX6_bunsOf_1 (by decide) (fun hc3 => ?_) (fun hc3 => ?_)
  · replace H := H.1 hc3
    refine aw_iconst (v := 0) dX6_bunsOf_19 (by decide) ?_
    exact aw_iret dX6_bunsOf_20 rfl ⟨_, rfl, H⟩
  · replace H := H.2 hc3
    refine aw_iload_n dX6_bunsOf_4 rfl 1 rfl ?_
    refine aw_bipush (v := 6) dX6_bunsOf_5 (by decide) ?_
    refine aw_icmp_ge (tgt := 19) dX6_bunsOf_7 (by decide) (fun hc2 => ?_) (fun hc2 => ?_)
    · replace H := H.1 hc2
      refine aw_iconst (v := 0) dX6_bunsOf_19 (by decide) ?_
      exact aw_iret dX6_bunsOf_20 rfl ⟨_, rfl, H⟩
    · replace H := H.2 hc2
      refine aw_aload_n dX6_bunsOf_10 rfl 0 rfl ?_
      refine aw_get dX6_bunsOf_11 hsy.1 ckX6 flX6_18 (v := .ref (ad (sy + 3))) rfl ?_
      refine aw_iload_n dX6_bunsOf_14 rfl 1 rfl ?_
      obtain ⟨hi1, H⟩ := H
      refine aw_ialdK (t0 := 0) (j := x1.toNatClampNeg) dX6_bunsOf_15 (hsy.2.1 2 (by decide)) rfl rfl hi1 ?_
      refine aw_goto (tgt := 20) dX6_bunsOf_16 (by decide) ?_
      exact aw_iret dX6_bunsOf_20 rfl ⟨_, rfl, H⟩
