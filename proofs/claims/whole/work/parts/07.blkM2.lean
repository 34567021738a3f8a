set_option maxRecDepth 8000 in
set_option maxHeartbeats 1000000 in
theorem bX10_starts_0 {adK adV : Nat → Nat} {l : Launch} {ad : Nat → Nat} {d : Nat} {R : aH → Prop}   (x1 : Int32)  (h : aH)
    (H : vp_in x1 23 ∧ (∀ h2 : aH, h2 = (sI (sI (sI h 23 x1.toNatClampNeg (0 : Int32)) 24 x1.toNatClampNeg ((sI h 23 x1.toNatClampNeg (0 : Int32)).1 2 5)) 25 x1.toNatClampNeg ((sI (sI h 23 x1.toNatClampNeg (0 : Int32)) 24 x1.toNatClampNeg ((sI h 23 x1.toNatClampNeg (0 : Int32)).1 2 5)).1 2 2)) → (AW (GM adK adV) l ad d mX10_starts 49 [(0, .ref (ad 0)), (1, .int x1), (2, .int (0 : Int32))] [] (sI h2 26 x1.toNatClampNeg (((1 : Int32) <<< ((h2.1 2 1) &&& 31)) - (1 : Int32))) (qv R)))) : AW (GM adK adV) l ad d mX10_starts 0 [(0, .ref (ad 0)), (1, .int x1)] [] h (qv R) := by
  refine aw_aload_n dX10_starts_0 rfl 0 rfl ?_
  refine aw_get dX10_starts_1 shM0 ckX10 flX10_81 (v := .ref (ad 23)) rfl ?_
  refine aw_iload_n dX10_starts_4 rfl 1 rfl ?_
  refine aw_iconst (v := 0) dX10_starts_5 (by decide) ?_
  obtain ⟨hi1, H⟩ := H
  refine aw_iastK (t0 := 0) (j := x1.toNatClampNeg) dX10_starts_6 shM23 rfl rfl hi1 ?_
  refine aw_aload_n dX10_starts_7 rfl 0 rfl ?_
  refine aw_get dX10_starts_8 shM0 ckX10 flX10_84 (v := .ref (ad 24)) rfl ?_
  refine aw_iload_n dX10_starts_11 rfl 1 rfl ?_
  refine aw_aload_n dX10_starts_12 rfl 0 rfl ?_
  refine aw_get dX10_starts_13 shM0 ckX10 flX10_13 (v := .ref (ad 2)) rfl ?_
  refine aw_iconst (v := 5) dX10_starts_16 (by decide) ?_
  refine aw_ialdK (t0 := 0) (j := 5) dX10_starts_17 shM2 rfl (by decide) (vp_inK (by decide) (by decide)) ?_
  refine aw_iastK (t0 := 0) (j := x1.toNatClampNeg) dX10_starts_18 shM24 rfl rfl hi1 ?_
  refine aw_aload_n dX10_starts_19 rfl 0 rfl ?_
  refine aw_get dX10_starts_20 shM0 ckX10 flX10_87 (v := .ref (ad 25)) rfl ?_
  refine aw_iload_n dX10_starts_23 rfl 1 rfl ?_
  refine aw_aload_n dX10_starts_24 rfl 0 rfl ?_
  refine aw_get dX10_starts_25 shM0 ckX10 flX10_13 (v := .ref (ad 2)) rfl ?_
  refine aw_iconst (v := 2) dX10_starts_28 (by decide) ?_
  refine aw_ialdK (t0 := 0) (j := 2) dX10_starts_29 shM2 rfl (by decide) (vp_inK (by decide) (by decide)) ?_
  refine aw_iastK (t0 := 0) (j := x1.toNatClampNeg) dX10_starts_30 shM25 rfl rfl hi1 ?_
  refine aw_toph (fun h2 eh2 => ?_)
  replace H := H h2 eh2
  refine aw_aload_n dX10_starts_31 rfl 0 rfl ?_
  refine aw_get dX10_starts_32 shM0 ckX10 flX10_90 (v := .ref (ad 26)) rfl ?_
  refine aw_iload_n dX10_starts_35 rfl 1 rfl ?_
  refine aw_iconst (v := 1) dX10_starts_36 (by decide) ?_
  refine aw_aload_n dX10_starts_37 rfl 0 rfl ?_
  refine aw_get dX10_starts_38 shM0 ckX10 flX10_13 (v := .ref (ad 2)) rfl ?_
  refine aw_iconst (v := 1) dX10_starts_41 (by decide) ?_
  refine aw_ialdK (t0 := 0) (j := 1) dX10_starts_42 shM2 rfl (by decide) (vp_inK (by decide) (by decide)) ?_
  refine aw_ishl dX10_starts_43 ?_
  refine aw_iconst (v := 1) dX10_starts_44 (by decide) ?_
  refine aw_isub dX10_starts_45 ?_
  refine aw_iastK (t0 := 0) (j := x1.toNatClampNeg) dX10_starts_46 shM26 rfl rfl hi1 ?_
  refine aw_iconst (v := 0) dX10_starts_47 (by decide) ?_
  refine aw_istore_n (ls' := [(2, .int (0 : Int32)), (0, .ref (ad 0)), (1, .int x1)]) dX10_starts_48 rfl (by decide) rfl ?_
  exact aw_ls [1, 2, 0] rfl H
set_option maxRecDepth 8000 in
set_option maxHeartbeats 1000000 in
theorem bX10_starts_49 {adK adV : Nat → Nat} {l : Launch} {ad : Nat → Nat} {d : Nat} {R : aH → Prop}   (x1 : Int32) (x2 : Int32)  (h : aH)
    (H : ((6 : Int32) ≤ x2 → (AW (GM adK adV) l ad d mX10_starts 94 [(0, .ref (ad 0)), (1, .int x1), (2, .int (0 : Int32))] [] h (qv R))) ∧ (¬ (6 : Int32) ≤ x2 → (((h.1 2 0) ≤ x2 → (vp_in (((6 : Int32) * x1) + x2) 138 ∧ (AW (GM adK adV) l ad d mX10_starts 49 [(0, .ref (ad 0)), (1, .int x1), (2, .int (x2 + (1 : Int32)))] [] (sI h 27 (((6 : Int32) * x1) + x2).toNatClampNeg (0 : Int32)) (qv R)))) ∧ (¬ (h.1 2 0) ≤ x2 → (vp_in x2 12 ∧ (vp_in (((6 : Int32) * x1) + x2) 138 ∧ (AW (GM adK adV) l ad d mX10_starts 49 [(0, .ref (ad 0)), (1, .int x1), (2, .int (x2 + (1 : Int32)))] [] (sI h 27 (((6 : Int32) * x1) + x2).toNatClampNeg (h.1 4 x2.toNatClampNeg)) (qv R)))))))) : AW (GM adK adV) l ad d mX10_starts 49 [(0, .ref (ad 0)), (1, .int x1), (2, .int x2)] [] h (qv R) := by
  refine aw_iload_n dX10_starts_49 rfl 2 rfl ?_
  refine aw_bipush (v := 6) dX10_starts_50 (by decide) ?_
  refine aw_icmp_ge (tgt := 92) dX10_starts_52 (by decide) (fun hc5 => ?_) (fun hc5 => ?_)
  · replace H := H.1 hc5
    refine aw_iconst (v := 0) dX10_starts_92 (by decide) ?_
    refine aw_istore_n (ls' := [(2, .int (0 : Int32)), (0, .ref (ad 0)), (1, .int x1)]) dX10_starts_93 rfl (by decide) rfl ?_
    exact aw_ls [1, 2, 0] rfl H
  · replace H := H.2 hc5
    refine aw_aload_n dX10_starts_55 rfl 0 rfl ?_
    refine aw_get dX10_starts_56 shM0 ckX10 flX10_93 (v := .ref (ad 27)) rfl ?_
    refine aw_bipush (v := 6) dX10_starts_59 (by decide) ?_
    refine aw_iload_n dX10_starts_61 rfl 1 rfl ?_
    refine aw_imul dX10_starts_62 ?_
    refine aw_iload_n dX10_starts_63 rfl 2 rfl ?_
    refine aw_iadd dX10_starts_64 ?_
    refine aw_iload_n dX10_starts_65 rfl 2 rfl ?_
    refine aw_aload_n dX10_starts_66 rfl 0 rfl ?_
    refine aw_get dX10_starts_67 shM0 ckX10 flX10_13 (v := .ref (ad 2)) rfl ?_
    refine aw_iconst (v := 0) dX10_starts_70 (by decide) ?_
    refine aw_ialdK (t0 := 0) (j := 0) dX10_starts_71 shM2 rfl (by decide) (vp_inK (by decide) (by decide)) ?_
    refine aw_icmp_ge (tgt := 84) dX10_starts_72 (by decide) (fun hc4 => ?_) (fun hc4 => ?_)
    · replace H := H.1 hc4
      refine aw_iconst (v := 0) dX10_starts_84 (by decide) ?_
      obtain ⟨hi1, H⟩ := H
      refine aw_iastK (t0 := 0) (j := (((6 : Int32) * x1) + x2).toNatClampNeg) dX10_starts_85 shM27 rfl rfl hi1 ?_
      refine aw_inc (mm := (1)) (ls' := [(2, .int (x2 + (1 : Int32))), (0, .ref (ad 0)), (1, .int x1)]) dX10_starts_86 (by decide) (j := 2) rfl (by decide) rfl ?_
      refine aw_goto (tgt := 49) dX10_starts_89 (by decide) ?_
      exact aw_ls [1, 2, 0] rfl H
    · replace H := H.2 hc4
      refine aw_aload_n dX10_starts_75 rfl 0 rfl ?_
      refine aw_get dX10_starts_76 shM0 ckX10 flX10_19 (v := .ref (ad 4)) rfl ?_
      refine aw_iload_n dX10_starts_79 rfl 2 rfl ?_
      obtain ⟨hi2, H⟩ := H
      refine aw_ialdK (t0 := 0) (j := x2.toNatClampNeg) dX10_starts_80 shM4 rfl rfl hi2 ?_
      refine aw_goto (tgt := 85) dX10_starts_81 (by decide) ?_
      obtain ⟨hi3, H⟩ := H
      refine aw_iastK (t0 := 0) (j := (((6 : Int32) * x1) + x2).toNatClampNeg) dX10_starts_85 shM27 rfl rfl hi3 ?_
      refine aw_inc (mm := (1)) (ls' := [(2, .int (x2 + (1 : Int32))), (0, .ref (ad 0)), (1, .int x1)]) dX10_starts_86 (by decide) (j := 2) rfl (by decide) rfl ?_
      refine aw_goto (tgt := 49) dX10_starts_89 (by decide) ?_
      exact aw_ls [1, 2, 0] rfl H
set_option maxRecDepth 8000 in
set_option maxHeartbeats 1000000 in
theorem bX10_starts_94 {adK adV : Nat → Nat} {l : Launch} {ad : Nat → Nat} {d : Nat} {R : aH → Prop}   (x1 : Int32) (x2 : Int32)  (h : aH)
    (H : ((6 : Int32) ≤ x2 → (AW (GM adK adV) l ad d mX10_starts 151 [(0, .ref (ad 0)), (1, .int x1), (2, .int (0 : Int32))] [] h (qv R))) ∧ (¬ (6 : Int32) ≤ x2 → (((h.1 2 1) ≤ x2 → (AW (GM adK adV) l ad d mX10_starts 130 [(0, .ref (ad 0)), (1, .int x1), (2, .int x2)] [.int (0 : Int32), .int (((6 : Int32) * x1) + x2), .ref (ad 28)] h (qv R))) ∧ (¬ (h.1 2 1) ≤ x2 → (vp_in x2 12 ∧ (AW (GM adK adV) l ad d mX10_starts 130 [(0, .ref (ad 0)), (1, .int x1), (2, .int x2)] [.int (h.1 6 x2.toNatClampNeg), .int (((6 : Int32) * x1) + x2), .ref (ad 28)] h (qv R))))))) : AW (GM adK adV) l ad d mX10_starts 94 [(0, .ref (ad 0)), (1, .int x1), (2, .int x2)] [] h (qv R) := by
  refine aw_iload_n dX10_starts_94 rfl 2 rfl ?_
  refine aw_bipush (v := 6) dX10_starts_95 (by decide) ?_
  refine aw_icmp_ge (tgt := 149) dX10_starts_97 (by decide) (fun hc3 => ?_) (fun hc3 => ?_)
  · replace H := H.1 hc3
    refine aw_iconst (v := 0) dX10_starts_149 (by decide) ?_
    refine aw_istore_n (ls' := [(2, .int (0 : Int32)), (0, .ref (ad 0)), (1, .int x1)]) dX10_starts_150 rfl (by decide) rfl ?_
    exact aw_ls [1, 2, 0] rfl H
  · replace H := H.2 hc3
    refine aw_aload_n dX10_starts_100 rfl 0 rfl ?_
    refine aw_get dX10_starts_101 shM0 ckX10 flX10_96 (v := .ref (ad 28)) rfl ?_
    refine aw_bipush (v := 6) dX10_starts_104 (by decide) ?_
    refine aw_iload_n dX10_starts_106 rfl 1 rfl ?_
    refine aw_imul dX10_starts_107 ?_
    refine aw_iload_n dX10_starts_108 rfl 2 rfl ?_
    refine aw_iadd dX10_starts_109 ?_
    refine aw_iload_n dX10_starts_110 rfl 2 rfl ?_
    refine aw_aload_n dX10_starts_111 rfl 0 rfl ?_
    refine aw_get dX10_starts_112 shM0 ckX10 flX10_13 (v := .ref (ad 2)) rfl ?_
    refine aw_iconst (v := 1) dX10_starts_115 (by decide) ?_
    refine aw_ialdK (t0 := 0) (j := 1) dX10_starts_116 shM2 rfl (by decide) (vp_inK (by decide) (by decide)) ?_
    refine aw_icmp_ge (tgt := 129) dX10_starts_117 (by decide) (fun hc2 => ?_) (fun hc2 => ?_)
    · replace H := H.1 hc2
      refine aw_iconst (v := 0) dX10_starts_129 (by decide) ?_
      exact aw_ls [0, 1, 2] rfl H
    · replace H := H.2 hc2
      refine aw_aload_n dX10_starts_120 rfl 0 rfl ?_
      refine aw_get dX10_starts_121 shM0 ckX10 flX10_25 (v := .ref (ad 6)) rfl ?_
      refine aw_iload_n dX10_starts_124 rfl 2 rfl ?_
      obtain ⟨hi1, H⟩ := H
      refine aw_ialdK (t0 := 0) (j := x2.toNatClampNeg) dX10_starts_125 shM6 rfl rfl hi1 ?_
      refine aw_goto (tgt := 130) dX10_starts_126 (by decide) ?_
      exact aw_ls [0, 1, 2] rfl H
set_option maxRecDepth 8000 in
set_option maxHeartbeats 1000000 in
theorem bX10_starts_130 {adK adV : Nat → Nat} {l : Launch} {ad : Nat → Nat} {d : Nat} {R : aH → Prop}   (x1 : Int32) (x2 : Int32) (s0 : Int32) (s1 : Int32)  (h : aH)
    (H : vp_in s1 138 ∧ (vp_in (((6 : Int32) * x1) + x2) 138 ∧ (AW (GM adK adV) l ad d mX10_starts 94 [(0, .ref (ad 0)), (1, .int x1), (2, .int (x2 + (1 : Int32)))] [] (sI (sI h 28 s1.toNatClampNeg s0) 29 (((6 : Int32) * x1) + x2).toNatClampNeg (0 : Int32)) (qv R)))) : AW (GM adK adV) l ad d mX10_starts 130 [(0, .ref (ad 0)), (1, .int x1), (2, .int x2)] [.int s0, .int s1, .ref (ad 28)] h (qv R) := by
  obtain ⟨hi1, H⟩ := H
  refine aw_iastK (t0 := 0) (j := s1.toNatClampNeg) dX10_starts_130 shM28 rfl rfl hi1 ?_
  refine aw_aload_n dX10_starts_131 rfl 0 rfl ?_
  refine aw_get dX10_starts_132 shM0 ckX10 flX10_99 (v := .ref (ad 29)) rfl ?_
  refine aw_bipush (v := 6) dX10_starts_135 (by decide) ?_
  refine aw_iload_n dX10_starts_137 rfl 1 rfl ?_
  refine aw_imul dX10_starts_138 ?_
  refine aw_iload_n dX10_starts_139 rfl 2 rfl ?_
  refine aw_iadd dX10_starts_140 ?_
  refine aw_iconst (v := 0) dX10_starts_141 (by decide) ?_
  obtain ⟨hi2, H⟩ := H
  refine aw_iastK (t0 := 0) (j := (((6 : Int32) * x1) + x2).toNatClampNeg) dX10_starts_142 shM29 rfl rfl hi2 ?_
  refine aw_inc (mm := (1)) (ls' := [(2, .int (x2 + (1 : Int32))), (0, .ref (ad 0)), (1, .int x1)]) dX10_starts_143 (by decide) (j := 2) rfl (by decide) rfl ?_
  refine aw_goto (tgt := 94) dX10_starts_146 (by decide) ?_
  exact aw_ls [1, 2, 0] rfl H
set_option maxRecDepth 8000 in
set_option maxHeartbeats 1000000 in
theorem bX10_starts_151 {adK adV : Nat → Nat} {l : Launch} {ad : Nat → Nat} {d : Nat} {R : aH → Prop}   (x1 : Int32) (x2 : Int32)  (h : aH)
    (H : ((8 : Int32) ≤ x2 → (R h)) ∧ (¬ (8 : Int32) ≤ x2 → (((h.1 2 2) ≤ x2 → (AW (GM adK adV) l ad d mX10_starts 179 [(0, .ref (ad 0)), (1, .int x1), (2, .int x2), (3, .int (((8 : Int32) * x1) + x2))] [.int (0 : Int32)] h (qv R))) ∧ (¬ (h.1 2 2) ≤ x2 → (AW (GM adK adV) l ad d mX10_starts 179 [(0, .ref (ad 0)), (1, .int x1), (2, .int x2), (3, .int (((8 : Int32) * x1) + x2))] [.int (1 : Int32)] h (qv R)))))) : AW (GM adK adV) l ad d mX10_starts 151 [(0, .ref (ad 0)), (1, .int x1), (2, .int x2)] [] h (qv R) := by
  refine aw_iload_n dX10_starts_151 rfl 2 rfl ?_
  refine aw_bipush (v := 8) dX10_starts_152 (by decide) ?_
  refine aw_icmp_ge (tgt := 306) dX10_starts_154 (by decide) (fun hc2 => ?_) (fun hc2 => ?_)
  · replace H := H.1 hc2
    exact aw_vret dX10_starts_306 rfl ⟨rfl, H⟩
  · replace H := H.2 hc2
    refine aw_bipush (v := 8) dX10_starts_157 (by decide) ?_
    refine aw_iload_n dX10_starts_159 rfl 1 rfl ?_
    refine aw_imul dX10_starts_160 ?_
    refine aw_iload_n dX10_starts_161 rfl 2 rfl ?_
    refine aw_iadd dX10_starts_162 ?_
    refine aw_istore_n (ls' := [(3, .int (((8 : Int32) * x1) + x2)), (0, .ref (ad 0)), (1, .int x1), (2, .int x2)]) dX10_starts_163 rfl (by decide) rfl ?_
    refine aw_iload_n dX10_starts_164 rfl 3 rfl ?_
    refine aw_aload_n dX10_starts_165 rfl 1 rfl ?_
    refine aw_get dX10_starts_166 shM0 ckX10 flX10_13 (v := .ref (ad 2)) rfl ?_
    refine aw_iconst (v := 2) dX10_starts_169 (by decide) ?_
    refine aw_ialdK (t0 := 0) (j := 2) dX10_starts_170 shM2 rfl (by decide) (vp_inK (by decide) (by decide)) ?_
    refine aw_icmp_ge (tgt := 178) dX10_starts_171 (by decide) (fun hc1 => ?_) (fun hc1 => ?_)
    · replace H := H.1 hc1
      refine aw_iconst (v := 0) dX10_starts_178 (by decide) ?_
      exact aw_ls [1, 2, 3, 0] rfl H
    · replace H := H.2 hc1
      refine aw_iconst (v := 1) dX10_starts_174 (by decide) ?_
      refine aw_goto (tgt := 179) dX10_starts_175 (by decide) ?_
      exact aw_ls [1, 2, 3, 0] rfl H
set_option maxRecDepth 8000 in
set_option maxHeartbeats 1000000 in
theorem bX10_starts_179 {adK adV : Nat → Nat} {l : Launch} {ad : Nat → Nat} {d : Nat} {R : aH → Prop}   (x1 : Int32) (x2 : Int32) (x3 : Int32) (s0 : Int32)  (h : aH)
    (H : (s0 = 0 → (AW (GM adK adV) l ad d mX10_starts 201 [(0, .ref (ad 0)), (1, .int x1), (2, .int x2), (3, .int x3), (4, .int s0)] [.int (0 : Int32), .int x3, .ref (ad 30)] h (qv R))) ∧ (¬ s0 = 0 → (vp_in x2 16 ∧ (AW (GM adK adV) l ad d mX10_starts 201 [(0, .ref (ad 0)), (1, .int x1), (2, .int x2), (3, .int x3), (4, .int s0)] [.int (h.1 9 x2.toNatClampNeg), .int x3, .ref (ad 30)] h (qv R))))) : AW (GM adK adV) l ad d mX10_starts 179 [(0, .ref (ad 0)), (1, .int x1), (2, .int x2), (3, .int x3)] [.int s0] h (qv R) := by
  refine aw_istore (ls' := [(4, .int s0), (0, .ref (ad 0)), (1, .int x1), (2, .int x2), (3, .int x3)]) dX10_starts_179 (by decide) rfl ?_
  refine aw_aload_n dX10_starts_181 rfl 1 rfl ?_
  refine aw_get dX10_starts_182 shM0 ckX10 flX10_102 (v := .ref (ad 30)) rfl ?_
  refine aw_iload_n dX10_starts_185 rfl 4 rfl ?_
  refine aw_iload dX10_starts_186 0 rfl ?_
  refine aw_if_eq (tgt := 200) dX10_starts_188 (by decide) (fun hc2 => ?_) (fun hc2 => ?_)
  · replace H := H.1 hc2
    refine aw_iconst (v := 0) dX10_starts_200 (by decide) ?_
    exact aw_ls [1, 2, 3, 4, 0] rfl H
  · replace H := H.2 hc2
    refine aw_aload_n dX10_starts_191 rfl 1 rfl ?_
    refine aw_get dX10_starts_192 shM0 ckX10 flX10_34 (v := .ref (ad 9)) rfl ?_
    refine aw_iload_n dX10_starts_195 rfl 3 rfl ?_
    obtain ⟨hi1, H⟩ := H
    refine aw_ialdK (t0 := 0) (j := x2.toNatClampNeg) dX10_starts_196 shM9 rfl rfl hi1 ?_
    refine aw_goto (tgt := 201) dX10_starts_197 (by decide) ?_
    exact aw_ls [1, 2, 3, 4, 0] rfl H
set_option maxRecDepth 8000 in
set_option maxHeartbeats 1000000 in
theorem bX10_starts_201 {adK adV : Nat → Nat} {l : Launch} {ad : Nat → Nat} {d : Nat} {R : aH → Prop}   (x1 : Int32) (x2 : Int32) (x3 : Int32) (x4 : Int32) (s0 : Int32) (s1 : Int32)  (h : aH)
    (H : vp_in s1 184 ∧ ((x4 = 0 → (AW (GM adK adV) l ad d mX10_starts 222 [(0, .ref (ad 0)), (1, .int x1), (2, .int x2), (3, .int x3), (4, .int x4)] [.int (0 : Int32), .int x3, .ref (ad 31)] (sI h 30 s1.toNatClampNeg s0) (qv R))) ∧ (¬ x4 = 0 → (vp_in x2 16 ∧ (AW (GM adK adV) l ad d mX10_starts 222 [(0, .ref (ad 0)), (1, .int x1), (2, .int x2), (3, .int x3), (4, .int x4)] [.int ((sI h 30 s1.toNatClampNeg s0).1 10 x2.toNatClampNeg), .int x3, .ref (ad 31)] (sI h 30 s1.toNatClampNeg s0) (qv R)))))) : AW (GM adK adV) l ad d mX10_starts 201 [(0, .ref (ad 0)), (1, .int x1), (2, .int x2), (3, .int x3), (4, .int x4)] [.int s0, .int s1, .ref (ad 30)] h (qv R) := by
  obtain ⟨hi1, H⟩ := H
  refine aw_iastK (t0 := 0) (j := s1.toNatClampNeg) dX10_starts_201 shM30 rfl rfl hi1 ?_
  refine aw_aload_n dX10_starts_202 rfl 0 rfl ?_
  refine aw_get dX10_starts_203 shM0 ckX10 flX10_105 (v := .ref (ad 31)) rfl ?_
  refine aw_iload_n dX10_starts_206 rfl 3 rfl ?_
  refine aw_iload dX10_starts_207 4 rfl ?_
  refine aw_if_eq (tgt := 221) dX10_starts_209 (by decide) (fun hc3 => ?_) (fun hc3 => ?_)
  · replace H := H.1 hc3
    refine aw_iconst (v := 0) dX10_starts_221 (by decide) ?_
    exact aw_ls [0, 1, 2, 3, 4] rfl H
  · replace H := H.2 hc3
    refine aw_aload_n dX10_starts_212 rfl 0 rfl ?_
    refine aw_get dX10_starts_213 shM0 ckX10 flX10_37 (v := .ref (ad 10)) rfl ?_
    refine aw_iload_n dX10_starts_216 rfl 2 rfl ?_
    obtain ⟨hi2, H⟩ := H
    refine aw_ialdK (t0 := 0) (j := x2.toNatClampNeg) dX10_starts_217 shM10 rfl rfl hi2 ?_
    refine aw_goto (tgt := 222) dX10_starts_218 (by decide) ?_
    exact aw_ls [0, 1, 2, 3, 4] rfl H
set_option maxRecDepth 8000 in
set_option maxHeartbeats 1000000 in
theorem bX10_starts_222 {adK adV : Nat → Nat} {l : Launch} {ad : Nat → Nat} {d : Nat} {R : aH → Prop}   (x1 : Int32) (x2 : Int32) (x3 : Int32) (x4 : Int32) (s0 : Int32) (s1 : Int32)  (h : aH)
    (H : vp_in s1 184 ∧ ((x4 = 0 → (AW (GM adK adV) l ad d mX10_starts 243 [(0, .ref (ad 0)), (1, .int x1), (2, .int x2), (3, .int x3), (4, .int x4)] [.int (0 : Int32), .int x3, .ref (ad 32)] (sI h 31 s1.toNatClampNeg s0) (qv R))) ∧ (¬ x4 = 0 → (vp_in x2 16 ∧ (AW (GM adK adV) l ad d mX10_starts 243 [(0, .ref (ad 0)), (1, .int x1), (2, .int x2), (3, .int x3), (4, .int x4)] [.int ((sI h 31 s1.toNatClampNeg s0).1 11 x2.toNatClampNeg), .int x3, .ref (ad 32)] (sI h 31 s1.toNatClampNeg s0) (qv R)))))) : AW (GM adK adV) l ad d mX10_starts 222 [(0, .ref (ad 0)), (1, .int x1), (2, .int x2), (3, .int x3), (4, .int x4)] [.int s0, .int s1, .ref (ad 31)] h (qv R) := by
  obtain ⟨hi1, H⟩ := H
  refine aw_iastK (t0 := 0) (j := s1.toNatClampNeg) dX10_starts_222 shM31 rfl rfl hi1 ?_
  refine aw_aload_n dX10_starts_223 rfl 0 rfl ?_
  refine aw_get dX10_starts_224 shM0 ckX10 flX10_108 (v := .ref (ad 32)) rfl ?_
  refine aw_iload_n dX10_starts_227 rfl 3 rfl ?_
  refine aw_iload dX10_starts_228 4 rfl ?_
  refine aw_if_eq (tgt := 242) dX10_starts_230 (by decide) (fun hc3 => ?_) (fun hc3 => ?_)
  · replace H := H.1 hc3
    refine aw_iconst (v := 0) dX10_starts_242 (by decide) ?_
    exact aw_ls [0, 1, 2, 3, 4] rfl H
  · replace H := H.2 hc3
    refine aw_aload_n dX10_starts_233 rfl 0 rfl ?_
    refine aw_get dX10_starts_234 shM0 ckX10 flX10_40 (v := .ref (ad 11)) rfl ?_
    refine aw_iload_n dX10_starts_237 rfl 2 rfl ?_
    obtain ⟨hi2, H⟩ := H
    refine aw_ialdK (t0 := 0) (j := x2.toNatClampNeg) dX10_starts_238 shM11 rfl rfl hi2 ?_
    refine aw_goto (tgt := 243) dX10_starts_239 (by decide) ?_
    exact aw_ls [0, 1, 2, 3, 4] rfl H
set_option maxRecDepth 8000 in
set_option maxHeartbeats 1000000 in
theorem bX10_starts_243 {adK adV : Nat → Nat} {l : Launch} {ad : Nat → Nat} {d : Nat} {R : aH → Prop}   (x1 : Int32) (x2 : Int32) (x3 : Int32) (x4 : Int32) (s0 : Int32) (s1 : Int32)  (h : aH)
    (H : vp_in s1 184 ∧ ((x4 = 0 → (AW (GM adK adV) l ad d mX10_starts 264 [(0, .ref (ad 0)), (1, .int x1), (2, .int x2), (3, .int x3), (4, .int x4)] [.int (0 : Int32), .int x3, .ref (ad 33)] (sI h 32 s1.toNatClampNeg s0) (qv R))) ∧ (¬ x4 = 0 → (vp_in x2 16 ∧ (AW (GM adK adV) l ad d mX10_starts 264 [(0, .ref (ad 0)), (1, .int x1), (2, .int x2), (3, .int x3), (4, .int x4)] [.int ((sI h 32 s1.toNatClampNeg s0).1 12 x2.toNatClampNeg), .int x3, .ref (ad 33)] (sI h 32 s1.toNatClampNeg s0) (qv R)))))) : AW (GM adK adV) l ad d mX10_starts 243 [(0, .ref (ad 0)), (1, .int x1), (2, .int x2), (3, .int x3), (4, .int x4)] [.int s0, .int s1, .ref (ad 32)] h (qv R) := by
  obtain ⟨hi1, H⟩ := H
  refine aw_iastK (t0 := 0) (j := s1.toNatClampNeg) dX10_starts_243 shM32 rfl rfl hi1 ?_
  refine aw_aload_n dX10_starts_244 rfl 0 rfl ?_
  refine aw_get dX10_starts_245 shM0 ckX10 flX10_111 (v := .ref (ad 33)) rfl ?_
  refine aw_iload_n dX10_starts_248 rfl 3 rfl ?_
  refine aw_iload dX10_starts_249 4 rfl ?_
  refine aw_if_eq (tgt := 263) dX10_starts_251 (by decide) (fun hc3 => ?_) (fun hc3 => ?_)
  · replace H := H.1 hc3
    refine aw_iconst (v := 0) dX10_starts_263 (by decide) ?_
    exact aw_ls [0, 1, 2, 3, 4] rfl H
  · replace H := H.2 hc3
    refine aw_aload_n dX10_starts_254 rfl 0 rfl ?_
    refine aw_get dX10_starts_255 shM0 ckX10 flX10_43 (v := .ref (ad 12)) rfl ?_
    refine aw_iload_n dX10_starts_258 rfl 2 rfl ?_
    obtain ⟨hi2, H⟩ := H
    refine aw_ialdK (t0 := 0) (j := x2.toNatClampNeg) dX10_starts_259 shM12 rfl rfl hi2 ?_
    refine aw_goto (tgt := 264) dX10_starts_260 (by decide) ?_
    exact aw_ls [0, 1, 2, 3, 4] rfl H
set_option maxRecDepth 8000 in
set_option maxHeartbeats 1000000 in
theorem bX10_starts_264 {adK adV : Nat → Nat} {l : Launch} {ad : Nat → Nat} {d : Nat} {R : aH → Prop}   (x1 : Int32) (x2 : Int32) (x3 : Int32) (x4 : Int32) (s0 : Int32) (s1 : Int32)  (h : aH)
    (H : vp_in s1 184 ∧ ((x4 = 0 → (AW (GM adK adV) l ad d mX10_starts 285 [(0, .ref (ad 0)), (1, .int x1), (2, .int x2), (3, .int x3)] [.int (0 : Int32), .int x3, .ref (ad 34)] (sI h 33 s1.toNatClampNeg s0) (qv R))) ∧ (¬ x4 = 0 → (vp_in x2 16 ∧ (AW (GM adK adV) l ad d mX10_starts 285 [(0, .ref (ad 0)), (1, .int x1), (2, .int x2), (3, .int x3)] [.int ((sI h 33 s1.toNatClampNeg s0).1 13 x2.toNatClampNeg), .int x3, .ref (ad 34)] (sI h 33 s1.toNatClampNeg s0) (qv R)))))) : AW (GM adK adV) l ad d mX10_starts 264 [(0, .ref (ad 0)), (1, .int x1), (2, .int x2), (3, .int x3), (4, .int x4)] [.int s0, .int s1, .ref (ad 33)] h (qv R) := by
  obtain ⟨hi1, H⟩ := H
  refine aw_iastK (t0 := 0) (j := s1.toNatClampNeg) dX10_starts_264 shM33 rfl rfl hi1 ?_
  refine aw_aload_n dX10_starts_265 rfl 0 rfl ?_
  refine aw_get dX10_starts_266 shM0 ckX10 flX10_114 (v := .ref (ad 34)) rfl ?_
  refine aw_iload_n dX10_starts_269 rfl 3 rfl ?_
  refine aw_iload dX10_starts_270 4 rfl ?_
  refine aw_if_eq (tgt := 284) dX10_starts_272 (by decide) (fun hc3 => ?_) (fun hc3 => ?_)
  · replace H := H.1 hc3
    refine aw_iconst (v := 0) dX10_starts_284 (by decide) ?_
    exact aw_ls [0, 1, 2, 3] rfl H
  · replace H := H.2 hc3
    refine aw_aload_n dX10_starts_275 rfl 0 rfl ?_
    refine aw_get dX10_starts_276 shM0 ckX10 flX10_46 (v := .ref (ad 13)) rfl ?_
    refine aw_iload_n dX10_starts_279 rfl 2 rfl ?_
    obtain ⟨hi2, H⟩ := H
    refine aw_ialdK (t0 := 0) (j := x2.toNatClampNeg) dX10_starts_280 shM13 rfl rfl hi2 ?_
    refine aw_goto (tgt := 285) dX10_starts_281 (by decide) ?_
    exact aw_ls [0, 1, 2, 3] rfl H
set_option maxRecDepth 8000 in
set_option maxHeartbeats 1000000 in
theorem bX10_starts_285 {adK adV : Nat → Nat} {l : Launch} {ad : Nat → Nat} {d : Nat} {R : aH → Prop}   (x1 : Int32) (x2 : Int32) (x3 : Int32) (s0 : Int32) (s1 : Int32)  (h : aH)
    (H : vp_in s1 184 ∧ (vp_in x3 184 ∧ (AW (GM adK adV) l ad d mX10_starts 151 [(0, .ref (ad 0)), (1, .int x1), (2, .int (x2 + (1 : Int32)))] [] (sI (sI (sI h 34 s1.toNatClampNeg s0) 35 x3.toNatClampNeg (0 : Int32)) 36 x3.toNatClampNeg (0 : Int32)) (qv R)))) : AW (GM adK adV) l ad d mX10_starts 285 [(0, .ref (ad 0)), (1, .int x1), (2, .int x2), (3, .int x3)] [.int s0, .int s1, .ref (ad 34)] h (qv R) := by
  obtain ⟨hi1, H⟩ := H
  refine aw_iastK (t0 := 0) (j := s1.toNatClampNeg) dX10_starts_285 shM34 rfl rfl hi1 ?_
  refine aw_aload_n dX10_starts_286 rfl 0 rfl ?_
  refine aw_get dX10_starts_287 shM0 ckX10 flX10_117 (v := .ref (ad 35)) rfl ?_
  refine aw_iload_n dX10_starts_290 rfl 3 rfl ?_
  refine aw_iconst (v := 0) dX10_starts_291 (by decide) ?_
  obtain ⟨hi2, H⟩ := H
  refine aw_iastK (t0 := 0) (j := x3.toNatClampNeg) dX10_starts_292 shM35 rfl rfl hi2 ?_
  refine aw_aload_n dX10_starts_293 rfl 0 rfl ?_
  refine aw_get dX10_starts_294 shM0 ckX10 flX10_120 (v := .ref (ad 36)) rfl ?_
  refine aw_iload_n dX10_starts_297 rfl 3 rfl ?_
  refine aw_iconst (v := 0) dX10_starts_298 (by decide) ?_
  refine aw_iastK (t0 := 0) (j := x3.toNatClampNeg) dX10_starts_299 shM36 rfl rfl hi2 ?_
  refine aw_inc (mm := (1)) (ls' := [(2, .int (x2 + (1 : Int32))), (0, .ref (ad 0)), (1, .int x1), (3, .int x3)]) dX10_starts_300 (by decide) (j := 2) rfl (by decide) rfl ?_
  refine aw_goto (tgt := 151) dX10_starts_303 (by decide) ?_
  exact aw_ls [1, 2, 0] rfl H
set_option maxRecDepth 8000 in
set_option maxHeartbeats 1000000 in
theorem bX10_begins_0 {adK adV : Nat → Nat} {l : Launch} {ad : Nat → Nat} {d : Nat} {R : aH → Prop}     (h : aH)
    (H : AW (GM adK adV) l ad d mX10_starts 0 [(0, .ref (ad 0)), (1, .int (0 : Int32))] [] h (qv fun h1 => R h1)) : AW (GM adK adV) l ad (d + 1) mX10_begins 0 [(0, .ref (ad 0))] [] h (qv R) := by
  refine aw_aload_n dX10_begins_0 rfl 0 rfl ?_
  refine aw_iconst (v := 0) dX10_begins_1 (by decide) ?_
  refine cvX10_starts dX10_begins_2 mlX10_355 shM0 (Nat.le_of_ble_eq_true rfl) H (fun h1 H => ?_)
  exact aw_vret dX10_begins_5 rfl ⟨rfl, H⟩
set_option maxRecDepth 8000 in
set_option maxHeartbeats 1000000 in
theorem bX10_copies_0 {adK adV : Nat → Nat} {l : Launch} {ad : Nat → Nat} {d : Nat} {R : aH → Prop}   (x1 : Int32) (x2 : Int32)  (h : aH)
    (H : vp_in x2 23 ∧ (vp_in x1 23 ∧ (∀ h3 : aH, h3 = (sI (sI h 23 x1.toNatClampNeg (h.1 23 x2.toNatClampNeg)) 24 x1.toNatClampNeg ((sI h 23 x1.toNatClampNeg (h.1 23 x2.toNatClampNeg)).1 24 x2.toNatClampNeg)) → (∀ h4 : aH, h4 = (sI (sI h3 25 x1.toNatClampNeg (h3.1 25 x2.toNatClampNeg)) 26 x1.toNatClampNeg ((sI h3 25 x1.toNatClampNeg (h3.1 25 x2.toNatClampNeg)).1 26 x2.toNatClampNeg)) → (AW (GM adK adV) l ad d mX10_copies 50 [(0, .ref (ad 0)), (1, .int x1), (2, .int x2), (3, .int (0 : Int32))] [] h4 (qv R)))))) : AW (GM adK adV) l ad d mX10_copies 0 [(0, .ref (ad 0)), (1, .int x1), (2, .int x2)] [] h (qv R) := by
  refine aw_aload_n dX10_copies_0 rfl 0 rfl ?_
  refine aw_get dX10_copies_1 shM0 ckX10 flX10_81 (v := .ref (ad 23)) rfl ?_
  refine aw_iload_n dX10_copies_4 rfl 1 rfl ?_
  refine aw_aload_n dX10_copies_5 rfl 0 rfl ?_
  refine aw_get dX10_copies_6 shM0 ckX10 flX10_81 (v := .ref (ad 23)) rfl ?_
  refine aw_iload_n dX10_copies_9 rfl 2 rfl ?_
  obtain ⟨hi1, H⟩ := H
  refine aw_ialdK (t0 := 0) (j := x2.toNatClampNeg) dX10_copies_10 shM23 rfl rfl hi1 ?_
  obtain ⟨hi2, H⟩ := H
  refine aw_iastK (t0 := 0) (j := x1.toNatClampNeg) dX10_copies_11 shM23 rfl rfl hi2 ?_
  refine aw_aload_n dX10_copies_12 rfl 0 rfl ?_
  refine aw_get dX10_copies_13 shM0 ckX10 flX10_84 (v := .ref (ad 24)) rfl ?_
  refine aw_iload_n dX10_copies_16 rfl 1 rfl ?_
  refine aw_aload_n dX10_copies_17 rfl 0 rfl ?_
  refine aw_get dX10_copies_18 shM0 ckX10 flX10_84 (v := .ref (ad 24)) rfl ?_
  refine aw_iload_n dX10_copies_21 rfl 2 rfl ?_
  refine aw_ialdK (t0 := 0) (j := x2.toNatClampNeg) dX10_copies_22 shM24 rfl rfl hi1 ?_
  refine aw_iastK (t0 := 0) (j := x1.toNatClampNeg) dX10_copies_23 shM24 rfl rfl hi2 ?_
  refine aw_toph (fun h3 eh3 => ?_)
  replace H := H h3 eh3
  refine aw_aload_n dX10_copies_24 rfl 0 rfl ?_
  refine aw_get dX10_copies_25 shM0 ckX10 flX10_87 (v := .ref (ad 25)) rfl ?_
  refine aw_iload_n dX10_copies_28 rfl 1 rfl ?_
  refine aw_aload_n dX10_copies_29 rfl 0 rfl ?_
  refine aw_get dX10_copies_30 shM0 ckX10 flX10_87 (v := .ref (ad 25)) rfl ?_
  refine aw_iload_n dX10_copies_33 rfl 2 rfl ?_
  refine aw_ialdK (t0 := 0) (j := x2.toNatClampNeg) dX10_copies_34 shM25 rfl rfl hi1 ?_
  refine aw_iastK (t0 := 0) (j := x1.toNatClampNeg) dX10_copies_35 shM25 rfl rfl hi2 ?_
  refine aw_aload_n dX10_copies_36 rfl 0 rfl ?_
  refine aw_get dX10_copies_37 shM0 ckX10 flX10_90 (v := .ref (ad 26)) rfl ?_
  refine aw_iload_n dX10_copies_40 rfl 1 rfl ?_
  refine aw_aload_n dX10_copies_41 rfl 0 rfl ?_
  refine aw_get dX10_copies_42 shM0 ckX10 flX10_90 (v := .ref (ad 26)) rfl ?_
  refine aw_iload_n dX10_copies_45 rfl 2 rfl ?_
  refine aw_ialdK (t0 := 0) (j := x2.toNatClampNeg) dX10_copies_46 shM26 rfl rfl hi1 ?_
  refine aw_iastK (t0 := 0) (j := x1.toNatClampNeg) dX10_copies_47 shM26 rfl rfl hi2 ?_
  refine aw_toph (fun h4 eh4 => ?_)
  replace H := H h4 eh4
  refine aw_iconst (v := 0) dX10_copies_48 (by decide) ?_
  refine aw_istore_n (ls' := [(3, .int (0 : Int32)), (0, .ref (ad 0)), (1, .int x1), (2, .int x2)]) dX10_copies_49 rfl (by decide) rfl ?_
  exact aw_ls [1, 2, 3, 0] rfl H
set_option maxRecDepth 8000 in
set_option maxHeartbeats 1000000 in
theorem bX10_copies_50 {adK adV : Nat → Nat} {l : Launch} {ad : Nat → Nat} {d : Nat} {R : aH → Prop}   (x1 : Int32) (x2 : Int32) (x3 : Int32)  (h : aH)
    (H : ((6 : Int32) ≤ x3 → (AW (GM adK adV) l ad d mX10_copies 86 [(0, .ref (ad 0)), (1, .int x1), (2, .int x2), (3, .int (0 : Int32))] [] h (qv R))) ∧ (¬ (6 : Int32) ≤ x3 → (vp_in (((6 : Int32) * x2) + x3) 138 ∧ (vp_in (((6 : Int32) * x1) + x3) 138 ∧ (AW (GM adK adV) l ad d mX10_copies 50 [(0, .ref (ad 0)), (1, .int x1), (2, .int x2), (3, .int (x3 + (1 : Int32)))] [] (sI h 27 (((6 : Int32) * x1) + x3).toNatClampNeg (h.1 27 (((6 : Int32) * x2) + x3).toNatClampNeg)) (qv R)))))) : AW (GM adK adV) l ad d mX10_copies 50 [(0, .ref (ad 0)), (1, .int x1), (2, .int x2), (3, .int x3)] [] h (qv R) := by
  refine aw_iload_n dX10_copies_50 rfl 3 rfl ?_
  refine aw_bipush (v := 6) dX10_copies_51 (by decide) ?_
  refine aw_icmp_ge (tgt := 84) dX10_copies_53 (by decide) (fun hc3 => ?_) (fun hc3 => ?_)
  · replace H := H.1 hc3
    refine aw_iconst (v := 0) dX10_copies_84 (by decide) ?_
    refine aw_istore_n (ls' := [(3, .int (0 : Int32)), (0, .ref (ad 0)), (1, .int x1), (2, .int x2)]) dX10_copies_85 rfl (by decide) rfl ?_
    exact aw_ls [1, 2, 3, 0] rfl H
  · replace H := H.2 hc3
    refine aw_aload_n dX10_copies_56 rfl 0 rfl ?_
    refine aw_get dX10_copies_57 shM0 ckX10 flX10_93 (v := .ref (ad 27)) rfl ?_
    refine aw_bipush (v := 6) dX10_copies_60 (by decide) ?_
    refine aw_iload_n dX10_copies_62 rfl 1 rfl ?_
    refine aw_imul dX10_copies_63 ?_
    refine aw_iload_n dX10_copies_64 rfl 3 rfl ?_
    refine aw_iadd dX10_copies_65 ?_
    refine aw_aload_n dX10_copies_66 rfl 0 rfl ?_
    refine aw_get dX10_copies_67 shM0 ckX10 flX10_93 (v := .ref (ad 27)) rfl ?_
    refine aw_bipush (v := 6) dX10_copies_70 (by decide) ?_
    refine aw_iload_n dX10_copies_72 rfl 2 rfl ?_
    refine aw_imul dX10_copies_73 ?_
    refine aw_iload_n dX10_copies_74 rfl 3 rfl ?_
    refine aw_iadd dX10_copies_75 ?_
    obtain ⟨hi1, H⟩ := H
    refine aw_ialdK (t0 := 0) (j := (((6 : Int32) * x2) + x3).toNatClampNeg) dX10_copies_76 shM27 rfl rfl hi1 ?_
    obtain ⟨hi2, H⟩ := H
    refine aw_iastK (t0 := 0) (j := (((6 : Int32) * x1) + x3).toNatClampNeg) dX10_copies_77 shM27 rfl rfl hi2 ?_
    refine aw_inc (mm := (1)) (ls' := [(3, .int (x3 + (1 : Int32))), (0, .ref (ad 0)), (1, .int x1), (2, .int x2)]) dX10_copies_78 (by decide) (j := 3) rfl (by decide) rfl ?_
    refine aw_goto (tgt := 50) dX10_copies_81 (by decide) ?_
    exact aw_ls [1, 2, 3, 0] rfl H
set_option maxRecDepth 8000 in
set_option maxHeartbeats 1000000 in
theorem bX10_copies_86 {adK adV : Nat → Nat} {l : Launch} {ad : Nat → Nat} {d : Nat} {R : aH → Prop}   (x1 : Int32) (x2 : Int32) (x3 : Int32)  (h : aH)
    (H : ((6 : Int32) ≤ x3 → (AW (GM adK adV) l ad d mX10_copies 144 [(0, .ref (ad 0)), (1, .int x1), (2, .int x2), (3, .int (0 : Int32))] [] h (qv R))) ∧ (¬ (6 : Int32) ≤ x3 → (vp_in (((6 : Int32) * x2) + x3) 138 ∧ (vp_in (((6 : Int32) * x1) + x3) 138 ∧ (∀ h3 : aH, h3 = (sI (sI h 28 (((6 : Int32) * x1) + x3).toNatClampNeg (h.1 28 (((6 : Int32) * x2) + x3).toNatClampNeg)) 29 (((6 : Int32) * x1) + x3).toNatClampNeg ((sI h 28 (((6 : Int32) * x1) + x3).toNatClampNeg (h.1 28 (((6 : Int32) * x2) + x3).toNatClampNeg)).1 29 (((6 : Int32) * x2) + x3).toNatClampNeg)) → (AW (GM adK adV) l ad d mX10_copies 86 [(0, .ref (ad 0)), (1, .int x1), (2, .int x2), (3, .int (x3 + (1 : Int32)))] [] h3 (qv R))))))) : AW (GM adK adV) l ad d mX10_copies 86 [(0, .ref (ad 0)), (1, .int x1), (2, .int x2), (3, .int x3)] [] h (qv R) := by
  refine aw_iload_n dX10_copies_86 rfl 3 rfl ?_
  refine aw_bipush (v := 6) dX10_copies_87 (by decide) ?_
  refine aw_icmp_ge (tgt := 142) dX10_copies_89 (by decide) (fun hc4 => ?_) (fun hc4 => ?_)
  · replace H := H.1 hc4
    refine aw_iconst (v := 0) dX10_copies_142 (by decide) ?_
    refine aw_istore_n (ls' := [(3, .int (0 : Int32)), (0, .ref (ad 0)), (1, .int x1), (2, .int x2)]) dX10_copies_143 rfl (by decide) rfl ?_
    exact aw_ls [1, 2, 3, 0] rfl H
  · replace H := H.2 hc4
    refine aw_aload_n dX10_copies_92 rfl 0 rfl ?_
    refine aw_get dX10_copies_93 shM0 ckX10 flX10_96 (v := .ref (ad 28)) rfl ?_
    refine aw_bipush (v := 6) dX10_copies_96 (by decide) ?_
    refine aw_iload_n dX10_copies_98 rfl 1 rfl ?_
    refine aw_imul dX10_copies_99 ?_
    refine aw_iload_n dX10_copies_100 rfl 3 rfl ?_
    refine aw_iadd dX10_copies_101 ?_
    refine aw_aload_n dX10_copies_102 rfl 0 rfl ?_
    refine aw_get dX10_copies_103 shM0 ckX10 flX10_96 (v := .ref (ad 28)) rfl ?_
    refine aw_bipush (v := 6) dX10_copies_106 (by decide) ?_
    refine aw_iload_n dX10_copies_108 rfl 2 rfl ?_
    refine aw_imul dX10_copies_109 ?_
    refine aw_iload_n dX10_copies_110 rfl 3 rfl ?_
    refine aw_iadd dX10_copies_111 ?_
    obtain ⟨hi1, H⟩ := H
    refine aw_ialdK (t0 := 0) (j := (((6 : Int32) * x2) + x3).toNatClampNeg) dX10_copies_112 shM28 rfl rfl hi1 ?_
    obtain ⟨hi2, H⟩ := H
    refine aw_iastK (t0 := 0) (j := (((6 : Int32) * x1) + x3).toNatClampNeg) dX10_copies_113 shM28 rfl rfl hi2 ?_
    refine aw_aload_n dX10_copies_114 rfl 0 rfl ?_
    refine aw_get dX10_copies_115 shM0 ckX10 flX10_99 (v := .ref (ad 29)) rfl ?_
    refine aw_bipush (v := 6) dX10_copies_118 (by decide) ?_
    refine aw_iload_n dX10_copies_120 rfl 1 rfl ?_
    refine aw_imul dX10_copies_121 ?_
    refine aw_iload_n dX10_copies_122 rfl 3 rfl ?_
    refine aw_iadd dX10_copies_123 ?_
    refine aw_aload_n dX10_copies_124 rfl 0 rfl ?_
    refine aw_get dX10_copies_125 shM0 ckX10 flX10_99 (v := .ref (ad 29)) rfl ?_
    refine aw_bipush (v := 6) dX10_copies_128 (by decide) ?_
    refine aw_iload_n dX10_copies_130 rfl 2 rfl ?_
    refine aw_imul dX10_copies_131 ?_
    refine aw_iload_n dX10_copies_132 rfl 3 rfl ?_
    refine aw_iadd dX10_copies_133 ?_
    refine aw_ialdK (t0 := 0) (j := (((6 : Int32) * x2) + x3).toNatClampNeg) dX10_copies_134 shM29 rfl rfl hi1 ?_
    refine aw_iastK (t0 := 0) (j := (((6 : Int32) * x1) + x3).toNatClampNeg) dX10_copies_135 shM29 rfl rfl hi2 ?_
    refine aw_toph (fun h3 eh3 => ?_)
    replace H := H h3 eh3
    refine aw_inc (mm := (1)) (ls' := [(3, .int (x3 + (1 : Int32))), (0, .ref (ad 0)), (1, .int x1), (2, .int x2)]) dX10_copies_136 (by decide) (j := 3) rfl (by decide) rfl ?_
    refine aw_goto (tgt := 86) dX10_copies_139 (by decide) ?_
    exact aw_ls [1, 2, 3, 0] rfl H
set_option maxRecDepth 8000 in
set_option maxHeartbeats 1000000 in
theorem bX10_copies_144 {adK adV : Nat → Nat} {l : Launch} {ad : Nat → Nat} {d : Nat} {R : aH → Prop}   (x1 : Int32) (x2 : Int32) (x3 : Int32)  (h : aH)
    (H : ((8 : Int32) ≤ x3 → (R h)) ∧ (¬ (8 : Int32) ≤ x3 → (vp_in (((8 : Int32) * x2) + x3) 184 ∧ (vp_in (((8 : Int32) * x1) + x3) 184 ∧ (∀ h3 : aH, h3 = (sI (sI h 30 (((8 : Int32) * x1) + x3).toNatClampNeg (h.1 30 (((8 : Int32) * x2) + x3).toNatClampNeg)) 31 (((8 : Int32) * x1) + x3).toNatClampNeg ((sI h 30 (((8 : Int32) * x1) + x3).toNatClampNeg (h.1 30 (((8 : Int32) * x2) + x3).toNatClampNeg)).1 31 (((8 : Int32) * x2) + x3).toNatClampNeg)) → (∀ h4 : aH, h4 = (sI (sI h3 32 (((8 : Int32) * x1) + x3).toNatClampNeg (h3.1 32 (((8 : Int32) * x2) + x3).toNatClampNeg)) 33 (((8 : Int32) * x1) + x3).toNatClampNeg ((sI h3 32 (((8 : Int32) * x1) + x3).toNatClampNeg (h3.1 32 (((8 : Int32) * x2) + x3).toNatClampNeg)).1 33 (((8 : Int32) * x2) + x3).toNatClampNeg)) → (∀ h5 : aH, h5 = (sI (sI h4 34 (((8 : Int32) * x1) + x3).toNatClampNeg (h4.1 34 (((8 : Int32) * x2) + x3).toNatClampNeg)) 35 (((8 : Int32) * x1) + x3).toNatClampNeg ((sI h4 34 (((8 : Int32) * x1) + x3).toNatClampNeg (h4.1 34 (((8 : Int32) * x2) + x3).toNatClampNeg)).1 35 (((8 : Int32) * x2) + x3).toNatClampNeg)) → (AW (GM adK adV) l ad d mX10_copies 144 [(0, .ref (ad 0)), (1, .int x1), (2, .int x2), (3, .int (x3 + (1 : Int32)))] [] (sI h5 36 (((8 : Int32) * x1) + x3).toNatClampNeg (h5.1 36 (((8 : Int32) * x2) + x3).toNatClampNeg)) (qv R))))))))) : AW (GM adK adV) l ad d mX10_copies 144 [(0, .ref (ad 0)), (1, .int x1), (2, .int x2), (3, .int x3)] [] h (qv R) := by
  refine aw_iload_n dX10_copies_144 rfl 3 rfl ?_
  refine aw_bipush (v := 8) dX10_copies_145 (by decide) ?_
  refine aw_icmp_ge (tgt := 270) dX10_copies_147 (by decide) (fun hc6 => ?_) (fun hc6 => ?_)
  · replace H := H.1 hc6
    exact aw_vret dX10_copies_270 rfl ⟨rfl, H⟩
  · replace H := H.2 hc6
    refine aw_bipush (v := 8) dX10_copies_150 (by decide) ?_
    refine aw_iload_n dX10_copies_152 rfl 1 rfl ?_
    refine aw_imul dX10_copies_153 ?_
    refine aw_iload_n dX10_copies_154 rfl 3 rfl ?_
    refine aw_iadd dX10_copies_155 ?_
    refine aw_istore (ls' := [(4, .int (((8 : Int32) * x1) + x3)), (0, .ref (ad 0)), (1, .int x1), (2, .int x2), (3, .int x3)]) dX10_copies_156 (by decide) rfl ?_
    refine aw_bipush (v := 8) dX10_copies_158 (by decide) ?_
    refine aw_iload_n dX10_copies_160 rfl 3 rfl ?_
    refine aw_imul dX10_copies_161 ?_
    refine aw_iload_n dX10_copies_162 rfl 4 rfl ?_
    refine aw_iadd dX10_copies_163 ?_
    refine aw_istore (ls' := [(5, .int (((8 : Int32) * x2) + x3)), (4, .int (((8 : Int32) * x1) + x3)), (0, .ref (ad 0)), (1, .int x1), (2, .int x2), (3, .int x3)]) dX10_copies_164 (by decide) rfl ?_
    refine aw_aload_n dX10_copies_166 rfl 2 rfl ?_
    refine aw_get dX10_copies_167 shM0 ckX10 flX10_102 (v := .ref (ad 30)) rfl ?_
    refine aw_iload dX10_copies_170 1 rfl ?_
    refine aw_aload_n dX10_copies_172 rfl 2 rfl ?_
    refine aw_get dX10_copies_173 shM0 ckX10 flX10_102 (v := .ref (ad 30)) rfl ?_
    refine aw_iload dX10_copies_176 0 rfl ?_
    obtain ⟨hi1, H⟩ := H
    refine aw_ialdK (t0 := 0) (j := (((8 : Int32) * x2) + x3).toNatClampNeg) dX10_copies_178 shM30 rfl rfl hi1 ?_
    obtain ⟨hi2, H⟩ := H
    refine aw_iastK (t0 := 0) (j := (((8 : Int32) * x1) + x3).toNatClampNeg) dX10_copies_179 shM30 rfl rfl hi2 ?_
    refine aw_aload_n dX10_copies_180 rfl 2 rfl ?_
    refine aw_get dX10_copies_181 shM0 ckX10 flX10_105 (v := .ref (ad 31)) rfl ?_
    refine aw_iload dX10_copies_184 1 rfl ?_
    refine aw_aload_n dX10_copies_186 rfl 2 rfl ?_
    refine aw_get dX10_copies_187 shM0 ckX10 flX10_105 (v := .ref (ad 31)) rfl ?_
    refine aw_iload dX10_copies_190 0 rfl ?_
    refine aw_ialdK (t0 := 0) (j := (((8 : Int32) * x2) + x3).toNatClampNeg) dX10_copies_192 shM31 rfl rfl hi1 ?_
    refine aw_iastK (t0 := 0) (j := (((8 : Int32) * x1) + x3).toNatClampNeg) dX10_copies_193 shM31 rfl rfl hi2 ?_
    refine aw_toph (fun h3 eh3 => ?_)
    replace H := H h3 eh3
    refine aw_aload_n dX10_copies_194 rfl 2 rfl ?_
    refine aw_get dX10_copies_195 shM0 ckX10 flX10_108 (v := .ref (ad 32)) rfl ?_
    refine aw_iload dX10_copies_198 1 rfl ?_
    refine aw_aload_n dX10_copies_200 rfl 2 rfl ?_
    refine aw_get dX10_copies_201 shM0 ckX10 flX10_108 (v := .ref (ad 32)) rfl ?_
    refine aw_iload dX10_copies_204 0 rfl ?_
    refine aw_ialdK (t0 := 0) (j := (((8 : Int32) * x2) + x3).toNatClampNeg) dX10_copies_206 shM32 rfl rfl hi1 ?_
    refine aw_iastK (t0 := 0) (j := (((8 : Int32) * x1) + x3).toNatClampNeg) dX10_copies_207 shM32 rfl rfl hi2 ?_
    refine aw_aload_n dX10_copies_208 rfl 2 rfl ?_
    refine aw_get dX10_copies_209 shM0 ckX10 flX10_111 (v := .ref (ad 33)) rfl ?_
    refine aw_iload dX10_copies_212 1 rfl ?_
    refine aw_aload_n dX10_copies_214 rfl 2 rfl ?_
    refine aw_get dX10_copies_215 shM0 ckX10 flX10_111 (v := .ref (ad 33)) rfl ?_
    refine aw_iload dX10_copies_218 0 rfl ?_
    refine aw_ialdK (t0 := 0) (j := (((8 : Int32) * x2) + x3).toNatClampNeg) dX10_copies_220 shM33 rfl rfl hi1 ?_
    refine aw_iastK (t0 := 0) (j := (((8 : Int32) * x1) + x3).toNatClampNeg) dX10_copies_221 shM33 rfl rfl hi2 ?_
    refine aw_toph (fun h4 eh4 => ?_)
    replace H := H h4 eh4
    refine aw_aload_n dX10_copies_222 rfl 2 rfl ?_
    refine aw_get dX10_copies_223 shM0 ckX10 flX10_114 (v := .ref (ad 34)) rfl ?_
    refine aw_iload dX10_copies_226 1 rfl ?_
    refine aw_aload_n dX10_copies_228 rfl 2 rfl ?_
    refine aw_get dX10_copies_229 shM0 ckX10 flX10_114 (v := .ref (ad 34)) rfl ?_
    refine aw_iload dX10_copies_232 0 rfl ?_
    refine aw_ialdK (t0 := 0) (j := (((8 : Int32) * x2) + x3).toNatClampNeg) dX10_copies_234 shM34 rfl rfl hi1 ?_
    refine aw_iastK (t0 := 0) (j := (((8 : Int32) * x1) + x3).toNatClampNeg) dX10_copies_235 shM34 rfl rfl hi2 ?_
    refine aw_aload_n dX10_copies_236 rfl 2 rfl ?_
    refine aw_get dX10_copies_237 shM0 ckX10 flX10_117 (v := .ref (ad 35)) rfl ?_
    refine aw_iload dX10_copies_240 1 rfl ?_
    refine aw_aload_n dX10_copies_242 rfl 2 rfl ?_
    refine aw_get dX10_copies_243 shM0 ckX10 flX10_117 (v := .ref (ad 35)) rfl ?_
    refine aw_iload dX10_copies_246 0 rfl ?_
    refine aw_ialdK (t0 := 0) (j := (((8 : Int32) * x2) + x3).toNatClampNeg) dX10_copies_248 shM35 rfl rfl hi1 ?_
    refine aw_iastK (t0 := 0) (j := (((8 : Int32) * x1) + x3).toNatClampNeg) dX10_copies_249 shM35 rfl rfl hi2 ?_
    refine aw_toph (fun h5 eh5 => ?_)
    replace H := H h5 eh5
    refine aw_aload_n dX10_copies_250 rfl 2 rfl ?_
    refine aw_get dX10_copies_251 shM0 ckX10 flX10_120 (v := .ref (ad 36)) rfl ?_
    refine aw_iload dX10_copies_254 1 rfl ?_
    refine aw_aload_n dX10_copies_256 rfl 2 rfl ?_
    refine aw_get dX10_copies_257 shM0 ckX10 flX10_120 (v := .ref (ad 36)) rfl ?_
    refine aw_iload dX10_copies_260 0 rfl ?_
    refine aw_ialdK (t0 := 0) (j := (((8 : Int32) * x2) + x3).toNatClampNeg) dX10_copies_262 shM36 rfl rfl hi1 ?_
    refine aw_iastK (t0 := 0) (j := (((8 : Int32) * x1) + x3).toNatClampNeg) dX10_copies_263 shM36 rfl rfl hi2 ?_
    refine aw_inc (mm := (1)) (ls' := [(3, .int (x3 + (1 : Int32))), (5, .int (((8 : Int32) * x2) + x3)), (4, .int (((8 : Int32) * x1) + x3)), (0, .ref (ad 0)), (1, .int x1), (2, .int x2)]) dX10_copies_264 (by decide) (j := 5) rfl (by decide) rfl ?_
    refine aw_goto (tgt := 144) dX10_copies_267 (by decide) ?_
    exact aw_ls [3, 4, 5, 0] rfl H
set_option maxRecDepth 8000 in
set_option maxHeartbeats 1000000 in
theorem bX10_isMan_0 {adK adV : Nat → Nat} {l : Launch} {ad : Nat → Nat} {d : Nat} {R : Int32 → aH → Prop}   (x1 : Int32)  (h : aH)
    (H : (x1 < 0 → (R (0 : Int32) h)) ∧ (¬ x1 < 0 → (((h.1 2 0) ≤ x1 → (R (0 : Int32) h)) ∧ (¬ (h.1 2 0) ≤ x1 → (R (1 : Int32) h))))) : AW (GM adK adV) l ad d mX10_isMan 0 [(0, .ref (ad 0)), (1, .int x1)] [] h (qi R) := by
  refine aw_iload_n dX10_isMan_0 rfl 1 rfl ?_
  refine aw_if_lt (tgt := 18) dX10_isMan_1 (by decide) (fun hc2 => ?_) (fun hc2 => ?_)
  · replace H := H.1 hc2
    refine aw_iconst (v := 0) dX10_isMan_18 (by decide) ?_
    exact aw_zret dX10_isMan_19 rfl (by decide) ⟨_, rfl, H⟩
  · replace H := H.2 hc2
    refine aw_iload_n dX10_isMan_4 rfl 1 rfl ?_
    refine aw_aload_n dX10_isMan_5 rfl 0 rfl ?_
    refine aw_get dX10_isMan_6 shM0 ckX10 flX10_13 (v := .ref (ad 2)) rfl ?_
    refine aw_iconst (v := 0) dX10_isMan_9 (by decide) ?_
    refine aw_ialdK (t0 := 0) (j := 0) dX10_isMan_10 shM2 rfl (by decide) (vp_inK (by decide) (by decide)) ?_
    refine aw_icmp_ge (tgt := 18) dX10_isMan_11 (by decide) (fun hc1 => ?_) (fun hc1 => ?_)
    · replace H := H.1 hc1
      refine aw_iconst (v := 0) dX10_isMan_18 (by decide) ?_
      exact aw_zret dX10_isMan_19 rfl (by decide) ⟨_, rfl, H⟩
    · replace H := H.2 hc1
      refine aw_iconst (v := 1) dX10_isMan_14 (by decide) ?_
      refine aw_goto (tgt := 19) dX10_isMan_15 (by decide) ?_
      exact aw_zret dX10_isMan_19 rfl (by decide) ⟨_, rfl, H⟩
set_option maxRecDepth 8000 in
set_option maxHeartbeats 1000000 in
theorem bX10_isTusk_0 {adK adV : Nat → Nat} {l : Launch} {ad : Nat → Nat} {d : Nat} {R : Int32 → aH → Prop}   (x1 : Int32)  (h : aH)
    (H : (x1 < 0 → (R (0 : Int32) h)) ∧ (¬ x1 < 0 → (((h.1 2 1) ≤ x1 → (R (0 : Int32) h)) ∧ (¬ (h.1 2 1) ≤ x1 → (R (1 : Int32) h))))) : AW (GM adK adV) l ad d mX10_isTusk 0 [(0, .ref (ad 0)), (1, .int x1)] [] h (qi R) := by
  refine aw_iload_n dX10_isTusk_0 rfl 1 rfl ?_
  refine aw_if_lt (tgt := 18) dX10_isTusk_1 (by decide) (fun hc2 => ?_) (fun hc2 => ?_)
  · replace H := H.1 hc2
    refine aw_iconst (v := 0) dX10_isTusk_18 (by decide) ?_
    exact aw_zret dX10_isTusk_19 rfl (by decide) ⟨_, rfl, H⟩
  · replace H := H.2 hc2
    refine aw_iload_n dX10_isTusk_4 rfl 1 rfl ?_
    refine aw_aload_n dX10_isTusk_5 rfl 0 rfl ?_
    refine aw_get dX10_isTusk_6 shM0 ckX10 flX10_13 (v := .ref (ad 2)) rfl ?_
    refine aw_iconst (v := 1) dX10_isTusk_9 (by decide) ?_
    refine aw_ialdK (t0 := 0) (j := 1) dX10_isTusk_10 shM2 rfl (by decide) (vp_inK (by decide) (by decide)) ?_
    refine aw_icmp_ge (tgt := 18) dX10_isTusk_11 (by decide) (fun hc1 => ?_) (fun hc1 => ?_)
    · replace H := H.1 hc1
      refine aw_iconst (v := 0) dX10_isTusk_18 (by decide) ?_
      exact aw_zret dX10_isTusk_19 rfl (by decide) ⟨_, rfl, H⟩
    · replace H := H.2 hc1
      refine aw_iconst (v := 1) dX10_isTusk_14 (by decide) ?_
      refine aw_goto (tgt := 19) dX10_isTusk_15 (by decide) ?_
      exact aw_zret dX10_isTusk_19 rfl (by decide) ⟨_, rfl, H⟩
set_option maxRecDepth 8000 in
set_option maxHeartbeats 1000000 in
theorem bX10_isDebt_0 {adK adV : Nat → Nat} {l : Launch} {ad : Nat → Nat} {d : Nat} {R : Int32 → aH → Prop}   (x1 : Int32)  (h : aH)
    (H : (x1 < 0 → (R (0 : Int32) h)) ∧ (¬ x1 < 0 → (((h.1 25 0) ≤ x1 → (R (0 : Int32) h)) ∧ (¬ (h.1 25 0) ≤ x1 → (R (1 : Int32) h))))) : AW (GM adK adV) l ad d mX10_isDebt 0 [(0, .ref (ad 0)), (1, .int x1)] [] h (qi R) := by
  refine aw_iload_n dX10_isDebt_0 rfl 1 rfl ?_
  refine aw_if_lt (tgt := 18) dX10_isDebt_1 (by decide) (fun hc2 => ?_) (fun hc2 => ?_)
  · replace H := H.1 hc2
    refine aw_iconst (v := 0) dX10_isDebt_18 (by decide) ?_
    exact aw_zret dX10_isDebt_19 rfl (by decide) ⟨_, rfl, H⟩
  · replace H := H.2 hc2
    refine aw_iload_n dX10_isDebt_4 rfl 1 rfl ?_
    refine aw_aload_n dX10_isDebt_5 rfl 0 rfl ?_
    refine aw_get dX10_isDebt_6 shM0 ckX10 flX10_87 (v := .ref (ad 25)) rfl ?_
    refine aw_iconst (v := 0) dX10_isDebt_9 (by decide) ?_
    refine aw_ialdK (t0 := 0) (j := 0) dX10_isDebt_10 shM25 rfl (by decide) (vp_inK (by decide) (by decide)) ?_
    refine aw_icmp_ge (tgt := 18) dX10_isDebt_11 (by decide) (fun hc1 => ?_) (fun hc1 => ?_)
    · replace H := H.1 hc1
      refine aw_iconst (v := 0) dX10_isDebt_18 (by decide) ?_
      exact aw_zret dX10_isDebt_19 rfl (by decide) ⟨_, rfl, H⟩
    · replace H := H.2 hc1
      refine aw_iconst (v := 1) dX10_isDebt_14 (by decide) ?_
      refine aw_goto (tgt := 19) dX10_isDebt_15 (by decide) ?_
      exact aw_zret dX10_isDebt_19 rfl (by decide) ⟨_, rfl, H⟩
set_option maxRecDepth 8000 in
set_option maxHeartbeats 1000000 in
theorem bX10_isAlive_0 {adK adV : Nat → Nat} {l : Launch} {ad : Nat → Nat} {d : Nat} {R : Int32 → aH → Prop}   (x1 : Int32) (x2 : Int32)  (h : aH)
    (H : vp_in x1 23 ∧ ((¬ (((h.1 26 x1.toNatClampNeg) >>> (x2 &&& 31)) &&& (1 : Int32)) = (1 : Int32) → (R (0 : Int32) h)) ∧ ((((h.1 26 x1.toNatClampNeg) >>> (x2 &&& 31)) &&& (1 : Int32)) = (1 : Int32) → (R (1 : Int32) h)))) : AW (GM adK adV) l ad d mX10_isAlive 0 [(0, .ref (ad 0)), (1, .int x1), (2, .int x2)] [] h (qi R) := by
  refine aw_aload_n dX10_isAlive_0 rfl 0 rfl ?_
  refine aw_get dX10_isAlive_1 shM0 ckX10 flX10_90 (v := .ref (ad 26)) rfl ?_
  refine aw_iload_n dX10_isAlive_4 rfl 1 rfl ?_
  obtain ⟨hi1, H⟩ := H
  refine aw_ialdK (t0 := 0) (j := x1.toNatClampNeg) dX10_isAlive_5 shM26 rfl rfl hi1 ?_
  refine aw_iload_n dX10_isAlive_6 rfl 2 rfl ?_
  refine aw_ishr dX10_isAlive_7 ?_
  refine aw_iconst (v := 1) dX10_isAlive_8 (by decide) ?_
  refine aw_iand dX10_isAlive_9 ?_
  refine aw_iconst (v := 1) dX10_isAlive_10 (by decide) ?_
  refine aw_icmp_ne (tgt := 18) dX10_isAlive_11 (by decide) (fun hc2 => ?_) (fun hc2 => ?_)
  · replace H := H.1 hc2
    refine aw_iconst (v := 0) dX10_isAlive_18 (by decide) ?_
    exact aw_zret dX10_isAlive_19 rfl (by decide) ⟨_, rfl, H⟩
  · replace H := H.2 hc2
    refine aw_iconst (v := 1) dX10_isAlive_14 (by decide) ?_
    refine aw_goto (tgt := 19) dX10_isAlive_15 (by decide) ?_
    exact aw_zret dX10_isAlive_19 rfl (by decide) ⟨_, rfl, H⟩
set_option maxRecDepth 8000 in
set_option maxHeartbeats 1000000 in
theorem bX10_isOpen_0 {adK adV : Nat → Nat} {l : Launch} {ad : Nat → Nat} {d : Nat} {R : Int32 → aH → Prop}   (x1 : Int32) (x2 : Int32)  (h : aH)
    (H : vp_in (((8 : Int32) * x1) + x2) 184 ∧ ((¬ (h.1 35 (((8 : Int32) * x1) + x2).toNatClampNeg) = (1 : Int32) → (R (0 : Int32) h)) ∧ ((h.1 35 (((8 : Int32) * x1) + x2).toNatClampNeg) = (1 : Int32) → (R (1 : Int32) h)))) : AW (GM adK adV) l ad d mX10_isOpen 0 [(0, .ref (ad 0)), (1, .int x1), (2, .int x2)] [] h (qi R) := by
  refine aw_aload_n dX10_isOpen_0 rfl 0 rfl ?_
  refine aw_get dX10_isOpen_1 shM0 ckX10 flX10_117 (v := .ref (ad 35)) rfl ?_
  refine aw_bipush (v := 8) dX10_isOpen_4 (by decide) ?_
  refine aw_iload_n dX10_isOpen_6 rfl 1 rfl ?_
  refine aw_imul dX10_isOpen_7 ?_
  refine aw_iload_n dX10_isOpen_8 rfl 2 rfl ?_
  refine aw_iadd dX10_isOpen_9 ?_
  obtain ⟨hi1, H⟩ := H
  refine aw_ialdK (t0 := 0) (j := (((8 : Int32) * x1) + x2).toNatClampNeg) dX10_isOpen_10 shM35 rfl rfl hi1 ?_
  refine aw_iconst (v := 1) dX10_isOpen_11 (by decide) ?_
  refine aw_icmp_ne (tgt := 19) dX10_isOpen_12 (by decide) (fun hc2 => ?_) (fun hc2 => ?_)
  · replace H := H.1 hc2
    refine aw_iconst (v := 0) dX10_isOpen_19 (by decide) ?_
    exact aw_zret dX10_isOpen_20 rfl (by decide) ⟨_, rfl, H⟩
  · replace H := H.2 hc2
    refine aw_iconst (v := 1) dX10_isOpen_15 (by decide) ?_
    refine aw_goto (tgt := 20) dX10_isOpen_16 (by decide) ?_
    exact aw_zret dX10_isOpen_20 rfl (by decide) ⟨_, rfl, H⟩
set_option maxRecDepth 8000 in
set_option maxHeartbeats 1000000 in
theorem bX10_bitsOf_0 {adK adV : Nat → Nat} {l : Launch} {ad : Nat → Nat} {d : Nat} {R : Int32 → aH → Prop}   (x0 : Int32)  (h : aH)
    (H : AW (GM adK adV) l ad d mX10_bitsOf 4 [(0, .int x0), (1, .int (0 : Int32)), (2, .int (0 : Int32))] [] h (qi R)) : AW (GM adK adV) l ad d mX10_bitsOf 0 [(0, .int x0)] [] h (qi R) := by
  refine aw_iconst (v := 0) dX10_bitsOf_0 (by decide) ?_
  refine aw_istore_n (ls' := [(1, .int (0 : Int32)), (0, .int x0)]) dX10_bitsOf_1 rfl (by decide) rfl ?_
  refine aw_iconst (v := 0) dX10_bitsOf_2 (by decide) ?_
  refine aw_istore_n (ls' := [(2, .int (0 : Int32)), (1, .int (0 : Int32)), (0, .int x0)]) dX10_bitsOf_3 rfl (by decide) rfl ?_
  exact aw_ls [2, 1, 0] rfl H
set_option maxRecDepth 8000 in
set_option maxHeartbeats 1000000 in
theorem bX10_bitsOf_4 {adK adV : Nat → Nat} {l : Launch} {ad : Nat → Nat} {d : Nat} {R : Int32 → aH → Prop}   (x0 : Int32) (x1 : Int32) (x2 : Int32)  (h : aH)
    (H : ((10 : Int32) ≤ x2 → (R x1 h)) ∧ (¬ (10 : Int32) ≤ x2 → (AW (GM adK adV) l ad d mX10_bitsOf 4 [(0, .int x0), (1, .int (x1 + ((x0 >>> (x2 &&& 31)) &&& (1 : Int32)))), (2, .int (x2 + (1 : Int32)))] [] h (qi R)))) : AW (GM adK adV) l ad d mX10_bitsOf 4 [(0, .int x0), (1, .int x1), (2, .int x2)] [] h (qi R) := by
  refine aw_iload_n dX10_bitsOf_4 rfl 2 rfl ?_
  refine aw_bipush (v := 10) dX10_bitsOf_5 (by decide) ?_
  refine aw_icmp_ge (tgt := 24) dX10_bitsOf_7 (by decide) (fun hc1 => ?_) (fun hc1 => ?_)
  · replace H := H.1 hc1
    refine aw_iload_n dX10_bitsOf_24 rfl 1 rfl ?_
    exact aw_iret dX10_bitsOf_25 rfl ⟨_, rfl, H⟩
  · replace H := H.2 hc1
    refine aw_iload_n dX10_bitsOf_10 rfl 1 rfl ?_
    refine aw_iload_n dX10_bitsOf_11 rfl 0 rfl ?_
    refine aw_iload_n dX10_bitsOf_12 rfl 2 rfl ?_
    refine aw_ishr dX10_bitsOf_13 ?_
    refine aw_iconst (v := 1) dX10_bitsOf_14 (by decide) ?_
    refine aw_iand dX10_bitsOf_15 ?_
    refine aw_iadd dX10_bitsOf_16 ?_
    refine aw_istore_n (ls' := [(1, .int (x1 + ((x0 >>> (x2 &&& 31)) &&& (1 : Int32)))), (0, .int x0), (2, .int x2)]) dX10_bitsOf_17 rfl (by decide) rfl ?_
    refine aw_inc (mm := (1)) (ls' := [(2, .int (x2 + (1 : Int32))), (1, .int (x1 + ((x0 >>> (x2 &&& 31)) &&& (1 : Int32)))), (0, .int x0)]) dX10_bitsOf_18 (by decide) (j := 2) rfl (by decide) rfl ?_
    refine aw_goto (tgt := 4) dX10_bitsOf_21 (by decide) ?_
    exact aw_ls [2, 1, 0] rfl H
set_option maxRecDepth 8000 in
set_option maxHeartbeats 1000000 in
theorem bX10_knowers_0 {adK adV : Nat → Nat} {l : Launch} {ad : Nat → Nat} {d : Nat} {R : Int32 → aH → Prop}   (x1 : Int32) (x2 : Int32)  (h : aH)
    (H : AW (GM adK adV) l ad d mX10_knowers 5 [(0, .ref (ad 0)), (1, .int x1), (2, .int x2), (3, .int (0 : Int32)), (4, .int (0 : Int32))] [] h (qi R)) : AW (GM adK adV) l ad d mX10_knowers 0 [(0, .ref (ad 0)), (1, .int x1), (2, .int x2)] [] h (qi R) := by
  refine aw_iconst (v := 0) dX10_knowers_0 (by decide) ?_
  refine aw_istore_n (ls' := [(3, .int (0 : Int32)), (0, .ref (ad 0)), (1, .int x1), (2, .int x2)]) dX10_knowers_1 rfl (by decide) rfl ?_
  refine aw_iconst (v := 0) dX10_knowers_2 (by decide) ?_
  refine aw_istore (ls' := [(4, .int (0 : Int32)), (3, .int (0 : Int32)), (0, .ref (ad 0)), (1, .int x1), (2, .int x2)]) dX10_knowers_3 (by decide) rfl ?_
  exact aw_ls [2, 3, 4, 1, 0] rfl H
set_option maxRecDepth 8000 in
set_option maxHeartbeats 1000000 in
theorem bX10_knowers_5 {adK adV : Nat → Nat} {l : Launch} {ad : Nat → Nat} {d : Nat} {R : Int32 → aH → Prop}   (x1 : Int32) (x2 : Int32) (x3 : Int32) (x4 : Int32)  (h : aH)
    (H : ((h.1 2 1) ≤ x4 → (R x3 h)) ∧ (¬ (h.1 2 1) ≤ x4 → (vp_in (((6 : Int32) * x1) + x4) 138 ∧ (∀ t2 : Int32, t2 = (x3 ||| ((((h.1 29 (((6 : Int32) * x1) + x4).toNatClampNeg) >>> (x2 &&& 31)) &&& (1 : Int32)) <<< (x4 &&& 31))) → (AW (GM adK adV) l ad d mX10_knowers 5 [(0, .ref (ad 0)), (1, .int x1), (2, .int x2), (3, .int t2), (4, .int (x4 + (1 : Int32)))] [] h (qi R)))))) : AW (GM adK adV) l ad d mX10_knowers 5 [(0, .ref (ad 0)), (1, .int x1), (2, .int x2), (3, .int x3), (4, .int x4)] [] h (qi R) := by
  refine aw_iload dX10_knowers_5 4 rfl ?_
  refine aw_aload_n dX10_knowers_7 rfl 0 rfl ?_
  refine aw_get dX10_knowers_8 shM0 ckX10 flX10_13 (v := .ref (ad 2)) rfl ?_
  refine aw_iconst (v := 1) dX10_knowers_11 (by decide) ?_
  refine aw_ialdK (t0 := 0) (j := 1) dX10_knowers_12 shM2 rfl (by decide) (vp_inK (by decide) (by decide)) ?_
  refine aw_icmp_ge (tgt := 44) dX10_knowers_13 (by decide) (fun hc3 => ?_) (fun hc3 => ?_)
  · replace H := H.1 hc3
    refine aw_iload_n dX10_knowers_44 rfl 3 rfl ?_
    exact aw_iret dX10_knowers_45 rfl ⟨_, rfl, H⟩
  · replace H := H.2 hc3
    refine aw_iload_n dX10_knowers_16 rfl 3 rfl ?_
    refine aw_aload_n dX10_knowers_17 rfl 0 rfl ?_
    refine aw_get dX10_knowers_18 shM0 ckX10 flX10_99 (v := .ref (ad 29)) rfl ?_
    refine aw_bipush (v := 6) dX10_knowers_21 (by decide) ?_
    refine aw_iload_n dX10_knowers_23 rfl 1 rfl ?_
    refine aw_imul dX10_knowers_24 ?_
    refine aw_iload dX10_knowers_25 4 rfl ?_
    refine aw_iadd dX10_knowers_27 ?_
    obtain ⟨hi1, H⟩ := H
    refine aw_ialdK (t0 := 0) (j := (((6 : Int32) * x1) + x4).toNatClampNeg) dX10_knowers_28 shM29 rfl rfl hi1 ?_
    refine aw_iload_n dX10_knowers_29 rfl 2 rfl ?_
    refine aw_ishr dX10_knowers_30 ?_
    refine aw_iconst (v := 1) dX10_knowers_31 (by decide) ?_
    refine aw_iand dX10_knowers_32 ?_
    refine aw_iload dX10_knowers_33 4 rfl ?_
    refine aw_ishl dX10_knowers_35 ?_
    refine aw_ior dX10_knowers_36 ?_
    refine aw_topi (fun t2 et2 => ?_)
    replace H := H t2 et2
    refine aw_istore_n (ls' := [(3, .int t2), (0, .ref (ad 0)), (1, .int x1), (2, .int x2), (4, .int x4)]) dX10_knowers_37 rfl (by decide) rfl ?_
    refine aw_inc (mm := (1)) (ls' := [(4, .int (x4 + (1 : Int32))), (3, .int t2), (0, .ref (ad 0)), (1, .int x1), (2, .int x2)]) dX10_knowers_38 (by decide) (j := 4) rfl (by decide) rfl ?_
    refine aw_goto (tgt := 5) dX10_knowers_41 (by decide) ?_
    exact aw_ls [2, 3, 4, 1, 0] rfl H
set_option maxRecDepth 8000 in
set_option maxHeartbeats 1000000 in
theorem bX10_oldestOf_0 {adK adV : Nat → Nat} {l : Launch} {ad : Nat → Nat} {d : Nat} {R : Int32 → aH → Prop}   (x1 : Int32) (x2 : Int32)  (h : aH)
    (H : AW (GM adK adV) l ad (d + 1) mX10_oldestOf 5 [(0, .ref (ad 0)), (1, .int x1), (2, .int x2), (3, .int (-1 : Int32)), (4, .int (0 : Int32))] [] h (qi R)) : AW (GM adK adV) l ad (d + 1) mX10_oldestOf 0 [(0, .ref (ad 0)), (1, .int x1), (2, .int x2)] [] h (qi R) := by
  refine aw_iconst (v := (-1)) dX10_oldestOf_0 (by decide) ?_
  refine aw_istore_n (ls' := [(3, .int (-1 : Int32)), (0, .ref (ad 0)), (1, .int x1), (2, .int x2)]) dX10_oldestOf_1 rfl (by decide) rfl ?_
  refine aw_iconst (v := 0) dX10_oldestOf_2 (by decide) ?_
  refine aw_istore (ls' := [(4, .int (0 : Int32)), (3, .int (-1 : Int32)), (0, .ref (ad 0)), (1, .int x1), (2, .int x2)]) dX10_oldestOf_3 (by decide) rfl ?_
  exact aw_ls [2, 3, 4, 1, 0] rfl H
set_option maxRecDepth 8000 in
set_option maxHeartbeats 1000000 in
theorem bX10_oldestOf_5 {adK adV : Nat → Nat} {l : Launch} {ad : Nat → Nat} {d : Nat} {R : Int32 → aH → Prop}   (x1 : Int32) (x2 : Int32) (x3 : Int32) (x4 : Int32)  (h : aH)
    (H : ((h.1 2 1) ≤ x4 → (R x3 h)) ∧ (¬ (h.1 2 1) ≤ x4 → (AW (GM adK adV) l ad d mX10_knowers 0 [(0, .ref (ad 0)), (1, .int x1), (2, .int x2)] [] h (qi fun z2 h1 => (¬ ((z2 >>> (x4 &&& 31)) &&& (1 : Int32)) = (1 : Int32) → (AW (GM adK adV) l ad (d + 1) mX10_oldestOf 5 [(0, .ref (ad 0)), (1, .int x1), (2, .int x2), (3, .int x3), (4, .int (x4 + (1 : Int32)))] [] h1 (qi R))) ∧ (((z2 >>> (x4 &&& 31)) &&& (1 : Int32)) = (1 : Int32) → ((x3 = (-1 : Int32) → (AW (GM adK adV) l ad (d + 1) mX10_oldestOf 5 [(0, .ref (ad 0)), (1, .int x1), (2, .int x2), (3, .int x4), (4, .int (x4 + (1 : Int32)))] [] h1 (qi R))) ∧ (¬ x3 = (-1 : Int32) → (vp_in (((6 : Int32) * x1) + x4) 138 ∧ (vp_in (((6 : Int32) * x1) + x3) 138 ∧ (((h1.1 28 (((6 : Int32) * x1) + x4).toNatClampNeg) ≤ (h1.1 28 (((6 : Int32) * x1) + x3).toNatClampNeg) → (AW (GM adK adV) l ad (d + 1) mX10_oldestOf 5 [(0, .ref (ad 0)), (1, .int x1), (2, .int x2), (3, .int x3), (4, .int (x4 + (1 : Int32)))] [] h1 (qi R))) ∧ (¬ (h1.1 28 (((6 : Int32) * x1) + x4).toNatClampNeg) ≤ (h1.1 28 (((6 : Int32) * x1) + x3).toNatClampNeg) → (AW (GM adK adV) l ad (d + 1) mX10_oldestOf 5 [(0, .ref (ad 0)), (1, .int x1), (2, .int x2), (3, .int x4), (4, .int (x4 + (1 : Int32)))] [] h1 (qi R))))))))))))) : AW (GM adK adV) l ad (d + 1) mX10_oldestOf 5 [(0, .ref (ad 0)), (1, .int x1), (2, .int x2), (3, .int x3), (4, .int x4)] [] h (qi R) := by
  refine aw_iload dX10_oldestOf_5 4 rfl ?_
  refine aw_aload_n dX10_oldestOf_7 rfl 0 rfl ?_
  refine aw_get dX10_oldestOf_8 shM0 ckX10 flX10_13 (v := .ref (ad 2)) rfl ?_
  refine aw_iconst (v := 1) dX10_oldestOf_11 (by decide) ?_
  refine aw_ialdK (t0 := 0) (j := 1) dX10_oldestOf_12 shM2 rfl (by decide) (vp_inK (by decide) (by decide)) ?_
  refine aw_icmp_ge (tgt := 71) dX10_oldestOf_13 (by decide) (fun hc8 => ?_) (fun hc8 => ?_)
  · replace H := H.1 hc8
    refine aw_iload_n dX10_oldestOf_71 rfl 3 rfl ?_
    exact aw_iret dX10_oldestOf_72 rfl ⟨_, rfl, H⟩
  · replace H := H.2 hc8
    refine aw_aload_n dX10_oldestOf_16 rfl 0 rfl ?_
    refine aw_iload_n dX10_oldestOf_17 rfl 1 rfl ?_
    refine aw_iload_n dX10_oldestOf_18 rfl 2 rfl ?_
    refine cvX10_knowers dX10_oldestOf_19 mlX10_358 shM0 (Nat.le_of_ble_eq_true rfl) H (fun z2 h1 H => ?_)
    refine aw_iload dX10_oldestOf_22 4 rfl ?_
    refine aw_ishr dX10_oldestOf_24 ?_
    refine aw_iconst (v := 1) dX10_oldestOf_25 (by decide) ?_
    refine aw_iand dX10_oldestOf_26 ?_
    refine aw_iconst (v := 1) dX10_oldestOf_27 (by decide) ?_
    refine aw_icmp_ne (tgt := 65) dX10_oldestOf_28 (by decide) (fun hc7 => ?_) (fun hc7 => ?_)
    · replace H := H.1 hc7
      refine aw_inc (mm := (1)) (ls' := [(4, .int (x4 + (1 : Int32))), (0, .ref (ad 0)), (1, .int x1), (2, .int x2), (3, .int x3)]) dX10_oldestOf_65 (by decide) (j := 4) rfl (by decide) rfl ?_
      refine aw_goto (tgt := 5) dX10_oldestOf_68 (by decide) ?_
      exact aw_ls [1, 2, 3, 4, 0] rfl H
    · replace H := H.2 hc7
      refine aw_iload_n dX10_oldestOf_31 rfl 3 rfl ?_
      refine aw_iconst (v := (-1)) dX10_oldestOf_32 (by decide) ?_
      refine aw_icmp_eq (tgt := 62) dX10_oldestOf_33 (by decide) (fun hc6 => ?_) (fun hc6 => ?_)
      · replace H := H.1 hc6
        refine aw_iload dX10_oldestOf_62 4 rfl ?_
        refine aw_istore_n (ls' := [(3, .int x4), (0, .ref (ad 0)), (1, .int x1), (2, .int x2), (4, .int x4)]) dX10_oldestOf_64 rfl (by decide) rfl ?_
        refine aw_inc (mm := (1)) (ls' := [(4, .int (x4 + (1 : Int32))), (3, .int x4), (0, .ref (ad 0)), (1, .int x1), (2, .int x2)]) dX10_oldestOf_65 (by decide) (j := 4) rfl (by decide) rfl ?_
        refine aw_goto (tgt := 5) dX10_oldestOf_68 (by decide) ?_
        exact aw_ls [2, 3, 4, 1, 0] rfl H
      · replace H := H.2 hc6
        refine aw_aload_n dX10_oldestOf_36 rfl 0 rfl ?_
        refine aw_get dX10_oldestOf_37 shM0 ckX10 flX10_96 (v := .ref (ad 28)) rfl ?_
        refine aw_bipush (v := 6) dX10_oldestOf_40 (by decide) ?_
        refine aw_iload_n dX10_oldestOf_42 rfl 1 rfl ?_
        refine aw_imul dX10_oldestOf_43 ?_
        refine aw_iload dX10_oldestOf_44 4 rfl ?_
        refine aw_iadd dX10_oldestOf_46 ?_
        obtain ⟨hi3, H⟩ := H
        refine aw_ialdK (t0 := 0) (j := (((6 : Int32) * x1) + x4).toNatClampNeg) dX10_oldestOf_47 shM28 rfl rfl hi3 ?_
        refine aw_aload_n dX10_oldestOf_48 rfl 0 rfl ?_
        refine aw_get dX10_oldestOf_49 shM0 ckX10 flX10_96 (v := .ref (ad 28)) rfl ?_
        refine aw_bipush (v := 6) dX10_oldestOf_52 (by decide) ?_
        refine aw_iload_n dX10_oldestOf_54 rfl 1 rfl ?_
        refine aw_imul dX10_oldestOf_55 ?_
        refine aw_iload_n dX10_oldestOf_56 rfl 3 rfl ?_
        refine aw_iadd dX10_oldestOf_57 ?_
        obtain ⟨hi4, H⟩ := H
        refine aw_ialdK (t0 := 0) (j := (((6 : Int32) * x1) + x3).toNatClampNeg) dX10_oldestOf_58 shM28 rfl rfl hi4 ?_
        refine aw_icmp_le (tgt := 65) dX10_oldestOf_59 (by decide) (fun hc5 => ?_) (fun hc5 => ?_)
        · replace H := H.1 hc5
          refine aw_inc (mm := (1)) (ls' := [(4, .int (x4 + (1 : Int32))), (0, .ref (ad 0)), (1, .int x1), (2, .int x2), (3, .int x3)]) dX10_oldestOf_65 (by decide) (j := 4) rfl (by decide) rfl ?_
          refine aw_goto (tgt := 5) dX10_oldestOf_68 (by decide) ?_
          exact aw_ls [1, 2, 3, 4, 0] rfl H
        · replace H := H.2 hc5
          refine aw_iload dX10_oldestOf_62 4 rfl ?_
          refine aw_istore_n (ls' := [(3, .int x4), (0, .ref (ad 0)), (1, .int x1), (2, .int x2), (4, .int x4)]) dX10_oldestOf_64 rfl (by decide) rfl ?_
          refine aw_inc (mm := (1)) (ls' := [(4, .int (x4 + (1 : Int32))), (3, .int x4), (0, .ref (ad 0)), (1, .int x1), (2, .int x2)]) dX10_oldestOf_65 (by decide) (j := 4) rfl (by decide) rfl ?_
          refine aw_goto (tgt := 5) dX10_oldestOf_68 (by decide) ?_
          exact aw_ls [2, 3, 4, 1, 0] rfl H
set_option maxRecDepth 8000 in
set_option maxHeartbeats 1000000 in
theorem bX10_callsDebt_0 {adK adV : Nat → Nat} {l : Launch} {ad : Nat → Nat} {d : Nat} {R : aH → Prop}   (x1 : Int32) (x2 : Int32) (x3 : Int32) (x4 : Int32)  (h : aH)
    (H : vp_in (((8 : Int32) * x1) + x2) 184 ∧ (vp_in (((6 : Int32) * x1) + ((sJ (sJ h 21 0 (h.1 36 (((8 : Int32) * x1) + x2).toNatClampNeg).toInt64) 21 1 x3.toInt64).1 31 (((8 : Int32) * x1) + x2).toNatClampNeg)) 138 ∧ (∀ h3 : aH, h3 = (sJ (sJ (sJ h 21 0 (h.1 36 (((8 : Int32) * x1) + x2).toNatClampNeg).toInt64) 21 1 x3.toInt64) 21 2 ((sJ (sJ h 21 0 (h.1 36 (((8 : Int32) * x1) + x2).toNatClampNeg).toInt64) 21 1 x3.toInt64).1 27 (((6 : Int32) * x1) + ((sJ (sJ h 21 0 (h.1 36 (((8 : Int32) * x1) + x2).toNatClampNeg).toInt64) 21 1 x3.toInt64).1 31 (((8 : Int32) * x1) + x2).toNatClampNeg)).toNatClampNeg).toInt64) → (AW (GM adK adV) l ad d mX10_knowers 0 [(0, .ref (ad 0)), (1, .int x1), (2, .int x2)] [] h3 (qi fun z5 h4 => AW (GM adK adV) l ad d mX10_bitsOf 0 [(0, .int z5)] [] h4 (qi fun z7 h6 => (¬ ((sJ h6 21 3 z7.toInt64).1 35 (((8 : Int32) * x1) + x2).toNatClampNeg) = (1 : Int32) → (AW (GM adK adV) l ad (d + 1) mX10_callsDebt 105 [(0, .ref (ad 0)), (1, .int x1), (4, .int x4)] [.long (0 : Int64), .int (4 : Int32), .ref (ad 21)] (sJ h6 21 3 z7.toInt64) (qv R))) ∧ (((sJ h6 21 3 z7.toInt64).1 35 (((8 : Int32) * x1) + x2).toNatClampNeg) = (1 : Int32) → (vp_in x1 23 ∧ (AW (GM adK adV) l ad (d + 1) mX10_callsDebt 105 [(0, .ref (ad 0)), (1, .int x1), (4, .int x4)] [.long (((sJ h6 21 3 z7.toInt64).1 23 x1.toNatClampNeg) - ((sJ h6 21 3 z7.toInt64).1 34 (((8 : Int32) * x1) + x2).toNatClampNeg)).toInt64, .int (4 : Int32), .ref (ad 21)] (sJ h6 21 3 z7.toInt64) (qv R)))))))))) : AW (GM adK adV) l ad (d + 1) mX10_callsDebt 0 [(0, .ref (ad 0)), (1, .int x1), (2, .int x2), (3, .int x3), (4, .int x4)] [] h (qv R) := by
  refine aw_bipush (v := 8) dX10_callsDebt_0 (by decide) ?_
  refine aw_iload_n dX10_callsDebt_2 rfl 1 rfl ?_
  refine aw_imul dX10_callsDebt_3 ?_
  refine aw_iload_n dX10_callsDebt_4 rfl 2 rfl ?_
  refine aw_iadd dX10_callsDebt_5 ?_
  refine aw_istore (ls' := [(5, .int (((8 : Int32) * x1) + x2)), (0, .ref (ad 0)), (1, .int x1), (2, .int x2), (3, .int x3), (4, .int x4)]) dX10_callsDebt_6 (by decide) rfl ?_
  refine aw_aload_n dX10_callsDebt_8 rfl 1 rfl ?_
  refine aw_get dX10_callsDebt_9 shM0 ckX10 flX10_74 (v := .ref (ad 21)) rfl ?_
  refine aw_iconst (v := 0) dX10_callsDebt_12 (by decide) ?_
  refine aw_aload_n dX10_callsDebt_13 rfl 1 rfl ?_
  refine aw_get dX10_callsDebt_14 shM0 ckX10 flX10_120 (v := .ref (ad 36)) rfl ?_
  refine aw_iload dX10_callsDebt_17 0 rfl ?_
  obtain ⟨hi1, H⟩ := H
  refine aw_ialdK (t0 := 0) (j := (((8 : Int32) * x1) + x2).toNatClampNeg) dX10_callsDebt_19 shM36 rfl rfl hi1 ?_
  refine aw_i2l dX10_callsDebt_20 ?_
  refine aw_lastK (t0 := 1) (j := 0) dX10_callsDebt_21 shM21 rfl (by decide) (vp_inK (by decide) (by decide)) ?_
  refine aw_aload_n dX10_callsDebt_22 rfl 1 rfl ?_
  refine aw_get dX10_callsDebt_23 shM0 ckX10 flX10_74 (v := .ref (ad 21)) rfl ?_
  refine aw_iconst (v := 1) dX10_callsDebt_26 (by decide) ?_
  refine aw_iload_n dX10_callsDebt_27 rfl 4 rfl ?_
  refine aw_i2l dX10_callsDebt_28 ?_
  refine aw_lastK (t0 := 1) (j := 1) dX10_callsDebt_29 shM21 rfl (by decide) (vp_inK (by decide) (by decide)) ?_
  refine aw_aload_n dX10_callsDebt_30 rfl 1 rfl ?_
  refine aw_get dX10_callsDebt_31 shM0 ckX10 flX10_74 (v := .ref (ad 21)) rfl ?_
  refine aw_iconst (v := 2) dX10_callsDebt_34 (by decide) ?_
  refine aw_aload_n dX10_callsDebt_35 rfl 1 rfl ?_
  refine aw_get dX10_callsDebt_36 shM0 ckX10 flX10_93 (v := .ref (ad 27)) rfl ?_
  refine aw_bipush (v := 6) dX10_callsDebt_39 (by decide) ?_
  refine aw_iload_n dX10_callsDebt_41 rfl 2 rfl ?_
  refine aw_imul dX10_callsDebt_42 ?_
  refine aw_aload_n dX10_callsDebt_43 rfl 1 rfl ?_
  refine aw_get dX10_callsDebt_44 shM0 ckX10 flX10_105 (v := .ref (ad 31)) rfl ?_
  refine aw_iload dX10_callsDebt_47 0 rfl ?_
  refine aw_ialdK (t0 := 0) (j := (((8 : Int32) * x1) + x2).toNatClampNeg) dX10_callsDebt_49 shM31 rfl rfl hi1 ?_
  refine aw_iadd dX10_callsDebt_50 ?_
  obtain ⟨hi2, H⟩ := H
  refine aw_ialdK (t0 := 0) (j := (((6 : Int32) * x1) + ((sJ (sJ h 21 0 (h.1 36 (((8 : Int32) * x1) + x2).toNatClampNeg).toInt64) 21 1 x3.toInt64).1 31 (((8 : Int32) * x1) + x2).toNatClampNeg)).toNatClampNeg) dX10_callsDebt_51 shM27 rfl rfl hi2 ?_
  refine aw_i2l dX10_callsDebt_52 ?_
  refine aw_lastK (t0 := 1) (j := 2) dX10_callsDebt_53 shM21 rfl (by decide) (vp_inK (by decide) (by decide)) ?_
  refine aw_toph (fun h3 eh3 => ?_)
  replace H := H h3 eh3
  refine aw_aload_n dX10_callsDebt_54 rfl 1 rfl ?_
  refine aw_get dX10_callsDebt_55 shM0 ckX10 flX10_74 (v := .ref (ad 21)) rfl ?_
  refine aw_iconst (v := 3) dX10_callsDebt_58 (by decide) ?_
  refine aw_aload_n dX10_callsDebt_59 rfl 1 rfl ?_
  refine aw_iload_n dX10_callsDebt_60 rfl 2 rfl ?_
  refine aw_iload_n dX10_callsDebt_61 rfl 3 rfl ?_
  refine cvX10_knowers dX10_callsDebt_62 mlX10_358 shM0 (Nat.le_of_ble_eq_true rfl) H (fun z5 h4 H => ?_)
  refine cvX10_bitsOf dX10_callsDebt_65 mlX10_361 (Nat.le_of_ble_eq_true rfl) H (fun z7 h6 H => ?_)
  refine aw_i2l dX10_callsDebt_68 ?_
  refine aw_lastK (t0 := 1) (j := 3) dX10_callsDebt_69 shM21 rfl (by decide) (vp_inK (by decide) (by decide)) ?_
  refine aw_aload_n dX10_callsDebt_70 rfl 1 rfl ?_
  refine aw_get dX10_callsDebt_71 shM0 ckX10 flX10_74 (v := .ref (ad 21)) rfl ?_
  refine aw_iconst (v := 4) dX10_callsDebt_74 (by decide) ?_
  refine aw_aload_n dX10_callsDebt_75 rfl 1 rfl ?_
  refine aw_get dX10_callsDebt_76 shM0 ckX10 flX10_117 (v := .ref (ad 35)) rfl ?_
  refine aw_iload dX10_callsDebt_79 0 rfl ?_
  refine aw_ialdK (t0 := 0) (j := (((8 : Int32) * x1) + x2).toNatClampNeg) dX10_callsDebt_81 shM35 rfl rfl hi1 ?_
  refine aw_iconst (v := 1) dX10_callsDebt_82 (by decide) ?_
  refine aw_icmp_ne (tgt := 104) dX10_callsDebt_83 (by decide) (fun hc9 => ?_) (fun hc9 => ?_)
  · replace H := H.1 hc9
    refine aw_lconst (v := 0) dX10_callsDebt_104 (by decide) ?_
    exact aw_ls [1, 2, 5] rfl H
  · replace H := H.2 hc9
    refine aw_aload_n dX10_callsDebt_86 rfl 1 rfl ?_
    refine aw_get dX10_callsDebt_87 shM0 ckX10 flX10_81 (v := .ref (ad 23)) rfl ?_
    refine aw_iload_n dX10_callsDebt_90 rfl 2 rfl ?_
    obtain ⟨hi8, H⟩ := H
    refine aw_ialdK (t0 := 0) (j := x1.toNatClampNeg) dX10_callsDebt_91 shM23 rfl rfl hi8 ?_
    refine aw_aload_n dX10_callsDebt_92 rfl 1 rfl ?_
    refine aw_get dX10_callsDebt_93 shM0 ckX10 flX10_114 (v := .ref (ad 34)) rfl ?_
    refine aw_iload dX10_callsDebt_96 0 rfl ?_
    refine aw_ialdK (t0 := 0) (j := (((8 : Int32) * x1) + x2).toNatClampNeg) dX10_callsDebt_98 shM34 rfl rfl hi1 ?_
    refine aw_isub dX10_callsDebt_99 ?_
    refine aw_i2l dX10_callsDebt_100 ?_
    refine aw_goto (tgt := 105) dX10_callsDebt_101 (by decide) ?_
    exact aw_ls [1, 2, 5] rfl H
set_option maxRecDepth 8000 in
set_option maxHeartbeats 1000000 in
theorem bX10_callsDebt_105 {adK adV : Nat → Nat} {l : Launch} {ad : Nat → Nat} {d : Nat} {R : aH → Prop}   (x1 : Int32) (x4 : Int32) (s0 : Int64) (s1 : Int32)  (h : aH)
    (H : vp_in s1 7 ∧ (vp_in x1 23 ∧ (∀ h3 : aH, h3 = (sJ (sJ (sJ h 21 s1.toNatClampNeg s0) 21 5 x4.toInt64) 21 6 ((sJ (sJ h 21 s1.toNatClampNeg s0) 21 5 x4.toInt64).1 23 x1.toNatClampNeg).toInt64) → (R h3)))) : AW (GM adK adV) l ad (d + 1) mX10_callsDebt 105 [(0, .ref (ad 0)), (1, .int x1), (4, .int x4)] [.long s0, .int s1, .ref (ad 21)] h (qv R) := by
  obtain ⟨hi1, H⟩ := H
  refine aw_lastK (t0 := 1) (j := s1.toNatClampNeg) dX10_callsDebt_105 shM21 rfl rfl hi1 ?_
  refine aw_aload_n dX10_callsDebt_106 rfl 0 rfl ?_
  refine aw_get dX10_callsDebt_107 shM0 ckX10 flX10_74 (v := .ref (ad 21)) rfl ?_
  refine aw_iconst (v := 5) dX10_callsDebt_110 (by decide) ?_
  refine aw_iload dX10_callsDebt_111 2 rfl ?_
  refine aw_i2l dX10_callsDebt_113 ?_
  refine aw_lastK (t0 := 1) (j := 5) dX10_callsDebt_114 shM21 rfl (by decide) (vp_inK (by decide) (by decide)) ?_
  refine aw_aload_n dX10_callsDebt_115 rfl 0 rfl ?_
  refine aw_get dX10_callsDebt_116 shM0 ckX10 flX10_74 (v := .ref (ad 21)) rfl ?_
  refine aw_bipush (v := 6) dX10_callsDebt_119 (by decide) ?_
  refine aw_aload_n dX10_callsDebt_121 rfl 0 rfl ?_
  refine aw_get dX10_callsDebt_122 shM0 ckX10 flX10_81 (v := .ref (ad 23)) rfl ?_
  refine aw_iload_n dX10_callsDebt_125 rfl 1 rfl ?_
  obtain ⟨hi2, H⟩ := H
  refine aw_ialdK (t0 := 0) (j := x1.toNatClampNeg) dX10_callsDebt_126 shM23 rfl rfl hi2 ?_
  refine aw_i2l dX10_callsDebt_127 ?_
  refine aw_lastK (t0 := 1) (j := 6) dX10_callsDebt_128 shM21 rfl (by decide) (vp_inK (by decide) (by decide)) ?_
  refine aw_toph (fun h3 eh3 => ?_)
  replace H := H h3 eh3
  exact aw_vret dX10_callsDebt_129 rfl ⟨rfl, H⟩
set_option maxRecDepth 8000 in
set_option maxHeartbeats 1000000 in
theorem bX10_callsPass_0 {adK adV : Nat → Nat} {l : Launch} {ad : Nat → Nat} {d : Nat} {R : aH → Prop}   (x1 : Int32) (x2 : Int32) (x3 : Int32)  (h : aH)
    (H : vp_in (((6 : Int32) * x1) + x3) 138 ∧ (AW (GM adK adV) l ad d mX10_bitsOf 0 [(0, .int (h.1 29 (((6 : Int32) * x1) + x3).toNatClampNeg))] [] h (qi fun z3 h2 => AW (GM adK adV) l ad d mX10_callsDebt 0 [(0, .ref (ad 0)), (1, .int x1), (2, .int x2), (3, .int (h.1 28 (((6 : Int32) * x1) + x3).toNatClampNeg)), (4, .int z3)] [] h2 (qv fun h4 => R h4)))) : AW (GM adK adV) l ad (d + 1) mX10_callsPass 0 [(0, .ref (ad 0)), (1, .int x1), (2, .int x2), (3, .int x3)] [] h (qv R) := by
  refine aw_aload_n dX10_callsPass_0 rfl 0 rfl ?_
  refine aw_iload_n dX10_callsPass_1 rfl 1 rfl ?_
  refine aw_iload_n dX10_callsPass_2 rfl 2 rfl ?_
  refine aw_aload_n dX10_callsPass_3 rfl 0 rfl ?_
  refine aw_get dX10_callsPass_4 shM0 ckX10 flX10_96 (v := .ref (ad 28)) rfl ?_
  refine aw_bipush (v := 6) dX10_callsPass_7 (by decide) ?_
  refine aw_iload_n dX10_callsPass_9 rfl 1 rfl ?_
  refine aw_imul dX10_callsPass_10 ?_
  refine aw_iload_n dX10_callsPass_11 rfl 3 rfl ?_
  refine aw_iadd dX10_callsPass_12 ?_
  obtain ⟨hi1, H⟩ := H
  refine aw_ialdK (t0 := 0) (j := (((6 : Int32) * x1) + x3).toNatClampNeg) dX10_callsPass_13 shM28 rfl rfl hi1 ?_
  refine aw_aload_n dX10_callsPass_14 rfl 0 rfl ?_
  refine aw_get dX10_callsPass_15 shM0 ckX10 flX10_99 (v := .ref (ad 29)) rfl ?_
  refine aw_bipush (v := 6) dX10_callsPass_18 (by decide) ?_
  refine aw_iload_n dX10_callsPass_20 rfl 1 rfl ?_
  refine aw_imul dX10_callsPass_21 ?_
  refine aw_iload_n dX10_callsPass_22 rfl 3 rfl ?_
  refine aw_iadd dX10_callsPass_23 ?_
  refine aw_ialdK (t0 := 0) (j := (((6 : Int32) * x1) + x3).toNatClampNeg) dX10_callsPass_24 shM29 rfl rfl hi1 ?_
  refine cvX10_bitsOf dX10_callsPass_25 mlX10_361 (Nat.le_of_ble_eq_true rfl) H (fun z3 h2 H => ?_)
  refine cvX10_callsDebt dX10_callsPass_28 mlX10_364 shM0 (Nat.le_of_ble_eq_true rfl) H (fun h4 H => ?_)
  exact aw_vret dX10_callsPass_31 rfl ⟨rfl, H⟩
set_option maxRecDepth 8000 in
set_option maxHeartbeats 1000000 in
theorem bX10_callsPay_0 {adK adV : Nat → Nat} {l : Launch} {ad : Nat → Nat} {d : Nat} {R : aH → Prop}   (x1 : Int32) (x2 : Int32)  (h : aH)
    (H : AW (GM adK adV) l ad d mX10_oldestOf 0 [(0, .ref (ad 0)), (1, .int x1), (2, .int x2)] [] h (qi fun z2 h1 => (¬ z2 = (-1 : Int32) → (vp_in (((6 : Int32) * x1) + z2) 138 ∧ (AW (GM adK adV) l ad (d + 1) mX10_callsPay 30 [] [.int (h1.1 28 (((6 : Int32) * x1) + z2).toNatClampNeg), .int x2, .int x1, .ref (ad 0)] h1 (qv R)))) ∧ (z2 = (-1 : Int32) → (AW (GM adK adV) l ad (d + 1) mX10_callsPay 30 [] [.int (0 : Int32), .int x2, .int x1, .ref (ad 0)] h1 (qv R))))) : AW (GM adK adV) l ad (d + 1) mX10_callsPay 0 [(0, .ref (ad 0)), (1, .int x1), (2, .int x2)] [] h (qv R) := by
  refine aw_aload_n dX10_callsPay_0 rfl 0 rfl ?_
  refine aw_iload_n dX10_callsPay_1 rfl 1 rfl ?_
  refine aw_iload_n dX10_callsPay_2 rfl 2 rfl ?_
  refine cvX10_oldestOf dX10_callsPay_3 mlX10_368 shM0 (Nat.le_of_ble_eq_true rfl) H (fun z2 h1 H => ?_)
  refine aw_istore_n (ls' := [(3, .int z2), (0, .ref (ad 0)), (1, .int x1), (2, .int x2)]) dX10_callsPay_6 rfl (by decide) rfl ?_
  refine aw_aload_n dX10_callsPay_7 rfl 1 rfl ?_
  refine aw_iload_n dX10_callsPay_8 rfl 2 rfl ?_
  refine aw_iload_n dX10_callsPay_9 rfl 3 rfl ?_
  refine aw_iload_n dX10_callsPay_10 rfl 0 rfl ?_
  refine aw_iconst (v := (-1)) dX10_callsPay_11 (by decide) ?_
  refine aw_icmp_ne (tgt := 19) dX10_callsPay_12 (by decide) (fun hc4 => ?_) (fun hc4 => ?_)
  · replace H := H.1 hc4
    refine aw_aload_n dX10_callsPay_19 rfl 1 rfl ?_
    refine aw_get dX10_callsPay_20 shM0 ckX10 flX10_96 (v := .ref (ad 28)) rfl ?_
    refine aw_bipush (v := 6) dX10_callsPay_23 (by decide) ?_
    refine aw_iload_n dX10_callsPay_25 rfl 2 rfl ?_
    refine aw_imul dX10_callsPay_26 ?_
    refine aw_iload_n dX10_callsPay_27 rfl 0 rfl ?_
    refine aw_iadd dX10_callsPay_28 ?_
    obtain ⟨hi3, H⟩ := H
    refine aw_ialdK (t0 := 0) (j := (((6 : Int32) * x1) + z2).toNatClampNeg) dX10_callsPay_29 shM28 rfl rfl hi3 ?_
    exact aw_ls [] rfl H
  · replace H := H.2 hc4
    refine aw_iconst (v := 0) dX10_callsPay_15 (by decide) ?_
    refine aw_goto (tgt := 30) dX10_callsPay_16 (by decide) ?_
    exact aw_ls [] rfl H
set_option maxRecDepth 8000 in
set_option maxHeartbeats 1000000 in
theorem bX10_callsPay_30 {adK adV : Nat → Nat} {l : Launch} {ad : Nat → Nat} {d : Nat} {R : aH → Prop}   (s0 : Int32) (s1 : Int32) (s2 : Int32)  (h : aH)
    (H : AW (GM adK adV) l ad d mX10_callsDebt 0 [(0, .ref (ad 0)), (1, .int s2), (2, .int s1), (3, .int s0), (4, .int (0 : Int32))] [] h (qv fun h1 => R h1)) : AW (GM adK adV) l ad (d + 1) mX10_callsPay 30 [] [.int s0, .int s1, .int s2, .ref (ad 0)] h (qv R) := by
  refine aw_iconst (v := 0) dX10_callsPay_30 (by decide) ?_
  refine cvX10_callsDebt dX10_callsPay_31 mlX10_364 shM0 (Nat.le_of_ble_eq_true rfl) H (fun h1 H => ?_)
  exact aw_vret dX10_callsPay_34 rfl ⟨rfl, H⟩
set_option maxRecDepth 8000 in
set_option maxHeartbeats 1000000 in
theorem bX10_mortal_0 {adK adV : Nat → Nat} {l : Launch} {ad : Nat → Nat} {d : Nat} {R : Int32 → aH → Prop}   (x1 : Int32) (x2 : Int32)  (h : aH)
    (H : vp_in (((6 : Int32) * x1) + x2) 138 ∧ (AW (GM adK adV) l ad d mX10_bitsOf 0 [(0, .int (h.1 29 (((6 : Int32) * x1) + x2).toNatClampNeg))] [] h (qi fun z3 h2 => ∀ h4 : aH, h4 = (sJ (sJ h2 21 0 (0 : Int64)) 21 1 ((sJ h2 21 0 (0 : Int64)).1 28 (((6 : Int32) * x1) + x2).toNatClampNeg).toInt64) → (vp_in x1 23 ∧ (∀ h6 : aH, h6 = (sJ (sJ (sJ (sJ (sJ h4 21 2 (0 : Int64)) 21 3 z3.toInt64) 21 4 (0 : Int64)) 21 5 z3.toInt64) 21 6 ((sJ (sJ (sJ (sJ h4 21 2 (0 : Int64)) 21 3 z3.toInt64) 21 4 (0 : Int64)) 21 5 z3.toInt64).1 23 x1.toNatClampNeg).toInt64) → (AW (GM adK adV) l ad d mX10_hasLaw 0 [(0, .ref (ad 0)), (1, .int (2 : Int32))] [] h6 (qi fun z8 h7 => (z8 = 0 → (AW (GM adK adV) l ad (d + 1) mX10_mortal 100 [(0, .ref (ad 0)), (1, .int x1), (2, .int x2)] [] h7 (qi R))) ∧ (¬ z8 = 0 → (AW (GM adK adV) l ad d mX10_goes 0 [(0, .ref (ad 0)), (1, .int (2 : Int32))] [] h7 (qi fun z10 h9 => (¬ z10 = 0 → (R (if (if (h9.2.1 22 0) < (100 : Int64) then (h9.2.1 22 0) else (100 : Int64)) < (0 : Int64) then (0 : Int64) else (if (h9.2.1 22 0) < (100 : Int64) then (h9.2.1 22 0) else (100 : Int64))).toInt32 h9)) ∧ (z10 = 0 → (AW (GM adK adV) l ad (d + 1) mX10_mortal 100 [(0, .ref (ad 0)), (1, .int x1), (2, .int x2)] [] h9 (qi R))))))))))))) : AW (GM adK adV) l ad (d + 1) mX10_mortal 0 [(0, .ref (ad 0)), (1, .int x1), (2, .int x2)] [] h (qi R) := by
  refine aw_aload_n dX10_mortal_0 rfl 0 rfl ?_
  refine aw_get dX10_mortal_1 shM0 ckX10 flX10_99 (v := .ref (ad 29)) rfl ?_
  refine aw_bipush (v := 6) dX10_mortal_4 (by decide) ?_
  refine aw_iload_n dX10_mortal_6 rfl 1 rfl ?_
  refine aw_imul dX10_mortal_7 ?_
  refine aw_iload_n dX10_mortal_8 rfl 2 rfl ?_
  refine aw_iadd dX10_mortal_9 ?_
  obtain ⟨hi1, H⟩ := H
  refine aw_ialdK (t0 := 0) (j := (((6 : Int32) * x1) + x2).toNatClampNeg) dX10_mortal_10 shM29 rfl rfl hi1 ?_
  refine cvX10_bitsOf dX10_mortal_11 mlX10_361 (Nat.le_of_ble_eq_true rfl) H (fun z3 h2 H => ?_)
  refine aw_istore_n (ls' := [(3, .int z3), (0, .ref (ad 0)), (1, .int x1), (2, .int x2)]) dX10_mortal_14 rfl (by decide) rfl ?_
  refine aw_aload_n dX10_mortal_15 rfl 1 rfl ?_
  refine aw_get dX10_mortal_16 shM0 ckX10 flX10_74 (v := .ref (ad 21)) rfl ?_
  refine aw_iconst (v := 0) dX10_mortal_19 (by decide) ?_
  refine aw_lconst (v := 0) dX10_mortal_20 (by decide) ?_
  refine aw_lastK (t0 := 1) (j := 0) dX10_mortal_21 shM21 rfl (by decide) (vp_inK (by decide) (by decide)) ?_
  refine aw_aload_n dX10_mortal_22 rfl 1 rfl ?_
  refine aw_get dX10_mortal_23 shM0 ckX10 flX10_74 (v := .ref (ad 21)) rfl ?_
  refine aw_iconst (v := 1) dX10_mortal_26 (by decide) ?_
  refine aw_aload_n dX10_mortal_27 rfl 1 rfl ?_
  refine aw_get dX10_mortal_28 shM0 ckX10 flX10_96 (v := .ref (ad 28)) rfl ?_
  refine aw_bipush (v := 6) dX10_mortal_31 (by decide) ?_
  refine aw_iload_n dX10_mortal_33 rfl 2 rfl ?_
  refine aw_imul dX10_mortal_34 ?_
  refine aw_iload_n dX10_mortal_35 rfl 3 rfl ?_
  refine aw_iadd dX10_mortal_36 ?_
  refine aw_ialdK (t0 := 0) (j := (((6 : Int32) * x1) + x2).toNatClampNeg) dX10_mortal_37 shM28 rfl rfl hi1 ?_
  refine aw_i2l dX10_mortal_38 ?_
  refine aw_lastK (t0 := 1) (j := 1) dX10_mortal_39 shM21 rfl (by decide) (vp_inK (by decide) (by decide)) ?_
  refine aw_toph (fun h4 eh4 => ?_)
  replace H := H h4 eh4
  refine aw_aload_n dX10_mortal_40 rfl 1 rfl ?_
  refine aw_get dX10_mortal_41 shM0 ckX10 flX10_74 (v := .ref (ad 21)) rfl ?_
  refine aw_iconst (v := 2) dX10_mortal_44 (by decide) ?_
  refine aw_lconst (v := 0) dX10_mortal_45 (by decide) ?_
  refine aw_lastK (t0 := 1) (j := 2) dX10_mortal_46 shM21 rfl (by decide) (vp_inK (by decide) (by decide)) ?_
  refine aw_aload_n dX10_mortal_47 rfl 1 rfl ?_
  refine aw_get dX10_mortal_48 shM0 ckX10 flX10_74 (v := .ref (ad 21)) rfl ?_
  refine aw_iconst (v := 3) dX10_mortal_51 (by decide) ?_
  refine aw_iload_n dX10_mortal_52 rfl 0 rfl ?_
  refine aw_i2l dX10_mortal_53 ?_
  refine aw_lastK (t0 := 1) (j := 3) dX10_mortal_54 shM21 rfl (by decide) (vp_inK (by decide) (by decide)) ?_
  refine aw_aload_n dX10_mortal_55 rfl 1 rfl ?_
  refine aw_get dX10_mortal_56 shM0 ckX10 flX10_74 (v := .ref (ad 21)) rfl ?_
  refine aw_iconst (v := 4) dX10_mortal_59 (by decide) ?_
  refine aw_lconst (v := 0) dX10_mortal_60 (by decide) ?_
  refine aw_lastK (t0 := 1) (j := 4) dX10_mortal_61 shM21 rfl (by decide) (vp_inK (by decide) (by decide)) ?_
  refine aw_aload_n dX10_mortal_62 rfl 1 rfl ?_
  refine aw_get dX10_mortal_63 shM0 ckX10 flX10_74 (v := .ref (ad 21)) rfl ?_
  refine aw_iconst (v := 5) dX10_mortal_66 (by decide) ?_
  refine aw_iload_n dX10_mortal_67 rfl 0 rfl ?_
  refine aw_i2l dX10_mortal_68 ?_
  refine aw_lastK (t0 := 1) (j := 5) dX10_mortal_69 shM21 rfl (by decide) (vp_inK (by decide) (by decide)) ?_
  refine aw_aload_n dX10_mortal_70 rfl 1 rfl ?_
  refine aw_get dX10_mortal_71 shM0 ckX10 flX10_74 (v := .ref (ad 21)) rfl ?_
  refine aw_bipush (v := 6) dX10_mortal_74 (by decide) ?_
  refine aw_aload_n dX10_mortal_76 rfl 1 rfl ?_
  refine aw_get dX10_mortal_77 shM0 ckX10 flX10_81 (v := .ref (ad 23)) rfl ?_
  refine aw_iload_n dX10_mortal_80 rfl 2 rfl ?_
  obtain ⟨hi5, H⟩ := H
  refine aw_ialdK (t0 := 0) (j := x1.toNatClampNeg) dX10_mortal_81 shM23 rfl rfl hi5 ?_
  refine aw_i2l dX10_mortal_82 ?_
  refine aw_lastK (t0 := 1) (j := 6) dX10_mortal_83 shM21 rfl (by decide) (vp_inK (by decide) (by decide)) ?_
  refine aw_toph (fun h6 eh6 => ?_)
  replace H := H h6 eh6
  refine aw_aload_n dX10_mortal_84 rfl 1 rfl ?_
  refine aw_iconst (v := 2) dX10_mortal_85 (by decide) ?_
  refine cvX10_hasLaw dX10_mortal_86 mlX10_371 shM0 (Nat.le_of_ble_eq_true rfl) H (fun z8 h7 H => ?_)
  refine aw_if_eq (tgt := 100) dX10_mortal_89 (by decide) (fun hc12 => ?_) (fun hc12 => ?_)
  · replace H := H.1 hc12
    exact aw_ls [1, 2, 3] rfl H
  · replace H := H.2 hc12
    refine aw_aload_n dX10_mortal_92 rfl 1 rfl ?_
    refine aw_iconst (v := 2) dX10_mortal_93 (by decide) ?_
    refine cvX10_goes dX10_mortal_94 mlX10_374 shM0 (Nat.le_of_ble_eq_true rfl) H (fun z10 h9 H => ?_)
    refine aw_if_ne (tgt := 119) dX10_mortal_97 (by decide) (fun hc11 => ?_) (fun hc11 => ?_)
    · replace H := H.1 hc11
      refine aw_lconst (v := 0) dX10_mortal_119 (by decide) ?_
      refine aw_ldc2 dX10_mortal_120 clX10_380 ?_
      refine aw_aload_n dX10_mortal_123 rfl 1 rfl ?_
      refine aw_get dX10_mortal_124 shM0 ckX10 flX10_78 (v := .ref (ad 22)) rfl ?_
      refine aw_iconst (v := 0) dX10_mortal_127 (by decide) ?_
      refine aw_laldK (t0 := 1) (j := 0) dX10_mortal_128 shM22 rfl (by decide) (vp_inK (by decide) (by decide)) ?_
      refine aw_mminl dX10_mortal_129 mlX10_382 (Nat.le_of_ble_eq_true rfl) ?_
      refine aw_mmaxl dX10_mortal_132 mlX10_386 (Nat.le_of_ble_eq_true rfl) ?_
      refine aw_l2i dX10_mortal_135 ?_
      exact aw_iret dX10_mortal_136 rfl ⟨_, rfl, H⟩
    · replace H := H.2 hc11
      exact aw_ls [1, 2, 3] rfl H
set_option maxRecDepth 8000 in
set_option maxHeartbeats 1000000 in
theorem bX10_mortal_100 {adK adV : Nat → Nat} {l : Launch} {ad : Nat → Nat} {d : Nat} {R : Int32 → aH → Prop}   (x1 : Int32) (x2 : Int32)  (h : aH)
    (H : vp_in (((6 : Int32) * x1) + x2) 138 ∧ (R (if (0 : Int32) < ((h.1 28 (((6 : Int32) * x1) + x2).toNatClampNeg) - (60 : Int32)) then ((h.1 28 (((6 : Int32) * x1) + x2).toNatClampNeg) - (60 : Int32)) else (0 : Int32)) h)) : AW (GM adK adV) l ad (d + 1) mX10_mortal 100 [(0, .ref (ad 0)), (1, .int x1), (2, .int x2)] [] h (qi R) := by
  refine aw_iconst (v := 0) dX10_mortal_100 (by decide) ?_
  refine aw_aload_n dX10_mortal_101 rfl 0 rfl ?_
  refine aw_get dX10_mortal_102 shM0 ckX10 flX10_96 (v := .ref (ad 28)) rfl ?_
  refine aw_bipush (v := 6) dX10_mortal_105 (by decide) ?_
  refine aw_iload_n dX10_mortal_107 rfl 1 rfl ?_
  refine aw_imul dX10_mortal_108 ?_
  refine aw_iload_n dX10_mortal_109 rfl 2 rfl ?_
  refine aw_iadd dX10_mortal_110 ?_
  obtain ⟨hi1, H⟩ := H
  refine aw_ialdK (t0 := 0) (j := (((6 : Int32) * x1) + x2).toNatClampNeg) dX10_mortal_111 shM28 rfl rfl hi1 ?_
  refine aw_bipush (v := 60) dX10_mortal_112 (by decide) ?_
  refine aw_isub dX10_mortal_114 ?_
  refine aw_mmax dX10_mortal_115 mlX10_377 (Nat.le_of_ble_eq_true rfl) ?_
  exact aw_iret dX10_mortal_118 rfl ⟨_, rfl, H⟩
set_option maxRecDepth 8000 in
set_option maxHeartbeats 1000000 in
theorem bX10_learns_0 {adK adV : Nat → Nat} {l : Launch} {ad : Nat → Nat} {d : Nat} {R : aH → Prop}   (x1 : Int32) (x2 : Int32) (x3 : Int32)  (h : aH)
    (H : (¬ (h.1 0 54) = (2 : Int32) → (AW (GM adK adV) l ad d mX10_learns 16 [(0, .ref (ad 0)), (1, .int x1), (2, .int x2), (3, .int x3)] [] h (qv R))) ∧ ((h.1 0 54) = (2 : Int32) → ((x2 = (h.1 0 55) → (R h)) ∧ (¬ x2 = (h.1 0 55) → (AW (GM adK adV) l ad d mX10_learns 16 [(0, .ref (ad 0)), (1, .int x1), (2, .int x2), (3, .int x3)] [] h (qv R)))))) : AW (GM adK adV) l ad d mX10_learns 0 [(0, .ref (ad 0)), (1, .int x1), (2, .int x2), (3, .int x3)] [] h (qv R) := by
  refine aw_aload_n dX10_learns_0 rfl 0 rfl ?_
  refine aw_get dX10_learns_1 shM0 ckX10 flX10_388 (v := .int (h.1 0 54)) rfl ?_
  refine aw_iconst (v := 2) dX10_learns_4 (by decide) ?_
  refine aw_icmp_ne (tgt := 16) dX10_learns_5 (by decide) (fun hc2 => ?_) (fun hc2 => ?_)
  · replace H := H.1 hc2
    exact aw_ls [0, 1, 2, 3] rfl H
  · replace H := H.2 hc2
    refine aw_iload_n dX10_learns_8 rfl 2 rfl ?_
    refine aw_aload_n dX10_learns_9 rfl 0 rfl ?_
    refine aw_get dX10_learns_10 shM0 ckX10 flX10_123 (v := .int (h.1 0 55)) rfl ?_
    refine aw_icmp_eq (tgt := 33) dX10_learns_13 (by decide) (fun hc1 => ?_) (fun hc1 => ?_)
    · replace H := H.1 hc1
      exact aw_vret dX10_learns_33 rfl ⟨rfl, H⟩
    · replace H := H.2 hc1
      exact aw_ls [0, 1, 2, 3] rfl H
set_option maxRecDepth 8000 in
set_option maxHeartbeats 1000000 in
theorem bX10_learns_16 {adK adV : Nat → Nat} {l : Launch} {ad : Nat → Nat} {d : Nat} {R : aH → Prop}   (x1 : Int32) (x2 : Int32) (x3 : Int32)  (h : aH)
    (H : vp_in (((6 : Int32) * x1) + x2) 138 ∧ (∀ h2 : aH, h2 = (sI h 29 (((6 : Int32) * x1) + x2).toNatClampNeg ((h.1 29 (((6 : Int32) * x1) + x2).toNatClampNeg) ||| ((1 : Int32) <<< (x3 &&& 31)))) → (R h2))) : AW (GM adK adV) l ad d mX10_learns 16 [(0, .ref (ad 0)), (1, .int x1), (2, .int x2), (3, .int x3)] [] h (qv R) := by
  refine aw_aload_n dX10_learns_16 rfl 0 rfl ?_
  refine aw_get dX10_learns_17 shM0 ckX10 flX10_99 (v := .ref (ad 29)) rfl ?_
  refine aw_bipush (v := 6) dX10_learns_20 (by decide) ?_
  refine aw_iload_n dX10_learns_22 rfl 1 rfl ?_
  refine aw_imul dX10_learns_23 ?_
  refine aw_iload_n dX10_learns_24 rfl 2 rfl ?_
  refine aw_iadd dX10_learns_25 ?_
  refine aw_dup2 dX10_learns_26 rfl rfl ?_
  obtain ⟨hi1, H⟩ := H
  refine aw_ialdK (t0 := 0) (j := (((6 : Int32) * x1) + x2).toNatClampNeg) dX10_learns_27 shM29 rfl rfl hi1 ?_
  refine aw_iconst (v := 1) dX10_learns_28 (by decide) ?_
  refine aw_iload_n dX10_learns_29 rfl 3 rfl ?_
  refine aw_ishl dX10_learns_30 ?_
  refine aw_ior dX10_learns_31 ?_
  refine aw_iastK (t0 := 0) (j := (((6 : Int32) * x1) + x2).toNatClampNeg) dX10_learns_32 shM29 rfl rfl hi1 ?_
  refine aw_toph (fun h2 eh2 => ?_)
  replace H := H h2 eh2
  exact aw_vret dX10_learns_33 rfl ⟨rfl, H⟩
set_option maxRecDepth 8000 in
set_option maxHeartbeats 1000000 in
theorem bX10_opens_0 {adK adV : Nat → Nat} {l : Launch} {ad : Nat → Nat} {d : Nat} {R : aH → Prop}   (x1 : Int32) (x2 : Int32)  (h : aH)
    (H : vp_in (((8 : Int32) * x1) + x2) 184 ∧ (∀ t2 : Int32, t2 = (((6 : Int32) * x1) + (h.1 30 (((8 : Int32) * x1) + x2).toNatClampNeg)) → (vp_in (h.1 33 (((8 : Int32) * x1) + x2).toNatClampNeg) 12 ∧ (∀ t4 : Int32, t4 = ((h.1 32 (((8 : Int32) * x1) + x2).toNatClampNeg) + (h.1 7 (h.1 33 (((8 : Int32) * x1) + x2).toNatClampNeg).toNatClampNeg)) → (AW (GM adK adV) l ad d mX10_isAlive 0 [(0, .ref (ad 0)), (1, .int x1), (2, .int (h.1 33 (((8 : Int32) * x1) + x2).toNatClampNeg))] [] h (qi fun z6 h5 => (z6 = 0 → (R (sI h5 35 (((8 : Int32) * x1) + x2).toNatClampNeg (4 : Int32)))) ∧ (¬ z6 = 0 → (vp_in t2 138 ∧ ((t4 ≤ (h5.1 27 t2.toNatClampNeg) → (∀ h8 : aH, h8 = (sI (sI h5 35 (((8 : Int32) * x1) + x2).toNatClampNeg (1 : Int32)) 27 t2.toNatClampNeg (((sI h5 35 (((8 : Int32) * x1) + x2).toNatClampNeg (1 : Int32)).1 27 t2.toNatClampNeg) - t4)) → (vp_in (((6 : Int32) * x1) + (h8.1 31 (((8 : Int32) * x1) + x2).toNatClampNeg)) 138 ∧ (∀ h10 : aH, h10 = (sI h8 27 (((6 : Int32) * x1) + (h8.1 31 (((8 : Int32) * x1) + x2).toNatClampNeg)).toNatClampNeg ((h8.1 27 (((6 : Int32) * x1) + (h8.1 31 (((8 : Int32) * x1) + x2).toNatClampNeg)).toNatClampNeg) + (h8.1 32 (((8 : Int32) * x1) + x2).toNatClampNeg))) → (AW (GM adK adV) l ad d mX10_learns 0 [(0, .ref (ad 0)), (1, .int x1), (2, .int ((sI h10 36 (((8 : Int32) * x1) + x2).toNatClampNeg (h10.1 32 (((8 : Int32) * x1) + x2).toNatClampNeg)).1 33 (((8 : Int32) * x1) + x2).toNatClampNeg)), (3, .int x2)] [] (sI h10 36 (((8 : Int32) * x1) + x2).toNatClampNeg (h10.1 32 (((8 : Int32) * x1) + x2).toNatClampNeg)) (qv fun h11 => R h11)))))) ∧ (¬ t4 ≤ (h5.1 27 t2.toNatClampNeg) → (R (sI h5 35 (((8 : Int32) * x1) + x2).toNatClampNeg (4 : Int32))))))))))))) : AW (GM adK adV) l ad (d + 1) mX10_opens 0 [(0, .ref (ad 0)), (1, .int x1), (2, .int x2)] [] h (qv R) := by
  refine aw_bipush (v := 8) dX10_opens_0 (by decide) ?_
  refine aw_iload_n dX10_opens_2 rfl 1 rfl ?_
  refine aw_imul dX10_opens_3 ?_
  refine aw_iload_n dX10_opens_4 rfl 2 rfl ?_
  refine aw_iadd dX10_opens_5 ?_
  refine aw_istore_n (ls' := [(3, .int (((8 : Int32) * x1) + x2)), (0, .ref (ad 0)), (1, .int x1), (2, .int x2)]) dX10_opens_6 rfl (by decide) rfl ?_
  refine aw_bipush (v := 6) dX10_opens_7 (by decide) ?_
  refine aw_iload_n dX10_opens_9 rfl 2 rfl ?_
  refine aw_imul dX10_opens_10 ?_
  refine aw_aload_n dX10_opens_11 rfl 1 rfl ?_
  refine aw_get dX10_opens_12 shM0 ckX10 flX10_102 (v := .ref (ad 30)) rfl ?_
  refine aw_iload_n dX10_opens_15 rfl 0 rfl ?_
  obtain ⟨hi1, H⟩ := H
  refine aw_ialdK (t0 := 0) (j := (((8 : Int32) * x1) + x2).toNatClampNeg) dX10_opens_16 shM30 rfl rfl hi1 ?_
  refine aw_iadd dX10_opens_17 ?_
  refine aw_topi (fun t2 et2 => ?_)
  replace H := H t2 et2
  refine aw_istore (ls' := [(4, .int t2), (3, .int (((8 : Int32) * x1) + x2)), (0, .ref (ad 0)), (1, .int x1), (2, .int x2)]) dX10_opens_18 (by decide) rfl ?_
  refine aw_aload_n dX10_opens_20 rfl 2 rfl ?_
  refine aw_get dX10_opens_21 shM0 ckX10 flX10_108 (v := .ref (ad 32)) rfl ?_
  refine aw_iload_n dX10_opens_24 rfl 1 rfl ?_
  refine aw_ialdK (t0 := 0) (j := (((8 : Int32) * x1) + x2).toNatClampNeg) dX10_opens_25 shM32 rfl rfl hi1 ?_
  refine aw_aload_n dX10_opens_26 rfl 2 rfl ?_
  refine aw_get dX10_opens_27 shM0 ckX10 flX10_28 (v := .ref (ad 7)) rfl ?_
  refine aw_aload_n dX10_opens_30 rfl 2 rfl ?_
  refine aw_get dX10_opens_31 shM0 ckX10 flX10_111 (v := .ref (ad 33)) rfl ?_
  refine aw_iload_n dX10_opens_34 rfl 1 rfl ?_
  refine aw_ialdK (t0 := 0) (j := (((8 : Int32) * x1) + x2).toNatClampNeg) dX10_opens_35 shM33 rfl rfl hi1 ?_
  obtain ⟨hi3, H⟩ := H
  refine aw_ialdK (t0 := 0) (j := (h.1 33 (((8 : Int32) * x1) + x2).toNatClampNeg).toNatClampNeg) dX10_opens_36 shM7 rfl rfl hi3 ?_
  refine aw_iadd dX10_opens_37 ?_
  refine aw_topi (fun t4 et4 => ?_)
  replace H := H t4 et4
  refine aw_istore (ls' := [(5, .int t4), (4, .int t2), (3, .int (((8 : Int32) * x1) + x2)), (0, .ref (ad 0)), (1, .int x1), (2, .int x2)]) dX10_opens_38 (by decide) rfl ?_
  refine aw_aload_n dX10_opens_40 rfl 3 rfl ?_
  refine aw_iload_n dX10_opens_41 rfl 4 rfl ?_
  refine aw_aload_n dX10_opens_42 rfl 3 rfl ?_
  refine aw_get dX10_opens_43 shM0 ckX10 flX10_111 (v := .ref (ad 33)) rfl ?_
  refine aw_iload_n dX10_opens_46 rfl 2 rfl ?_
  refine aw_ialdK (t0 := 0) (j := (((8 : Int32) * x1) + x2).toNatClampNeg) dX10_opens_47 shM33 rfl rfl hi1 ?_
  refine cvX10_isAlive dX10_opens_48 mlX10_391 shM0 (Nat.le_of_ble_eq_true rfl) H (fun z6 h5 H => ?_)
  refine aw_if_eq (tgt := 66) dX10_opens_51 (by decide) (fun hc14 => ?_) (fun hc14 => ?_)
  · replace H := H.1 hc14
    refine aw_aload_n dX10_opens_66 rfl 3 rfl ?_
    refine aw_get dX10_opens_67 shM0 ckX10 flX10_117 (v := .ref (ad 35)) rfl ?_
    refine aw_iload_n dX10_opens_70 rfl 2 rfl ?_
    refine aw_iconst (v := 4) dX10_opens_71 (by decide) ?_
    refine aw_iastK (t0 := 0) (j := (((8 : Int32) * x1) + x2).toNatClampNeg) dX10_opens_72 shM35 rfl rfl hi1 ?_
    exact aw_vret dX10_opens_73 rfl ⟨rfl, H⟩
  · replace H := H.2 hc14
    refine aw_aload_n dX10_opens_54 rfl 3 rfl ?_
    refine aw_get dX10_opens_55 shM0 ckX10 flX10_93 (v := .ref (ad 27)) rfl ?_
    refine aw_iload dX10_opens_58 1 rfl ?_
    obtain ⟨hi7, H⟩ := H
    refine aw_ialdK (t0 := 0) (j := t2.toNatClampNeg) dX10_opens_60 shM27 rfl rfl hi7 ?_
    refine aw_iload dX10_opens_61 0 rfl ?_
    refine aw_icmp_ge (tgt := 74) dX10_opens_63 (by decide) (fun hc13 => ?_) (fun hc13 => ?_)
    · replace H := H.1 hc13
      refine aw_aload_n dX10_opens_74 rfl 3 rfl ?_
      refine aw_get dX10_opens_75 shM0 ckX10 flX10_117 (v := .ref (ad 35)) rfl ?_
      refine aw_iload_n dX10_opens_78 rfl 2 rfl ?_
      refine aw_iconst (v := 1) dX10_opens_79 (by decide) ?_
      refine aw_iastK (t0 := 0) (j := (((8 : Int32) * x1) + x2).toNatClampNeg) dX10_opens_80 shM35 rfl rfl hi1 ?_
      refine aw_aload_n dX10_opens_81 rfl 3 rfl ?_
      refine aw_get dX10_opens_82 shM0 ckX10 flX10_93 (v := .ref (ad 27)) rfl ?_
      refine aw_iload dX10_opens_85 1 rfl ?_
      refine aw_dup2 dX10_opens_87 rfl rfl ?_
      refine aw_ialdK (t0 := 0) (j := t2.toNatClampNeg) dX10_opens_88 shM27 rfl rfl hi7 ?_
      refine aw_iload dX10_opens_89 0 rfl ?_
      refine aw_isub dX10_opens_91 ?_
      refine aw_iastK (t0 := 0) (j := t2.toNatClampNeg) dX10_opens_92 shM27 rfl rfl hi7 ?_
      refine aw_toph (fun h8 eh8 => ?_)
      replace H := H h8 eh8
      refine aw_aload_n dX10_opens_93 rfl 3 rfl ?_
      refine aw_get dX10_opens_94 shM0 ckX10 flX10_93 (v := .ref (ad 27)) rfl ?_
      refine aw_bipush (v := 6) dX10_opens_97 (by decide) ?_
      refine aw_iload_n dX10_opens_99 rfl 4 rfl ?_
      refine aw_imul dX10_opens_100 ?_
      refine aw_aload_n dX10_opens_101 rfl 3 rfl ?_
      refine aw_get dX10_opens_102 shM0 ckX10 flX10_105 (v := .ref (ad 31)) rfl ?_
      refine aw_iload_n dX10_opens_105 rfl 2 rfl ?_
      refine aw_ialdK (t0 := 0) (j := (((8 : Int32) * x1) + x2).toNatClampNeg) dX10_opens_106 shM31 rfl rfl hi1 ?_
      refine aw_iadd dX10_opens_107 ?_
      refine aw_dup2 dX10_opens_108 rfl rfl ?_
      obtain ⟨hi9, H⟩ := H
      refine aw_ialdK (t0 := 0) (j := (((6 : Int32) * x1) + (h8.1 31 (((8 : Int32) * x1) + x2).toNatClampNeg)).toNatClampNeg) dX10_opens_109 shM27 rfl rfl hi9 ?_
      refine aw_aload_n dX10_opens_110 rfl 3 rfl ?_
      refine aw_get dX10_opens_111 shM0 ckX10 flX10_108 (v := .ref (ad 32)) rfl ?_
      refine aw_iload_n dX10_opens_114 rfl 2 rfl ?_
      refine aw_ialdK (t0 := 0) (j := (((8 : Int32) * x1) + x2).toNatClampNeg) dX10_opens_115 shM32 rfl rfl hi1 ?_
      refine aw_iadd dX10_opens_116 ?_
      refine aw_iastK (t0 := 0) (j := (((6 : Int32) * x1) + (h8.1 31 (((8 : Int32) * x1) + x2).toNatClampNeg)).toNatClampNeg) dX10_opens_117 shM27 rfl rfl hi9 ?_
      refine aw_toph (fun h10 eh10 => ?_)
      replace H := H h10 eh10
      refine aw_aload_n dX10_opens_118 rfl 3 rfl ?_
      refine aw_get dX10_opens_119 shM0 ckX10 flX10_120 (v := .ref (ad 36)) rfl ?_
      refine aw_iload_n dX10_opens_122 rfl 2 rfl ?_
      refine aw_aload_n dX10_opens_123 rfl 3 rfl ?_
      refine aw_get dX10_opens_124 shM0 ckX10 flX10_108 (v := .ref (ad 32)) rfl ?_
      refine aw_iload_n dX10_opens_127 rfl 2 rfl ?_
      refine aw_ialdK (t0 := 0) (j := (((8 : Int32) * x1) + x2).toNatClampNeg) dX10_opens_128 shM32 rfl rfl hi1 ?_
      refine aw_iastK (t0 := 0) (j := (((8 : Int32) * x1) + x2).toNatClampNeg) dX10_opens_129 shM36 rfl rfl hi1 ?_
      refine aw_aload_n dX10_opens_130 rfl 3 rfl ?_
      refine aw_iload_n dX10_opens_131 rfl 4 rfl ?_
      refine aw_aload_n dX10_opens_132 rfl 3 rfl ?_
      refine aw_get dX10_opens_133 shM0 ckX10 flX10_111 (v := .ref (ad 33)) rfl ?_
      refine aw_iload_n dX10_opens_136 rfl 2 rfl ?_
      refine aw_ialdK (t0 := 0) (j := (((8 : Int32) * x1) + x2).toNatClampNeg) dX10_opens_137 shM33 rfl rfl hi1 ?_
      refine aw_iload_n dX10_opens_138 rfl 5 rfl ?_
      refine cvX10_learns dX10_opens_139 mlX10_395 shM0 (Nat.le_of_ble_eq_true rfl) H (fun h11 H => ?_)
      exact aw_vret dX10_opens_142 rfl ⟨rfl, H⟩
    · replace H := H.2 hc13
      refine aw_aload_n dX10_opens_66 rfl 3 rfl ?_
      refine aw_get dX10_opens_67 shM0 ckX10 flX10_117 (v := .ref (ad 35)) rfl ?_
      refine aw_iload_n dX10_opens_70 rfl 2 rfl ?_
      refine aw_iconst (v := 4) dX10_opens_71 (by decide) ?_
      refine aw_iastK (t0 := 0) (j := (((8 : Int32) * x1) + x2).toNatClampNeg) dX10_opens_72 shM35 rfl rfl hi1 ?_
      exact aw_vret dX10_opens_73 rfl ⟨rfl, H⟩
set_option maxRecDepth 8000 in
set_option maxHeartbeats 1000000 in
theorem bX10_leans_0 {adK adV : Nat → Nat} {l : Launch} {ad : Nat → Nat} {d : Nat} {R : Int32 → aH → Prop}   (x1 : Int32) (x2 : Int32) (x3 : Int32)  (h : aH)
    (H : AW (GM adK adV) l ad (d + 1) mX10_leans 6 [(0, .ref (ad 0)), (1, .int x1), (2, .int x2), (3, .int x3), (4, .int (0 : Int32)), (5, .int (0 : Int32))] [] h (qi R)) : AW (GM adK adV) l ad (d + 1) mX10_leans 0 [(0, .ref (ad 0)), (1, .int x1), (2, .int x2), (3, .int x3)] [] h (qi R) := by
  refine aw_iconst (v := 0) dX10_leans_0 (by decide) ?_
  refine aw_istore (ls' := [(4, .int (0 : Int32)), (0, .ref (ad 0)), (1, .int x1), (2, .int x2), (3, .int x3)]) dX10_leans_1 (by decide) rfl ?_
  refine aw_iconst (v := 0) dX10_leans_3 (by decide) ?_
  refine aw_istore (ls' := [(5, .int (0 : Int32)), (4, .int (0 : Int32)), (0, .ref (ad 0)), (1, .int x1), (2, .int x2), (3, .int x3)]) dX10_leans_4 (by decide) rfl ?_
  exact aw_ls [2, 3, 4, 5, 1, 0] rfl H
set_option maxRecDepth 8000 in
set_option maxHeartbeats 1000000 in
theorem bX10_leans_6 {adK adV : Nat → Nat} {l : Launch} {ad : Nat → Nat} {d : Nat} {R : Int32 → aH → Prop}   (x1 : Int32) (x2 : Int32) (x3 : Int32) (x4 : Int32) (x5 : Int32)  (h : aH)
    (H : vp_in x1 23 ∧ (((h.1 25 x1.toNatClampNeg) ≤ x5 → (R x4 h)) ∧ (¬ (h.1 25 x1.toNatClampNeg) ≤ x5 → (vp_in (((6 : Int32) * x1) + x2) 138 ∧ (((((h.1 29 (((6 : Int32) * x1) + x2).toNatClampNeg) >>> (x5 &&& 31)) &&& (1 : Int32)) = 0 → (AW (GM adK adV) l ad (d + 1) mX10_leans 6 [(0, .ref (ad 0)), (1, .int x1), (2, .int x2), (3, .int x3), (4, .int x4), (5, .int (x5 + (1 : Int32)))] [] h (qi R))) ∧ (¬ (((h.1 29 (((6 : Int32) * x1) + x2).toNatClampNeg) >>> (x5 &&& 31)) &&& (1 : Int32)) = 0 → (vp_in (((6 : Int32) * x1) + x3) 138 ∧ ((¬ (((h.1 29 (((6 : Int32) * x1) + x3).toNatClampNeg) >>> (x5 &&& 31)) &&& (1 : Int32)) = (1 : Int32) → (AW (GM adK adV) l ad d mX10_callsPass 0 [(0, .ref (ad 0)), (1, .int x1), (2, .int x5), (3, .int x2)] [] h (qv fun h4 => AW (GM adK adV) l ad d mX10_hasLaw 0 [(0, .ref (ad 0)), (1, .int (0 : Int32))] [] h4 (qi fun z7 h6 => (z7 = 0 → (AW (GM adK adV) l ad (d + 1) mX10_leans 97 [(0, .ref (ad 0)), (1, .int x1), (2, .int x2), (3, .int x3), (4, .int x4), (5, .int x5)] [] h6 (qi R))) ∧ (¬ z7 = 0 → (AW (GM adK adV) l ad d mX10_goes 0 [(0, .ref (ad 0)), (1, .int (0 : Int32))] [] h6 (qi fun z9 h8 => (z9 = 0 → (AW (GM adK adV) l ad (d + 1) mX10_leans 97 [(0, .ref (ad 0)), (1, .int x1), (2, .int x2), (3, .int x3), (4, .int x4), (5, .int x5)] [] h8 (qi R))) ∧ (¬ z9 = 0 → ((¬ (h8.2.1 22 0) = (0 : Int64) → (AW (GM adK adV) l ad (d + 1) mX10_leans 97 [(0, .ref (ad 0)), (1, .int x1), (2, .int x2), (3, .int x3), (4, .int x4), (5, .int x5)] [] h8 (qi R))) ∧ ((h8.2.1 22 0) = (0 : Int64) → (AW (GM adK adV) l ad (d + 1) mX10_leans 6 [(0, .ref (ad 0)), (1, .int x1), (2, .int x2), (3, .int x3), (4, .int x4), (5, .int (x5 + (1 : Int32)))] [] h8 (qi R)))))))))))) ∧ ((((h.1 29 (((6 : Int32) * x1) + x3).toNatClampNeg) >>> (x5 &&& 31)) &&& (1 : Int32)) = (1 : Int32) → (AW (GM adK adV) l ad (d + 1) mX10_leans 6 [(0, .ref (ad 0)), (1, .int x1), (2, .int x2), (3, .int x3), (4, .int x4), (5, .int (x5 + (1 : Int32)))] [] h (qi R))))))))))) : AW (GM adK adV) l ad (d + 1) mX10_leans 6 [(0, .ref (ad 0)), (1, .int x1), (2, .int x2), (3, .int x3), (4, .int x4), (5, .int x5)] [] h (qi R) := by
  refine aw_iload dX10_leans_6 5 rfl ?_
  refine aw_aload_n dX10_leans_8 rfl 0 rfl ?_
  refine aw_get dX10_leans_9 shM0 ckX10 flX10_87 (v := .ref (ad 25)) rfl ?_
  refine aw_iload_n dX10_leans_12 rfl 1 rfl ?_
  obtain ⟨hi1, H⟩ := H
  refine aw_ialdK (t0 := 0) (j := x1.toNatClampNeg) dX10_leans_13 shM25 rfl rfl hi1 ?_
  refine aw_icmp_ge (tgt := 114) dX10_leans_14 (by decide) (fun hc15 => ?_) (fun hc15 => ?_)
  · replace H := H.1 hc15
    refine aw_iload dX10_leans_114 4 rfl ?_
    exact aw_iret dX10_leans_116 rfl ⟨_, rfl, H⟩
  · replace H := H.2 hc15
    refine aw_aload_n dX10_leans_17 rfl 0 rfl ?_
    refine aw_get dX10_leans_18 shM0 ckX10 flX10_99 (v := .ref (ad 29)) rfl ?_
    refine aw_bipush (v := 6) dX10_leans_21 (by decide) ?_
    refine aw_iload_n dX10_leans_23 rfl 1 rfl ?_
    refine aw_imul dX10_leans_24 ?_
    refine aw_iload_n dX10_leans_25 rfl 2 rfl ?_
    refine aw_iadd dX10_leans_26 ?_
    obtain ⟨hi2, H⟩ := H
    refine aw_ialdK (t0 := 0) (j := (((6 : Int32) * x1) + x2).toNatClampNeg) dX10_leans_27 shM29 rfl rfl hi2 ?_
    refine aw_iload dX10_leans_28 5 rfl ?_
    refine aw_ishr dX10_leans_30 ?_
    refine aw_iconst (v := 1) dX10_leans_31 (by decide) ?_
    refine aw_iand dX10_leans_32 ?_
    refine aw_if_eq (tgt := 108) dX10_leans_33 (by decide) (fun hc14 => ?_) (fun hc14 => ?_)
    · replace H := H.1 hc14
      refine aw_inc (mm := (1)) (ls' := [(5, .int (x5 + (1 : Int32))), (0, .ref (ad 0)), (1, .int x1), (2, .int x2), (3, .int x3), (4, .int x4)]) dX10_leans_108 (by decide) (j := 5) rfl (by decide) rfl ?_
      refine aw_goto (tgt := 6) dX10_leans_111 (by decide) ?_
      exact aw_ls [1, 2, 3, 4, 5, 0] rfl H
    · replace H := H.2 hc14
      refine aw_aload_n dX10_leans_36 rfl 0 rfl ?_
      refine aw_get dX10_leans_37 shM0 ckX10 flX10_99 (v := .ref (ad 29)) rfl ?_
      refine aw_bipush (v := 6) dX10_leans_40 (by decide) ?_
      refine aw_iload_n dX10_leans_42 rfl 1 rfl ?_
      refine aw_imul dX10_leans_43 ?_
      refine aw_iload_n dX10_leans_44 rfl 3 rfl ?_
      refine aw_iadd dX10_leans_45 ?_
      obtain ⟨hi3, H⟩ := H
      refine aw_ialdK (t0 := 0) (j := (((6 : Int32) * x1) + x3).toNatClampNeg) dX10_leans_46 shM29 rfl rfl hi3 ?_
      refine aw_iload dX10_leans_47 5 rfl ?_
      refine aw_ishr dX10_leans_49 ?_
      refine aw_iconst (v := 1) dX10_leans_50 (by decide) ?_
      refine aw_iand dX10_leans_51 ?_
      refine aw_iconst (v := 1) dX10_leans_52 (by decide) ?_
      refine aw_icmp_ne (tgt := 59) dX10_leans_53 (by decide) (fun hc13 => ?_) (fun hc13 => ?_)
      · replace H := H.1 hc13
        refine aw_aload_n dX10_leans_59 rfl 0 rfl ?_
        refine aw_iload_n dX10_leans_60 rfl 1 rfl ?_
        refine aw_iload dX10_leans_61 5 rfl ?_
        refine aw_iload_n dX10_leans_63 rfl 2 rfl ?_
        refine cvX10_callsPass dX10_leans_64 mlX10_399 shM0 (Nat.le_of_ble_eq_true rfl) H (fun h4 H => ?_)
        refine aw_aload_n dX10_leans_67 rfl 0 rfl ?_
        refine aw_iconst (v := 0) dX10_leans_68 (by decide) ?_
        refine cvX10_hasLaw dX10_leans_69 mlX10_371 shM0 (Nat.le_of_ble_eq_true rfl) H (fun z7 h6 H => ?_)
        refine aw_if_eq (tgt := 97) dX10_leans_72 (by decide) (fun hc12 => ?_) (fun hc12 => ?_)
        · replace H := H.1 hc12
          exact aw_ls [0, 1, 2, 3, 4, 5] rfl H
        · replace H := H.2 hc12
          refine aw_aload_n dX10_leans_75 rfl 0 rfl ?_
          refine aw_iconst (v := 0) dX10_leans_76 (by decide) ?_
          refine cvX10_goes dX10_leans_77 mlX10_374 shM0 (Nat.le_of_ble_eq_true rfl) H (fun z9 h8 H => ?_)
          refine aw_if_eq (tgt := 97) dX10_leans_80 (by decide) (fun hc11 => ?_) (fun hc11 => ?_)
          · replace H := H.1 hc11
            exact aw_ls [0, 1, 2, 3, 4, 5] rfl H
          · replace H := H.2 hc11
            refine aw_aload_n dX10_leans_83 rfl 0 rfl ?_
            refine aw_get dX10_leans_84 shM0 ckX10 flX10_78 (v := .ref (ad 22)) rfl ?_
            refine aw_iconst (v := 0) dX10_leans_87 (by decide) ?_
            refine aw_laldK (t0 := 1) (j := 0) dX10_leans_88 shM22 rfl (by decide) (vp_inK (by decide) (by decide)) ?_
            refine aw_lconst (v := 0) dX10_leans_89 (by decide) ?_
            refine aw_lif_ne (tgt := 97) dX10_leans_90 dX10_leans_91 (by decide) (fun hc10 => ?_) (fun hc10 => ?_)
            · replace H := H.1 hc10
              exact aw_ls [0, 1, 2, 3, 4, 5] rfl H
            · replace H := H.2 hc10
              refine aw_goto (tgt := 108) dX10_leans_94 (by decide) ?_
              refine aw_inc (mm := (1)) (ls' := [(5, .int (x5 + (1 : Int32))), (0, .ref (ad 0)), (1, .int x1), (2, .int x2), (3, .int x3), (4, .int x4)]) dX10_leans_108 (by decide) (j := 5) rfl (by decide) rfl ?_
              refine aw_goto (tgt := 6) dX10_leans_111 (by decide) ?_
              exact aw_ls [1, 2, 3, 4, 5, 0] rfl H
      · replace H := H.2 hc13
        refine aw_goto (tgt := 108) dX10_leans_56 (by decide) ?_
        refine aw_inc (mm := (1)) (ls' := [(5, .int (x5 + (1 : Int32))), (0, .ref (ad 0)), (1, .int x1), (2, .int x2), (3, .int x3), (4, .int x4)]) dX10_leans_108 (by decide) (j := 5) rfl (by decide) rfl ?_
        refine aw_goto (tgt := 6) dX10_leans_111 (by decide) ?_
        exact aw_ls [1, 2, 3, 4, 5, 0] rfl H
set_option maxRecDepth 8000 in
set_option maxHeartbeats 1000000 in
theorem bX10_leans_97 {adK adV : Nat → Nat} {l : Launch} {ad : Nat → Nat} {d : Nat} {R : Int32 → aH → Prop}   (x1 : Int32) (x2 : Int32) (x3 : Int32) (x4 : Int32) (x5 : Int32)  (h : aH)
    (H : AW (GM adK adV) l ad d mX10_learns 0 [(0, .ref (ad 0)), (1, .int x1), (2, .int x3), (3, .int x5)] [] h (qv fun h1 => AW (GM adK adV) l ad (d + 1) mX10_leans 6 [(0, .ref (ad 0)), (1, .int x1), (2, .int x2), (3, .int x3), (4, .int (x4 + (1 : Int32))), (5, .int (x5 + (1 : Int32)))] [] h1 (qi R))) : AW (GM adK adV) l ad (d + 1) mX10_leans 97 [(0, .ref (ad 0)), (1, .int x1), (2, .int x2), (3, .int x3), (4, .int x4), (5, .int x5)] [] h (qi R) := by
  refine aw_aload_n dX10_leans_97 rfl 0 rfl ?_
  refine aw_iload_n dX10_leans_98 rfl 1 rfl ?_
  refine aw_iload_n dX10_leans_99 rfl 3 rfl ?_
  refine aw_iload dX10_leans_100 5 rfl ?_
  refine cvX10_learns dX10_leans_102 mlX10_395 shM0 (Nat.le_of_ble_eq_true rfl) H (fun h1 H => ?_)
  refine aw_inc (mm := (1)) (ls' := [(4, .int (x4 + (1 : Int32))), (0, .ref (ad 0)), (1, .int x1), (2, .int x2), (3, .int x3), (5, .int x5)]) dX10_leans_105 (by decide) (j := 4) rfl (by decide) rfl ?_
  refine aw_inc (mm := (1)) (ls' := [(5, .int (x5 + (1 : Int32))), (4, .int (x4 + (1 : Int32))), (0, .ref (ad 0)), (1, .int x1), (2, .int x2), (3, .int x3)]) dX10_leans_108 (by decide) (j := 5) rfl (by decide) rfl ?_
  refine aw_goto (tgt := 6) dX10_leans_111 (by decide) ?_
  exact aw_ls [2, 3, 4, 5, 1, 0] rfl H
set_option maxRecDepth 8000 in
set_option maxHeartbeats 1000000 in
theorem bX10_dies_0 {adK adV : Nat → Nat} {l : Launch} {ad : Nat → Nat} {d : Nat} {R : aH → Prop}   (x1 : Int32) (x2 : Int32)  (h : aH)
    (H : vp_in x1 23 ∧ (vp_in (((6 : Int32) * x1) + x2) 138 ∧ (∀ h3 : aH, h3 = (sI (sI h 26 x1.toNatClampNeg ((h.1 26 x1.toNatClampNeg) &&& (((1 : Int32) <<< (x2 &&& 31)) ^^^ (-1 : Int32)))) 29 (((6 : Int32) * x1) + x2).toNatClampNeg (0 : Int32)) → (R h3)))) : AW (GM adK adV) l ad d mX10_dies 0 [(0, .ref (ad 0)), (1, .int x1), (2, .int x2)] [] h (qv R) := by
  refine aw_aload_n dX10_dies_0 rfl 0 rfl ?_
  refine aw_get dX10_dies_1 shM0 ckX10 flX10_90 (v := .ref (ad 26)) rfl ?_
  refine aw_iload_n dX10_dies_4 rfl 1 rfl ?_
  refine aw_dup2 dX10_dies_5 rfl rfl ?_
  obtain ⟨hi1, H⟩ := H
  refine aw_ialdK (t0 := 0) (j := x1.toNatClampNeg) dX10_dies_6 shM26 rfl rfl hi1 ?_
  refine aw_iconst (v := 1) dX10_dies_7 (by decide) ?_
  refine aw_iload_n dX10_dies_8 rfl 2 rfl ?_
  refine aw_ishl dX10_dies_9 ?_
  refine aw_iconst (v := (-1)) dX10_dies_10 (by decide) ?_
  refine aw_ixor dX10_dies_11 ?_
  refine aw_iand dX10_dies_12 ?_
  refine aw_iastK (t0 := 0) (j := x1.toNatClampNeg) dX10_dies_13 shM26 rfl rfl hi1 ?_
  refine aw_aload_n dX10_dies_14 rfl 0 rfl ?_
  refine aw_get dX10_dies_15 shM0 ckX10 flX10_99 (v := .ref (ad 29)) rfl ?_
  refine aw_bipush (v := 6) dX10_dies_18 (by decide) ?_
  refine aw_iload_n dX10_dies_20 rfl 1 rfl ?_
  refine aw_imul dX10_dies_21 ?_
  refine aw_iload_n dX10_dies_22 rfl 2 rfl ?_
  refine aw_iadd dX10_dies_23 ?_
  refine aw_iconst (v := 0) dX10_dies_24 (by decide) ?_
  obtain ⟨hi2, H⟩ := H
  refine aw_iastK (t0 := 0) (j := (((6 : Int32) * x1) + x2).toNatClampNeg) dX10_dies_25 shM29 rfl rfl hi2 ?_
  refine aw_toph (fun h3 eh3 => ?_)
  replace H := H h3 eh3
  exact aw_vret dX10_dies_26 rfl ⟨rfl, H⟩
set_option maxRecDepth 8000 in
set_option maxHeartbeats 1000000 in
theorem bX10_closes_0 {adK adV : Nat → Nat} {l : Launch} {ad : Nat → Nat} {d : Nat} {R : aH → Prop}   (x1 : Int32) (x2 : Int32) (x3 : Int32)  (h : aH)
    (H : vp_in (((8 : Int32) * x1) + x2) 184 ∧ (∀ h2 : aH, h2 = (sI (sI h 35 (((8 : Int32) * x1) + x2).toNatClampNeg x3) 36 (((8 : Int32) * x1) + x2).toNatClampNeg (0 : Int32)) → (AW (GM adK adV) l ad d mX10_closes 27 [(0, .ref (ad 0)), (1, .int x1), (2, .int x2), (4, .int (0 : Int32))] [] h2 (qv R)))) : AW (GM adK adV) l ad d mX10_closes 0 [(0, .ref (ad 0)), (1, .int x1), (2, .int x2), (3, .int x3)] [] h (qv R) := by
  refine aw_aload_n dX10_closes_0 rfl 0 rfl ?_
  refine aw_get dX10_closes_1 shM0 ckX10 flX10_117 (v := .ref (ad 35)) rfl ?_
  refine aw_bipush (v := 8) dX10_closes_4 (by decide) ?_
  refine aw_iload_n dX10_closes_6 rfl 1 rfl ?_
  refine aw_imul dX10_closes_7 ?_
  refine aw_iload_n dX10_closes_8 rfl 2 rfl ?_
  refine aw_iadd dX10_closes_9 ?_
  refine aw_iload_n dX10_closes_10 rfl 3 rfl ?_
  obtain ⟨hi1, H⟩ := H
  refine aw_iastK (t0 := 0) (j := (((8 : Int32) * x1) + x2).toNatClampNeg) dX10_closes_11 shM35 rfl rfl hi1 ?_
  refine aw_aload_n dX10_closes_12 rfl 0 rfl ?_
  refine aw_get dX10_closes_13 shM0 ckX10 flX10_120 (v := .ref (ad 36)) rfl ?_
  refine aw_bipush (v := 8) dX10_closes_16 (by decide) ?_
  refine aw_iload_n dX10_closes_18 rfl 1 rfl ?_
  refine aw_imul dX10_closes_19 ?_
  refine aw_iload_n dX10_closes_20 rfl 2 rfl ?_
  refine aw_iadd dX10_closes_21 ?_
  refine aw_iconst (v := 0) dX10_closes_22 (by decide) ?_
  refine aw_iastK (t0 := 0) (j := (((8 : Int32) * x1) + x2).toNatClampNeg) dX10_closes_23 shM36 rfl rfl hi1 ?_
  refine aw_toph (fun h2 eh2 => ?_)
  replace H := H h2 eh2
  refine aw_iconst (v := 0) dX10_closes_24 (by decide) ?_
  refine aw_istore (ls' := [(4, .int (0 : Int32)), (0, .ref (ad 0)), (1, .int x1), (2, .int x2), (3, .int x3)]) dX10_closes_25 (by decide) rfl ?_
  exact aw_ls [1, 2, 3, 0] rfl H
set_option maxRecDepth 8000 in
set_option maxHeartbeats 1000000 in
theorem bX10_closes_27 {adK adV : Nat → Nat} {l : Launch} {ad : Nat → Nat} {d : Nat} {R : aH → Prop}   (x1 : Int32) (x2 : Int32) (x4 : Int32)  (h : aH)
    (H : ((6 : Int32) ≤ x4 → (R h)) ∧ (¬ (6 : Int32) ≤ x4 → (vp_in (((6 : Int32) * x1) + x4) 138 ∧ (∀ h2 : aH, h2 = (sI h 29 (((6 : Int32) * x1) + x4).toNatClampNeg ((h.1 29 (((6 : Int32) * x1) + x4).toNatClampNeg) &&& (((1 : Int32) <<< (x2 &&& 31)) ^^^ (-1 : Int32)))) → (AW (GM adK adV) l ad d mX10_closes 27 [(0, .ref (ad 0)), (1, .int x1), (2, .int x2), (4, .int (x4 + (1 : Int32)))] [] h2 (qv R)))))) : AW (GM adK adV) l ad d mX10_closes 27 [(0, .ref (ad 0)), (1, .int x1), (2, .int x2), (4, .int x4)] [] h (qv R) := by
  refine aw_iload dX10_closes_27 3 rfl ?_
  refine aw_bipush (v := 6) dX10_closes_29 (by decide) ?_
  refine aw_icmp_ge (tgt := 60) dX10_closes_31 (by decide) (fun hc3 => ?_) (fun hc3 => ?_)
  · replace H := H.1 hc3
    exact aw_vret dX10_closes_60 rfl ⟨rfl, H⟩
  · replace H := H.2 hc3
    refine aw_aload_n dX10_closes_34 rfl 0 rfl ?_
    refine aw_get dX10_closes_35 shM0 ckX10 flX10_99 (v := .ref (ad 29)) rfl ?_
    refine aw_bipush (v := 6) dX10_closes_38 (by decide) ?_
    refine aw_iload_n dX10_closes_40 rfl 1 rfl ?_
    refine aw_imul dX10_closes_41 ?_
    refine aw_iload dX10_closes_42 3 rfl ?_
    refine aw_iadd dX10_closes_44 ?_
    refine aw_dup2 dX10_closes_45 rfl rfl ?_
    obtain ⟨hi1, H⟩ := H
    refine aw_ialdK (t0 := 0) (j := (((6 : Int32) * x1) + x4).toNatClampNeg) dX10_closes_46 shM29 rfl rfl hi1 ?_
    refine aw_iconst (v := 1) dX10_closes_47 (by decide) ?_
    refine aw_iload_n dX10_closes_48 rfl 2 rfl ?_
    refine aw_ishl dX10_closes_49 ?_
    refine aw_iconst (v := (-1)) dX10_closes_50 (by decide) ?_
    refine aw_ixor dX10_closes_51 ?_
    refine aw_iand dX10_closes_52 ?_
    refine aw_iastK (t0 := 0) (j := (((6 : Int32) * x1) + x4).toNatClampNeg) dX10_closes_53 shM29 rfl rfl hi1 ?_
    refine aw_toph (fun h2 eh2 => ?_)
    replace H := H h2 eh2
    refine aw_inc (mm := (1)) (ls' := [(4, .int (x4 + (1 : Int32))), (0, .ref (ad 0)), (1, .int x1), (2, .int x2)]) dX10_closes_54 (by decide) (j := 3) rfl (by decide) rfl ?_
    refine aw_goto (tgt := 27) dX10_closes_57 (by decide) ?_
    exact aw_ls [1, 2, 3, 0] rfl H
set_option maxRecDepth 8000 in
set_option maxHeartbeats 1000000 in
theorem bX10_hasIt_0 {adK adV : Nat → Nat} {l : Launch} {ad : Nat → Nat} {d : Nat} {R : Int32 → aH → Prop}   (x1 : Int32) (x2 : Int32)  (h : aH)
    (H : AW (GM adK adV) l ad d mX10_isOpen 0 [(0, .ref (ad 0)), (1, .int x1), (2, .int x2)] [] h (qi fun z2 h1 => (z2 = 0 → (R (0 : Int32) h1)) ∧ (¬ z2 = 0 → (vp_in (((8 : Int32) * x1) + x2) 184 ∧ (vp_in (((6 : Int32) * x1) + (h1.1 31 (((8 : Int32) * x1) + x2).toNatClampNeg)) 138 ∧ (((h1.1 27 (((6 : Int32) * x1) + (h1.1 31 (((8 : Int32) * x1) + x2).toNatClampNeg)).toNatClampNeg) < (h1.1 36 (((8 : Int32) * x1) + x2).toNatClampNeg) → (R (0 : Int32) h1)) ∧ (¬ (h1.1 27 (((6 : Int32) * x1) + (h1.1 31 (((8 : Int32) * x1) + x2).toNatClampNeg)).toNatClampNeg) < (h1.1 36 (((8 : Int32) * x1) + x2).toNatClampNeg) → (R (1 : Int32) h1)))))))) : AW (GM adK adV) l ad (d + 1) mX10_hasIt 0 [(0, .ref (ad 0)), (1, .int x1), (2, .int x2)] [] h (qi R) := by
  refine aw_bipush (v := 8) dX10_hasIt_0 (by decide) ?_
  refine aw_iload_n dX10_hasIt_2 rfl 1 rfl ?_
  refine aw_imul dX10_hasIt_3 ?_
  refine aw_iload_n dX10_hasIt_4 rfl 2 rfl ?_
  refine aw_iadd dX10_hasIt_5 ?_
  refine aw_istore_n (ls' := [(3, .int (((8 : Int32) * x1) + x2)), (0, .ref (ad 0)), (1, .int x1), (2, .int x2)]) dX10_hasIt_6 rfl (by decide) rfl ?_
  refine aw_aload_n dX10_hasIt_7 rfl 1 rfl ?_
  refine aw_iload_n dX10_hasIt_8 rfl 2 rfl ?_
  refine aw_iload_n dX10_hasIt_9 rfl 3 rfl ?_
  refine cvX10_isOpen dX10_hasIt_10 mlX10_402 shM0 (Nat.le_of_ble_eq_true rfl) H (fun z2 h1 H => ?_)
  refine aw_if_eq (tgt := 45) dX10_hasIt_13 (by decide) (fun hc6 => ?_) (fun hc6 => ?_)
  · replace H := H.1 hc6
    refine aw_iconst (v := 0) dX10_hasIt_45 (by decide) ?_
    exact aw_zret dX10_hasIt_46 rfl (by decide) ⟨_, rfl, H⟩
  · replace H := H.2 hc6
    refine aw_aload_n dX10_hasIt_16 rfl 1 rfl ?_
    refine aw_get dX10_hasIt_17 shM0 ckX10 flX10_93 (v := .ref (ad 27)) rfl ?_
    refine aw_bipush (v := 6) dX10_hasIt_20 (by decide) ?_
    refine aw_iload_n dX10_hasIt_22 rfl 2 rfl ?_
    refine aw_imul dX10_hasIt_23 ?_
    refine aw_aload_n dX10_hasIt_24 rfl 1 rfl ?_
    refine aw_get dX10_hasIt_25 shM0 ckX10 flX10_105 (v := .ref (ad 31)) rfl ?_
    refine aw_iload_n dX10_hasIt_28 rfl 0 rfl ?_
    obtain ⟨hi3, H⟩ := H
    refine aw_ialdK (t0 := 0) (j := (((8 : Int32) * x1) + x2).toNatClampNeg) dX10_hasIt_29 shM31 rfl rfl hi3 ?_
    refine aw_iadd dX10_hasIt_30 ?_
    obtain ⟨hi4, H⟩ := H
    refine aw_ialdK (t0 := 0) (j := (((6 : Int32) * x1) + (h1.1 31 (((8 : Int32) * x1) + x2).toNatClampNeg)).toNatClampNeg) dX10_hasIt_31 shM27 rfl rfl hi4 ?_
    refine aw_aload_n dX10_hasIt_32 rfl 1 rfl ?_
    refine aw_get dX10_hasIt_33 shM0 ckX10 flX10_120 (v := .ref (ad 36)) rfl ?_
    refine aw_iload_n dX10_hasIt_36 rfl 0 rfl ?_
    refine aw_ialdK (t0 := 0) (j := (((8 : Int32) * x1) + x2).toNatClampNeg) dX10_hasIt_37 shM36 rfl rfl hi3 ?_
    refine aw_icmp_lt (tgt := 45) dX10_hasIt_38 (by decide) (fun hc5 => ?_) (fun hc5 => ?_)
    · replace H := H.1 hc5
      refine aw_iconst (v := 0) dX10_hasIt_45 (by decide) ?_
      exact aw_zret dX10_hasIt_46 rfl (by decide) ⟨_, rfl, H⟩
    · replace H := H.2 hc5
      refine aw_iconst (v := 1) dX10_hasIt_41 (by decide) ?_
      refine aw_goto (tgt := 46) dX10_hasIt_42 (by decide) ?_
      exact aw_zret dX10_hasIt_46 rfl (by decide) ⟨_, rfl, H⟩
set_option maxRecDepth 8000 in
set_option maxHeartbeats 1000000 in
theorem bX10_pays_0 {adK adV : Nat → Nat} {l : Launch} {ad : Nat → Nat} {d : Nat} {R : Int32 → aH → Prop}   (x1 : Int32) (x2 : Int32)  (h : aH)
    (H : vp_in (((8 : Int32) * x1) + x2) 184 ∧ (vp_in (((6 : Int32) * x1) + (h.1 31 (((8 : Int32) * x1) + x2).toNatClampNeg)) 138 ∧ (∀ h3 : aH, h3 = (sI h 27 (((6 : Int32) * x1) + (h.1 31 (((8 : Int32) * x1) + x2).toNatClampNeg)).toNatClampNeg ((h.1 27 (((6 : Int32) * x1) + (h.1 31 (((8 : Int32) * x1) + x2).toNatClampNeg)).toNatClampNeg) - (h.1 36 (((8 : Int32) * x1) + x2).toNatClampNeg))) → (vp_in (((6 : Int32) * x1) + (h3.1 30 (((8 : Int32) * x1) + x2).toNatClampNeg)) 138 ∧ (∀ h5 : aH, h5 = (sI h3 27 (((6 : Int32) * x1) + (h3.1 30 (((8 : Int32) * x1) + x2).toNatClampNeg)).toNatClampNeg ((h3.1 27 (((6 : Int32) * x1) + (h3.1 30 (((8 : Int32) * x1) + x2).toNatClampNeg)).toNatClampNeg) + (h.1 36 (((8 : Int32) * x1) + x2).toNatClampNeg))) → (AW (GM adK adV) l ad d mX10_closes 0 [(0, .ref (ad 0)), (1, .int x1), (2, .int x2), (3, .int (2 : Int32))] [] h5 (qv fun h6 => R (h.1 36 (((8 : Int32) * x1) + x2).toNatClampNeg) h6))))))) : AW (GM adK adV) l ad (d + 1) mX10_pays 0 [(0, .ref (ad 0)), (1, .int x1), (2, .int x2)] [] h (qi R) := by
  refine aw_bipush (v := 8) dX10_pays_0 (by decide) ?_
  refine aw_iload_n dX10_pays_2 rfl 1 rfl ?_
  refine aw_imul dX10_pays_3 ?_
  refine aw_iload_n dX10_pays_4 rfl 2 rfl ?_
  refine aw_iadd dX10_pays_5 ?_
  refine aw_istore_n (ls' := [(3, .int (((8 : Int32) * x1) + x2)), (0, .ref (ad 0)), (1, .int x1), (2, .int x2)]) dX10_pays_6 rfl (by decide) rfl ?_
  refine aw_aload_n dX10_pays_7 rfl 1 rfl ?_
  refine aw_get dX10_pays_8 shM0 ckX10 flX10_120 (v := .ref (ad 36)) rfl ?_
  refine aw_iload_n dX10_pays_11 rfl 0 rfl ?_
  obtain ⟨hi1, H⟩ := H
  refine aw_ialdK (t0 := 0) (j := (((8 : Int32) * x1) + x2).toNatClampNeg) dX10_pays_12 shM36 rfl rfl hi1 ?_
  refine aw_istore (ls' := [(4, .int (h.1 36 (((8 : Int32) * x1) + x2).toNatClampNeg)), (3, .int (((8 : Int32) * x1) + x2)), (0, .ref (ad 0)), (1, .int x1), (2, .int x2)]) dX10_pays_13 (by decide) rfl ?_
  refine aw_aload_n dX10_pays_15 rfl 2 rfl ?_
  refine aw_get dX10_pays_16 shM0 ckX10 flX10_93 (v := .ref (ad 27)) rfl ?_
  refine aw_bipush (v := 6) dX10_pays_19 (by decide) ?_
  refine aw_iload_n dX10_pays_21 rfl 3 rfl ?_
  refine aw_imul dX10_pays_22 ?_
  refine aw_aload_n dX10_pays_23 rfl 2 rfl ?_
  refine aw_get dX10_pays_24 shM0 ckX10 flX10_105 (v := .ref (ad 31)) rfl ?_
  refine aw_iload_n dX10_pays_27 rfl 1 rfl ?_
  refine aw_ialdK (t0 := 0) (j := (((8 : Int32) * x1) + x2).toNatClampNeg) dX10_pays_28 shM31 rfl rfl hi1 ?_
  refine aw_iadd dX10_pays_29 ?_
  refine aw_dup2 dX10_pays_30 rfl rfl ?_
  obtain ⟨hi2, H⟩ := H
  refine aw_ialdK (t0 := 0) (j := (((6 : Int32) * x1) + (h.1 31 (((8 : Int32) * x1) + x2).toNatClampNeg)).toNatClampNeg) dX10_pays_31 shM27 rfl rfl hi2 ?_
  refine aw_iload dX10_pays_32 0 rfl ?_
  refine aw_isub dX10_pays_34 ?_
  refine aw_iastK (t0 := 0) (j := (((6 : Int32) * x1) + (h.1 31 (((8 : Int32) * x1) + x2).toNatClampNeg)).toNatClampNeg) dX10_pays_35 shM27 rfl rfl hi2 ?_
  refine aw_toph (fun h3 eh3 => ?_)
  replace H := H h3 eh3
  refine aw_aload_n dX10_pays_36 rfl 2 rfl ?_
  refine aw_get dX10_pays_37 shM0 ckX10 flX10_93 (v := .ref (ad 27)) rfl ?_
  refine aw_bipush (v := 6) dX10_pays_40 (by decide) ?_
  refine aw_iload_n dX10_pays_42 rfl 3 rfl ?_
  refine aw_imul dX10_pays_43 ?_
  refine aw_aload_n dX10_pays_44 rfl 2 rfl ?_
  refine aw_get dX10_pays_45 shM0 ckX10 flX10_102 (v := .ref (ad 30)) rfl ?_
  refine aw_iload_n dX10_pays_48 rfl 1 rfl ?_
  refine aw_ialdK (t0 := 0) (j := (((8 : Int32) * x1) + x2).toNatClampNeg) dX10_pays_49 shM30 rfl rfl hi1 ?_
  refine aw_iadd dX10_pays_50 ?_
  refine aw_dup2 dX10_pays_51 rfl rfl ?_
  obtain ⟨hi4, H⟩ := H
  refine aw_ialdK (t0 := 0) (j := (((6 : Int32) * x1) + (h3.1 30 (((8 : Int32) * x1) + x2).toNatClampNeg)).toNatClampNeg) dX10_pays_52 shM27 rfl rfl hi4 ?_
  refine aw_iload dX10_pays_53 0 rfl ?_
  refine aw_iadd dX10_pays_55 ?_
  refine aw_iastK (t0 := 0) (j := (((6 : Int32) * x1) + (h3.1 30 (((8 : Int32) * x1) + x2).toNatClampNeg)).toNatClampNeg) dX10_pays_56 shM27 rfl rfl hi4 ?_
  refine aw_toph (fun h5 eh5 => ?_)
  replace H := H h5 eh5
  refine aw_aload_n dX10_pays_57 rfl 2 rfl ?_
  refine aw_iload_n dX10_pays_58 rfl 3 rfl ?_
  refine aw_iload_n dX10_pays_59 rfl 4 rfl ?_
  refine aw_iconst (v := 2) dX10_pays_60 (by decide) ?_
  refine cvX10_closes dX10_pays_61 mlX10_405 shM0 (Nat.le_of_ble_eq_true rfl) H (fun h6 H => ?_)
  refine aw_iload dX10_pays_64 0 rfl ?_
  exact aw_iret dX10_pays_66 rfl ⟨_, rfl, H⟩
set_option maxRecDepth 8000 in
set_option maxHeartbeats 1000000 in
theorem bX10_doesPay_0 {adK adV : Nat → Nat} {l : Launch} {ad : Nat → Nat} {d : Nat} {R : Int32 → aH → Prop}   (x1 : Int32) (x2 : Int32)  (h : aH)
    (H : AW (GM adK adV) l ad d mX10_hasIt 0 [(0, .ref (ad 0)), (1, .int x1), (2, .int x2)] [] h (qi fun z2 h1 => (z2 = 0 → (R (0 : Int32) h1)) ∧ (¬ z2 = 0 → ((¬ (h1.1 0 54) = (4 : Int32) → (AW (GM adK adV) l ad d mX10_callsPay 0 [(0, .ref (ad 0)), (1, .int x1), (2, .int x2)] [] h1 (qv fun h3 => AW (GM adK adV) l ad d mX10_hasLaw 0 [(0, .ref (ad 0)), (1, .int (1 : Int32))] [] h3 (qi fun z6 h5 => (z6 = 0 → (AW (GM adK adV) l ad (d + 1) mX10_doesPay 60 [(0, .ref (ad 0)), (1, .int x1), (2, .int x2)] [] h5 (qi R))) ∧ (¬ z6 = 0 → (AW (GM adK adV) l ad d mX10_goes 0 [(0, .ref (ad 0)), (1, .int (1 : Int32))] [] h5 (qi fun z8 h7 => (z8 = 0 → (AW (GM adK adV) l ad (d + 1) mX10_doesPay 60 [(0, .ref (ad 0)), (1, .int x1), (2, .int x2)] [] h7 (qi R))) ∧ (¬ z8 = 0 → (((h7.2.1 22 0) = (0 : Int64) → (R (0 : Int32) h7)) ∧ (¬ (h7.2.1 22 0) = (0 : Int64) → (R (1 : Int32) h7))))))))))) ∧ ((h1.1 0 54) = (4 : Int32) → (R (0 : Int32) h1)))))) : AW (GM adK adV) l ad (d + 1) mX10_doesPay 0 [(0, .ref (ad 0)), (1, .int x1), (2, .int x2)] [] h (qi R) := by
  refine aw_aload_n dX10_doesPay_0 rfl 0 rfl ?_
  refine aw_iload_n dX10_doesPay_1 rfl 1 rfl ?_
  refine aw_iload_n dX10_doesPay_2 rfl 2 rfl ?_
  refine cvX10_hasIt dX10_doesPay_3 mlX10_408 shM0 (Nat.le_of_ble_eq_true rfl) H (fun z2 h1 H => ?_)
  refine aw_if_eq (tgt := 17) dX10_doesPay_6 (by decide) (fun hc13 => ?_) (fun hc13 => ?_)
  · replace H := H.1 hc13
    refine aw_iconst (v := 0) dX10_doesPay_17 (by decide) ?_
    exact aw_zret dX10_doesPay_18 rfl (by decide) ⟨_, rfl, H⟩
  · replace H := H.2 hc13
    refine aw_aload_n dX10_doesPay_9 rfl 0 rfl ?_
    refine aw_get dX10_doesPay_10 shM0 ckX10 flX10_388 (v := .int (h1.1 0 54)) rfl ?_
    refine aw_iconst (v := 4) dX10_doesPay_13 (by decide) ?_
    refine aw_icmp_ne (tgt := 19) dX10_doesPay_14 (by decide) (fun hc12 => ?_) (fun hc12 => ?_)
    · replace H := H.1 hc12
      refine aw_aload_n dX10_doesPay_19 rfl 0 rfl ?_
      refine aw_iload_n dX10_doesPay_20 rfl 1 rfl ?_
      refine aw_iload_n dX10_doesPay_21 rfl 2 rfl ?_
      refine cvX10_callsPay dX10_doesPay_22 mlX10_411 shM0 (Nat.le_of_ble_eq_true rfl) H (fun h3 H => ?_)
      refine aw_aload_n dX10_doesPay_25 rfl 0 rfl ?_
      refine aw_iconst (v := 1) dX10_doesPay_26 (by decide) ?_
      refine cvX10_hasLaw dX10_doesPay_27 mlX10_371 shM0 (Nat.le_of_ble_eq_true rfl) H (fun z6 h5 H => ?_)
      refine aw_if_eq (tgt := 60) dX10_doesPay_30 (by decide) (fun hc11 => ?_) (fun hc11 => ?_)
      · replace H := H.1 hc11
        exact aw_ls [0, 1, 2] rfl H
      · replace H := H.2 hc11
        refine aw_aload_n dX10_doesPay_33 rfl 0 rfl ?_
        refine aw_iconst (v := 1) dX10_doesPay_34 (by decide) ?_
        refine cvX10_goes dX10_doesPay_35 mlX10_374 shM0 (Nat.le_of_ble_eq_true rfl) H (fun z8 h7 H => ?_)
        refine aw_if_eq (tgt := 60) dX10_doesPay_38 (by decide) (fun hc10 => ?_) (fun hc10 => ?_)
        · replace H := H.1 hc10
          exact aw_ls [0, 1, 2] rfl H
        · replace H := H.2 hc10
          refine aw_aload_n dX10_doesPay_41 rfl 0 rfl ?_
          refine aw_get dX10_doesPay_42 shM0 ckX10 flX10_78 (v := .ref (ad 22)) rfl ?_
          refine aw_iconst (v := 0) dX10_doesPay_45 (by decide) ?_
          refine aw_laldK (t0 := 1) (j := 0) dX10_doesPay_46 shM22 rfl (by decide) (vp_inK (by decide) (by decide)) ?_
          refine aw_lconst (v := 0) dX10_doesPay_47 (by decide) ?_
          refine aw_lif_eq (tgt := 56) dX10_doesPay_48 dX10_doesPay_49 (by decide) (fun hc9 => ?_) (fun hc9 => ?_)
          · replace H := H.1 hc9
            refine aw_iconst (v := 0) dX10_doesPay_56 (by decide) ?_
            refine aw_goto (tgt := 87) dX10_doesPay_57 (by decide) ?_
            exact aw_zret dX10_doesPay_87 rfl (by decide) ⟨_, rfl, H⟩
          · replace H := H.2 hc9
            refine aw_iconst (v := 1) dX10_doesPay_52 (by decide) ?_
            refine aw_goto (tgt := 87) dX10_doesPay_53 (by decide) ?_
            exact aw_zret dX10_doesPay_87 rfl (by decide) ⟨_, rfl, H⟩
    · replace H := H.2 hc12
      refine aw_iconst (v := 0) dX10_doesPay_17 (by decide) ?_
      exact aw_zret dX10_doesPay_18 rfl (by decide) ⟨_, rfl, H⟩
set_option maxRecDepth 8000 in
set_option maxHeartbeats 1000000 in
theorem bX10_doesPay_60 {adK adV : Nat → Nat} {l : Launch} {ad : Nat → Nat} {d : Nat} {R : Int32 → aH → Prop}   (x1 : Int32) (x2 : Int32)  (h : aH)
    (H : vp_in x1 23 ∧ (vp_in (((8 : Int32) * x1) + x2) 184 ∧ ((((h.1 23 x1.toNatClampNeg) - (h.1 34 (((8 : Int32) * x1) + x2).toNatClampNeg)) < (5 : Int32) → (R (0 : Int32) h)) ∧ (¬ ((h.1 23 x1.toNatClampNeg) - (h.1 34 (((8 : Int32) * x1) + x2).toNatClampNeg)) < (5 : Int32) → (R (1 : Int32) h))))) : AW (GM adK adV) l ad (d + 1) mX10_doesPay 60 [(0, .ref (ad 0)), (1, .int x1), (2, .int x2)] [] h (qi R) := by
  refine aw_aload_n dX10_doesPay_60 rfl 0 rfl ?_
  refine aw_get dX10_doesPay_61 shM0 ckX10 flX10_81 (v := .ref (ad 23)) rfl ?_
  refine aw_iload_n dX10_doesPay_64 rfl 1 rfl ?_
  obtain ⟨hi1, H⟩ := H
  refine aw_ialdK (t0 := 0) (j := x1.toNatClampNeg) dX10_doesPay_65 shM23 rfl rfl hi1 ?_
  refine aw_aload_n dX10_doesPay_66 rfl 0 rfl ?_
  refine aw_get dX10_doesPay_67 shM0 ckX10 flX10_114 (v := .ref (ad 34)) rfl ?_
  refine aw_bipush (v := 8) dX10_doesPay_70 (by decide) ?_
  refine aw_iload_n dX10_doesPay_72 rfl 1 rfl ?_
  refine aw_imul dX10_doesPay_73 ?_
  refine aw_iload_n dX10_doesPay_74 rfl 2 rfl ?_
  refine aw_iadd dX10_doesPay_75 ?_
  obtain ⟨hi2, H⟩ := H
  refine aw_ialdK (t0 := 0) (j := (((8 : Int32) * x1) + x2).toNatClampNeg) dX10_doesPay_76 shM34 rfl rfl hi2 ?_
  refine aw_isub dX10_doesPay_77 ?_
  refine aw_iconst (v := 5) dX10_doesPay_78 (by decide) ?_
  refine aw_icmp_lt (tgt := 86) dX10_doesPay_79 (by decide) (fun hc3 => ?_) (fun hc3 => ?_)
  · replace H := H.1 hc3
    refine aw_iconst (v := 0) dX10_doesPay_86 (by decide) ?_
    exact aw_zret dX10_doesPay_87 rfl (by decide) ⟨_, rfl, H⟩
  · replace H := H.2 hc3
    refine aw_iconst (v := 1) dX10_doesPay_82 (by decide) ?_
    refine aw_goto (tgt := 87) dX10_doesPay_83 (by decide) ?_
    exact aw_zret dX10_doesPay_87 rfl (by decide) ⟨_, rfl, H⟩
set_option maxRecDepth 8000 in
set_option maxHeartbeats 1000000 in
theorem bX10_fallsIll_0 {adK adV : Nat → Nat} {l : Launch} {ad : Nat → Nat} {d : Nat} {R : Int32 → aH → Prop}   (x1 : Int32) (x2 : Int32) (x3 : Int32)  (h : aH)
    (H : AW (GM adK adV) l ad d mX10_mortal 0 [(0, .ref (ad 0)), (1, .int x1), (2, .int x2)] [] h (qi fun z2 h1 => (x3 = 0 → (AW (GM adK adV) l ad (d + 1) mX10_fallsIll 24 [(4, .int z2)] [] h1 (qi R))) ∧ (¬ x3 = 0 → ((z2 = 0 → (AW (GM adK adV) l ad (d + 1) mX10_fallsIll 24 [(4, .int z2)] [] h1 (qi R))) ∧ (¬ z2 = 0 → ((¬ z2 = (100 : Int32) → (vp_in x1 23 ∧ (∀ h4 : aH, h4 = (sI h1 24 x1.toNatClampNeg ((((h1.1 24 x1.toNatClampNeg) * (1103515245 : Int32)) + (12345 : Int32)) &&& (2147483647 : Int32))) → ((z2 ≤ (((h4.1 24 x1.toNatClampNeg) >>> ((16 : Int32) &&& 31)) - ((h4.1 24 x1.toNatClampNeg) >>> ((16 : Int32) &&& 31)) / (100 : Int32) * (100 : Int32)) → (R (0 : Int32) h4)) ∧ (¬ z2 ≤ (((h4.1 24 x1.toNatClampNeg) >>> ((16 : Int32) &&& 31)) - ((h4.1 24 x1.toNatClampNeg) >>> ((16 : Int32) &&& 31)) / (100 : Int32) * (100 : Int32)) → (R (1 : Int32) h4)))))) ∧ (z2 = (100 : Int32) → (AW (GM adK adV) l ad (d + 1) mX10_fallsIll 24 [(4, .int z2)] [] h1 (qi R))))))))) : AW (GM adK adV) l ad (d + 1) mX10_fallsIll 0 [(0, .ref (ad 0)), (1, .int x1), (2, .int x2), (3, .int x3)] [] h (qi R) := by
  refine aw_aload_n dX10_fallsIll_0 rfl 0 rfl ?_
  refine aw_iload_n dX10_fallsIll_1 rfl 1 rfl ?_
  refine aw_iload_n dX10_fallsIll_2 rfl 2 rfl ?_
  refine cvX10_mortal dX10_fallsIll_3 mlX10_414 shM0 (Nat.le_of_ble_eq_true rfl) H (fun z2 h1 H => ?_)
  refine aw_istore (ls' := [(4, .int z2), (0, .ref (ad 0)), (1, .int x1), (2, .int x2), (3, .int x3)]) dX10_fallsIll_6 (by decide) rfl ?_
  refine aw_iload_n dX10_fallsIll_8 rfl 4 rfl ?_
  refine aw_if_eq (tgt := 24) dX10_fallsIll_9 (by decide) (fun hc8 => ?_) (fun hc8 => ?_)
  · replace H := H.1 hc8
    exact aw_ls [0] rfl H
  · replace H := H.2 hc8
    refine aw_iload dX10_fallsIll_12 0 rfl ?_
    refine aw_if_eq (tgt := 24) dX10_fallsIll_14 (by decide) (fun hc7 => ?_) (fun hc7 => ?_)
    · replace H := H.1 hc7
      exact aw_ls [0] rfl H
    · replace H := H.2 hc7
      refine aw_iload dX10_fallsIll_17 0 rfl ?_
      refine aw_bipush (v := 100) dX10_fallsIll_19 (by decide) ?_
      refine aw_icmp_ne (tgt := 37) dX10_fallsIll_21 (by decide) (fun hc6 => ?_) (fun hc6 => ?_)
      · replace H := H.1 hc6
        refine aw_aload_n dX10_fallsIll_37 rfl 1 rfl ?_
        refine aw_get dX10_fallsIll_38 shM0 ckX10 flX10_84 (v := .ref (ad 24)) rfl ?_
        refine aw_iload_n dX10_fallsIll_41 rfl 2 rfl ?_
        refine aw_aload_n dX10_fallsIll_42 rfl 1 rfl ?_
        refine aw_get dX10_fallsIll_43 shM0 ckX10 flX10_84 (v := .ref (ad 24)) rfl ?_
        refine aw_iload_n dX10_fallsIll_46 rfl 2 rfl ?_
        obtain ⟨hi3, H⟩ := H
        refine aw_ialdK (t0 := 0) (j := x1.toNatClampNeg) dX10_fallsIll_47 shM24 rfl rfl hi3 ?_
        refine aw_ldcw dX10_fallsIll_48 coX10_417 ?_
        refine aw_imul dX10_fallsIll_51 ?_
        refine aw_sipush (v := 12345) dX10_fallsIll_52 (by decide) ?_
        refine aw_iadd dX10_fallsIll_55 ?_
        refine aw_ldcw dX10_fallsIll_56 coX10_420 ?_
        refine aw_iand dX10_fallsIll_59 ?_
        refine aw_iastK (t0 := 0) (j := x1.toNatClampNeg) dX10_fallsIll_60 shM24 rfl rfl hi3 ?_
        refine aw_toph (fun h4 eh4 => ?_)
        replace H := H h4 eh4
        refine aw_aload_n dX10_fallsIll_61 rfl 1 rfl ?_
        refine aw_get dX10_fallsIll_62 shM0 ckX10 flX10_84 (v := .ref (ad 24)) rfl ?_
        refine aw_iload_n dX10_fallsIll_65 rfl 2 rfl ?_
        refine aw_ialdK (t0 := 0) (j := x1.toNatClampNeg) dX10_fallsIll_66 shM24 rfl rfl hi3 ?_
        refine aw_bipush (v := 16) dX10_fallsIll_67 (by decide) ?_
        refine aw_ishr dX10_fallsIll_69 ?_
        refine aw_bipush (v := 100) dX10_fallsIll_70 (by decide) ?_
        refine aw_irem dX10_fallsIll_72 (by decide) ?_
        refine aw_iload dX10_fallsIll_73 0 rfl ?_
        refine aw_icmp_ge (tgt := 82) dX10_fallsIll_75 (by decide) (fun hc5 => ?_) (fun hc5 => ?_)
        · replace H := H.1 hc5
          refine aw_iconst (v := 0) dX10_fallsIll_82 (by decide) ?_
          exact aw_zret dX10_fallsIll_83 rfl (by decide) ⟨_, rfl, H⟩
        · replace H := H.2 hc5
          refine aw_iconst (v := 1) dX10_fallsIll_78 (by decide) ?_
          refine aw_goto (tgt := 83) dX10_fallsIll_79 (by decide) ?_
          exact aw_zret dX10_fallsIll_83 rfl (by decide) ⟨_, rfl, H⟩
      · replace H := H.2 hc6
        exact aw_ls [0] rfl H
set_option maxRecDepth 8000 in
set_option maxHeartbeats 1000000 in
theorem bX10_fallsIll_24 {adK adV : Nat → Nat} {l : Launch} {ad : Nat → Nat} {d : Nat} {R : Int32 → aH → Prop}   (x4 : Int32)  (h : aH)
    (H : (x4 < (50 : Int32) → (R (0 : Int32) h)) ∧ (¬ x4 < (50 : Int32) → (R (1 : Int32) h))) : AW (GM adK adV) l ad (d + 1) mX10_fallsIll 24 [(4, .int x4)] [] h (qi R) := by
  refine aw_iload dX10_fallsIll_24 0 rfl ?_
  refine aw_bipush (v := 50) dX10_fallsIll_26 (by decide) ?_
  refine aw_icmp_lt (tgt := 35) dX10_fallsIll_28 (by decide) (fun hc1 => ?_) (fun hc1 => ?_)
  · replace H := H.1 hc1
    refine aw_iconst (v := 0) dX10_fallsIll_35 (by decide) ?_
    exact aw_zret dX10_fallsIll_36 rfl (by decide) ⟨_, rfl, H⟩
  · replace H := H.2 hc1
    refine aw_iconst (v := 1) dX10_fallsIll_31 (by decide) ?_
    refine aw_goto (tgt := 36) dX10_fallsIll_32 (by decide) ?_
    exact aw_zret dX10_fallsIll_36 rfl (by decide) ⟨_, rfl, H⟩
set_option maxRecDepth 8000 in
set_option maxHeartbeats 1000000 in
theorem bX10_tenth_0 {adK adV : Nat → Nat} {l : Launch} {ad : Nat → Nat} {d : Nat} {R : aH → Prop}   (x1 : Int32) (x2 : Int32)  (h : aH)
    (H : AW (GM adK adV) l ad (d + 1) mX10_tenth 2 [(0, .ref (ad 0)), (1, .int x1), (2, .int x2), (3, .int (0 : Int32))] [] h (qv R)) : AW (GM adK adV) l ad (d + 1) mX10_tenth 0 [(0, .ref (ad 0)), (1, .int x1), (2, .int x2)] [] h (qv R) := by
  refine aw_iconst (v := 0) dX10_tenth_0 (by decide) ?_
  refine aw_istore_n (ls' := [(3, .int (0 : Int32)), (0, .ref (ad 0)), (1, .int x1), (2, .int x2)]) dX10_tenth_1 rfl (by decide) rfl ?_
  exact aw_ls [1, 2, 3, 0] rfl H
set_option maxRecDepth 8000 in
set_option maxHeartbeats 1000000 in
theorem bX10_tenth_2 {adK adV : Nat → Nat} {l : Launch} {ad : Nat → Nat} {d : Nat} {R : aH → Prop}   (x1 : Int32) (x2 : Int32) (x3 : Int32)  (h : aH)
    (H : vp_in x1 23 ∧ (((h.1 25 x1.toNatClampNeg) ≤ x3 → (AW (GM adK adV) l ad (d + 1) mX10_tenth 75 [(0, .ref (ad 0)), (1, .int x1), (2, .int x2), (3, .int (0 : Int32))] [] h (qv R))) ∧ (¬ (h.1 25 x1.toNatClampNeg) ≤ x3 → (AW (GM adK adV) l ad d mX10_isOpen 0 [(0, .ref (ad 0)), (1, .int x1), (2, .int x3)] [] h (qi fun z3 h2 => (z3 = 0 → (AW (GM adK adV) l ad (d + 1) mX10_tenth 2 [(0, .ref (ad 0)), (1, .int x1), (2, .int x2), (3, .int (x3 + (1 : Int32)))] [] h2 (qv R))) ∧ (¬ z3 = 0 → (vp_in (((8 : Int32) * x1) + x3) 184 ∧ (∀ h5 : aH, h5 = (sI h2 36 (((8 : Int32) * x1) + x3).toNatClampNeg (if ((h2.1 36 (((8 : Int32) * x1) + x3).toNatClampNeg) + (((h2.1 36 (((8 : Int32) * x1) + x3).toNatClampNeg) * (h2.1 2 4)) / (100 : Int32))) < (9999 : Int32) then ((h2.1 36 (((8 : Int32) * x1) + x3).toNatClampNeg) + (((h2.1 36 (((8 : Int32) * x1) + x3).toNatClampNeg) * (h2.1 2 4)) / (100 : Int32))) else (9999 : Int32))) → (AW (GM adK adV) l ad (d + 1) mX10_tenth 2 [(0, .ref (ad 0)), (1, .int x1), (2, .int x2), (3, .int (x3 + (1 : Int32)))] [] h5 (qv R)))))))))) : AW (GM adK adV) l ad (d + 1) mX10_tenth 2 [(0, .ref (ad 0)), (1, .int x1), (2, .int x2), (3, .int x3)] [] h (qv R) := by
  refine aw_iload_n dX10_tenth_2 rfl 3 rfl ?_
  refine aw_aload_n dX10_tenth_3 rfl 0 rfl ?_
  refine aw_get dX10_tenth_4 shM0 ckX10 flX10_87 (v := .ref (ad 25)) rfl ?_
  refine aw_iload_n dX10_tenth_7 rfl 1 rfl ?_
  obtain ⟨hi1, H⟩ := H
  refine aw_ialdK (t0 := 0) (j := x1.toNatClampNeg) dX10_tenth_8 shM25 rfl rfl hi1 ?_
  refine aw_icmp_ge (tgt := 73) dX10_tenth_9 (by decide) (fun hc7 => ?_) (fun hc7 => ?_)
  · replace H := H.1 hc7
    refine aw_iconst (v := 0) dX10_tenth_73 (by decide) ?_
    refine aw_istore_n (ls' := [(3, .int (0 : Int32)), (0, .ref (ad 0)), (1, .int x1), (2, .int x2)]) dX10_tenth_74 rfl (by decide) rfl ?_
    exact aw_ls [1, 2, 3, 0] rfl H
  · replace H := H.2 hc7
    refine aw_bipush (v := 8) dX10_tenth_12 (by decide) ?_
    refine aw_iload_n dX10_tenth_14 rfl 1 rfl ?_
    refine aw_imul dX10_tenth_15 ?_
    refine aw_iload_n dX10_tenth_16 rfl 3 rfl ?_
    refine aw_iadd dX10_tenth_17 ?_
    refine aw_istore (ls' := [(4, .int (((8 : Int32) * x1) + x3)), (0, .ref (ad 0)), (1, .int x1), (2, .int x2), (3, .int x3)]) dX10_tenth_18 (by decide) rfl ?_
    refine aw_aload_n dX10_tenth_20 rfl 1 rfl ?_
    refine aw_iload_n dX10_tenth_21 rfl 2 rfl ?_
    refine aw_iload_n dX10_tenth_22 rfl 4 rfl ?_
    refine cvX10_isOpen dX10_tenth_23 mlX10_402 shM0 (Nat.le_of_ble_eq_true rfl) H (fun z3 h2 H => ?_)
    refine aw_if_eq (tgt := 67) dX10_tenth_26 (by decide) (fun hc6 => ?_) (fun hc6 => ?_)
    · replace H := H.1 hc6
      refine aw_inc (mm := (1)) (ls' := [(3, .int (x3 + (1 : Int32))), (4, .int (((8 : Int32) * x1) + x3)), (0, .ref (ad 0)), (1, .int x1), (2, .int x2)]) dX10_tenth_67 (by decide) (j := 4) rfl (by decide) rfl ?_
      refine aw_goto (tgt := 2) dX10_tenth_70 (by decide) ?_
      exact aw_ls [2, 3, 4, 0] rfl H
    · replace H := H.2 hc6
      refine aw_aload_n dX10_tenth_29 rfl 1 rfl ?_
      refine aw_get dX10_tenth_30 shM0 ckX10 flX10_120 (v := .ref (ad 36)) rfl ?_
      refine aw_iload dX10_tenth_33 0 rfl ?_
      refine aw_sipush (v := 9999) dX10_tenth_35 (by decide) ?_
      refine aw_aload_n dX10_tenth_38 rfl 1 rfl ?_
      refine aw_get dX10_tenth_39 shM0 ckX10 flX10_120 (v := .ref (ad 36)) rfl ?_
      refine aw_iload dX10_tenth_42 0 rfl ?_
      obtain ⟨hi4, H⟩ := H
      refine aw_ialdK (t0 := 0) (j := (((8 : Int32) * x1) + x3).toNatClampNeg) dX10_tenth_44 shM36 rfl rfl hi4 ?_
      refine aw_aload_n dX10_tenth_45 rfl 1 rfl ?_
      refine aw_get dX10_tenth_46 shM0 ckX10 flX10_120 (v := .ref (ad 36)) rfl ?_
      refine aw_iload dX10_tenth_49 0 rfl ?_
      refine aw_ialdK (t0 := 0) (j := (((8 : Int32) * x1) + x3).toNatClampNeg) dX10_tenth_51 shM36 rfl rfl hi4 ?_
      refine aw_aload_n dX10_tenth_52 rfl 1 rfl ?_
      refine aw_get dX10_tenth_53 shM0 ckX10 flX10_13 (v := .ref (ad 2)) rfl ?_
      refine aw_iconst (v := 4) dX10_tenth_56 (by decide) ?_
      refine aw_ialdK (t0 := 0) (j := 4) dX10_tenth_57 shM2 rfl (by decide) (vp_inK (by decide) (by decide)) ?_
      refine aw_imul dX10_tenth_58 ?_
      refine aw_bipush (v := 100) dX10_tenth_59 (by decide) ?_
      refine aw_idiv dX10_tenth_61 (by decide) ?_
      refine aw_iadd dX10_tenth_62 ?_
      refine aw_mmin dX10_tenth_63 mlX10_421 (Nat.le_of_ble_eq_true rfl) ?_
      refine aw_iastK (t0 := 0) (j := (((8 : Int32) * x1) + x3).toNatClampNeg) dX10_tenth_66 shM36 rfl rfl hi4 ?_
      refine aw_toph (fun h5 eh5 => ?_)
      replace H := H h5 eh5
      refine aw_inc (mm := (1)) (ls' := [(3, .int (x3 + (1 : Int32))), (4, .int (((8 : Int32) * x1) + x3)), (0, .ref (ad 0)), (1, .int x1), (2, .int x2)]) dX10_tenth_67 (by decide) (j := 4) rfl (by decide) rfl ?_
      refine aw_goto (tgt := 2) dX10_tenth_70 (by decide) ?_
      exact aw_ls [2, 3, 4, 0] rfl H
set_option maxRecDepth 8000 in
set_option maxHeartbeats 1000000 in
theorem bX10_tenth_75 {adK adV : Nat → Nat} {l : Launch} {ad : Nat → Nat} {d : Nat} {R : aH → Prop}   (x1 : Int32) (x2 : Int32) (x3 : Int32)  (h : aH)
    (H : ((h.1 2 1) ≤ x3 → (R h)) ∧ (¬ (h.1 2 1) ≤ x3 → (AW (GM adK adV) l ad d mX10_isAlive 0 [(0, .ref (ad 0)), (1, .int x1), (2, .int x3)] [] h (qi fun z2 h1 => (¬ z2 = 0 → (vp_in (((6 : Int32) * x1) + x3) 138 ∧ (∀ h4 : aH, h4 = (sI h1 28 (((6 : Int32) * x1) + x3).toNatClampNeg (if ((h1.1 28 (((6 : Int32) * x1) + x3).toNatClampNeg) + (1 : Int32)) < (99 : Int32) then ((h1.1 28 (((6 : Int32) * x1) + x3).toNatClampNeg) + (1 : Int32)) else (99 : Int32))) → (((h4.1 0 54) = (1 : Int32) → (AW (GM adK adV) l ad (d + 1) mX10_tenth 75 [(0, .ref (ad 0)), (1, .int x1), (2, .int x2), (3, .int (x3 + (1 : Int32)))] [] h4 (qv R))) ∧ (¬ (h4.1 0 54) = (1 : Int32) → (AW (GM adK adV) l ad d mX10_fallsIll 0 [(0, .ref (ad 0)), (1, .int x1), (2, .int x3), (3, .int x2)] [] h4 (qi fun z6 h5 => (z6 = 0 → (AW (GM adK adV) l ad (d + 1) mX10_tenth 75 [(0, .ref (ad 0)), (1, .int x1), (2, .int x2), (3, .int (x3 + (1 : Int32)))] [] h5 (qv R))) ∧ (¬ z6 = 0 → (AW (GM adK adV) l ad d mX10_dies 0 [(0, .ref (ad 0)), (1, .int x1), (2, .int x3)] [] h5 (qv fun h7 => AW (GM adK adV) l ad (d + 1) mX10_tenth 75 [(0, .ref (ad 0)), (1, .int x1), (2, .int x2), (3, .int (x3 + (1 : Int32)))] [] h7 (qv R))))))))))) ∧ (z2 = 0 → (AW (GM adK adV) l ad (d + 1) mX10_tenth 75 [(0, .ref (ad 0)), (1, .int x1), (2, .int x2), (3, .int (x3 + (1 : Int32)))] [] h1 (qv R))))))) : AW (GM adK adV) l ad (d + 1) mX10_tenth 75 [(0, .ref (ad 0)), (1, .int x1), (2, .int x2), (3, .int x3)] [] h (qv R) := by
  refine aw_iload_n dX10_tenth_75 rfl 3 rfl ?_
  refine aw_aload_n dX10_tenth_76 rfl 0 rfl ?_
  refine aw_get dX10_tenth_77 shM0 ckX10 flX10_13 (v := .ref (ad 2)) rfl ?_
  refine aw_iconst (v := 1) dX10_tenth_80 (by decide) ?_
  refine aw_ialdK (t0 := 0) (j := 1) dX10_tenth_81 shM2 rfl (by decide) (vp_inK (by decide) (by decide)) ?_
  refine aw_icmp_ge (tgt := 156) dX10_tenth_82 (by decide) (fun hc12 => ?_) (fun hc12 => ?_)
  · replace H := H.1 hc12
    exact aw_vret dX10_tenth_156 rfl ⟨rfl, H⟩
  · replace H := H.2 hc12
    refine aw_aload_n dX10_tenth_85 rfl 0 rfl ?_
    refine aw_iload_n dX10_tenth_86 rfl 1 rfl ?_
    refine aw_iload_n dX10_tenth_87 rfl 3 rfl ?_
    refine cvX10_isAlive dX10_tenth_88 mlX10_391 shM0 (Nat.le_of_ble_eq_true rfl) H (fun z2 h1 H => ?_)
    refine aw_if_ne (tgt := 97) dX10_tenth_91 (by decide) (fun hc11 => ?_) (fun hc11 => ?_)
    · replace H := H.1 hc11
      refine aw_aload_n dX10_tenth_97 rfl 0 rfl ?_
      refine aw_get dX10_tenth_98 shM0 ckX10 flX10_96 (v := .ref (ad 28)) rfl ?_
      refine aw_bipush (v := 6) dX10_tenth_101 (by decide) ?_
      refine aw_iload_n dX10_tenth_103 rfl 1 rfl ?_
      refine aw_imul dX10_tenth_104 ?_
      refine aw_iload_n dX10_tenth_105 rfl 3 rfl ?_
      refine aw_iadd dX10_tenth_106 ?_
      refine aw_bipush (v := 99) dX10_tenth_107 (by decide) ?_
      refine aw_aload_n dX10_tenth_109 rfl 0 rfl ?_
      refine aw_get dX10_tenth_110 shM0 ckX10 flX10_96 (v := .ref (ad 28)) rfl ?_
      refine aw_bipush (v := 6) dX10_tenth_113 (by decide) ?_
      refine aw_iload_n dX10_tenth_115 rfl 1 rfl ?_
      refine aw_imul dX10_tenth_116 ?_
      refine aw_iload_n dX10_tenth_117 rfl 3 rfl ?_
      refine aw_iadd dX10_tenth_118 ?_
      obtain ⟨hi3, H⟩ := H
      refine aw_ialdK (t0 := 0) (j := (((6 : Int32) * x1) + x3).toNatClampNeg) dX10_tenth_119 shM28 rfl rfl hi3 ?_
      refine aw_iconst (v := 1) dX10_tenth_120 (by decide) ?_
      refine aw_iadd dX10_tenth_121 ?_
      refine aw_mmin dX10_tenth_122 mlX10_421 (Nat.le_of_ble_eq_true rfl) ?_
      refine aw_iastK (t0 := 0) (j := (((6 : Int32) * x1) + x3).toNatClampNeg) dX10_tenth_125 shM28 rfl rfl hi3 ?_
      refine aw_toph (fun h4 eh4 => ?_)
      replace H := H h4 eh4
      refine aw_aload_n dX10_tenth_126 rfl 0 rfl ?_
      refine aw_get dX10_tenth_127 shM0 ckX10 flX10_388 (v := .int (h4.1 0 54)) rfl ?_
      refine aw_iconst (v := 1) dX10_tenth_130 (by decide) ?_
      refine aw_icmp_eq (tgt := 150) dX10_tenth_131 (by decide) (fun hc10 => ?_) (fun hc10 => ?_)
      · replace H := H.1 hc10
        refine aw_inc (mm := (1)) (ls' := [(3, .int (x3 + (1 : Int32))), (0, .ref (ad 0)), (1, .int x1), (2, .int x2)]) dX10_tenth_150 (by decide) (j := 3) rfl (by decide) rfl ?_
        refine aw_goto (tgt := 75) dX10_tenth_153 (by decide) ?_
        exact aw_ls [1, 2, 3, 0] rfl H
      · replace H := H.2 hc10
        refine aw_aload_n dX10_tenth_134 rfl 0 rfl ?_
        refine aw_iload_n dX10_tenth_135 rfl 1 rfl ?_
        refine aw_iload_n dX10_tenth_136 rfl 3 rfl ?_
        refine aw_iload_n dX10_tenth_137 rfl 2 rfl ?_
        refine cvX10_fallsIll dX10_tenth_138 mlX10_423 shM0 (Nat.le_of_ble_eq_true rfl) H (fun z6 h5 H => ?_)
        refine aw_if_eq (tgt := 150) dX10_tenth_141 (by decide) (fun hc9 => ?_) (fun hc9 => ?_)
        · replace H := H.1 hc9
          refine aw_inc (mm := (1)) (ls' := [(3, .int (x3 + (1 : Int32))), (0, .ref (ad 0)), (1, .int x1), (2, .int x2)]) dX10_tenth_150 (by decide) (j := 3) rfl (by decide) rfl ?_
          refine aw_goto (tgt := 75) dX10_tenth_153 (by decide) ?_
          exact aw_ls [1, 2, 3, 0] rfl H
        · replace H := H.2 hc9
          refine aw_aload_n dX10_tenth_144 rfl 0 rfl ?_
          refine aw_iload_n dX10_tenth_145 rfl 1 rfl ?_
          refine aw_iload_n dX10_tenth_146 rfl 3 rfl ?_
          refine cvX10_dies dX10_tenth_147 mlX10_427 shM0 (Nat.le_of_ble_eq_true rfl) H (fun h7 H => ?_)
          refine aw_inc (mm := (1)) (ls' := [(3, .int (x3 + (1 : Int32))), (0, .ref (ad 0)), (1, .int x1), (2, .int x2)]) dX10_tenth_150 (by decide) (j := 3) rfl (by decide) rfl ?_
          refine aw_goto (tgt := 75) dX10_tenth_153 (by decide) ?_
          exact aw_ls [1, 2, 3, 0] rfl H
    · replace H := H.2 hc11
      refine aw_goto (tgt := 150) dX10_tenth_94 (by decide) ?_
      refine aw_inc (mm := (1)) (ls' := [(3, .int (x3 + (1 : Int32))), (0, .ref (ad 0)), (1, .int x1), (2, .int x2)]) dX10_tenth_150 (by decide) (j := 3) rfl (by decide) rfl ?_
      refine aw_goto (tgt := 75) dX10_tenth_153 (by decide) ?_
      exact aw_ls [1, 2, 3, 0] rfl H
set_option maxRecDepth 8000 in
set_option maxHeartbeats 1000000 in
theorem bX10_passes_0 {adK adV : Nat → Nat} {l : Launch} {ad : Nat → Nat} {d : Nat} {R : aH → Prop}   (x1 : Int32) (x2 : Int32)  (h : aH)
    (H : AW (GM adK adV) l ad (d + 1) mX10_passes 2 [(0, .ref (ad 0)), (1, .int x1), (2, .int x2), (3, .int (0 : Int32))] [] h (qv R)) : AW (GM adK adV) l ad (d + 1) mX10_passes 0 [(0, .ref (ad 0)), (1, .int x1), (2, .int x2)] [] h (qv R) := by
  refine aw_iconst (v := 0) dX10_passes_0 (by decide) ?_
  refine aw_istore_n (ls' := [(3, .int (0 : Int32)), (0, .ref (ad 0)), (1, .int x1), (2, .int x2)]) dX10_passes_1 rfl (by decide) rfl ?_
  exact aw_ls [1, 2, 3, 0] rfl H
set_option maxRecDepth 8000 in
set_option maxHeartbeats 1000000 in
theorem bX10_passes_2 {adK adV : Nat → Nat} {l : Launch} {ad : Nat → Nat} {d : Nat} {R : aH → Prop}   (x1 : Int32) (x2 : Int32) (x3 : Int32)  (h : aH)
    (H : vp_in x1 23 ∧ (((h.1 25 x1.toNatClampNeg) ≤ x3 → (AW (GM adK adV) l ad (d + 1) mX10_passes 60 [(0, .ref (ad 0)), (1, .int x1), (2, .int x2), (3, .int (0 : Int32))] [] h (qv R))) ∧ (¬ (h.1 25 x1.toNatClampNeg) ≤ x3 → (vp_in (((8 : Int32) * x1) + x3) 184 ∧ ((¬ (h.1 35 (((8 : Int32) * x1) + x3).toNatClampNeg) = 0 → (AW (GM adK adV) l ad (d + 1) mX10_passes 2 [(0, .ref (ad 0)), (1, .int x1), (2, .int x2), (3, .int (x3 + (1 : Int32)))] [] h (qv R))) ∧ ((h.1 35 (((8 : Int32) * x1) + x3).toNatClampNeg) = 0 → ((¬ (h.1 34 (((8 : Int32) * x1) + x3).toNatClampNeg) = (h.1 23 x1.toNatClampNeg) → (AW (GM adK adV) l ad (d + 1) mX10_passes 2 [(0, .ref (ad 0)), (1, .int x1), (2, .int x2), (3, .int (x3 + (1 : Int32)))] [] h (qv R))) ∧ ((h.1 34 (((8 : Int32) * x1) + x3).toNatClampNeg) = (h.1 23 x1.toNatClampNeg) → (AW (GM adK adV) l ad d mX10_opens 0 [(0, .ref (ad 0)), (1, .int x1), (2, .int x3)] [] h (qv fun h3 => AW (GM adK adV) l ad (d + 1) mX10_passes 2 [(0, .ref (ad 0)), (1, .int x1), (2, .int x2), (3, .int (x3 + (1 : Int32)))] [] h3 (qv R))))))))))) : AW (GM adK adV) l ad (d + 1) mX10_passes 2 [(0, .ref (ad 0)), (1, .int x1), (2, .int x2), (3, .int x3)] [] h (qv R) := by
  refine aw_iload_n dX10_passes_2 rfl 3 rfl ?_
  refine aw_aload_n dX10_passes_3 rfl 0 rfl ?_
  refine aw_get dX10_passes_4 shM0 ckX10 flX10_87 (v := .ref (ad 25)) rfl ?_
  refine aw_iload_n dX10_passes_7 rfl 1 rfl ?_
  obtain ⟨hi1, H⟩ := H
  refine aw_ialdK (t0 := 0) (j := x1.toNatClampNeg) dX10_passes_8 shM25 rfl rfl hi1 ?_
  refine aw_icmp_ge (tgt := 58) dX10_passes_9 (by decide) (fun hc7 => ?_) (fun hc7 => ?_)
  · replace H := H.1 hc7
    refine aw_iconst (v := 0) dX10_passes_58 (by decide) ?_
    refine aw_istore_n (ls' := [(3, .int (0 : Int32)), (0, .ref (ad 0)), (1, .int x1), (2, .int x2)]) dX10_passes_59 rfl (by decide) rfl ?_
    exact aw_ls [1, 2, 3, 0] rfl H
  · replace H := H.2 hc7
    refine aw_aload_n dX10_passes_12 rfl 0 rfl ?_
    refine aw_get dX10_passes_13 shM0 ckX10 flX10_117 (v := .ref (ad 35)) rfl ?_
    refine aw_bipush (v := 8) dX10_passes_16 (by decide) ?_
    refine aw_iload_n dX10_passes_18 rfl 1 rfl ?_
    refine aw_imul dX10_passes_19 ?_
    refine aw_iload_n dX10_passes_20 rfl 3 rfl ?_
    refine aw_iadd dX10_passes_21 ?_
    obtain ⟨hi2, H⟩ := H
    refine aw_ialdK (t0 := 0) (j := (((8 : Int32) * x1) + x3).toNatClampNeg) dX10_passes_22 shM35 rfl rfl hi2 ?_
    refine aw_if_ne (tgt := 52) dX10_passes_23 (by decide) (fun hc6 => ?_) (fun hc6 => ?_)
    · replace H := H.1 hc6
      refine aw_inc (mm := (1)) (ls' := [(3, .int (x3 + (1 : Int32))), (0, .ref (ad 0)), (1, .int x1), (2, .int x2)]) dX10_passes_52 (by decide) (j := 3) rfl (by decide) rfl ?_
      refine aw_goto (tgt := 2) dX10_passes_55 (by decide) ?_
      exact aw_ls [1, 2, 3, 0] rfl H
    · replace H := H.2 hc6
      refine aw_aload_n dX10_passes_26 rfl 0 rfl ?_
      refine aw_get dX10_passes_27 shM0 ckX10 flX10_114 (v := .ref (ad 34)) rfl ?_
      refine aw_bipush (v := 8) dX10_passes_30 (by decide) ?_
      refine aw_iload_n dX10_passes_32 rfl 1 rfl ?_
      refine aw_imul dX10_passes_33 ?_
      refine aw_iload_n dX10_passes_34 rfl 3 rfl ?_
      refine aw_iadd dX10_passes_35 ?_
      refine aw_ialdK (t0 := 0) (j := (((8 : Int32) * x1) + x3).toNatClampNeg) dX10_passes_36 shM34 rfl rfl hi2 ?_
      refine aw_aload_n dX10_passes_37 rfl 0 rfl ?_
      refine aw_get dX10_passes_38 shM0 ckX10 flX10_81 (v := .ref (ad 23)) rfl ?_
      refine aw_iload_n dX10_passes_41 rfl 1 rfl ?_
      refine aw_ialdK (t0 := 0) (j := x1.toNatClampNeg) dX10_passes_42 shM23 rfl rfl hi1 ?_
      refine aw_icmp_ne (tgt := 52) dX10_passes_43 (by decide) (fun hc5 => ?_) (fun hc5 => ?_)
      · replace H := H.1 hc5
        refine aw_inc (mm := (1)) (ls' := [(3, .int (x3 + (1 : Int32))), (0, .ref (ad 0)), (1, .int x1), (2, .int x2)]) dX10_passes_52 (by decide) (j := 3) rfl (by decide) rfl ?_
        refine aw_goto (tgt := 2) dX10_passes_55 (by decide) ?_
        exact aw_ls [1, 2, 3, 0] rfl H
      · replace H := H.2 hc5
        refine aw_aload_n dX10_passes_46 rfl 0 rfl ?_
        refine aw_iload_n dX10_passes_47 rfl 1 rfl ?_
        refine aw_iload_n dX10_passes_48 rfl 3 rfl ?_
        refine cvX10_opens dX10_passes_49 mlX10_430 shM0 (Nat.le_of_ble_eq_true rfl) H (fun h3 H => ?_)
        refine aw_inc (mm := (1)) (ls' := [(3, .int (x3 + (1 : Int32))), (0, .ref (ad 0)), (1, .int x1), (2, .int x2)]) dX10_passes_52 (by decide) (j := 3) rfl (by decide) rfl ?_
        refine aw_goto (tgt := 2) dX10_passes_55 (by decide) ?_
        exact aw_ls [1, 2, 3, 0] rfl H
set_option maxRecDepth 8000 in
set_option maxHeartbeats 1000000 in
theorem bX10_passes_60 {adK adV : Nat → Nat} {l : Launch} {ad : Nat → Nat} {d : Nat} {R : aH → Prop}   (x1 : Int32) (x2 : Int32) (x3 : Int32)  (h : aH)
    (H : ((h.1 2 3) ≤ x3 → (AW (GM adK adV) l ad (d + 1) mX10_passes 147 [(0, .ref (ad 0)), (1, .int x1), (2, .int x2), (3, .int (0 : Int32))] [] h (qv R))) ∧ (¬ (h.1 2 3) ≤ x3 → (((h.1 0 54) = (3 : Int32) → (AW (GM adK adV) l ad (d + 1) mX10_passes 147 [(0, .ref (ad 0)), (1, .int x1), (2, .int x2), (3, .int (0 : Int32))] [] h (qv R))) ∧ (¬ (h.1 0 54) = (3 : Int32) → (vp_in x3 20 ∧ (vp_in x1 23 ∧ ((¬ (h.1 16 x3.toNatClampNeg) = (h.1 23 x1.toNatClampNeg) → (AW (GM adK adV) l ad (d + 1) mX10_passes 60 [(0, .ref (ad 0)), (1, .int x1), (2, .int x2), (3, .int (x3 + (1 : Int32)))] [] h (qv R))) ∧ ((h.1 16 x3.toNatClampNeg) = (h.1 23 x1.toNatClampNeg) → (AW (GM adK adV) l ad d mX10_isAlive 0 [(0, .ref (ad 0)), (1, .int x1), (2, .int (h.1 14 x3.toNatClampNeg))] [] h (qi fun z4 h3 => (z4 = 0 → (AW (GM adK adV) l ad (d + 1) mX10_passes 60 [(0, .ref (ad 0)), (1, .int x1), (2, .int x2), (3, .int (x3 + (1 : Int32)))] [] h3 (qv R))) ∧ (¬ z4 = 0 → (AW (GM adK adV) l ad d mX10_isAlive 0 [(0, .ref (ad 0)), (1, .int x1), (2, .int (h3.1 15 x3.toNatClampNeg))] [] h3 (qi fun z6 h5 => (z6 = 0 → (AW (GM adK adV) l ad (d + 1) mX10_passes 60 [(0, .ref (ad 0)), (1, .int x1), (2, .int x2), (3, .int (x3 + (1 : Int32)))] [] h5 (qv R))) ∧ (¬ z6 = 0 → (AW (GM adK adV) l ad d mX10_leans 0 [(0, .ref (ad 0)), (1, .int x1), (2, .int (h5.1 14 x3.toNatClampNeg)), (3, .int (h5.1 15 x3.toNatClampNeg))] [] h5 (qi fun z8 h7 => AW (GM adK adV) l ad (d + 1) mX10_passes 60 [(0, .ref (ad 0)), (1, .int x1), (2, .int x2), (3, .int (x3 + (1 : Int32)))] [] h7 (qv R))))))))))))))))) : AW (GM adK adV) l ad (d + 1) mX10_passes 60 [(0, .ref (ad 0)), (1, .int x1), (2, .int x2), (3, .int x3)] [] h (qv R) := by
  refine aw_iload_n dX10_passes_60 rfl 3 rfl ?_
  refine aw_aload_n dX10_passes_61 rfl 0 rfl ?_
  refine aw_get dX10_passes_62 shM0 ckX10 flX10_13 (v := .ref (ad 2)) rfl ?_
  refine aw_iconst (v := 3) dX10_passes_65 (by decide) ?_
  refine aw_ialdK (t0 := 0) (j := 3) dX10_passes_66 shM2 rfl (by decide) (vp_inK (by decide) (by decide)) ?_
  refine aw_icmp_ge (tgt := 145) dX10_passes_67 (by decide) (fun hc13 => ?_) (fun hc13 => ?_)
  · replace H := H.1 hc13
    refine aw_iconst (v := 0) dX10_passes_145 (by decide) ?_
    refine aw_istore_n (ls' := [(3, .int (0 : Int32)), (0, .ref (ad 0)), (1, .int x1), (2, .int x2)]) dX10_passes_146 rfl (by decide) rfl ?_
    exact aw_ls [1, 2, 3, 0] rfl H
  · replace H := H.2 hc13
    refine aw_aload_n dX10_passes_70 rfl 0 rfl ?_
    refine aw_get dX10_passes_71 shM0 ckX10 flX10_388 (v := .int (h.1 0 54)) rfl ?_
    refine aw_iconst (v := 3) dX10_passes_74 (by decide) ?_
    refine aw_icmp_eq (tgt := 145) dX10_passes_75 (by decide) (fun hc12 => ?_) (fun hc12 => ?_)
    · replace H := H.1 hc12
      refine aw_iconst (v := 0) dX10_passes_145 (by decide) ?_
      refine aw_istore_n (ls' := [(3, .int (0 : Int32)), (0, .ref (ad 0)), (1, .int x1), (2, .int x2)]) dX10_passes_146 rfl (by decide) rfl ?_
      exact aw_ls [1, 2, 3, 0] rfl H
    · replace H := H.2 hc12
      refine aw_aload_n dX10_passes_78 rfl 0 rfl ?_
      refine aw_get dX10_passes_79 shM0 ckX10 flX10_55 (v := .ref (ad 16)) rfl ?_
      refine aw_iload_n dX10_passes_82 rfl 3 rfl ?_
      obtain ⟨hi1, H⟩ := H
      refine aw_ialdK (t0 := 0) (j := x3.toNatClampNeg) dX10_passes_83 shM16 rfl rfl hi1 ?_
      refine aw_aload_n dX10_passes_84 rfl 0 rfl ?_
      refine aw_get dX10_passes_85 shM0 ckX10 flX10_81 (v := .ref (ad 23)) rfl ?_
      refine aw_iload_n dX10_passes_88 rfl 1 rfl ?_
      obtain ⟨hi2, H⟩ := H
      refine aw_ialdK (t0 := 0) (j := x1.toNatClampNeg) dX10_passes_89 shM23 rfl rfl hi2 ?_
      refine aw_icmp_ne (tgt := 139) dX10_passes_90 (by decide) (fun hc11 => ?_) (fun hc11 => ?_)
      · replace H := H.1 hc11
        refine aw_inc (mm := (1)) (ls' := [(3, .int (x3 + (1 : Int32))), (0, .ref (ad 0)), (1, .int x1), (2, .int x2)]) dX10_passes_139 (by decide) (j := 3) rfl (by decide) rfl ?_
        refine aw_goto (tgt := 60) dX10_passes_142 (by decide) ?_
        exact aw_ls [1, 2, 3, 0] rfl H
      · replace H := H.2 hc11
        refine aw_aload_n dX10_passes_93 rfl 0 rfl ?_
        refine aw_iload_n dX10_passes_94 rfl 1 rfl ?_
        refine aw_aload_n dX10_passes_95 rfl 0 rfl ?_
        refine aw_get dX10_passes_96 shM0 ckX10 flX10_49 (v := .ref (ad 14)) rfl ?_
        refine aw_iload_n dX10_passes_99 rfl 3 rfl ?_
        refine aw_ialdK (t0 := 0) (j := x3.toNatClampNeg) dX10_passes_100 shM14 rfl rfl hi1 ?_
        refine cvX10_isAlive dX10_passes_101 mlX10_391 shM0 (Nat.le_of_ble_eq_true rfl) H (fun z4 h3 H => ?_)
        refine aw_if_eq (tgt := 139) dX10_passes_104 (by decide) (fun hc10 => ?_) (fun hc10 => ?_)
        · replace H := H.1 hc10
          refine aw_inc (mm := (1)) (ls' := [(3, .int (x3 + (1 : Int32))), (0, .ref (ad 0)), (1, .int x1), (2, .int x2)]) dX10_passes_139 (by decide) (j := 3) rfl (by decide) rfl ?_
          refine aw_goto (tgt := 60) dX10_passes_142 (by decide) ?_
          exact aw_ls [1, 2, 3, 0] rfl H
        · replace H := H.2 hc10
          refine aw_aload_n dX10_passes_107 rfl 0 rfl ?_
          refine aw_iload_n dX10_passes_108 rfl 1 rfl ?_
          refine aw_aload_n dX10_passes_109 rfl 0 rfl ?_
          refine aw_get dX10_passes_110 shM0 ckX10 flX10_52 (v := .ref (ad 15)) rfl ?_
          refine aw_iload_n dX10_passes_113 rfl 3 rfl ?_
          refine aw_ialdK (t0 := 0) (j := x3.toNatClampNeg) dX10_passes_114 shM15 rfl rfl hi1 ?_
          refine cvX10_isAlive dX10_passes_115 mlX10_391 shM0 (Nat.le_of_ble_eq_true rfl) H (fun z6 h5 H => ?_)
          refine aw_if_eq (tgt := 139) dX10_passes_118 (by decide) (fun hc9 => ?_) (fun hc9 => ?_)
          · replace H := H.1 hc9
            refine aw_inc (mm := (1)) (ls' := [(3, .int (x3 + (1 : Int32))), (0, .ref (ad 0)), (1, .int x1), (2, .int x2)]) dX10_passes_139 (by decide) (j := 3) rfl (by decide) rfl ?_
            refine aw_goto (tgt := 60) dX10_passes_142 (by decide) ?_
            exact aw_ls [1, 2, 3, 0] rfl H
          · replace H := H.2 hc9
            refine aw_aload_n dX10_passes_121 rfl 0 rfl ?_
            refine aw_iload_n dX10_passes_122 rfl 1 rfl ?_
            refine aw_aload_n dX10_passes_123 rfl 0 rfl ?_
            refine aw_get dX10_passes_124 shM0 ckX10 flX10_49 (v := .ref (ad 14)) rfl ?_
            refine aw_iload_n dX10_passes_127 rfl 3 rfl ?_
            refine aw_ialdK (t0 := 0) (j := x3.toNatClampNeg) dX10_passes_128 shM14 rfl rfl hi1 ?_
            refine aw_aload_n dX10_passes_129 rfl 0 rfl ?_
            refine aw_get dX10_passes_130 shM0 ckX10 flX10_52 (v := .ref (ad 15)) rfl ?_
            refine aw_iload_n dX10_passes_133 rfl 3 rfl ?_
            refine aw_ialdK (t0 := 0) (j := x3.toNatClampNeg) dX10_passes_134 shM15 rfl rfl hi1 ?_
            refine cvX10_leans dX10_passes_135 mlX10_433 shM0 (Nat.le_of_ble_eq_true rfl) H (fun z8 h7 H => ?_)
            refine aw_pop dX10_passes_138 rfl ?_
            refine aw_inc (mm := (1)) (ls' := [(3, .int (x3 + (1 : Int32))), (0, .ref (ad 0)), (1, .int x1), (2, .int x2)]) dX10_passes_139 (by decide) (j := 3) rfl (by decide) rfl ?_
            refine aw_goto (tgt := 60) dX10_passes_142 (by decide) ?_
            exact aw_ls [1, 2, 3, 0] rfl H
set_option maxRecDepth 8000 in
set_option maxHeartbeats 1000000 in
theorem bX10_passes_147 {adK adV : Nat → Nat} {l : Launch} {ad : Nat → Nat} {d : Nat} {R : aH → Prop}   (x1 : Int32) (x2 : Int32) (x3 : Int32)  (h : aH)
    (H : ((h.1 2 1) ≤ x3 → (AW (GM adK adV) l ad (d + 1) mX10_passes 203 [(0, .ref (ad 0)), (1, .int x1), (2, .int x2), (3, .int (0 : Int32))] [] h (qv R))) ∧ (¬ (h.1 2 1) ≤ x3 → (((h.1 0 54) = (1 : Int32) → (AW (GM adK adV) l ad (d + 1) mX10_passes 203 [(0, .ref (ad 0)), (1, .int x1), (2, .int x2), (3, .int (0 : Int32))] [] h (qv R))) ∧ (¬ (h.1 0 54) = (1 : Int32) → (vp_in x3 12 ∧ (vp_in x1 23 ∧ ((¬ (h.1 8 x3.toNatClampNeg) = (h.1 23 x1.toNatClampNeg) → (AW (GM adK adV) l ad (d + 1) mX10_passes 147 [(0, .ref (ad 0)), (1, .int x1), (2, .int x2), (3, .int (x3 + (1 : Int32)))] [] h (qv R))) ∧ ((h.1 8 x3.toNatClampNeg) = (h.1 23 x1.toNatClampNeg) → (AW (GM adK adV) l ad d mX10_isAlive 0 [(0, .ref (ad 0)), (1, .int x1), (2, .int x3)] [] h (qi fun z4 h3 => (z4 = 0 → (AW (GM adK adV) l ad (d + 1) mX10_passes 147 [(0, .ref (ad 0)), (1, .int x1), (2, .int x2), (3, .int (x3 + (1 : Int32)))] [] h3 (qv R))) ∧ (¬ z4 = 0 → (AW (GM adK adV) l ad d mX10_dies 0 [(0, .ref (ad 0)), (1, .int x1), (2, .int x3)] [] h3 (qv fun h5 => AW (GM adK adV) l ad (d + 1) mX10_passes 147 [(0, .ref (ad 0)), (1, .int x1), (2, .int x2), (3, .int (x3 + (1 : Int32)))] [] h5 (qv R)))))))))))))) : AW (GM adK adV) l ad (d + 1) mX10_passes 147 [(0, .ref (ad 0)), (1, .int x1), (2, .int x2), (3, .int x3)] [] h (qv R) := by
  refine aw_iload_n dX10_passes_147 rfl 3 rfl ?_
  refine aw_aload_n dX10_passes_148 rfl 0 rfl ?_
  refine aw_get dX10_passes_149 shM0 ckX10 flX10_13 (v := .ref (ad 2)) rfl ?_
  refine aw_iconst (v := 1) dX10_passes_152 (by decide) ?_
  refine aw_ialdK (t0 := 0) (j := 1) dX10_passes_153 shM2 rfl (by decide) (vp_inK (by decide) (by decide)) ?_
  refine aw_icmp_ge (tgt := 201) dX10_passes_154 (by decide) (fun hc10 => ?_) (fun hc10 => ?_)
  · replace H := H.1 hc10
    refine aw_iconst (v := 0) dX10_passes_201 (by decide) ?_
    refine aw_istore_n (ls' := [(3, .int (0 : Int32)), (0, .ref (ad 0)), (1, .int x1), (2, .int x2)]) dX10_passes_202 rfl (by decide) rfl ?_
    exact aw_ls [1, 2, 3, 0] rfl H
  · replace H := H.2 hc10
    refine aw_aload_n dX10_passes_157 rfl 0 rfl ?_
    refine aw_get dX10_passes_158 shM0 ckX10 flX10_388 (v := .int (h.1 0 54)) rfl ?_
    refine aw_iconst (v := 1) dX10_passes_161 (by decide) ?_
    refine aw_icmp_eq (tgt := 201) dX10_passes_162 (by decide) (fun hc9 => ?_) (fun hc9 => ?_)
    · replace H := H.1 hc9
      refine aw_iconst (v := 0) dX10_passes_201 (by decide) ?_
      refine aw_istore_n (ls' := [(3, .int (0 : Int32)), (0, .ref (ad 0)), (1, .int x1), (2, .int x2)]) dX10_passes_202 rfl (by decide) rfl ?_
      exact aw_ls [1, 2, 3, 0] rfl H
    · replace H := H.2 hc9
      refine aw_aload_n dX10_passes_165 rfl 0 rfl ?_
      refine aw_get dX10_passes_166 shM0 ckX10 flX10_31 (v := .ref (ad 8)) rfl ?_
      refine aw_iload_n dX10_passes_169 rfl 3 rfl ?_
      obtain ⟨hi1, H⟩ := H
      refine aw_ialdK (t0 := 0) (j := x3.toNatClampNeg) dX10_passes_170 shM8 rfl rfl hi1 ?_
      refine aw_aload_n dX10_passes_171 rfl 0 rfl ?_
      refine aw_get dX10_passes_172 shM0 ckX10 flX10_81 (v := .ref (ad 23)) rfl ?_
      refine aw_iload_n dX10_passes_175 rfl 1 rfl ?_
      obtain ⟨hi2, H⟩ := H
      refine aw_ialdK (t0 := 0) (j := x1.toNatClampNeg) dX10_passes_176 shM23 rfl rfl hi2 ?_
      refine aw_icmp_ne (tgt := 195) dX10_passes_177 (by decide) (fun hc8 => ?_) (fun hc8 => ?_)
      · replace H := H.1 hc8
        refine aw_inc (mm := (1)) (ls' := [(3, .int (x3 + (1 : Int32))), (0, .ref (ad 0)), (1, .int x1), (2, .int x2)]) dX10_passes_195 (by decide) (j := 3) rfl (by decide) rfl ?_
        refine aw_goto (tgt := 147) dX10_passes_198 (by decide) ?_
        exact aw_ls [1, 2, 3, 0] rfl H
      · replace H := H.2 hc8
        refine aw_aload_n dX10_passes_180 rfl 0 rfl ?_
        refine aw_iload_n dX10_passes_181 rfl 1 rfl ?_
        refine aw_iload_n dX10_passes_182 rfl 3 rfl ?_
        refine cvX10_isAlive dX10_passes_183 mlX10_391 shM0 (Nat.le_of_ble_eq_true rfl) H (fun z4 h3 H => ?_)
        refine aw_if_eq (tgt := 195) dX10_passes_186 (by decide) (fun hc7 => ?_) (fun hc7 => ?_)
        · replace H := H.1 hc7
          refine aw_inc (mm := (1)) (ls' := [(3, .int (x3 + (1 : Int32))), (0, .ref (ad 0)), (1, .int x1), (2, .int x2)]) dX10_passes_195 (by decide) (j := 3) rfl (by decide) rfl ?_
          refine aw_goto (tgt := 147) dX10_passes_198 (by decide) ?_
          exact aw_ls [1, 2, 3, 0] rfl H
        · replace H := H.2 hc7
          refine aw_aload_n dX10_passes_189 rfl 0 rfl ?_
          refine aw_iload_n dX10_passes_190 rfl 1 rfl ?_
          refine aw_iload_n dX10_passes_191 rfl 3 rfl ?_
          refine cvX10_dies dX10_passes_192 mlX10_427 shM0 (Nat.le_of_ble_eq_true rfl) H (fun h5 H => ?_)
          refine aw_inc (mm := (1)) (ls' := [(3, .int (x3 + (1 : Int32))), (0, .ref (ad 0)), (1, .int x1), (2, .int x2)]) dX10_passes_195 (by decide) (j := 3) rfl (by decide) rfl ?_
          refine aw_goto (tgt := 147) dX10_passes_198 (by decide) ?_
          exact aw_ls [1, 2, 3, 0] rfl H
set_option maxRecDepth 8000 in
set_option maxHeartbeats 1000000 in
theorem bX10_passes_203 {adK adV : Nat → Nat} {l : Launch} {ad : Nat → Nat} {d : Nat} {R : aH → Prop}   (x1 : Int32) (x2 : Int32) (x3 : Int32)  (h : aH)
    (H : vp_in x1 23 ∧ (((h.1 25 x1.toNatClampNeg) ≤ x3 → ((¬ ((h.1 23 x1.toNatClampNeg) - (h.1 23 x1.toNatClampNeg) / (10 : Int32) * (10 : Int32)) = (9 : Int32) → (AW (GM adK adV) l ad (d + 1) mX10_passes 257 [(0, .ref (ad 0)), (1, .int x1), (3, .int (0 : Int32))] [] h (qv R))) ∧ (((h.1 23 x1.toNatClampNeg) - (h.1 23 x1.toNatClampNeg) / (10 : Int32) * (10 : Int32)) = (9 : Int32) → (AW (GM adK adV) l ad d mX10_tenth 0 [(0, .ref (ad 0)), (1, .int x1), (2, .int x2)] [] h (qv fun h2 => AW (GM adK adV) l ad (d + 1) mX10_passes 257 [(0, .ref (ad 0)), (1, .int x1), (3, .int (0 : Int32))] [] h2 (qv R)))))) ∧ (¬ (h.1 25 x1.toNatClampNeg) ≤ x3 → (AW (GM adK adV) l ad d mX10_doesPay 0 [(0, .ref (ad 0)), (1, .int x1), (2, .int x3)] [] h (qi fun z6 h5 => (z6 = 0 → (AW (GM adK adV) l ad (d + 1) mX10_passes 203 [(0, .ref (ad 0)), (1, .int x1), (2, .int x2), (3, .int (x3 + (1 : Int32)))] [] h5 (qv R))) ∧ (¬ z6 = 0 → (AW (GM adK adV) l ad d mX10_pays 0 [(0, .ref (ad 0)), (1, .int x1), (2, .int x3)] [] h5 (qi fun z8 h7 => AW (GM adK adV) l ad (d + 1) mX10_passes 203 [(0, .ref (ad 0)), (1, .int x1), (2, .int x2), (3, .int (x3 + (1 : Int32)))] [] h7 (qv R))))))))) : AW (GM adK adV) l ad (d + 1) mX10_passes 203 [(0, .ref (ad 0)), (1, .int x1), (2, .int x2), (3, .int x3)] [] h (qv R) := by
  refine aw_iload_n dX10_passes_203 rfl 3 rfl ?_
  refine aw_aload_n dX10_passes_204 rfl 0 rfl ?_
  refine aw_get dX10_passes_205 shM0 ckX10 flX10_87 (v := .ref (ad 25)) rfl ?_
  refine aw_iload_n dX10_passes_208 rfl 1 rfl ?_
  obtain ⟨hi1, H⟩ := H
  refine aw_ialdK (t0 := 0) (j := x1.toNatClampNeg) dX10_passes_209 shM25 rfl rfl hi1 ?_
  refine aw_icmp_ge (tgt := 235) dX10_passes_210 (by decide) (fun hc10 => ?_) (fun hc10 => ?_)
  · replace H := H.1 hc10
    refine aw_aload_n dX10_passes_235 rfl 0 rfl ?_
    refine aw_get dX10_passes_236 shM0 ckX10 flX10_81 (v := .ref (ad 23)) rfl ?_
    refine aw_iload_n dX10_passes_239 rfl 1 rfl ?_
    refine aw_ialdK (t0 := 0) (j := x1.toNatClampNeg) dX10_passes_240 shM23 rfl rfl hi1 ?_
    refine aw_bipush (v := 10) dX10_passes_241 (by decide) ?_
    refine aw_irem dX10_passes_243 (by decide) ?_
    refine aw_bipush (v := 9) dX10_passes_244 (by decide) ?_
    refine aw_icmp_ne (tgt := 255) dX10_passes_246 (by decide) (fun hc4 => ?_) (fun hc4 => ?_)
    · replace H := H.1 hc4
      refine aw_iconst (v := 0) dX10_passes_255 (by decide) ?_
      refine aw_istore_n (ls' := [(3, .int (0 : Int32)), (0, .ref (ad 0)), (1, .int x1), (2, .int x2)]) dX10_passes_256 rfl (by decide) rfl ?_
      exact aw_ls [1, 2, 0] rfl H
    · replace H := H.2 hc4
      refine aw_aload_n dX10_passes_249 rfl 0 rfl ?_
      refine aw_iload_n dX10_passes_250 rfl 1 rfl ?_
      refine aw_iload_n dX10_passes_251 rfl 2 rfl ?_
      refine cvX10_tenth dX10_passes_252 mlX10_443 shM0 (Nat.le_of_ble_eq_true rfl) H (fun h2 H => ?_)
      refine aw_iconst (v := 0) dX10_passes_255 (by decide) ?_
      refine aw_istore_n (ls' := [(3, .int (0 : Int32)), (0, .ref (ad 0)), (1, .int x1), (2, .int x2)]) dX10_passes_256 rfl (by decide) rfl ?_
      exact aw_ls [1, 2, 0] rfl H
  · replace H := H.2 hc10
    refine aw_aload_n dX10_passes_213 rfl 0 rfl ?_
    refine aw_iload_n dX10_passes_214 rfl 1 rfl ?_
    refine aw_iload_n dX10_passes_215 rfl 3 rfl ?_
    refine cvX10_doesPay dX10_passes_216 mlX10_437 shM0 (Nat.le_of_ble_eq_true rfl) H (fun z6 h5 H => ?_)
    refine aw_if_eq (tgt := 229) dX10_passes_219 (by decide) (fun hc9 => ?_) (fun hc9 => ?_)
    · replace H := H.1 hc9
      refine aw_inc (mm := (1)) (ls' := [(3, .int (x3 + (1 : Int32))), (0, .ref (ad 0)), (1, .int x1), (2, .int x2)]) dX10_passes_229 (by decide) (j := 3) rfl (by decide) rfl ?_
      refine aw_goto (tgt := 203) dX10_passes_232 (by decide) ?_
      exact aw_ls [1, 2, 3, 0] rfl H
    · replace H := H.2 hc9
      refine aw_aload_n dX10_passes_222 rfl 0 rfl ?_
      refine aw_iload_n dX10_passes_223 rfl 1 rfl ?_
      refine aw_iload_n dX10_passes_224 rfl 3 rfl ?_
      refine cvX10_pays dX10_passes_225 mlX10_440 shM0 (Nat.le_of_ble_eq_true rfl) H (fun z8 h7 H => ?_)
      refine aw_pop dX10_passes_228 rfl ?_
      refine aw_inc (mm := (1)) (ls' := [(3, .int (x3 + (1 : Int32))), (0, .ref (ad 0)), (1, .int x1), (2, .int x2)]) dX10_passes_229 (by decide) (j := 3) rfl (by decide) rfl ?_
      refine aw_goto (tgt := 203) dX10_passes_232 (by decide) ?_
      exact aw_ls [1, 2, 3, 0] rfl H
set_option maxRecDepth 8000 in
set_option maxHeartbeats 1000000 in
theorem bX10_passes_257 {adK adV : Nat → Nat} {l : Launch} {ad : Nat → Nat} {d : Nat} {R : aH → Prop}   (x1 : Int32) (x3 : Int32)  (h : aH)
    (H : vp_in x1 23 ∧ (((h.1 25 x1.toNatClampNeg) ≤ x3 → (R (sI h 23 x1.toNatClampNeg ((h.1 23 x1.toNatClampNeg) + (1 : Int32))))) ∧ (¬ (h.1 25 x1.toNatClampNeg) ≤ x3 → (AW (GM adK adV) l ad d mX10_isOpen 0 [(0, .ref (ad 0)), (1, .int x1), (2, .int x3)] [] h (qi fun z3 h2 => (z3 = 0 → (AW (GM adK adV) l ad (d + 1) mX10_passes 257 [(0, .ref (ad 0)), (1, .int x1), (3, .int (x3 + (1 : Int32)))] [] h2 (qv R))) ∧ (¬ z3 = 0 → (AW (GM adK adV) l ad d mX10_knowers 0 [(0, .ref (ad 0)), (1, .int x1), (2, .int x3)] [] h2 (qi fun z5 h4 => (¬ z5 = 0 → (AW (GM adK adV) l ad (d + 1) mX10_passes 257 [(0, .ref (ad 0)), (1, .int x1), (3, .int (x3 + (1 : Int32)))] [] h4 (qv R))) ∧ (z5 = 0 → (AW (GM adK adV) l ad d mX10_closes 0 [(0, .ref (ad 0)), (1, .int x1), (2, .int x3), (3, .int (3 : Int32))] [] h4 (qv fun h6 => AW (GM adK adV) l ad (d + 1) mX10_passes 257 [(0, .ref (ad 0)), (1, .int x1), (3, .int (x3 + (1 : Int32)))] [] h6 (qv R)))))))))))) : AW (GM adK adV) l ad (d + 1) mX10_passes 257 [(0, .ref (ad 0)), (1, .int x1), (3, .int x3)] [] h (qv R) := by
  refine aw_iload_n dX10_passes_257 rfl 2 rfl ?_
  refine aw_aload_n dX10_passes_258 rfl 0 rfl ?_
  refine aw_get dX10_passes_259 shM0 ckX10 flX10_87 (v := .ref (ad 25)) rfl ?_
  refine aw_iload_n dX10_passes_262 rfl 1 rfl ?_
  obtain ⟨hi1, H⟩ := H
  refine aw_ialdK (t0 := 0) (j := x1.toNatClampNeg) dX10_passes_263 shM25 rfl rfl hi1 ?_
  refine aw_icmp_ge (tgt := 298) dX10_passes_264 (by decide) (fun hc10 => ?_) (fun hc10 => ?_)
  · replace H := H.1 hc10
    refine aw_aload_n dX10_passes_298 rfl 0 rfl ?_
    refine aw_get dX10_passes_299 shM0 ckX10 flX10_81 (v := .ref (ad 23)) rfl ?_
    refine aw_iload_n dX10_passes_302 rfl 1 rfl ?_
    refine aw_dup2 dX10_passes_303 rfl rfl ?_
    refine aw_ialdK (t0 := 0) (j := x1.toNatClampNeg) dX10_passes_304 shM23 rfl rfl hi1 ?_
    refine aw_iconst (v := 1) dX10_passes_305 (by decide) ?_
    refine aw_iadd dX10_passes_306 ?_
    refine aw_iastK (t0 := 0) (j := x1.toNatClampNeg) dX10_passes_307 shM23 rfl rfl hi1 ?_
    exact aw_vret dX10_passes_308 rfl ⟨rfl, H⟩
  · replace H := H.2 hc10
    refine aw_aload_n dX10_passes_267 rfl 0 rfl ?_
    refine aw_iload_n dX10_passes_268 rfl 1 rfl ?_
    refine aw_iload_n dX10_passes_269 rfl 2 rfl ?_
    refine cvX10_isOpen dX10_passes_270 mlX10_402 shM0 (Nat.le_of_ble_eq_true rfl) H (fun z3 h2 H => ?_)
    refine aw_if_eq (tgt := 292) dX10_passes_273 (by decide) (fun hc9 => ?_) (fun hc9 => ?_)
    · replace H := H.1 hc9
      refine aw_inc (mm := (1)) (ls' := [(3, .int (x3 + (1 : Int32))), (0, .ref (ad 0)), (1, .int x1)]) dX10_passes_292 (by decide) (j := 2) rfl (by decide) rfl ?_
      refine aw_goto (tgt := 257) dX10_passes_295 (by decide) ?_
      exact aw_ls [1, 2, 0] rfl H
    · replace H := H.2 hc9
      refine aw_aload_n dX10_passes_276 rfl 0 rfl ?_
      refine aw_iload_n dX10_passes_277 rfl 1 rfl ?_
      refine aw_iload_n dX10_passes_278 rfl 2 rfl ?_
      refine cvX10_knowers dX10_passes_279 mlX10_358 shM0 (Nat.le_of_ble_eq_true rfl) H (fun z5 h4 H => ?_)
      refine aw_if_ne (tgt := 292) dX10_passes_282 (by decide) (fun hc8 => ?_) (fun hc8 => ?_)
      · replace H := H.1 hc8
        refine aw_inc (mm := (1)) (ls' := [(3, .int (x3 + (1 : Int32))), (0, .ref (ad 0)), (1, .int x1)]) dX10_passes_292 (by decide) (j := 2) rfl (by decide) rfl ?_
        refine aw_goto (tgt := 257) dX10_passes_295 (by decide) ?_
        exact aw_ls [1, 2, 0] rfl H
      · replace H := H.2 hc8
        refine aw_aload_n dX10_passes_285 rfl 0 rfl ?_
        refine aw_iload_n dX10_passes_286 rfl 1 rfl ?_
        refine aw_iload_n dX10_passes_287 rfl 2 rfl ?_
        refine aw_iconst (v := 3) dX10_passes_288 (by decide) ?_
        refine cvX10_closes dX10_passes_289 mlX10_405 shM0 (Nat.le_of_ble_eq_true rfl) H (fun h6 H => ?_)
        refine aw_inc (mm := (1)) (ls' := [(3, .int (x3 + (1 : Int32))), (0, .ref (ad 0)), (1, .int x1)]) dX10_passes_292 (by decide) (j := 2) rfl (by decide) rfl ?_
        refine aw_goto (tgt := 257) dX10_passes_295 (by decide) ?_
        exact aw_ls [1, 2, 0] rfl H
set_option maxRecDepth 8000 in
set_option maxHeartbeats 1000000 in
theorem bX10_goesOn_0 {adK adV : Nat → Nat} {l : Launch} {ad : Nat → Nat} {d : Nat} {R : aH → Prop}   (x1 : Int32)  (h : aH)
    (H : AW (GM adK adV) l ad (d + 1) mX10_goesOn 2 [(0, .ref (ad 0)), (1, .int x1), (2, .int (0 : Int32))] [] h (qv R)) : AW (GM adK adV) l ad (d + 1) mX10_goesOn 0 [(0, .ref (ad 0)), (1, .int x1)] [] h (qv R) := by
  refine aw_iconst (v := 0) dX10_goesOn_0 (by decide) ?_
  refine aw_istore_n (ls' := [(2, .int (0 : Int32)), (0, .ref (ad 0)), (1, .int x1)]) dX10_goesOn_1 rfl (by decide) rfl ?_
  exact aw_ls [1, 2, 0] rfl H
set_option maxRecDepth 8000 in
set_option maxHeartbeats 1000000 in
theorem bX10_goesOn_2 {adK adV : Nat → Nat} {l : Launch} {ad : Nat → Nat} {d : Nat} {R : aH → Prop}   (x1 : Int32) (x2 : Int32)  (h : aH)
    (H : (x1 ≤ x2 → (R h)) ∧ (¬ x1 ≤ x2 → (AW (GM adK adV) l ad d mX10_passes 0 [(0, .ref (ad 0)), (1, .int (1 : Int32)), (2, .int (0 : Int32))] [] h (qv fun h1 => AW (GM adK adV) l ad (d + 1) mX10_goesOn 2 [(0, .ref (ad 0)), (1, .int x1), (2, .int (x2 + (1 : Int32)))] [] h1 (qv R))))) : AW (GM adK adV) l ad (d + 1) mX10_goesOn 2 [(0, .ref (ad 0)), (1, .int x1), (2, .int x2)] [] h (qv R) := by
  refine aw_iload_n dX10_goesOn_2 rfl 2 rfl ?_
  refine aw_iload_n dX10_goesOn_3 rfl 1 rfl ?_
  refine aw_icmp_ge (tgt := 19) dX10_goesOn_4 (by decide) (fun hc3 => ?_) (fun hc3 => ?_)
  · replace H := H.1 hc3
    exact aw_vret dX10_goesOn_19 rfl ⟨rfl, H⟩
  · replace H := H.2 hc3
    refine aw_aload_n dX10_goesOn_7 rfl 0 rfl ?_
    refine aw_iconst (v := 1) dX10_goesOn_8 (by decide) ?_
    refine aw_iconst (v := 0) dX10_goesOn_9 (by decide) ?_
    refine cvX10_passes dX10_goesOn_10 mlX10_447 shM0 (Nat.le_of_ble_eq_true rfl) H (fun h1 H => ?_)
    refine aw_inc (mm := (1)) (ls' := [(2, .int (x2 + (1 : Int32))), (0, .ref (ad 0)), (1, .int x1)]) dX10_goesOn_13 (by decide) (j := 2) rfl (by decide) rfl ?_
    refine aw_goto (tgt := 2) dX10_goesOn_16 (by decide) ?_
    exact aw_ls [1, 2, 0] rfl H
set_option maxRecDepth 8000 in
set_option maxHeartbeats 1000000 in
theorem bX10_runs_0 {adK adV : Nat → Nat} {l : Launch} {ad : Nat → Nat} {d : Nat} {R : aH → Prop}   (x1 : Int32)  (h : aH)
    (H : AW (GM adK adV) l ad d mX10_copies 0 [(0, .ref (ad 0)), (1, .int (1 : Int32)), (2, .int (0 : Int32))] [] h (qv fun h1 => AW (GM adK adV) l ad d mX10_goesOn 0 [(0, .ref (ad 0)), (1, .int x1)] [] h1 (qv fun h3 => R h3))) : AW (GM adK adV) l ad (d + 1) mX10_runs 0 [(0, .ref (ad 0)), (1, .int x1)] [] h (qv R) := by
  refine aw_aload_n dX10_runs_0 rfl 0 rfl ?_
  refine aw_iconst (v := 1) dX10_runs_1 (by decide) ?_
  refine aw_iconst (v := 0) dX10_runs_2 (by decide) ?_
  refine cvX10_copies dX10_runs_3 mlX10_450 shM0 (Nat.le_of_ble_eq_true rfl) H (fun h1 H => ?_)
  refine aw_aload_n dX10_runs_6 rfl 0 rfl ?_
  refine aw_iload_n dX10_runs_7 rfl 1 rfl ?_
  refine cvX10_goesOn dX10_runs_8 mlX10_453 shM0 (Nat.le_of_ble_eq_true rfl) H (fun h3 H => ?_)
  exact aw_vret dX10_runs_11 rfl ⟨rfl, H⟩
set_option maxRecDepth 8000 in
set_option maxHeartbeats 1000000 in
theorem bX10_manyOf_0 {adK adV : Nat → Nat} {l : Launch} {ad : Nat → Nat} {d : Nat} {R : Int32 → aH → Prop}   (x1 : Int32) (x2 : Int32)  (h : aH)
    (H : AW (GM adK adV) l ad d mX10_manyOf 5 [(0, .ref (ad 0)), (1, .int x1), (2, .int x2), (3, .int (0 : Int32)), (4, .int (0 : Int32))] [] h (qi R)) : AW (GM adK adV) l ad d mX10_manyOf 0 [(0, .ref (ad 0)), (1, .int x1), (2, .int x2)] [] h (qi R) := by
  refine aw_iconst (v := 0) dX10_manyOf_0 (by decide) ?_
  refine aw_istore_n (ls' := [(3, .int (0 : Int32)), (0, .ref (ad 0)), (1, .int x1), (2, .int x2)]) dX10_manyOf_1 rfl (by decide) rfl ?_
  refine aw_iconst (v := 0) dX10_manyOf_2 (by decide) ?_
  refine aw_istore (ls' := [(4, .int (0 : Int32)), (3, .int (0 : Int32)), (0, .ref (ad 0)), (1, .int x1), (2, .int x2)]) dX10_manyOf_3 (by decide) rfl ?_
  exact aw_ls [2, 3, 4, 1, 0] rfl H
set_option maxRecDepth 8000 in
set_option maxHeartbeats 1000000 in
theorem bX10_manyOf_5 {adK adV : Nat → Nat} {l : Launch} {ad : Nat → Nat} {d : Nat} {R : Int32 → aH → Prop}   (x1 : Int32) (x2 : Int32) (x3 : Int32) (x4 : Int32)  (h : aH)
    (H : vp_in x1 23 ∧ (((h.1 25 x1.toNatClampNeg) ≤ x4 → (R x3 h)) ∧ (¬ (h.1 25 x1.toNatClampNeg) ≤ x4 → (vp_in (((8 : Int32) * x1) + x4) 184 ∧ (∀ t3 : Int32, t3 = (if (h.1 35 (((8 : Int32) * x1) + x4).toNatClampNeg) = x2 then (1 : Int32) else (0 : Int32)) → (AW (GM adK adV) l ad d mX10_manyOf 5 [(0, .ref (ad 0)), (1, .int x1), (2, .int x2), (3, .int (x3 + t3)), (4, .int (x4 + (1 : Int32)))] [] h (qi R))))))) : AW (GM adK adV) l ad d mX10_manyOf 5 [(0, .ref (ad 0)), (1, .int x1), (2, .int x2), (3, .int x3), (4, .int x4)] [] h (qi R) := by
  refine aw_iload dX10_manyOf_5 4 rfl ?_
  refine aw_aload_n dX10_manyOf_7 rfl 0 rfl ?_
  refine aw_get dX10_manyOf_8 shM0 ckX10 flX10_87 (v := .ref (ad 25)) rfl ?_
  refine aw_iload_n dX10_manyOf_11 rfl 1 rfl ?_
  obtain ⟨hi1, H⟩ := H
  refine aw_ialdK (t0 := 0) (j := x1.toNatClampNeg) dX10_manyOf_12 shM25 rfl rfl hi1 ?_
  refine aw_icmp_ge (tgt := 46) dX10_manyOf_13 (by decide) (fun hc6 => ?_) (fun hc6 => ?_)
  · replace H := H.1 hc6
    refine aw_iload_n dX10_manyOf_46 rfl 3 rfl ?_
    exact aw_iret dX10_manyOf_47 rfl ⟨_, rfl, H⟩
  · replace H := H.2 hc6
    refine aw_iload_n dX10_manyOf_16 rfl 3 rfl ?_
    refine aw_aload_n dX10_manyOf_17 rfl 0 rfl ?_
    refine aw_get dX10_manyOf_18 shM0 ckX10 flX10_117 (v := .ref (ad 35)) rfl ?_
    refine aw_bipush (v := 8) dX10_manyOf_21 (by decide) ?_
    refine aw_iload_n dX10_manyOf_23 rfl 1 rfl ?_
    refine aw_imul dX10_manyOf_24 ?_
    refine aw_iload dX10_manyOf_25 4 rfl ?_
    refine aw_iadd dX10_manyOf_27 ?_
    obtain ⟨hi2, H⟩ := H
    refine aw_ialdK (t0 := 0) (j := (((8 : Int32) * x1) + x4).toNatClampNeg) dX10_manyOf_28 shM35 rfl rfl hi2 ?_
    refine aw_iload_n dX10_manyOf_29 rfl 2 rfl ?_
    have H : True ∧ ∀ t3 : Int32, t3 = (if (h.1 35 (((8 : Int32) * x1) + x4).toNatClampNeg) = x2 then (1 : Int32) else (0 : Int32)) → (AW (GM adK adV) l ad d mX10_manyOf 5 [(0, .ref (ad 0)), (1, .int x1), (2, .int x2), (3, .int (x3 + t3)), (4, .int (x4 + (1 : Int32)))] [] h (qi R)) := ⟨trivial, H⟩
    have K4 : ∀ t3 : Int32, (AW (GM adK adV) l ad d mX10_manyOf 5 [(0, .ref (ad 0)), (1, .int x1), (2, .int x2), (3, .int (x3 + t3)), (4, .int (x4 + (1 : Int32)))] [] h (qi R)) → AW (GM adK adV) l ad d mX10_manyOf 38 [(0, .ref (ad 0)), (1, .int x1), (2, .int x2), (3, .int x3), (4, .int x4)] [.int t3, .int x3] h (qi R) := by
      intro t3 H
      refine aw_iadd dX10_manyOf_38 ?_
      refine aw_istore_n (ls' := [(3, .int (x3 + t3)), (0, .ref (ad 0)), (1, .int x1), (2, .int x2), (4, .int x4)]) dX10_manyOf_39 rfl (by decide) rfl ?_
      refine aw_inc (mm := (1)) (ls' := [(4, .int (x4 + (1 : Int32))), (3, .int (x3 + t3)), (0, .ref (ad 0)), (1, .int x1), (2, .int x2)]) dX10_manyOf_40 (by decide) (j := 4) rfl (by decide) rfl ?_
      refine aw_goto (tgt := 5) dX10_manyOf_43 (by decide) ?_
      exact aw_ls [2, 3, 4, 1, 0] rfl H
    refine aw_icmp_ne (tgt := 37) dX10_manyOf_30 (by decide) (fun hc5 => ?_) (fun hc5 => ?_)
    · refine aw_iconst (v := (0)) dX10_manyOf_37 (by decide) ?_
      exact K4 _ (H.2 _ (by simp only [if_neg hc5]))
    · refine aw_iconst (v := (1)) dX10_manyOf_33 (by decide) ?_
      refine aw_goto (tgt := 38) dX10_manyOf_34 (by decide) ?_
      exact K4 _ (H.2 _ (by simp only [if_pos hc5]))
set_option maxRecDepth 8000 in
set_option maxHeartbeats 1000000 in
theorem bX10_debt_0 {adK adV : Nat → Nat} {l : Launch} {ad : Nat → Nat} {d : Nat} {R : Int32 → aH → Prop}   (x1 : Int32) (x2 : Int32)  (h : aH)
    (H : AW (GM adK adV) l ad d mX10_isDebt 0 [(0, .ref (ad 0)), (1, .int x1)] [] h (qi fun z2 h1 => (¬ z2 = 0 → ((x2 < 0 → (AW (GM adK adV) l ad (d + 1) mX10_debt 23 [(0, .ref (ad 0)), (1, .int x1), (2, .int x2)] [.ref (ad 0)] h1 (qi R))) ∧ (¬ x2 < 0 → ((x2 ≤ (7 : Int32) → (AW (GM adK adV) l ad (d + 1) mX10_debt 28 [(0, .ref (ad 0)), (1, .int x1), (2, .int x2)] [.int (0 : Int32), .ref (ad 0)] h1 (qi R))) ∧ (¬ x2 ≤ (7 : Int32) → (AW (GM adK adV) l ad (d + 1) mX10_debt 23 [(0, .ref (ad 0)), (1, .int x1), (2, .int x2)] [.ref (ad 0)] h1 (qi R))))))) ∧ (z2 = 0 → (AW (GM adK adV) l ad (d + 1) mX10_debt 28 [(0, .ref (ad 0)), (1, .int x1), (2, .int x2)] [.int (1 : Int32), .ref (ad 0)] h1 (qi R))))) : AW (GM adK adV) l ad (d + 1) mX10_debt 0 [(0, .ref (ad 0)), (1, .int x1), (2, .int x2)] [] h (qi R) := by
  refine aw_aload_n dX10_debt_0 rfl 0 rfl ?_
  refine aw_aload_n dX10_debt_1 rfl 0 rfl ?_
  refine aw_iload_n dX10_debt_2 rfl 1 rfl ?_
  refine cvX10_isDebt dX10_debt_3 mlX10_456 shM0 (Nat.le_of_ble_eq_true rfl) H (fun z2 h1 H => ?_)
  refine aw_if_ne (tgt := 13) dX10_debt_6 (by decide) (fun hc5 => ?_) (fun hc5 => ?_)
  · replace H := H.1 hc5
    refine aw_iload_n dX10_debt_13 rfl 2 rfl ?_
    refine aw_if_lt (tgt := 23) dX10_debt_14 (by decide) (fun hc4 => ?_) (fun hc4 => ?_)
    · replace H := H.1 hc4
      exact aw_ls [0, 1, 2] rfl H
    · replace H := H.2 hc4
      refine aw_iload_n dX10_debt_17 rfl 2 rfl ?_
      refine aw_bipush (v := 7) dX10_debt_18 (by decide) ?_
      refine aw_icmp_le (tgt := 27) dX10_debt_20 (by decide) (fun hc3 => ?_) (fun hc3 => ?_)
      · replace H := H.1 hc3
        refine aw_iconst (v := 0) dX10_debt_27 (by decide) ?_
        exact aw_ls [0, 1, 2] rfl H
      · replace H := H.2 hc3
        exact aw_ls [0, 1, 2] rfl H
  · replace H := H.2 hc5
    refine aw_iconst (v := 1) dX10_debt_9 (by decide) ?_
    refine aw_goto (tgt := 28) dX10_debt_10 (by decide) ?_
    exact aw_ls [0, 1, 2] rfl H
set_option maxRecDepth 8000 in
set_option maxHeartbeats 1000000 in
theorem bX10_debt_23 {adK adV : Nat → Nat} {l : Launch} {ad : Nat → Nat} {d : Nat} {R : Int32 → aH → Prop}   (x1 : Int32) (x2 : Int32)  (h : aH)
    (H : AW (GM adK adV) l ad (d + 1) mX10_debt 28 [(0, .ref (ad 0)), (1, .int x1), (2, .int x2)] [.int (2 : Int32), .ref (ad 0)] h (qi R)) : AW (GM adK adV) l ad (d + 1) mX10_debt 23 [(0, .ref (ad 0)), (1, .int x1), (2, .int x2)] [.ref (ad 0)] h (qi R) := by
  refine aw_iconst (v := 2) dX10_debt_23 (by decide) ?_
  refine aw_goto (tgt := 28) dX10_debt_24 (by decide) ?_
  exact aw_ls [0, 1, 2] rfl H
set_option maxRecDepth 8000 in
set_option maxHeartbeats 1000000 in
theorem bX10_debt_28 {adK adV : Nat → Nat} {l : Launch} {ad : Nat → Nat} {d : Nat} {R : Int32 → aH → Prop}   (x1 : Int32) (x2 : Int32) (s0 : Int32)  (h : aH)
    (H : (((sI h 0 0 s0).1 0 0) = 0 → ((x2 = (0 : Int32) → (vp_in x1 184 ∧ (R ((sI h 0 0 s0).1 30 x1.toNatClampNeg) (sI h 0 0 s0)))) ∧ ((x2 = (1 : Int32) → (vp_in x1 184 ∧ (R ((sI h 0 0 s0).1 31 x1.toNatClampNeg) (sI h 0 0 s0)))) ∧ ((x2 = (2 : Int32) → (vp_in x1 184 ∧ (R ((sI h 0 0 s0).1 32 x1.toNatClampNeg) (sI h 0 0 s0)))) ∧ ((x2 = (3 : Int32) → (vp_in x1 184 ∧ (R ((sI h 0 0 s0).1 33 x1.toNatClampNeg) (sI h 0 0 s0)))) ∧ ((x2 = (4 : Int32) → (vp_in x1 184 ∧ (R ((sI h 0 0 s0).1 34 x1.toNatClampNeg) (sI h 0 0 s0)))) ∧ ((x2 = (5 : Int32) → (vp_in x1 184 ∧ (R ((sI h 0 0 s0).1 35 x1.toNatClampNeg) (sI h 0 0 s0)))) ∧ ((x2 = (6 : Int32) → (vp_in x1 184 ∧ (R ((sI h 0 0 s0).1 36 x1.toNatClampNeg) (sI h 0 0 s0)))) ∧ (¬ x2 = (0 : Int32) → ¬ x2 = (1 : Int32) → ¬ x2 = (2 : Int32) → ¬ x2 = (3 : Int32) → ¬ x2 = (4 : Int32) → ¬ x2 = (5 : Int32) → ¬ x2 = (6 : Int32) → (AW (GM adK adV) l ad d mX10_knowers 0 [(0, .ref (ad 0)), (1, .int (0 : Int32)), (2, .int x1)] [] (sI h 0 0 s0) (qi fun z10 h9 => R z10 h9))))))))))) ∧ (¬ ((sI h 0 0 s0).1 0 0) = 0 → (R (0 : Int32) (sI h 0 0 s0)))) : AW (GM adK adV) l ad (d + 1) mX10_debt 28 [(0, .ref (ad 0)), (1, .int x1), (2, .int x2)] [.int s0, .ref (ad 0)] h (qi R) := by
  refine aw_putI dX10_debt_28 shM0 ckX10 flX10_160 rfl (fun _ => rfl) rfl rfl ?_
  refine aw_aload_n dX10_debt_31 rfl 0 rfl ?_
  refine aw_get dX10_debt_32 shM0 ckX10 flX10_160 (v := .int ((sI h 0 0 s0).1 0 0)) rfl ?_
  refine aw_if_eq (tgt := 40) dX10_debt_35 (by decide) (fun hc11 => ?_) (fun hc11 => ?_)
  · replace H := H.1 hc11
    refine aw_iload_n dX10_debt_40 rfl 2 rfl ?_
    by_cases hx1_0 : x2 = (0 : Int32)
    · replace H := H.1 hx1_0
      refine aw_tableIn (off := 43) (tgt := 84) dX10_debt_41 (by rw [hx1_0]; decide) (by rw [hx1_0]; decide) (by rw [hx1_0]; decide) (by decide) ?_
      refine aw_aload_n dX10_debt_84 rfl 0 rfl ?_
      refine aw_get dX10_debt_85 shM0 ckX10 flX10_102 (v := .ref (ad 30)) rfl ?_
      refine aw_iload_n dX10_debt_88 rfl 1 rfl ?_
      obtain ⟨hi2, H⟩ := H
      refine aw_ialdK (t0 := 0) (j := x1.toNatClampNeg) dX10_debt_89 shM30 rfl rfl hi2 ?_
      exact aw_iret dX10_debt_90 rfl ⟨_, rfl, H⟩
    by_cases hx1_1 : x2 = (1 : Int32)
    · replace H := H.2.1 hx1_1
      refine aw_tableIn (off := 50) (tgt := 91) dX10_debt_41 (by rw [hx1_1]; decide) (by rw [hx1_1]; decide) (by rw [hx1_1]; decide) (by decide) ?_
      refine aw_aload_n dX10_debt_91 rfl 0 rfl ?_
      refine aw_get dX10_debt_92 shM0 ckX10 flX10_105 (v := .ref (ad 31)) rfl ?_
      refine aw_iload_n dX10_debt_95 rfl 1 rfl ?_
      obtain ⟨hi3, H⟩ := H
      refine aw_ialdK (t0 := 0) (j := x1.toNatClampNeg) dX10_debt_96 shM31 rfl rfl hi3 ?_
      exact aw_iret dX10_debt_97 rfl ⟨_, rfl, H⟩
    by_cases hx1_2 : x2 = (2 : Int32)
    · replace H := H.2.2.1 hx1_2
      refine aw_tableIn (off := 57) (tgt := 98) dX10_debt_41 (by rw [hx1_2]; decide) (by rw [hx1_2]; decide) (by rw [hx1_2]; decide) (by decide) ?_
      refine aw_aload_n dX10_debt_98 rfl 0 rfl ?_
      refine aw_get dX10_debt_99 shM0 ckX10 flX10_108 (v := .ref (ad 32)) rfl ?_
      refine aw_iload_n dX10_debt_102 rfl 1 rfl ?_
      obtain ⟨hi4, H⟩ := H
      refine aw_ialdK (t0 := 0) (j := x1.toNatClampNeg) dX10_debt_103 shM32 rfl rfl hi4 ?_
      exact aw_iret dX10_debt_104 rfl ⟨_, rfl, H⟩
    by_cases hx1_3 : x2 = (3 : Int32)
    · replace H := H.2.2.2.1 hx1_3
      refine aw_tableIn (off := 64) (tgt := 105) dX10_debt_41 (by rw [hx1_3]; decide) (by rw [hx1_3]; decide) (by rw [hx1_3]; decide) (by decide) ?_
      refine aw_aload_n dX10_debt_105 rfl 0 rfl ?_
      refine aw_get dX10_debt_106 shM0 ckX10 flX10_111 (v := .ref (ad 33)) rfl ?_
      refine aw_iload_n dX10_debt_109 rfl 1 rfl ?_
      obtain ⟨hi5, H⟩ := H
      refine aw_ialdK (t0 := 0) (j := x1.toNatClampNeg) dX10_debt_110 shM33 rfl rfl hi5 ?_
      exact aw_iret dX10_debt_111 rfl ⟨_, rfl, H⟩
    by_cases hx1_4 : x2 = (4 : Int32)
    · replace H := H.2.2.2.2.1 hx1_4
      refine aw_tableIn (off := 71) (tgt := 112) dX10_debt_41 (by rw [hx1_4]; decide) (by rw [hx1_4]; decide) (by rw [hx1_4]; decide) (by decide) ?_
      refine aw_aload_n dX10_debt_112 rfl 0 rfl ?_
      refine aw_get dX10_debt_113 shM0 ckX10 flX10_114 (v := .ref (ad 34)) rfl ?_
      refine aw_iload_n dX10_debt_116 rfl 1 rfl ?_
      obtain ⟨hi6, H⟩ := H
      refine aw_ialdK (t0 := 0) (j := x1.toNatClampNeg) dX10_debt_117 shM34 rfl rfl hi6 ?_
      exact aw_iret dX10_debt_118 rfl ⟨_, rfl, H⟩
    by_cases hx1_5 : x2 = (5 : Int32)
    · replace H := H.2.2.2.2.2.1 hx1_5
      refine aw_tableIn (off := 78) (tgt := 119) dX10_debt_41 (by rw [hx1_5]; decide) (by rw [hx1_5]; decide) (by rw [hx1_5]; decide) (by decide) ?_
      refine aw_aload_n dX10_debt_119 rfl 0 rfl ?_
      refine aw_get dX10_debt_120 shM0 ckX10 flX10_117 (v := .ref (ad 35)) rfl ?_
      refine aw_iload_n dX10_debt_123 rfl 1 rfl ?_
      obtain ⟨hi7, H⟩ := H
      refine aw_ialdK (t0 := 0) (j := x1.toNatClampNeg) dX10_debt_124 shM35 rfl rfl hi7 ?_
      exact aw_iret dX10_debt_125 rfl ⟨_, rfl, H⟩
    by_cases hx1_6 : x2 = (6 : Int32)
    · replace H := H.2.2.2.2.2.2.1 hx1_6
      refine aw_tableIn (off := 85) (tgt := 126) dX10_debt_41 (by rw [hx1_6]; decide) (by rw [hx1_6]; decide) (by rw [hx1_6]; decide) (by decide) ?_
      refine aw_aload_n dX10_debt_126 rfl 0 rfl ?_
      refine aw_get dX10_debt_127 shM0 ckX10 flX10_120 (v := .ref (ad 36)) rfl ?_
      refine aw_iload_n dX10_debt_130 rfl 1 rfl ?_
      obtain ⟨hi8, H⟩ := H
      refine aw_ialdK (t0 := 0) (j := x1.toNatClampNeg) dX10_debt_131 shM36 rfl rfl hi8 ?_
      exact aw_iret dX10_debt_132 rfl ⟨_, rfl, H⟩
    replace H := H.2.2.2.2.2.2.2 hx1_0 hx1_1 hx1_2 hx1_3 hx1_4 hx1_5 hx1_6
    have hx1_0e := tab_ne hx1_0 (a := 0) (by decide)
    have hx1_1e := tab_ne hx1_1 (a := 1) (by decide)
    have hx1_2e := tab_ne hx1_2 (a := 2) (by decide)
    have hx1_3e := tab_ne hx1_3 (a := 3) (by decide)
    have hx1_4e := tab_ne hx1_4 (a := 4) (by decide)
    have hx1_5e := tab_ne hx1_5 (a := 5) (by decide)
    have hx1_6e := tab_ne hx1_6 (a := 6) (by decide)
    refine aw_tableOut (tgt := 133) dX10_debt_41 (by omega) (by decide) ?_
    refine aw_aload_n dX10_debt_133 rfl 0 rfl ?_
    refine aw_iconst (v := 0) dX10_debt_134 (by decide) ?_
    refine aw_iload_n dX10_debt_135 rfl 1 rfl ?_
    refine cvX10_knowers dX10_debt_136 mlX10_358 shM0 (Nat.le_of_ble_eq_true rfl) H (fun z10 h9 H => ?_)
    exact aw_iret dX10_debt_139 rfl ⟨_, rfl, H⟩
  · replace H := H.2 hc11
    refine aw_iconst (v := 0) dX10_debt_38 (by decide) ?_
    exact aw_iret dX10_debt_39 rfl ⟨_, rfl, H⟩
set_option maxRecDepth 8000 in
set_option maxHeartbeats 1000000 in
theorem bX10_netOf_0 {adK adV : Nat → Nat} {l : Launch} {ad : Nat → Nat} {d : Nat} {R : Int32 → aH → Prop}   (x1 : Int32)  (h : aH)
    (H : AW (GM adK adV) l ad (d + 1) mX10_netOf 4 [(0, .ref (ad 0)), (1, .int x1), (2, .int (0 : Int32)), (3, .int (0 : Int32))] [] h (qi R)) : AW (GM adK adV) l ad (d + 1) mX10_netOf 0 [(0, .ref (ad 0)), (1, .int x1)] [] h (qi R) := by
  refine aw_iconst (v := 0) dX10_netOf_0 (by decide) ?_
  refine aw_istore_n (ls' := [(2, .int (0 : Int32)), (0, .ref (ad 0)), (1, .int x1)]) dX10_netOf_1 rfl (by decide) rfl ?_
  refine aw_iconst (v := 0) dX10_netOf_2 (by decide) ?_
  refine aw_istore_n (ls' := [(3, .int (0 : Int32)), (2, .int (0 : Int32)), (0, .ref (ad 0)), (1, .int x1)]) dX10_netOf_3 rfl (by decide) rfl ?_
  exact aw_ls [2, 3, 1, 0] rfl H
set_option maxRecDepth 8000 in
set_option maxHeartbeats 1000000 in
theorem bX10_netOf_4 {adK adV : Nat → Nat} {l : Launch} {ad : Nat → Nat} {d : Nat} {R : Int32 → aH → Prop}   (x1 : Int32) (x2 : Int32) (x3 : Int32)  (h : aH)
    (H : ((h.1 25 0) ≤ x3 → (R x2 h)) ∧ (¬ (h.1 25 0) ≤ x3 → (AW (GM adK adV) l ad d mX10_isOpen 0 [(0, .ref (ad 0)), (1, .int (0 : Int32)), (2, .int x3)] [] h (qi fun z2 h1 => (¬ z2 = 0 → (vp_in x3 184 ∧ ((¬ (h1.1 30 x3.toNatClampNeg) = x1 → (AW (GM adK adV) l ad (d + 1) mX10_netOf 47 [(0, .ref (ad 0)), (1, .int x1), (3, .int x3)] [.int (0 : Int32), .int x2] h1 (qi R))) ∧ ((h1.1 30 x3.toNatClampNeg) = x1 → (AW (GM adK adV) l ad (d + 1) mX10_netOf 47 [(0, .ref (ad 0)), (1, .int x1), (3, .int x3)] [.int (h1.1 36 x3.toNatClampNeg), .int x2] h1 (qi R)))))) ∧ (z2 = 0 → (AW (GM adK adV) l ad (d + 1) mX10_netOf 4 [(0, .ref (ad 0)), (1, .int x1), (2, .int x2), (3, .int (x3 + (1 : Int32)))] [] h1 (qi R))))))) : AW (GM adK adV) l ad (d + 1) mX10_netOf 4 [(0, .ref (ad 0)), (1, .int x1), (2, .int x2), (3, .int x3)] [] h (qi R) := by
  refine aw_iload_n dX10_netOf_4 rfl 3 rfl ?_
  refine aw_aload_n dX10_netOf_5 rfl 0 rfl ?_
  refine aw_get dX10_netOf_6 shM0 ckX10 flX10_87 (v := .ref (ad 25)) rfl ?_
  refine aw_iconst (v := 0) dX10_netOf_9 (by decide) ?_
  refine aw_ialdK (t0 := 0) (j := 0) dX10_netOf_10 shM25 rfl (by decide) (vp_inK (by decide) (by decide)) ?_
  refine aw_icmp_ge (tgt := 78) dX10_netOf_11 (by decide) (fun hc6 => ?_) (fun hc6 => ?_)
  · replace H := H.1 hc6
    refine aw_iload_n dX10_netOf_78 rfl 2 rfl ?_
    exact aw_iret dX10_netOf_79 rfl ⟨_, rfl, H⟩
  · replace H := H.2 hc6
    refine aw_aload_n dX10_netOf_14 rfl 0 rfl ?_
    refine aw_iconst (v := 0) dX10_netOf_15 (by decide) ?_
    refine aw_iload_n dX10_netOf_16 rfl 3 rfl ?_
    refine cvX10_isOpen dX10_netOf_17 mlX10_402 shM0 (Nat.le_of_ble_eq_true rfl) H (fun z2 h1 H => ?_)
    refine aw_if_ne (tgt := 26) dX10_netOf_20 (by decide) (fun hc5 => ?_) (fun hc5 => ?_)
    · replace H := H.1 hc5
      refine aw_iload_n dX10_netOf_26 rfl 2 rfl ?_
      refine aw_aload_n dX10_netOf_27 rfl 0 rfl ?_
      refine aw_get dX10_netOf_28 shM0 ckX10 flX10_102 (v := .ref (ad 30)) rfl ?_
      refine aw_iload_n dX10_netOf_31 rfl 3 rfl ?_
      obtain ⟨hi3, H⟩ := H
      refine aw_ialdK (t0 := 0) (j := x3.toNatClampNeg) dX10_netOf_32 shM30 rfl rfl hi3 ?_
      refine aw_iload_n dX10_netOf_33 rfl 1 rfl ?_
      refine aw_icmp_ne (tgt := 46) dX10_netOf_34 (by decide) (fun hc4 => ?_) (fun hc4 => ?_)
      · replace H := H.1 hc4
        refine aw_iconst (v := 0) dX10_netOf_46 (by decide) ?_
        exact aw_ls [0, 1, 3] rfl H
      · replace H := H.2 hc4
        refine aw_aload_n dX10_netOf_37 rfl 0 rfl ?_
        refine aw_get dX10_netOf_38 shM0 ckX10 flX10_120 (v := .ref (ad 36)) rfl ?_
        refine aw_iload_n dX10_netOf_41 rfl 3 rfl ?_
        refine aw_ialdK (t0 := 0) (j := x3.toNatClampNeg) dX10_netOf_42 shM36 rfl rfl hi3 ?_
        refine aw_goto (tgt := 47) dX10_netOf_43 (by decide) ?_
        exact aw_ls [0, 1, 3] rfl H
    · replace H := H.2 hc5
      refine aw_goto (tgt := 72) dX10_netOf_23 (by decide) ?_
      refine aw_inc (mm := (1)) (ls' := [(3, .int (x3 + (1 : Int32))), (0, .ref (ad 0)), (1, .int x1), (2, .int x2)]) dX10_netOf_72 (by decide) (j := 3) rfl (by decide) rfl ?_
      refine aw_goto (tgt := 4) dX10_netOf_75 (by decide) ?_
      exact aw_ls [1, 2, 3, 0] rfl H
set_option maxRecDepth 8000 in
set_option maxHeartbeats 1000000 in
theorem bX10_netOf_47 {adK adV : Nat → Nat} {l : Launch} {ad : Nat → Nat} {d : Nat} {R : Int32 → aH → Prop}   (x1 : Int32) (x3 : Int32) (s0 : Int32) (s1 : Int32)  (h : aH)
    (H : vp_in x3 184 ∧ (∀ t2 : Int32, t2 = (if (h.1 31 x3.toNatClampNeg) = x1 then (h.1 36 x3.toNatClampNeg) else (0 : Int32)) → (AW (GM adK adV) l ad (d + 1) mX10_netOf 4 [(0, .ref (ad 0)), (1, .int x1), (2, .int ((s1 + s0) - t2)), (3, .int (x3 + (1 : Int32)))] [] h (qi R)))) : AW (GM adK adV) l ad (d + 1) mX10_netOf 47 [(0, .ref (ad 0)), (1, .int x1), (3, .int x3)] [.int s0, .int s1] h (qi R) := by
  refine aw_iadd dX10_netOf_47 ?_
  refine aw_istore_n (ls' := [(2, .int (s1 + s0)), (0, .ref (ad 0)), (1, .int x1), (3, .int x3)]) dX10_netOf_48 rfl (by decide) rfl ?_
  refine aw_iload_n dX10_netOf_49 rfl 0 rfl ?_
  refine aw_aload_n dX10_netOf_50 rfl 1 rfl ?_
  refine aw_get dX10_netOf_51 shM0 ckX10 flX10_105 (v := .ref (ad 31)) rfl ?_
  refine aw_iload_n dX10_netOf_54 rfl 3 rfl ?_
  obtain ⟨hi1, H⟩ := H
  refine aw_ialdK (t0 := 0) (j := x3.toNatClampNeg) dX10_netOf_55 shM31 rfl rfl hi1 ?_
  refine aw_iload_n dX10_netOf_56 rfl 2 rfl ?_
  have H : True ∧ ∀ t2 : Int32, t2 = (if (h.1 31 x3.toNatClampNeg) = x1 then (h.1 36 x3.toNatClampNeg) else (0 : Int32)) → (AW (GM adK adV) l ad (d + 1) mX10_netOf 4 [(0, .ref (ad 0)), (1, .int x1), (2, .int ((s1 + s0) - t2)), (3, .int (x3 + (1 : Int32)))] [] h (qi R)) := ⟨trivial, H⟩
  have K3 : ∀ t2 : Int32, (AW (GM adK adV) l ad (d + 1) mX10_netOf 4 [(0, .ref (ad 0)), (1, .int x1), (2, .int ((s1 + s0) - t2)), (3, .int (x3 + (1 : Int32)))] [] h (qi R)) → AW (GM adK adV) l ad (d + 1) mX10_netOf 70 [(2, .int (s1 + s0)), (0, .ref (ad 0)), (1, .int x1), (3, .int x3)] [.int t2, .int (s1 + s0)] h (qi R) := by
    intro t2 H
    refine aw_isub dX10_netOf_70 ?_
    refine aw_istore_n (ls' := [(2, .int ((s1 + s0) - t2)), (0, .ref (ad 0)), (1, .int x1), (3, .int x3)]) dX10_netOf_71 rfl (by decide) rfl ?_
    refine aw_inc (mm := (1)) (ls' := [(3, .int (x3 + (1 : Int32))), (2, .int ((s1 + s0) - t2)), (0, .ref (ad 0)), (1, .int x1)]) dX10_netOf_72 (by decide) (j := 3) rfl (by decide) rfl ?_
    refine aw_goto (tgt := 4) dX10_netOf_75 (by decide) ?_
    exact aw_ls [2, 3, 1, 0] rfl H
  refine aw_icmp_ne (tgt := 69) dX10_netOf_57 (by decide) (fun hc4 => ?_) (fun hc4 => ?_)
  · refine aw_iconst (v := (0)) dX10_netOf_69 (by decide) ?_
    exact K3 _ (H.2 _ (by simp only [if_neg hc4]))
  · refine aw_aload_n dX10_netOf_60 rfl 1 rfl ?_
    refine aw_get dX10_netOf_61 shM0 ckX10 flX10_120 (v := .ref (ad 36)) rfl ?_
    refine aw_iload_n dX10_netOf_64 rfl 3 rfl ?_
    refine aw_ialdK (t0 := 0) (j := x3.toNatClampNeg) dX10_netOf_65 shM36 rfl rfl hi1 ?_
    refine aw_goto (tgt := 70) dX10_netOf_66 (by decide) ?_
    exact K3 _ (H.2 _ (by simp only [if_pos hc4]))
set_option maxRecDepth 8000 in
set_option maxHeartbeats 1000000 in
theorem bX10_man_0 {adK adV : Nat → Nat} {l : Launch} {ad : Nat → Nat} {d : Nat} {R : Int32 → aH → Prop}   (x1 : Int32) (x2 : Int32)  (h : aH)
    (H : AW (GM adK adV) l ad d mX10_isMan 0 [(0, .ref (ad 0)), (1, .int x1)] [] (sI h 0 0 (0 : Int32)) (qi fun z2 h1 => (z2 = 0 → (R (-2147483648 : Int32) h1)) ∧ (¬ z2 = 0 → ((x2 < 0 → (R (-2147483648 : Int32) h1)) ∧ (¬ x2 < 0 → ((x2 ≤ (1 : Int32) → ((¬ x2 = 0 → (AW (GM adK adV) l ad d mX10_netOf 0 [(0, .ref (ad 0)), (1, .int x1)] [] h1 (qi fun z4 h3 => R z4 h3))) ∧ (x2 = 0 → (vp_in x1 138 ∧ (R (h1.1 27 x1.toNatClampNeg) h1))))) ∧ (¬ x2 ≤ (1 : Int32) → (R (-2147483648 : Int32) h1)))))))) : AW (GM adK adV) l ad (d + 1) mX10_man 0 [(0, .ref (ad 0)), (1, .int x1), (2, .int x2)] [] h (qi R) := by
  refine aw_aload_n dX10_man_0 rfl 0 rfl ?_
  refine aw_iconst (v := 0) dX10_man_1 (by decide) ?_
  refine aw_putI dX10_man_2 shM0 ckX10 flX10_160 rfl (fun _ => rfl) rfl rfl ?_
  refine aw_aload_n dX10_man_5 rfl 0 rfl ?_
  refine aw_iload_n dX10_man_6 rfl 1 rfl ?_
  refine cvX10_isMan dX10_man_7 mlX10_459 shM0 (Nat.le_of_ble_eq_true rfl) H (fun z2 h1 H => ?_)
  refine aw_if_eq (tgt := 22) dX10_man_10 (by decide) (fun hc9 => ?_) (fun hc9 => ?_)
  · replace H := H.1 hc9
    refine aw_ldcw dX10_man_22 coX10_462 ?_
    exact aw_iret dX10_man_25 rfl ⟨_, rfl, H⟩
  · replace H := H.2 hc9
    refine aw_iload_n dX10_man_13 rfl 2 rfl ?_
    refine aw_if_lt (tgt := 22) dX10_man_14 (by decide) (fun hc8 => ?_) (fun hc8 => ?_)
    · replace H := H.1 hc8
      refine aw_ldcw dX10_man_22 coX10_462 ?_
      exact aw_iret dX10_man_25 rfl ⟨_, rfl, H⟩
    · replace H := H.2 hc8
      refine aw_iload_n dX10_man_17 rfl 2 rfl ?_
      refine aw_iconst (v := 1) dX10_man_18 (by decide) ?_
      refine aw_icmp_le (tgt := 26) dX10_man_19 (by decide) (fun hc7 => ?_) (fun hc7 => ?_)
      · replace H := H.1 hc7
        refine aw_iload_n dX10_man_26 rfl 2 rfl ?_
        refine aw_if_ne (tgt := 39) dX10_man_27 (by decide) (fun hc6 => ?_) (fun hc6 => ?_)
        · replace H := H.1 hc6
          refine aw_aload_n dX10_man_39 rfl 0 rfl ?_
          refine aw_iload_n dX10_man_40 rfl 1 rfl ?_
          refine cvX10_netOf dX10_man_41 mlX10_463 shM0 (Nat.le_of_ble_eq_true rfl) H (fun z4 h3 H => ?_)
          exact aw_iret dX10_man_44 rfl ⟨_, rfl, H⟩
        · replace H := H.2 hc6
          refine aw_aload_n dX10_man_30 rfl 0 rfl ?_
          refine aw_get dX10_man_31 shM0 ckX10 flX10_93 (v := .ref (ad 27)) rfl ?_
          refine aw_iload_n dX10_man_34 rfl 1 rfl ?_
          obtain ⟨hi5, H⟩ := H
          refine aw_ialdK (t0 := 0) (j := x1.toNatClampNeg) dX10_man_35 shM27 rfl rfl hi5 ?_
          refine aw_goto (tgt := 44) dX10_man_36 (by decide) ?_
          exact aw_iret dX10_man_44 rfl ⟨_, rfl, H⟩
      · replace H := H.2 hc7
        refine aw_ldcw dX10_man_22 coX10_462 ?_
        exact aw_iret dX10_man_25 rfl ⟨_, rfl, H⟩
set_option maxRecDepth 8000 in
set_option maxHeartbeats 1000000 in
theorem bX10_aloneOf_0 {adK adV : Nat → Nat} {l : Launch} {ad : Nat → Nat} {d : Nat} {R : Int32 → aH → Prop}   (x1 : Int32)  (h : aH)
    (H : AW (GM adK adV) l ad (d + 1) mX10_aloneOf 4 [(0, .ref (ad 0)), (1, .int x1), (2, .int (0 : Int32)), (3, .int (0 : Int32))] [] h (qi R)) : AW (GM adK adV) l ad (d + 1) mX10_aloneOf 0 [(0, .ref (ad 0)), (1, .int x1)] [] h (qi R) := by
  refine aw_iconst (v := 0) dX10_aloneOf_0 (by decide) ?_
  refine aw_istore_n (ls' := [(2, .int (0 : Int32)), (0, .ref (ad 0)), (1, .int x1)]) dX10_aloneOf_1 rfl (by decide) rfl ?_
  refine aw_iconst (v := 0) dX10_aloneOf_2 (by decide) ?_
  refine aw_istore_n (ls' := [(3, .int (0 : Int32)), (2, .int (0 : Int32)), (0, .ref (ad 0)), (1, .int x1)]) dX10_aloneOf_3 rfl (by decide) rfl ?_
  exact aw_ls [2, 3, 1, 0] rfl H
set_option maxRecDepth 8000 in
set_option maxHeartbeats 1000000 in
theorem bX10_aloneOf_4 {adK adV : Nat → Nat} {l : Launch} {ad : Nat → Nat} {d : Nat} {R : Int32 → aH → Prop}   (x1 : Int32) (x2 : Int32) (x3 : Int32)  (h : aH)
    (H : ((h.1 25 0) ≤ x3 → (R x2 h)) ∧ (¬ (h.1 25 0) ≤ x3 → (AW (GM adK adV) l ad d mX10_knowers 0 [(0, .ref (ad 0)), (1, .int (0 : Int32)), (2, .int x3)] [] h (qi fun z2 h1 => ∀ t3 : Int32, t3 = (if z2 = ((1 : Int32) <<< (x1 &&& 31)) then ((1 : Int32) <<< (x3 &&& 31)) else (0 : Int32)) → (AW (GM adK adV) l ad (d + 1) mX10_aloneOf 4 [(0, .ref (ad 0)), (1, .int x1), (2, .int (x2 ||| t3)), (3, .int (x3 + (1 : Int32)))] [] h1 (qi R)))))) : AW (GM adK adV) l ad (d + 1) mX10_aloneOf 4 [(0, .ref (ad 0)), (1, .int x1), (2, .int x2), (3, .int x3)] [] h (qi R) := by
  refine aw_iload_n dX10_aloneOf_4 rfl 3 rfl ?_
  refine aw_aload_n dX10_aloneOf_5 rfl 0 rfl ?_
  refine aw_get dX10_aloneOf_6 shM0 ckX10 flX10_87 (v := .ref (ad 25)) rfl ?_
  refine aw_iconst (v := 0) dX10_aloneOf_9 (by decide) ?_
  refine aw_ialdK (t0 := 0) (j := 0) dX10_aloneOf_10 shM25 rfl (by decide) (vp_inK (by decide) (by decide)) ?_
  refine aw_icmp_ge (tgt := 42) dX10_aloneOf_11 (by decide) (fun hc6 => ?_) (fun hc6 => ?_)
  · replace H := H.1 hc6
    refine aw_iload_n dX10_aloneOf_42 rfl 2 rfl ?_
    exact aw_iret dX10_aloneOf_43 rfl ⟨_, rfl, H⟩
  · replace H := H.2 hc6
    refine aw_iload_n dX10_aloneOf_14 rfl 2 rfl ?_
    refine aw_aload_n dX10_aloneOf_15 rfl 0 rfl ?_
    refine aw_iconst (v := 0) dX10_aloneOf_16 (by decide) ?_
    refine aw_iload_n dX10_aloneOf_17 rfl 3 rfl ?_
    refine cvX10_knowers dX10_aloneOf_18 mlX10_358 shM0 (Nat.le_of_ble_eq_true rfl) H (fun z2 h1 H => ?_)
    refine aw_iconst (v := 1) dX10_aloneOf_21 (by decide) ?_
    refine aw_iload_n dX10_aloneOf_22 rfl 1 rfl ?_
    refine aw_ishl dX10_aloneOf_23 ?_
    have H : True ∧ ∀ t3 : Int32, t3 = (if z2 = ((1 : Int32) <<< (x1 &&& 31)) then ((1 : Int32) <<< (x3 &&& 31)) else (0 : Int32)) → (AW (GM adK adV) l ad (d + 1) mX10_aloneOf 4 [(0, .ref (ad 0)), (1, .int x1), (2, .int (x2 ||| t3)), (3, .int (x3 + (1 : Int32)))] [] h1 (qi R)) := ⟨trivial, H⟩
    have K4 : ∀ t3 : Int32, (AW (GM adK adV) l ad (d + 1) mX10_aloneOf 4 [(0, .ref (ad 0)), (1, .int x1), (2, .int (x2 ||| t3)), (3, .int (x3 + (1 : Int32)))] [] h1 (qi R)) → AW (GM adK adV) l ad (d + 1) mX10_aloneOf 34 [(0, .ref (ad 0)), (1, .int x1), (2, .int x2), (3, .int x3)] [.int t3, .int x2] h1 (qi R) := by
      intro t3 H
      refine aw_ior dX10_aloneOf_34 ?_
      refine aw_istore_n (ls' := [(2, .int (x2 ||| t3)), (0, .ref (ad 0)), (1, .int x1), (3, .int x3)]) dX10_aloneOf_35 rfl (by decide) rfl ?_
      refine aw_inc (mm := (1)) (ls' := [(3, .int (x3 + (1 : Int32))), (2, .int (x2 ||| t3)), (0, .ref (ad 0)), (1, .int x1)]) dX10_aloneOf_36 (by decide) (j := 3) rfl (by decide) rfl ?_
      refine aw_goto (tgt := 4) dX10_aloneOf_39 (by decide) ?_
      exact aw_ls [2, 3, 1, 0] rfl H
    refine aw_icmp_ne (tgt := 33) dX10_aloneOf_24 (by decide) (fun hc5 => ?_) (fun hc5 => ?_)
    · refine aw_iconst (v := (0)) dX10_aloneOf_33 (by decide) ?_
      exact K4 _ (H.2 _ (by simp only [if_neg hc5]))
    · refine aw_iconst (v := (1)) dX10_aloneOf_27 (by decide) ?_
      refine aw_iload_n dX10_aloneOf_28 rfl 3 rfl ?_
      refine aw_ishl dX10_aloneOf_29 ?_
      refine aw_goto (tgt := 34) dX10_aloneOf_30 (by decide) ?_
      exact K4 _ (H.2 _ (by simp only [if_pos hc5]))
set_option maxRecDepth 8000 in
set_option maxHeartbeats 1000000 in
theorem bX10_tusk_0 {adK adV : Nat → Nat} {l : Launch} {ad : Nat → Nat} {d : Nat} {R : Int32 → aH → Prop}   (x1 : Int32) (x2 : Int32)  (h : aH)
    (H : AW (GM adK adV) l ad d mX10_isTusk 0 [(0, .ref (ad 0)), (1, .int x1)] [] (sI h 0 0 (0 : Int32)) (qi fun z2 h1 => (¬ z2 = 0 → ((x2 = (0 : Int32) → (vp_in x1 138 ∧ (R (h1.1 28 x1.toNatClampNeg) h1))) ∧ ((x2 = (1 : Int32) → (vp_in x1 12 ∧ (R (h1.1 7 x1.toNatClampNeg) h1))) ∧ ((x2 = (2 : Int32) → (R (((h1.1 26 0) >>> (x1 &&& 31)) &&& (1 : Int32)) h1)) ∧ ((x2 = (3 : Int32) → (vp_in x1 138 ∧ (R (h1.1 29 x1.toNatClampNeg) h1))) ∧ ((x2 = (4 : Int32) → (AW (GM adK adV) l ad d mX10_aloneOf 0 [(0, .ref (ad 0)), (1, .int x1)] [] h1 (qi fun z8 h7 => R z8 h7))) ∧ (¬ x2 = (0 : Int32) → ¬ x2 = (1 : Int32) → ¬ x2 = (2 : Int32) → ¬ x2 = (3 : Int32) → ¬ x2 = (4 : Int32) → (R (-1 : Int32) h1)))))))) ∧ (z2 = 0 → (R (-1 : Int32) h1)))) : AW (GM adK adV) l ad (d + 1) mX10_tusk 0 [(0, .ref (ad 0)), (1, .int x1), (2, .int x2)] [] h (qi R) := by
  refine aw_aload_n dX10_tusk_0 rfl 0 rfl ?_
  refine aw_iconst (v := 0) dX10_tusk_1 (by decide) ?_
  refine aw_putI dX10_tusk_2 shM0 ckX10 flX10_160 rfl (fun _ => rfl) rfl rfl ?_
  refine aw_aload_n dX10_tusk_5 rfl 0 rfl ?_
  refine aw_iload_n dX10_tusk_6 rfl 1 rfl ?_
  refine cvX10_isTusk dX10_tusk_7 mlX10_466 shM0 (Nat.le_of_ble_eq_true rfl) H (fun z2 h1 H => ?_)
  refine aw_if_ne (tgt := 15) dX10_tusk_10 (by decide) (fun hc9 => ?_) (fun hc9 => ?_)
  · replace H := H.1 hc9
    refine aw_iload_n dX10_tusk_15 rfl 2 rfl ?_
    by_cases hx3_0 : x2 = (0 : Int32)
    · replace H := H.1 hx3_0
      refine aw_tableIn (off := 36) (tgt := 52) dX10_tusk_16 (by rw [hx3_0]; decide) (by rw [hx3_0]; decide) (by rw [hx3_0]; decide) (by decide) ?_
      refine aw_aload_n dX10_tusk_52 rfl 0 rfl ?_
      refine aw_get dX10_tusk_53 shM0 ckX10 flX10_96 (v := .ref (ad 28)) rfl ?_
      refine aw_iload_n dX10_tusk_56 rfl 1 rfl ?_
      obtain ⟨hi4, H⟩ := H
      refine aw_ialdK (t0 := 0) (j := x1.toNatClampNeg) dX10_tusk_57 shM28 rfl rfl hi4 ?_
      exact aw_iret dX10_tusk_58 rfl ⟨_, rfl, H⟩
    by_cases hx3_1 : x2 = (1 : Int32)
    · replace H := H.2.1 hx3_1
      refine aw_tableIn (off := 43) (tgt := 59) dX10_tusk_16 (by rw [hx3_1]; decide) (by rw [hx3_1]; decide) (by rw [hx3_1]; decide) (by decide) ?_
      refine aw_aload_n dX10_tusk_59 rfl 0 rfl ?_
      refine aw_get dX10_tusk_60 shM0 ckX10 flX10_28 (v := .ref (ad 7)) rfl ?_
      refine aw_iload_n dX10_tusk_63 rfl 1 rfl ?_
      obtain ⟨hi5, H⟩ := H
      refine aw_ialdK (t0 := 0) (j := x1.toNatClampNeg) dX10_tusk_64 shM7 rfl rfl hi5 ?_
      exact aw_iret dX10_tusk_65 rfl ⟨_, rfl, H⟩
    by_cases hx3_2 : x2 = (2 : Int32)
    · replace H := H.2.2.1 hx3_2
      refine aw_tableIn (off := 50) (tgt := 66) dX10_tusk_16 (by rw [hx3_2]; decide) (by rw [hx3_2]; decide) (by rw [hx3_2]; decide) (by decide) ?_
      refine aw_aload_n dX10_tusk_66 rfl 0 rfl ?_
      refine aw_get dX10_tusk_67 shM0 ckX10 flX10_90 (v := .ref (ad 26)) rfl ?_
      refine aw_iconst (v := 0) dX10_tusk_70 (by decide) ?_
      refine aw_ialdK (t0 := 0) (j := 0) dX10_tusk_71 shM26 rfl (by decide) (vp_inK (by decide) (by decide)) ?_
      refine aw_iload_n dX10_tusk_72 rfl 1 rfl ?_
      refine aw_ishr dX10_tusk_73 ?_
      refine aw_iconst (v := 1) dX10_tusk_74 (by decide) ?_
      refine aw_iand dX10_tusk_75 ?_
      exact aw_iret dX10_tusk_76 rfl ⟨_, rfl, H⟩
    by_cases hx3_3 : x2 = (3 : Int32)
    · replace H := H.2.2.2.1 hx3_3
      refine aw_tableIn (off := 61) (tgt := 77) dX10_tusk_16 (by rw [hx3_3]; decide) (by rw [hx3_3]; decide) (by rw [hx3_3]; decide) (by decide) ?_
      refine aw_aload_n dX10_tusk_77 rfl 0 rfl ?_
      refine aw_get dX10_tusk_78 shM0 ckX10 flX10_99 (v := .ref (ad 29)) rfl ?_
      refine aw_iload_n dX10_tusk_81 rfl 1 rfl ?_
      obtain ⟨hi6, H⟩ := H
      refine aw_ialdK (t0 := 0) (j := x1.toNatClampNeg) dX10_tusk_82 shM29 rfl rfl hi6 ?_
      exact aw_iret dX10_tusk_83 rfl ⟨_, rfl, H⟩
    by_cases hx3_4 : x2 = (4 : Int32)
    · replace H := H.2.2.2.2.1 hx3_4
      refine aw_tableIn (off := 68) (tgt := 84) dX10_tusk_16 (by rw [hx3_4]; decide) (by rw [hx3_4]; decide) (by rw [hx3_4]; decide) (by decide) ?_
      refine aw_aload_n dX10_tusk_84 rfl 0 rfl ?_
      refine aw_iload_n dX10_tusk_85 rfl 1 rfl ?_
      refine cvX10_aloneOf dX10_tusk_86 mlX10_469 shM0 (Nat.le_of_ble_eq_true rfl) H (fun z8 h7 H => ?_)
      exact aw_iret dX10_tusk_89 rfl ⟨_, rfl, H⟩
    replace H := H.2.2.2.2.2 hx3_0 hx3_1 hx3_2 hx3_3 hx3_4
    have hx3_0e := tab_ne hx3_0 (a := 0) (by decide)
    have hx3_1e := tab_ne hx3_1 (a := 1) (by decide)
    have hx3_2e := tab_ne hx3_2 (a := 2) (by decide)
    have hx3_3e := tab_ne hx3_3 (a := 3) (by decide)
    have hx3_4e := tab_ne hx3_4 (a := 4) (by decide)
    refine aw_tableOut (tgt := 90) dX10_tusk_16 (by omega) (by decide) ?_
    refine aw_iconst (v := (-1)) dX10_tusk_90 (by decide) ?_
    exact aw_iret dX10_tusk_91 rfl ⟨_, rfl, H⟩
  · replace H := H.2 hc9
    refine aw_iconst (v := (-1)) dX10_tusk_13 (by decide) ?_
    exact aw_iret dX10_tusk_14 rfl ⟨_, rfl, H⟩
set_option maxRecDepth 8000 in
set_option maxHeartbeats 1000000 in
theorem bX10_law_0 {adK adV : Nat → Nat} {l : Launch} {ad : Nat → Nat} {d : Nat} {R : Int64 → aH → Prop}   (x1 : Int32) (x2 : Int32) (x3 : Int32)  (h : aH)
    (H : (x1 < 0 → (R (-9223372036854775808 : Int64) (sI h 0 0 (0 : Int32)))) ∧ (¬ x1 < 0 → (((2 : Int32) < x1 → (R (-9223372036854775808 : Int64) (sI h 0 0 (0 : Int32)))) ∧ (¬ (2 : Int32) < x1 → (AW (GM adK adV) l ad d mX10_hasLaw 0 [(0, .ref (ad 0)), (1, .int x1)] [] (sI h 0 0 (0 : Int32)) (qi fun z2 h1 => (¬ z2 = 0 → ((x1 = (2 : Int32) → (AW (GM adK adV) l ad (d + 1) mX10_law 39 [(0, .ref (ad 0)), (1, .int x1), (2, .int x2), (3, .int x3)] [] h1 (ql R))) ∧ (¬ x1 = (2 : Int32) → (AW (GM adK adV) l ad d mX10_isDebt 0 [(0, .ref (ad 0)), (1, .int x2)] [] h1 (qi fun z4 h3 => (z4 = 0 → (R (-9223372036854775808 : Int64) h3)) ∧ (¬ z4 = 0 → (AW (GM adK adV) l ad (d + 1) mX10_law 39 [(0, .ref (ad 0)), (1, .int x1), (2, .int x2), (3, .int x3)] [] h3 (ql R)))))))) ∧ (z2 = 0 → (R (-9223372036854775808 : Int64) h1)))))))) : AW (GM adK adV) l ad (d + 1) mX10_law 0 [(0, .ref (ad 0)), (1, .int x1), (2, .int x2), (3, .int x3)] [] h (ql R) := by
  refine aw_aload_n dX10_law_0 rfl 0 rfl ?_
  refine aw_iconst (v := 0) dX10_law_1 (by decide) ?_
  refine aw_putI dX10_law_2 shM0 ckX10 flX10_160 rfl (fun _ => rfl) rfl rfl ?_
  refine aw_iload_n dX10_law_5 rfl 1 rfl ?_
  refine aw_if_lt (tgt := 22) dX10_law_6 (by decide) (fun hc9 => ?_) (fun hc9 => ?_)
  · replace H := H.1 hc9
    refine aw_ldc2 dX10_law_22 clX10_474 ?_
    exact aw_lret dX10_law_25 rfl ⟨_, rfl, H⟩
  · replace H := H.2 hc9
    refine aw_iload_n dX10_law_9 rfl 1 rfl ?_
    refine aw_iconst (v := 2) dX10_law_10 (by decide) ?_
    refine aw_icmp_gt (tgt := 22) dX10_law_11 (by decide) (fun hc8 => ?_) (fun hc8 => ?_)
    · replace H := H.1 hc8
      refine aw_ldc2 dX10_law_22 clX10_474 ?_
      exact aw_lret dX10_law_25 rfl ⟨_, rfl, H⟩
    · replace H := H.2 hc8
      refine aw_aload_n dX10_law_14 rfl 0 rfl ?_
      refine aw_iload_n dX10_law_15 rfl 1 rfl ?_
      refine cvX10_hasLaw dX10_law_16 mlX10_371 shM0 (Nat.le_of_ble_eq_true rfl) H (fun z2 h1 H => ?_)
      refine aw_if_ne (tgt := 26) dX10_law_19 (by decide) (fun hc7 => ?_) (fun hc7 => ?_)
      · replace H := H.1 hc7
        refine aw_iload_n dX10_law_26 rfl 1 rfl ?_
        refine aw_iconst (v := 2) dX10_law_27 (by decide) ?_
        refine aw_icmp_eq (tgt := 39) dX10_law_28 (by decide) (fun hc6 => ?_) (fun hc6 => ?_)
        · replace H := H.1 hc6
          exact aw_ls [0, 1, 2, 3] rfl H
        · replace H := H.2 hc6
          refine aw_aload_n dX10_law_31 rfl 0 rfl ?_
          refine aw_iload_n dX10_law_32 rfl 2 rfl ?_
          refine cvX10_isDebt dX10_law_33 mlX10_456 shM0 (Nat.le_of_ble_eq_true rfl) H (fun z4 h3 H => ?_)
          refine aw_if_eq (tgt := 52) dX10_law_36 (by decide) (fun hc5 => ?_) (fun hc5 => ?_)
          · replace H := H.1 hc5
            refine aw_ldc2 dX10_law_52 clX10_474 ?_
            exact aw_lret dX10_law_55 rfl ⟨_, rfl, H⟩
          · replace H := H.2 hc5
            exact aw_ls [0, 1, 2, 3] rfl H
      · replace H := H.2 hc7
        refine aw_ldc2 dX10_law_22 clX10_474 ?_
        exact aw_lret dX10_law_25 rfl ⟨_, rfl, H⟩
set_option maxRecDepth 8000 in
set_option maxHeartbeats 1000000 in
theorem bX10_law_39 {adK adV : Nat → Nat} {l : Launch} {ad : Nat → Nat} {d : Nat} {R : Int64 → aH → Prop}   (x1 : Int32) (x2 : Int32) (x3 : Int32)  (h : aH)
    (H : (x1 = (1 : Int32) → (AW (GM adK adV) l ad (d + 1) mX10_law 56 [(0, .ref (ad 0)), (1, .int x1), (2, .int x2), (3, .int x3)] [] h (ql R))) ∧ (¬ x1 = (1 : Int32) → (AW (GM adK adV) l ad d mX10_isTusk 0 [(0, .ref (ad 0)), (1, .int x3)] [] h (qi fun z2 h1 => (¬ z2 = 0 → (AW (GM adK adV) l ad (d + 1) mX10_law 56 [(0, .ref (ad 0)), (1, .int x1), (2, .int x2), (3, .int x3)] [] h1 (ql R))) ∧ (z2 = 0 → (R (-9223372036854775808 : Int64) h1)))))) : AW (GM adK adV) l ad (d + 1) mX10_law 39 [(0, .ref (ad 0)), (1, .int x1), (2, .int x2), (3, .int x3)] [] h (ql R) := by
  refine aw_iload_n dX10_law_39 rfl 1 rfl ?_
  refine aw_iconst (v := 1) dX10_law_40 (by decide) ?_
  refine aw_icmp_eq (tgt := 56) dX10_law_41 (by decide) (fun hc4 => ?_) (fun hc4 => ?_)
  · replace H := H.1 hc4
    exact aw_ls [0, 1, 2, 3] rfl H
  · replace H := H.2 hc4
    refine aw_aload_n dX10_law_44 rfl 0 rfl ?_
    refine aw_iload_n dX10_law_45 rfl 3 rfl ?_
    refine cvX10_isTusk dX10_law_46 mlX10_466 shM0 (Nat.le_of_ble_eq_true rfl) H (fun z2 h1 H => ?_)
    refine aw_if_ne (tgt := 56) dX10_law_49 (by decide) (fun hc3 => ?_) (fun hc3 => ?_)
    · replace H := H.1 hc3
      exact aw_ls [0, 1, 2, 3] rfl H
    · replace H := H.2 hc3
      refine aw_ldc2 dX10_law_52 clX10_474 ?_
      exact aw_lret dX10_law_55 rfl ⟨_, rfl, H⟩
set_option maxRecDepth 8000 in
set_option maxHeartbeats 1000000 in
theorem bX10_law_56 {adK adV : Nat → Nat} {l : Launch} {ad : Nat → Nat} {d : Nat} {R : Int64 → aH → Prop}   (x1 : Int32) (x2 : Int32) (x3 : Int32)  (h : aH)
    (H : (¬ x1 = 0 → ((¬ x1 = (1 : Int32) → (AW (GM adK adV) l ad d mX10_mortal 0 [(0, .ref (ad 0)), (1, .int (0 : Int32)), (2, .int x3)] [] h (qi fun z2 h1 => AW (GM adK adV) l ad (d + 1) mX10_law 91 [(0, .ref (ad 0)), (1, .int x1)] [] h1 (ql R)))) ∧ (x1 = (1 : Int32) → (AW (GM adK adV) l ad d mX10_callsPay 0 [(0, .ref (ad 0)), (1, .int (0 : Int32)), (2, .int x2)] [] h (qv fun h3 => AW (GM adK adV) l ad (d + 1) mX10_law 91 [(0, .ref (ad 0)), (1, .int x1)] [] h3 (ql R)))))) ∧ (x1 = 0 → (AW (GM adK adV) l ad d mX10_callsPass 0 [(0, .ref (ad 0)), (1, .int (0 : Int32)), (2, .int x2), (3, .int x3)] [] h (qv fun h6 => AW (GM adK adV) l ad (d + 1) mX10_law 91 [(0, .ref (ad 0)), (1, .int x1)] [] h6 (ql R))))) : AW (GM adK adV) l ad (d + 1) mX10_law 56 [(0, .ref (ad 0)), (1, .int x1), (2, .int x2), (3, .int x3)] [] h (ql R) := by
  refine aw_iload_n dX10_law_56 rfl 1 rfl ?_
  refine aw_if_ne (tgt := 70) dX10_law_57 (by decide) (fun hc8 => ?_) (fun hc8 => ?_)
  · replace H := H.1 hc8
    refine aw_iload_n dX10_law_70 rfl 1 rfl ?_
    refine aw_iconst (v := 1) dX10_law_71 (by decide) ?_
    refine aw_icmp_ne (tgt := 84) dX10_law_72 (by decide) (fun hc5 => ?_) (fun hc5 => ?_)
    · replace H := H.1 hc5
      refine aw_aload_n dX10_law_84 rfl 0 rfl ?_
      refine aw_iconst (v := 0) dX10_law_85 (by decide) ?_
      refine aw_iload_n dX10_law_86 rfl 3 rfl ?_
      refine cvX10_mortal dX10_law_87 mlX10_414 shM0 (Nat.le_of_ble_eq_true rfl) H (fun z2 h1 H => ?_)
      refine aw_pop dX10_law_90 rfl ?_
      exact aw_ls [0, 1] rfl H
    · replace H := H.2 hc5
      refine aw_aload_n dX10_law_75 rfl 0 rfl ?_
      refine aw_iconst (v := 0) dX10_law_76 (by decide) ?_
      refine aw_iload_n dX10_law_77 rfl 2 rfl ?_
      refine cvX10_callsPay dX10_law_78 mlX10_411 shM0 (Nat.le_of_ble_eq_true rfl) H (fun h3 H => ?_)
      refine aw_goto (tgt := 91) dX10_law_81 (by decide) ?_
      exact aw_ls [0, 1] rfl H
  · replace H := H.2 hc8
    refine aw_aload_n dX10_law_60 rfl 0 rfl ?_
    refine aw_iconst (v := 0) dX10_law_61 (by decide) ?_
    refine aw_iload_n dX10_law_62 rfl 2 rfl ?_
    refine aw_iload_n dX10_law_63 rfl 3 rfl ?_
    refine cvX10_callsPass dX10_law_64 mlX10_399 shM0 (Nat.le_of_ble_eq_true rfl) H (fun h6 H => ?_)
    refine aw_goto (tgt := 91) dX10_law_67 (by decide) ?_
    exact aw_ls [0, 1] rfl H
set_option maxRecDepth 8000 in
set_option maxHeartbeats 1000000 in
theorem bX10_law_91 {adK adV : Nat → Nat} {l : Launch} {ad : Nat → Nat} {d : Nat} {R : Int64 → aH → Prop}   (x1 : Int32)  (h : aH)
    (H : AW (GM adK adV) l ad d mX10_goes 0 [(0, .ref (ad 0)), (1, .int x1)] [] h (qi fun z2 h1 => (z2 = 0 → (R (-9223372036854775808 : Int64) h1)) ∧ (¬ z2 = 0 → (R (h1.2.1 22 0) h1)))) : AW (GM adK adV) l ad (d + 1) mX10_law 91 [(0, .ref (ad 0)), (1, .int x1)] [] h (ql R) := by
  refine aw_aload_n dX10_law_91 rfl 0 rfl ?_
  refine aw_iload_n dX10_law_92 rfl 1 rfl ?_
  refine cvX10_goes dX10_law_93 mlX10_374 shM0 (Nat.le_of_ble_eq_true rfl) H (fun z2 h1 H => ?_)
  refine aw_if_eq (tgt := 108) dX10_law_96 (by decide) (fun hc3 => ?_) (fun hc3 => ?_)
  · replace H := H.1 hc3
    refine aw_ldc2 dX10_law_108 clX10_474 ?_
    exact aw_lret dX10_law_111 rfl ⟨_, rfl, H⟩
  · replace H := H.2 hc3
    refine aw_aload_n dX10_law_99 rfl 0 rfl ?_
    refine aw_get dX10_law_100 shM0 ckX10 flX10_78 (v := .ref (ad 22)) rfl ?_
    refine aw_iconst (v := 0) dX10_law_103 (by decide) ?_
    refine aw_laldK (t0 := 1) (j := 0) dX10_law_104 shM22 rfl (by decide) (vp_inK (by decide) (by decide)) ?_
    refine aw_goto (tgt := 111) dX10_law_105 (by decide) ?_
    exact aw_lret dX10_law_111 rfl ⟨_, rfl, H⟩
set_option maxRecDepth 8000 in
set_option maxHeartbeats 1000000 in
theorem bX10_keepNow_0 {adK adV : Nat → Nat} {l : Launch} {ad : Nat → Nat} {d : Nat} {R : aH → Prop}     (h : aH)
    (H : (¬ (h.1 0 53) = (20 : Int32) → (AW (GM adK adV) l ad (d + 1) mX10_keepNow 45 [(0, .ref (ad 0))] [] h (qv R))) ∧ ((h.1 0 53) = (20 : Int32) → (AW (GM adK adV) l ad (d + 1) mX10_keepNow 11 [(0, .ref (ad 0)), (1, .int (1 : Int32))] [] h (qv R)))) : AW (GM adK adV) l ad (d + 1) mX10_keepNow 0 [(0, .ref (ad 0))] [] h (qv R) := by
  refine aw_aload_n dX10_keepNow_0 rfl 0 rfl ?_
  refine aw_get dX10_keepNow_1 shM0 ckX10 flX10_332 (v := .int (h.1 0 53)) rfl ?_
  refine aw_bipush (v := 20) dX10_keepNow_4 (by decide) ?_
  refine aw_icmp_ne (tgt := 45) dX10_keepNow_6 (by decide) (fun hc1 => ?_) (fun hc1 => ?_)
  · replace H := H.1 hc1
    exact aw_ls [0] rfl H
  · replace H := H.2 hc1
    refine aw_iconst (v := 1) dX10_keepNow_9 (by decide) ?_
    refine aw_istore_n (ls' := [(1, .int (1 : Int32)), (0, .ref (ad 0))]) dX10_keepNow_10 rfl (by decide) rfl ?_
    exact aw_ls [1, 0] rfl H
set_option maxRecDepth 8000 in
set_option maxHeartbeats 1000000 in
theorem bX10_keepNow_11 {adK adV : Nat → Nat} {l : Launch} {ad : Nat → Nat} {d : Nat} {R : aH → Prop}   (x1 : Int32)  (h : aH)
    (H : ((20 : Int32) ≤ x1 → (AW (GM adK adV) l ad (d + 1) mX10_keepNow 45 [(0, .ref (ad 0))] [] (sI h 0 53 ((h.1 0 53) - (1 : Int32))) (qv R))) ∧ (¬ (20 : Int32) ≤ x1 → (AW (GM adK adV) l ad d mX10_copies 0 [(0, .ref (ad 0)), (1, .int (((3 : Int32) + x1) - (1 : Int32))), (2, .int ((3 : Int32) + x1))] [] h (qv fun h1 => AW (GM adK adV) l ad (d + 1) mX10_keepNow 11 [(0, .ref (ad 0)), (1, .int (x1 + (1 : Int32)))] [] h1 (qv R))))) : AW (GM adK adV) l ad (d + 1) mX10_keepNow 11 [(0, .ref (ad 0)), (1, .int x1)] [] h (qv R) := by
  refine aw_iload_n dX10_keepNow_11 rfl 1 rfl ?_
  refine aw_bipush (v := 20) dX10_keepNow_12 (by decide) ?_
  refine aw_icmp_ge (tgt := 35) dX10_keepNow_14 (by decide) (fun hc3 => ?_) (fun hc3 => ?_)
  · replace H := H.1 hc3
    refine aw_aload_n dX10_keepNow_35 rfl 0 rfl ?_
    refine aw_dup dX10_keepNow_36 rfl ?_
    refine aw_get dX10_keepNow_37 shM0 ckX10 flX10_332 (v := .int (h.1 0 53)) rfl ?_
    refine aw_iconst (v := 1) dX10_keepNow_40 (by decide) ?_
    refine aw_isub dX10_keepNow_41 ?_
    refine aw_putI dX10_keepNow_42 shM0 ckX10 flX10_332 rfl (fun _ => rfl) rfl rfl ?_
    exact aw_ls [0] rfl H
  · replace H := H.2 hc3
    refine aw_aload_n dX10_keepNow_17 rfl 0 rfl ?_
    refine aw_iconst (v := 3) dX10_keepNow_18 (by decide) ?_
    refine aw_iload_n dX10_keepNow_19 rfl 1 rfl ?_
    refine aw_iadd dX10_keepNow_20 ?_
    refine aw_iconst (v := 1) dX10_keepNow_21 (by decide) ?_
    refine aw_isub dX10_keepNow_22 ?_
    refine aw_iconst (v := 3) dX10_keepNow_23 (by decide) ?_
    refine aw_iload_n dX10_keepNow_24 rfl 1 rfl ?_
    refine aw_iadd dX10_keepNow_25 ?_
    refine cvX10_copies dX10_keepNow_26 mlX10_450 shM0 (Nat.le_of_ble_eq_true rfl) H (fun h1 H => ?_)
    refine aw_inc (mm := (1)) (ls' := [(1, .int (x1 + (1 : Int32))), (0, .ref (ad 0))]) dX10_keepNow_29 (by decide) (j := 1) rfl (by decide) rfl ?_
    refine aw_goto (tgt := 11) dX10_keepNow_32 (by decide) ?_
    exact aw_ls [1, 0] rfl H
set_option maxRecDepth 8000 in
set_option maxHeartbeats 1000000 in
theorem bX10_keepNow_45 {adK adV : Nat → Nat} {l : Launch} {ad : Nat → Nat} {d : Nat} {R : aH → Prop}     (h : aH)
    (H : AW (GM adK adV) l ad d mX10_copies 0 [(0, .ref (ad 0)), (1, .int ((3 : Int32) + (h.1 0 53))), (2, .int (0 : Int32))] [] h (qv fun h1 => R (sI h1 0 53 ((h1.1 0 53) + (1 : Int32))))) : AW (GM adK adV) l ad (d + 1) mX10_keepNow 45 [(0, .ref (ad 0))] [] h (qv R) := by
  refine aw_aload_n dX10_keepNow_45 rfl 0 rfl ?_
  refine aw_iconst (v := 3) dX10_keepNow_46 (by decide) ?_
  refine aw_aload_n dX10_keepNow_47 rfl 0 rfl ?_
  refine aw_get dX10_keepNow_48 shM0 ckX10 flX10_332 (v := .int (h.1 0 53)) rfl ?_
  refine aw_iadd dX10_keepNow_51 ?_
  refine aw_iconst (v := 0) dX10_keepNow_52 (by decide) ?_
  refine cvX10_copies dX10_keepNow_53 mlX10_450 shM0 (Nat.le_of_ble_eq_true rfl) H (fun h1 H => ?_)
  refine aw_aload_n dX10_keepNow_56 rfl 0 rfl ?_
  refine aw_dup dX10_keepNow_57 rfl ?_
  refine aw_get dX10_keepNow_58 shM0 ckX10 flX10_332 (v := .int (h1.1 0 53)) rfl ?_
  refine aw_iconst (v := 1) dX10_keepNow_61 (by decide) ?_
  refine aw_iadd dX10_keepNow_62 ?_
  refine aw_putI dX10_keepNow_63 shM0 ckX10 flX10_332 rfl (fun _ => rfl) rfl rfl ?_
  exact aw_vret dX10_keepNow_66 rfl ⟨rfl, H⟩
set_option maxRecDepth 8000 in
set_option maxHeartbeats 1000000 in
theorem bX10_lend_0 {adK adV : Nat → Nat} {l : Launch} {ad : Nat → Nat} {d : Nat} {R : Int32 → aH → Prop}   (x1 : Int32) (x2 : Int32) (x3 : Int32) (x4 : Int32)  (h : aH)
    (H : AW (GM adK adV) l ad d mX10_isMan 0 [(0, .ref (ad 0)), (1, .int x1)] [] (sI h 0 0 (0 : Int32)) (qi fun z2 h1 => (z2 = 0 → (R (-1 : Int32) h1)) ∧ (¬ z2 = 0 → (AW (GM adK adV) l ad d mX10_isMan 0 [(0, .ref (ad 0)), (1, .int x2)] [] h1 (qi fun z4 h3 => (z4 = 0 → (R (-1 : Int32) h3)) ∧ (¬ z4 = 0 → ((x1 = x2 → (R (-1 : Int32) h3)) ∧ (¬ x1 = x2 → ((x3 < (1 : Int32) → (R (-1 : Int32) h3)) ∧ (¬ x3 < (1 : Int32) → (((99 : Int32) < x3 → (R (-1 : Int32) h3)) ∧ (¬ (99 : Int32) < x3 → (AW (GM adK adV) l ad d mX10_isTusk 0 [(0, .ref (ad 0)), (1, .int x4)] [] h3 (qi fun z6 h5 => (z6 = 0 → (R (-1 : Int32) h5)) ∧ (¬ z6 = 0 → ((¬ (h5.1 25 0) = (8 : Int32) → (AW (GM adK adV) l ad d mX10_isAlive 0 [(0, .ref (ad 0)), (1, .int (0 : Int32)), (2, .int x4)] [] h5 (qi fun z8 h7 => (z8 = 0 → (R (-2 : Int32) h7)) ∧ (¬ z8 = 0 → (vp_in x1 138 ∧ (vp_in x4 12 ∧ (((x3 + (h7.1 7 x4.toNatClampNeg)) ≤ (h7.1 27 x1.toNatClampNeg) → (AW (GM adK adV) l ad d mX10_keepNow 0 [(0, .ref (ad 0))] [] h7 (qv fun h11 => vp_in (h11.1 25 0) 184 ∧ (∀ h14 : aH, h14 = (sI (sI (sI h11 30 (h11.1 25 0).toNatClampNeg x1) 31 (h11.1 25 0).toNatClampNeg x2) 32 (h11.1 25 0).toNatClampNeg x3) → (∀ h15 : aH, h15 = (sI (sI h14 33 (h11.1 25 0).toNatClampNeg x4) 34 (h11.1 25 0).toNatClampNeg ((sI h14 33 (h11.1 25 0).toNatClampNeg x4).1 23 0)) → (AW (GM adK adV) l ad d mX10_opens 0 [(0, .ref (ad 0)), (1, .int (0 : Int32)), (2, .int (h11.1 25 0))] [] (sI h15 25 0 ((h15.1 25 0) + (1 : Int32))) (qv fun h16 => R (h11.1 25 0) h16))))))) ∧ (¬ (x3 + (h7.1 7 x4.toNatClampNeg)) ≤ (h7.1 27 x1.toNatClampNeg) → (R (-2 : Int32) h7))))))))) ∧ ((h5.1 25 0) = (8 : Int32) → (R (-1 : Int32) h5)))))))))))))))))) : AW (GM adK adV) l ad (d + 1) mX10_lend 0 [(0, .ref (ad 0)), (1, .int x1), (2, .int x2), (3, .int x3), (4, .int x4)] [] h (qi R) := by
  refine aw_aload_n dX10_lend_0 rfl 0 rfl ?_
  refine aw_iconst (v := 0) dX10_lend_1 (by decide) ?_
  refine aw_putI dX10_lend_2 shM0 ckX10 flX10_160 rfl (fun _ => rfl) rfl rfl ?_
  refine aw_aload_n dX10_lend_5 rfl 0 rfl ?_
  refine aw_iload_n dX10_lend_6 rfl 1 rfl ?_
  refine cvX10_isMan dX10_lend_7 mlX10_459 shM0 (Nat.le_of_ble_eq_true rfl) H (fun z2 h1 H => ?_)
  refine aw_if_eq (tgt := 57) dX10_lend_10 (by decide) (fun hc26 => ?_) (fun hc26 => ?_)
  · replace H := H.1 hc26
    refine aw_iconst (v := (-1)) dX10_lend_57 (by decide) ?_
    exact aw_iret dX10_lend_58 rfl ⟨_, rfl, H⟩
  · replace H := H.2 hc26
    refine aw_aload_n dX10_lend_13 rfl 0 rfl ?_
    refine aw_iload_n dX10_lend_14 rfl 2 rfl ?_
    refine cvX10_isMan dX10_lend_15 mlX10_459 shM0 (Nat.le_of_ble_eq_true rfl) H (fun z4 h3 H => ?_)
    refine aw_if_eq (tgt := 57) dX10_lend_18 (by decide) (fun hc25 => ?_) (fun hc25 => ?_)
    · replace H := H.1 hc25
      refine aw_iconst (v := (-1)) dX10_lend_57 (by decide) ?_
      exact aw_iret dX10_lend_58 rfl ⟨_, rfl, H⟩
    · replace H := H.2 hc25
      refine aw_iload_n dX10_lend_21 rfl 1 rfl ?_
      refine aw_iload_n dX10_lend_22 rfl 2 rfl ?_
      refine aw_icmp_eq (tgt := 57) dX10_lend_23 (by decide) (fun hc24 => ?_) (fun hc24 => ?_)
      · replace H := H.1 hc24
        refine aw_iconst (v := (-1)) dX10_lend_57 (by decide) ?_
        exact aw_iret dX10_lend_58 rfl ⟨_, rfl, H⟩
      · replace H := H.2 hc24
        refine aw_iload_n dX10_lend_26 rfl 3 rfl ?_
        refine aw_iconst (v := 1) dX10_lend_27 (by decide) ?_
        refine aw_icmp_lt (tgt := 57) dX10_lend_28 (by decide) (fun hc23 => ?_) (fun hc23 => ?_)
        · replace H := H.1 hc23
          refine aw_iconst (v := (-1)) dX10_lend_57 (by decide) ?_
          exact aw_iret dX10_lend_58 rfl ⟨_, rfl, H⟩
        · replace H := H.2 hc23
          refine aw_iload_n dX10_lend_31 rfl 3 rfl ?_
          refine aw_bipush (v := 99) dX10_lend_32 (by decide) ?_
          refine aw_icmp_gt (tgt := 57) dX10_lend_34 (by decide) (fun hc22 => ?_) (fun hc22 => ?_)
          · replace H := H.1 hc22
            refine aw_iconst (v := (-1)) dX10_lend_57 (by decide) ?_
            exact aw_iret dX10_lend_58 rfl ⟨_, rfl, H⟩
          · replace H := H.2 hc22
            refine aw_aload_n dX10_lend_37 rfl 0 rfl ?_
            refine aw_iload dX10_lend_38 4 rfl ?_
            refine cvX10_isTusk dX10_lend_40 mlX10_466 shM0 (Nat.le_of_ble_eq_true rfl) H (fun z6 h5 H => ?_)
            refine aw_if_eq (tgt := 57) dX10_lend_43 (by decide) (fun hc21 => ?_) (fun hc21 => ?_)
            · replace H := H.1 hc21
              refine aw_iconst (v := (-1)) dX10_lend_57 (by decide) ?_
              exact aw_iret dX10_lend_58 rfl ⟨_, rfl, H⟩
            · replace H := H.2 hc21
              refine aw_aload_n dX10_lend_46 rfl 0 rfl ?_
              refine aw_get dX10_lend_47 shM0 ckX10 flX10_87 (v := .ref (ad 25)) rfl ?_
              refine aw_iconst (v := 0) dX10_lend_50 (by decide) ?_
              refine aw_ialdK (t0 := 0) (j := 0) dX10_lend_51 shM25 rfl (by decide) (vp_inK (by decide) (by decide)) ?_
              refine aw_bipush (v := 8) dX10_lend_52 (by decide) ?_
              refine aw_icmp_ne (tgt := 59) dX10_lend_54 (by decide) (fun hc20 => ?_) (fun hc20 => ?_)
              · replace H := H.1 hc20
                refine aw_aload_n dX10_lend_59 rfl 0 rfl ?_
                refine aw_iconst (v := 0) dX10_lend_60 (by decide) ?_
                refine aw_iload dX10_lend_61 4 rfl ?_
                refine cvX10_isAlive dX10_lend_63 mlX10_391 shM0 (Nat.le_of_ble_eq_true rfl) H (fun z8 h7 H => ?_)
                refine aw_if_eq (tgt := 87) dX10_lend_66 (by decide) (fun hc19 => ?_) (fun hc19 => ?_)
                · replace H := H.1 hc19
                  refine aw_bipush (v := (-2)) dX10_lend_87 (by decide) ?_
                  exact aw_iret dX10_lend_89 rfl ⟨_, rfl, H⟩
                · replace H := H.2 hc19
                  refine aw_aload_n dX10_lend_69 rfl 0 rfl ?_
                  refine aw_get dX10_lend_70 shM0 ckX10 flX10_93 (v := .ref (ad 27)) rfl ?_
                  refine aw_iload_n dX10_lend_73 rfl 1 rfl ?_
                  obtain ⟨hi9, H⟩ := H
                  refine aw_ialdK (t0 := 0) (j := x1.toNatClampNeg) dX10_lend_74 shM27 rfl rfl hi9 ?_
                  refine aw_iload_n dX10_lend_75 rfl 3 rfl ?_
                  refine aw_aload_n dX10_lend_76 rfl 0 rfl ?_
                  refine aw_get dX10_lend_77 shM0 ckX10 flX10_28 (v := .ref (ad 7)) rfl ?_
                  refine aw_iload dX10_lend_80 4 rfl ?_
                  obtain ⟨hi10, H⟩ := H
                  refine aw_ialdK (t0 := 0) (j := x4.toNatClampNeg) dX10_lend_82 shM7 rfl rfl hi10 ?_
                  refine aw_iadd dX10_lend_83 ?_
                  refine aw_icmp_ge (tgt := 90) dX10_lend_84 (by decide) (fun hc18 => ?_) (fun hc18 => ?_)
                  · replace H := H.1 hc18
                    refine aw_aload_n dX10_lend_90 rfl 0 rfl ?_
                    refine cvX10_keepNow dX10_lend_91 mlX10_476 shM0 (Nat.le_of_ble_eq_true rfl) H (fun h11 H => ?_)
                    refine aw_aload_n dX10_lend_94 rfl 0 rfl ?_
                    refine aw_get dX10_lend_95 shM0 ckX10 flX10_87 (v := .ref (ad 25)) rfl ?_
                    refine aw_iconst (v := 0) dX10_lend_98 (by decide) ?_
                    refine aw_ialdK (t0 := 0) (j := 0) dX10_lend_99 shM25 rfl (by decide) (vp_inK (by decide) (by decide)) ?_
                    refine aw_istore (ls' := [(5, .int (h11.1 25 0)), (0, .ref (ad 0)), (1, .int x1), (2, .int x2), (3, .int x3), (4, .int x4)]) dX10_lend_100 (by decide) rfl ?_
                    refine aw_aload_n dX10_lend_102 rfl 1 rfl ?_
                    refine aw_get dX10_lend_103 shM0 ckX10 flX10_102 (v := .ref (ad 30)) rfl ?_
                    refine aw_iload dX10_lend_106 0 rfl ?_
                    refine aw_iload_n dX10_lend_108 rfl 2 rfl ?_
                    obtain ⟨hi13, H⟩ := H
                    refine aw_iastK (t0 := 0) (j := (h11.1 25 0).toNatClampNeg) dX10_lend_109 shM30 rfl rfl hi13 ?_
                    refine aw_aload_n dX10_lend_110 rfl 1 rfl ?_
                    refine aw_get dX10_lend_111 shM0 ckX10 flX10_105 (v := .ref (ad 31)) rfl ?_
                    refine aw_iload dX10_lend_114 0 rfl ?_
                    refine aw_iload_n dX10_lend_116 rfl 3 rfl ?_
                    refine aw_iastK (t0 := 0) (j := (h11.1 25 0).toNatClampNeg) dX10_lend_117 shM31 rfl rfl hi13 ?_
                    refine aw_aload_n dX10_lend_118 rfl 1 rfl ?_
                    refine aw_get dX10_lend_119 shM0 ckX10 flX10_108 (v := .ref (ad 32)) rfl ?_
                    refine aw_iload dX10_lend_122 0 rfl ?_
                    refine aw_iload_n dX10_lend_124 rfl 4 rfl ?_
                    refine aw_iastK (t0 := 0) (j := (h11.1 25 0).toNatClampNeg) dX10_lend_125 shM32 rfl rfl hi13 ?_
                    refine aw_toph (fun h14 eh14 => ?_)
                    replace H := H h14 eh14
                    refine aw_aload_n dX10_lend_126 rfl 1 rfl ?_
                    refine aw_get dX10_lend_127 shM0 ckX10 flX10_111 (v := .ref (ad 33)) rfl ?_
                    refine aw_iload dX10_lend_130 0 rfl ?_
                    refine aw_iload dX10_lend_132 5 rfl ?_
                    refine aw_iastK (t0 := 0) (j := (h11.1 25 0).toNatClampNeg) dX10_lend_134 shM33 rfl rfl hi13 ?_
                    refine aw_aload_n dX10_lend_135 rfl 1 rfl ?_
                    refine aw_get dX10_lend_136 shM0 ckX10 flX10_114 (v := .ref (ad 34)) rfl ?_
                    refine aw_iload dX10_lend_139 0 rfl ?_
                    refine aw_aload_n dX10_lend_141 rfl 1 rfl ?_
                    refine aw_get dX10_lend_142 shM0 ckX10 flX10_81 (v := .ref (ad 23)) rfl ?_
                    refine aw_iconst (v := 0) dX10_lend_145 (by decide) ?_
                    refine aw_ialdK (t0 := 0) (j := 0) dX10_lend_146 shM23 rfl (by decide) (vp_inK (by decide) (by decide)) ?_
                    refine aw_iastK (t0 := 0) (j := (h11.1 25 0).toNatClampNeg) dX10_lend_147 shM34 rfl rfl hi13 ?_
                    refine aw_toph (fun h15 eh15 => ?_)
                    replace H := H h15 eh15
                    refine aw_aload_n dX10_lend_148 rfl 1 rfl ?_
                    refine aw_get dX10_lend_149 shM0 ckX10 flX10_87 (v := .ref (ad 25)) rfl ?_
                    refine aw_iconst (v := 0) dX10_lend_152 (by decide) ?_
                    refine aw_dup2 dX10_lend_153 rfl rfl ?_
                    refine aw_ialdK (t0 := 0) (j := 0) dX10_lend_154 shM25 rfl (by decide) (vp_inK (by decide) (by decide)) ?_
                    refine aw_iconst (v := 1) dX10_lend_155 (by decide) ?_
                    refine aw_iadd dX10_lend_156 ?_
                    refine aw_iastK (t0 := 0) (j := 0) dX10_lend_157 shM25 rfl (by decide) (vp_inK (by decide) (by decide)) ?_
                    refine aw_aload_n dX10_lend_158 rfl 1 rfl ?_
                    refine aw_iconst (v := 0) dX10_lend_159 (by decide) ?_
                    refine aw_iload dX10_lend_160 0 rfl ?_
                    refine cvX10_opens dX10_lend_162 mlX10_430 shM0 (Nat.le_of_ble_eq_true rfl) H (fun h16 H => ?_)
                    refine aw_iload dX10_lend_165 0 rfl ?_
                    exact aw_iret dX10_lend_167 rfl ⟨_, rfl, H⟩
                  · replace H := H.2 hc18
                    refine aw_bipush (v := (-2)) dX10_lend_87 (by decide) ?_
                    exact aw_iret dX10_lend_89 rfl ⟨_, rfl, H⟩
              · replace H := H.2 hc20
                refine aw_iconst (v := (-1)) dX10_lend_57 (by decide) ?_
                exact aw_iret dX10_lend_58 rfl ⟨_, rfl, H⟩
