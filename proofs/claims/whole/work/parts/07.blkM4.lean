set_option maxRecDepth 8000 in
set_option maxHeartbeats 1000000 in
theorem bX10_count_0 {adK adV : Nat → Nat} {l : Launch} {ad : Nat → Nat} {d : Nat} {R : Int32 → aH → Prop}   (x1 : Int32)  (h : aH)
    (H : (x1 = (0 : Int32) → (R ((sI h 0 0 (0 : Int32)).1 2 0) (sI h 0 0 (0 : Int32)))) ∧ ((x1 = (1 : Int32) → (R ((sI h 0 0 (0 : Int32)).1 2 1) (sI h 0 0 (0 : Int32)))) ∧ ((x1 = (2 : Int32) → (R ((sI h 0 0 (0 : Int32)).1 25 0) (sI h 0 0 (0 : Int32)))) ∧ ((x1 = (3 : Int32) → (R ((sI h 0 0 (0 : Int32)).1 2 6) (sI h 0 0 (0 : Int32)))) ∧ ((x1 = (4 : Int32) → (R ((sI h 0 0 (0 : Int32)).1 23 0) (sI h 0 0 (0 : Int32)))) ∧ ((x1 = (5 : Int32) → (AW (GM adK adV) l ad d mX10_manyOf 0 [(0, .ref (ad 0)), (1, .int (0 : Int32)), (2, .int (1 : Int32))] [] (sI h 0 0 (0 : Int32)) (qi fun z3 h2 => R z3 h2))) ∧ ((x1 = (6 : Int32) → (AW (GM adK adV) l ad d mX10_manyOf 0 [(0, .ref (ad 0)), (1, .int (0 : Int32)), (2, .int (2 : Int32))] [] (sI h 0 0 (0 : Int32)) (qi fun z5 h4 => R z5 h4))) ∧ ((x1 = (7 : Int32) → (AW (GM adK adV) l ad d mX10_manyOf 0 [(0, .ref (ad 0)), (1, .int (0 : Int32)), (2, .int (3 : Int32))] [] (sI h 0 0 (0 : Int32)) (qi fun z7 h6 => R z7 h6))) ∧ ((x1 = (8 : Int32) → (AW (GM adK adV) l ad d mX10_manyOf 0 [(0, .ref (ad 0)), (1, .int (0 : Int32)), (2, .int (4 : Int32))] [] (sI h 0 0 (0 : Int32)) (qi fun z9 h8 => R z9 h8))) ∧ ((x1 = (9 : Int32) → (AW (GM adK adV) l ad d mX10_bitsOf 0 [(0, .int ((sI h 0 0 (0 : Int32)).1 26 0))] [] (sI h 0 0 (0 : Int32)) (qi fun z11 h10 => R z11 h10))) ∧ ((x1 = (10 : Int32) → (AW (GM adK adV) l ad (d + 1) mX10_count 160 [(0, .ref (ad 0)), (2, .int (0 : Int32)), (3, .int (0 : Int32))] [] (sI h 0 0 (0 : Int32)) (qi R))) ∧ ((x1 = (11 : Int32) → (AW (GM adK adV) l ad (d + 1) mX10_count 189 [(0, .ref (ad 0)), (2, .int (0 : Int32)), (3, .int (0 : Int32))] [] (sI h 0 0 (0 : Int32)) (qi R))) ∧ ((x1 = (12 : Int32) → (R ((sI h 0 0 (0 : Int32)).1 0 62) (sI h 0 0 (0 : Int32)))) ∧ ((x1 = (13 : Int32) → (AW (GM adK adV) l ad d mX10_knownMany 0 [(0, .ref (ad 0))] [] (sI h 0 0 (0 : Int32)) (qi fun z13 h12 => R z13 h12))) ∧ ((x1 = (14 : Int32) → (R ((sI h 0 0 (0 : Int32)).1 0 53) (sI h 0 0 (0 : Int32)))) ∧ (¬ x1 = (0 : Int32) → ¬ x1 = (1 : Int32) → ¬ x1 = (2 : Int32) → ¬ x1 = (3 : Int32) → ¬ x1 = (4 : Int32) → ¬ x1 = (5 : Int32) → ¬ x1 = (6 : Int32) → ¬ x1 = (7 : Int32) → ¬ x1 = (8 : Int32) → ¬ x1 = (9 : Int32) → ¬ x1 = (10 : Int32) → ¬ x1 = (11 : Int32) → ¬ x1 = (12 : Int32) → ¬ x1 = (13 : Int32) → ¬ x1 = (14 : Int32) → (R (-1 : Int32) (sI h 0 0 (0 : Int32))))))))))))))))))) : AW (GM adK adV) l ad (d + 1) mX10_count 0 [(0, .ref (ad 0)), (1, .int x1)] [] h (qi R) := by
  refine aw_aload_n dX10_count_0 rfl 0 rfl ?_
  refine aw_iconst (v := 0) dX10_count_1 (by decide) ?_
  refine aw_putI dX10_count_2 shM0 ckX10 flX10_160 rfl (fun _ => rfl) rfl rfl ?_
  refine aw_iconst (v := 0) dX10_count_5 (by decide) ?_
  refine aw_istore_n (ls' := [(2, .int (0 : Int32)), (0, .ref (ad 0)), (1, .int x1)]) dX10_count_6 rfl (by decide) rfl ?_
  refine aw_iload_n dX10_count_7 rfl 2 rfl ?_
  by_cases hx1_0 : x1 = (0 : Int32)
  · replace H := H.1 hx1_0
    refine aw_tableIn (off := 76) (tgt := 84) dX10_count_8 (by rw [hx1_0]; decide) (by rw [hx1_0]; decide) (by rw [hx1_0]; decide) (by decide) ?_
    refine aw_aload_n dX10_count_84 rfl 1 rfl ?_
    refine aw_get dX10_count_85 shM0 ckX10 flX10_13 (v := .ref (ad 2)) rfl ?_
    refine aw_iconst (v := 0) dX10_count_88 (by decide) ?_
    refine aw_ialdK (t0 := 0) (j := 0) dX10_count_89 shM2 rfl (by decide) (vp_inK (by decide) (by decide)) ?_
    exact aw_iret dX10_count_90 rfl ⟨_, rfl, H⟩
  by_cases hx1_1 : x1 = (1 : Int32)
  · replace H := H.2.1 hx1_1
    refine aw_tableIn (off := 83) (tgt := 91) dX10_count_8 (by rw [hx1_1]; decide) (by rw [hx1_1]; decide) (by rw [hx1_1]; decide) (by decide) ?_
    refine aw_aload_n dX10_count_91 rfl 1 rfl ?_
    refine aw_get dX10_count_92 shM0 ckX10 flX10_13 (v := .ref (ad 2)) rfl ?_
    refine aw_iconst (v := 1) dX10_count_95 (by decide) ?_
    refine aw_ialdK (t0 := 0) (j := 1) dX10_count_96 shM2 rfl (by decide) (vp_inK (by decide) (by decide)) ?_
    exact aw_iret dX10_count_97 rfl ⟨_, rfl, H⟩
  by_cases hx1_2 : x1 = (2 : Int32)
  · replace H := H.2.2.1 hx1_2
    refine aw_tableIn (off := 90) (tgt := 98) dX10_count_8 (by rw [hx1_2]; decide) (by rw [hx1_2]; decide) (by rw [hx1_2]; decide) (by decide) ?_
    refine aw_aload_n dX10_count_98 rfl 1 rfl ?_
    refine aw_get dX10_count_99 shM0 ckX10 flX10_87 (v := .ref (ad 25)) rfl ?_
    refine aw_iconst (v := 0) dX10_count_102 (by decide) ?_
    refine aw_ialdK (t0 := 0) (j := 0) dX10_count_103 shM25 rfl (by decide) (vp_inK (by decide) (by decide)) ?_
    exact aw_iret dX10_count_104 rfl ⟨_, rfl, H⟩
  by_cases hx1_3 : x1 = (3 : Int32)
  · replace H := H.2.2.2.1 hx1_3
    refine aw_tableIn (off := 97) (tgt := 105) dX10_count_8 (by rw [hx1_3]; decide) (by rw [hx1_3]; decide) (by rw [hx1_3]; decide) (by decide) ?_
    refine aw_aload_n dX10_count_105 rfl 1 rfl ?_
    refine aw_get dX10_count_106 shM0 ckX10 flX10_13 (v := .ref (ad 2)) rfl ?_
    refine aw_bipush (v := 6) dX10_count_109 (by decide) ?_
    refine aw_ialdK (t0 := 0) (j := 6) dX10_count_111 shM2 rfl (by decide) (vp_inK (by decide) (by decide)) ?_
    exact aw_iret dX10_count_112 rfl ⟨_, rfl, H⟩
  by_cases hx1_4 : x1 = (4 : Int32)
  · replace H := H.2.2.2.2.1 hx1_4
    refine aw_tableIn (off := 105) (tgt := 113) dX10_count_8 (by rw [hx1_4]; decide) (by rw [hx1_4]; decide) (by rw [hx1_4]; decide) (by decide) ?_
    refine aw_aload_n dX10_count_113 rfl 1 rfl ?_
    refine aw_get dX10_count_114 shM0 ckX10 flX10_81 (v := .ref (ad 23)) rfl ?_
    refine aw_iconst (v := 0) dX10_count_117 (by decide) ?_
    refine aw_ialdK (t0 := 0) (j := 0) dX10_count_118 shM23 rfl (by decide) (vp_inK (by decide) (by decide)) ?_
    exact aw_iret dX10_count_119 rfl ⟨_, rfl, H⟩
  by_cases hx1_5 : x1 = (5 : Int32)
  · replace H := H.2.2.2.2.2.1 hx1_5
    refine aw_tableIn (off := 112) (tgt := 120) dX10_count_8 (by rw [hx1_5]; decide) (by rw [hx1_5]; decide) (by rw [hx1_5]; decide) (by decide) ?_
    refine aw_aload_n dX10_count_120 rfl 1 rfl ?_
    refine aw_iconst (v := 0) dX10_count_121 (by decide) ?_
    refine aw_iconst (v := 1) dX10_count_122 (by decide) ?_
    refine cvX10_manyOf dX10_count_123 mlX10_482 shM0 (Nat.le_of_ble_eq_true rfl) H (fun z3 h2 H => ?_)
    exact aw_iret dX10_count_126 rfl ⟨_, rfl, H⟩
  by_cases hx1_6 : x1 = (6 : Int32)
  · replace H := H.2.2.2.2.2.2.1 hx1_6
    refine aw_tableIn (off := 119) (tgt := 127) dX10_count_8 (by rw [hx1_6]; decide) (by rw [hx1_6]; decide) (by rw [hx1_6]; decide) (by decide) ?_
    refine aw_aload_n dX10_count_127 rfl 1 rfl ?_
    refine aw_iconst (v := 0) dX10_count_128 (by decide) ?_
    refine aw_iconst (v := 2) dX10_count_129 (by decide) ?_
    refine cvX10_manyOf dX10_count_130 mlX10_482 shM0 (Nat.le_of_ble_eq_true rfl) H (fun z5 h4 H => ?_)
    exact aw_iret dX10_count_133 rfl ⟨_, rfl, H⟩
  by_cases hx1_7 : x1 = (7 : Int32)
  · replace H := H.2.2.2.2.2.2.2.1 hx1_7
    refine aw_tableIn (off := 126) (tgt := 134) dX10_count_8 (by rw [hx1_7]; decide) (by rw [hx1_7]; decide) (by rw [hx1_7]; decide) (by decide) ?_
    refine aw_aload_n dX10_count_134 rfl 1 rfl ?_
    refine aw_iconst (v := 0) dX10_count_135 (by decide) ?_
    refine aw_iconst (v := 3) dX10_count_136 (by decide) ?_
    refine cvX10_manyOf dX10_count_137 mlX10_482 shM0 (Nat.le_of_ble_eq_true rfl) H (fun z7 h6 H => ?_)
    exact aw_iret dX10_count_140 rfl ⟨_, rfl, H⟩
  by_cases hx1_8 : x1 = (8 : Int32)
  · replace H := H.2.2.2.2.2.2.2.2.1 hx1_8
    refine aw_tableIn (off := 133) (tgt := 141) dX10_count_8 (by rw [hx1_8]; decide) (by rw [hx1_8]; decide) (by rw [hx1_8]; decide) (by decide) ?_
    refine aw_aload_n dX10_count_141 rfl 1 rfl ?_
    refine aw_iconst (v := 0) dX10_count_142 (by decide) ?_
    refine aw_iconst (v := 4) dX10_count_143 (by decide) ?_
    refine cvX10_manyOf dX10_count_144 mlX10_482 shM0 (Nat.le_of_ble_eq_true rfl) H (fun z9 h8 H => ?_)
    exact aw_iret dX10_count_147 rfl ⟨_, rfl, H⟩
  by_cases hx1_9 : x1 = (9 : Int32)
  · replace H := H.2.2.2.2.2.2.2.2.2.1 hx1_9
    refine aw_tableIn (off := 140) (tgt := 148) dX10_count_8 (by rw [hx1_9]; decide) (by rw [hx1_9]; decide) (by rw [hx1_9]; decide) (by decide) ?_
    refine aw_aload_n dX10_count_148 rfl 1 rfl ?_
    refine aw_get dX10_count_149 shM0 ckX10 flX10_90 (v := .ref (ad 26)) rfl ?_
    refine aw_iconst (v := 0) dX10_count_152 (by decide) ?_
    refine aw_ialdK (t0 := 0) (j := 0) dX10_count_153 shM26 rfl (by decide) (vp_inK (by decide) (by decide)) ?_
    refine cvX10_bitsOf dX10_count_154 mlX10_361 (Nat.le_of_ble_eq_true rfl) H (fun z11 h10 H => ?_)
    exact aw_iret dX10_count_157 rfl ⟨_, rfl, H⟩
  by_cases hx1_10 : x1 = (10 : Int32)
  · replace H := H.2.2.2.2.2.2.2.2.2.2.1 hx1_10
    refine aw_tableIn (off := 150) (tgt := 158) dX10_count_8 (by rw [hx1_10]; decide) (by rw [hx1_10]; decide) (by rw [hx1_10]; decide) (by decide) ?_
    refine aw_iconst (v := 0) dX10_count_158 (by decide) ?_
    refine aw_istore_n (ls' := [(3, .int (0 : Int32)), (2, .int (0 : Int32)), (0, .ref (ad 0)), (1, .int x1)]) dX10_count_159 rfl (by decide) rfl ?_
    exact aw_ls [2, 1, 0] rfl H
  by_cases hx1_11 : x1 = (11 : Int32)
  · replace H := H.2.2.2.2.2.2.2.2.2.2.2.1 hx1_11
    refine aw_tableIn (off := 179) (tgt := 187) dX10_count_8 (by rw [hx1_11]; decide) (by rw [hx1_11]; decide) (by rw [hx1_11]; decide) (by decide) ?_
    refine aw_iconst (v := 0) dX10_count_187 (by decide) ?_
    refine aw_istore_n (ls' := [(3, .int (0 : Int32)), (2, .int (0 : Int32)), (0, .ref (ad 0)), (1, .int x1)]) dX10_count_188 rfl (by decide) rfl ?_
    exact aw_ls [2, 1, 0] rfl H
  by_cases hx1_12 : x1 = (12 : Int32)
  · replace H := H.2.2.2.2.2.2.2.2.2.2.2.2.1 hx1_12
    refine aw_tableIn (off := 208) (tgt := 216) dX10_count_8 (by rw [hx1_12]; decide) (by rw [hx1_12]; decide) (by rw [hx1_12]; decide) (by decide) ?_
    refine aw_aload_n dX10_count_216 rfl 1 rfl ?_
    refine aw_get dX10_count_217 shM0 ckX10 flX10_325 (v := .int ((sI h 0 0 (0 : Int32)).1 0 62)) rfl ?_
    exact aw_iret dX10_count_220 rfl ⟨_, rfl, H⟩
  by_cases hx1_13 : x1 = (13 : Int32)
  · replace H := H.2.2.2.2.2.2.2.2.2.2.2.2.2.1 hx1_13
    refine aw_tableIn (off := 213) (tgt := 221) dX10_count_8 (by rw [hx1_13]; decide) (by rw [hx1_13]; decide) (by rw [hx1_13]; decide) (by decide) ?_
    refine aw_aload_n dX10_count_221 rfl 1 rfl ?_
    refine cvX10_knownMany dX10_count_222 mlX10_522 shM0 (Nat.le_of_ble_eq_true rfl) H (fun z13 h12 H => ?_)
    exact aw_iret dX10_count_225 rfl ⟨_, rfl, H⟩
  by_cases hx1_14 : x1 = (14 : Int32)
  · replace H := H.2.2.2.2.2.2.2.2.2.2.2.2.2.2.1 hx1_14
    refine aw_tableIn (off := 218) (tgt := 226) dX10_count_8 (by rw [hx1_14]; decide) (by rw [hx1_14]; decide) (by rw [hx1_14]; decide) (by decide) ?_
    refine aw_aload_n dX10_count_226 rfl 1 rfl ?_
    refine aw_get dX10_count_227 shM0 ckX10 flX10_332 (v := .int ((sI h 0 0 (0 : Int32)).1 0 53)) rfl ?_
    exact aw_iret dX10_count_230 rfl ⟨_, rfl, H⟩
  replace H := H.2.2.2.2.2.2.2.2.2.2.2.2.2.2.2 hx1_0 hx1_1 hx1_2 hx1_3 hx1_4 hx1_5 hx1_6 hx1_7 hx1_8 hx1_9 hx1_10 hx1_11 hx1_12 hx1_13 hx1_14
  have hx1_0e := tab_ne hx1_0 (a := 0) (by decide)
  have hx1_1e := tab_ne hx1_1 (a := 1) (by decide)
  have hx1_2e := tab_ne hx1_2 (a := 2) (by decide)
  have hx1_3e := tab_ne hx1_3 (a := 3) (by decide)
  have hx1_4e := tab_ne hx1_4 (a := 4) (by decide)
  have hx1_5e := tab_ne hx1_5 (a := 5) (by decide)
  have hx1_6e := tab_ne hx1_6 (a := 6) (by decide)
  have hx1_7e := tab_ne hx1_7 (a := 7) (by decide)
  have hx1_8e := tab_ne hx1_8 (a := 8) (by decide)
  have hx1_9e := tab_ne hx1_9 (a := 9) (by decide)
  have hx1_10e := tab_ne hx1_10 (a := 10) (by decide)
  have hx1_11e := tab_ne hx1_11 (a := 11) (by decide)
  have hx1_12e := tab_ne hx1_12 (a := 12) (by decide)
  have hx1_13e := tab_ne hx1_13 (a := 13) (by decide)
  have hx1_14e := tab_ne hx1_14 (a := 14) (by decide)
  refine aw_tableOut (tgt := 231) dX10_count_8 (by omega) (by decide) ?_
  refine aw_iconst (v := (-1)) dX10_count_231 (by decide) ?_
  exact aw_iret dX10_count_232 rfl ⟨_, rfl, H⟩
set_option maxRecDepth 8000 in
set_option maxHeartbeats 1000000 in
theorem bX10_count_160 {adK adV : Nat → Nat} {l : Launch} {ad : Nat → Nat} {d : Nat} {R : Int32 → aH → Prop}   (x2 : Int32) (x3 : Int32)  (h : aH)
    (H : ((h.1 25 0) ≤ x3 → (R x2 h)) ∧ (¬ (h.1 25 0) ≤ x3 → (vp_in x3 184 ∧ (AW (GM adK adV) l ad (d + 1) mX10_count 160 [(0, .ref (ad 0)), (2, .int (x2 + (h.1 36 x3.toNatClampNeg))), (3, .int (x3 + (1 : Int32)))] [] h (qi R))))) : AW (GM adK adV) l ad (d + 1) mX10_count 160 [(0, .ref (ad 0)), (2, .int x2), (3, .int x3)] [] h (qi R) := by
  refine aw_iload_n dX10_count_160 rfl 2 rfl ?_
  refine aw_aload_n dX10_count_161 rfl 0 rfl ?_
  refine aw_get dX10_count_162 shM0 ckX10 flX10_87 (v := .ref (ad 25)) rfl ?_
  refine aw_iconst (v := 0) dX10_count_165 (by decide) ?_
  refine aw_ialdK (t0 := 0) (j := 0) dX10_count_166 shM25 rfl (by decide) (vp_inK (by decide) (by decide)) ?_
  refine aw_icmp_ge (tgt := 185) dX10_count_167 (by decide) (fun hc2 => ?_) (fun hc2 => ?_)
  · replace H := H.1 hc2
    refine aw_iload_n dX10_count_185 rfl 1 rfl ?_
    exact aw_iret dX10_count_186 rfl ⟨_, rfl, H⟩
  · replace H := H.2 hc2
    refine aw_iload_n dX10_count_170 rfl 1 rfl ?_
    refine aw_aload_n dX10_count_171 rfl 0 rfl ?_
    refine aw_get dX10_count_172 shM0 ckX10 flX10_120 (v := .ref (ad 36)) rfl ?_
    refine aw_iload_n dX10_count_175 rfl 2 rfl ?_
    obtain ⟨hi1, H⟩ := H
    refine aw_ialdK (t0 := 0) (j := x3.toNatClampNeg) dX10_count_176 shM36 rfl rfl hi1 ?_
    refine aw_iadd dX10_count_177 ?_
    refine aw_istore_n (ls' := [(2, .int (x2 + (h.1 36 x3.toNatClampNeg))), (0, .ref (ad 0)), (3, .int x3)]) dX10_count_178 rfl (by decide) rfl ?_
    refine aw_inc (mm := (1)) (ls' := [(3, .int (x3 + (1 : Int32))), (2, .int (x2 + (h.1 36 x3.toNatClampNeg))), (0, .ref (ad 0))]) dX10_count_179 (by decide) (j := 2) rfl (by decide) rfl ?_
    refine aw_goto (tgt := 160) dX10_count_182 (by decide) ?_
    exact aw_ls [2, 1, 0] rfl H
set_option maxRecDepth 8000 in
set_option maxHeartbeats 1000000 in
theorem bX10_count_189 {adK adV : Nat → Nat} {l : Launch} {ad : Nat → Nat} {d : Nat} {R : Int32 → aH → Prop}   (x2 : Int32) (x3 : Int32)  (h : aH)
    (H : ((h.1 2 0) ≤ x3 → (R x2 h)) ∧ (¬ (h.1 2 0) ≤ x3 → (vp_in x3 138 ∧ (AW (GM adK adV) l ad (d + 1) mX10_count 189 [(0, .ref (ad 0)), (2, .int (x2 + (h.1 27 x3.toNatClampNeg))), (3, .int (x3 + (1 : Int32)))] [] h (qi R))))) : AW (GM adK adV) l ad (d + 1) mX10_count 189 [(0, .ref (ad 0)), (2, .int x2), (3, .int x3)] [] h (qi R) := by
  refine aw_iload_n dX10_count_189 rfl 2 rfl ?_
  refine aw_aload_n dX10_count_190 rfl 0 rfl ?_
  refine aw_get dX10_count_191 shM0 ckX10 flX10_13 (v := .ref (ad 2)) rfl ?_
  refine aw_iconst (v := 0) dX10_count_194 (by decide) ?_
  refine aw_ialdK (t0 := 0) (j := 0) dX10_count_195 shM2 rfl (by decide) (vp_inK (by decide) (by decide)) ?_
  refine aw_icmp_ge (tgt := 214) dX10_count_196 (by decide) (fun hc2 => ?_) (fun hc2 => ?_)
  · replace H := H.1 hc2
    refine aw_iload_n dX10_count_214 rfl 1 rfl ?_
    exact aw_iret dX10_count_215 rfl ⟨_, rfl, H⟩
  · replace H := H.2 hc2
    refine aw_iload_n dX10_count_199 rfl 1 rfl ?_
    refine aw_aload_n dX10_count_200 rfl 0 rfl ?_
    refine aw_get dX10_count_201 shM0 ckX10 flX10_93 (v := .ref (ad 27)) rfl ?_
    refine aw_iload_n dX10_count_204 rfl 2 rfl ?_
    obtain ⟨hi1, H⟩ := H
    refine aw_ialdK (t0 := 0) (j := x3.toNatClampNeg) dX10_count_205 shM27 rfl rfl hi1 ?_
    refine aw_iadd dX10_count_206 ?_
    refine aw_istore_n (ls' := [(2, .int (x2 + (h.1 27 x3.toNatClampNeg))), (0, .ref (ad 0)), (3, .int x3)]) dX10_count_207 rfl (by decide) rfl ?_
    refine aw_inc (mm := (1)) (ls' := [(3, .int (x3 + (1 : Int32))), (2, .int (x2 + (h.1 27 x3.toNatClampNeg))), (0, .ref (ad 0))]) dX10_count_208 (by decide) (j := 2) rfl (by decide) rfl ?_
    refine aw_goto (tgt := 189) dX10_count_211 (by decide) ?_
    exact aw_ls [2, 1, 0] rfl H
