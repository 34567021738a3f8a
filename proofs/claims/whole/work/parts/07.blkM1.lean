set_option maxRecDepth 8000 in
set_option maxHeartbeats 1000000 in
theorem bX10_thrown_0 {adK adV : Nat → Nat} {l : Launch} {ad : Nat → Nat} {d : Nat} {R : Int32 → aH → Prop}     (h : aH)
    (H : R (h.1 0 0) h) : AW (GM adK adV) l ad d mX10_thrown 0 [(0, .ref (ad 0))] [] h (qi R) := by
  refine aw_aload_n dX10_thrown_0 rfl 0 rfl ?_
  refine aw_get dX10_thrown_1 shM0 ckX10 flX10_160 (v := .int (h.1 0 0)) rfl ?_
  exact aw_iret dX10_thrown_4 rfl ⟨_, rfl, H⟩
set_option maxRecDepth 8000 in
set_option maxHeartbeats 1000000 in
theorem bX10_feed_0 {adK adV : Nat → Nat} {l : Launch} {ad : Nat → Nat} {d : Nat} {R : Int32 → aH → Prop}   (x1 : Int32) (x2 : Int32) (x3 : Int32) (x4 : Int32) (x5 : Int32)  (h : aH)
    (H : (((sI h 0 0 (0 : Int32)).1 0 2) ≤ (680 : Int32) → (AW (GM adK adV) l ad d mX10_feed 20 [(0, .ref (ad 0)), (1, .int x1), (2, .int x2), (3, .int x3), (4, .int x4), (5, .int x5), (6, .int (0 : Int32))] [] (sI h 0 0 (0 : Int32)) (qi R))) ∧ (¬ ((sI h 0 0 (0 : Int32)).1 0 2) ≤ (680 : Int32) → (R (-1 : Int32) (sI h 0 0 (0 : Int32))))) : AW (GM adK adV) l ad d mX10_feed 0 [(0, .ref (ad 0)), (1, .int x1), (2, .int x2), (3, .int x3), (4, .int x4), (5, .int x5)] [] h (qi R) := by
  refine aw_aload_n dX10_feed_0 rfl 0 rfl ?_
  refine aw_iconst (v := 0) dX10_feed_1 (by decide) ?_
  refine aw_putI dX10_feed_2 shM0 ckX10 flX10_160 rfl (fun _ => rfl) rfl rfl ?_
  refine aw_aload_n dX10_feed_5 rfl 0 rfl ?_
  refine aw_get dX10_feed_6 shM0 ckX10 flX10_163 (v := .int ((sI h 0 0 (0 : Int32)).1 0 2)) rfl ?_
  refine aw_sipush (v := 680) dX10_feed_9 (by decide) ?_
  refine aw_icmp_le (tgt := 17) dX10_feed_12 (by decide) (fun hc1 => ?_) (fun hc1 => ?_)
  · replace H := H.1 hc1
    refine aw_iconst (v := 0) dX10_feed_17 (by decide) ?_
    refine aw_istore (ls' := [(6, .int (0 : Int32)), (0, .ref (ad 0)), (1, .int x1), (2, .int x2), (3, .int x3), (4, .int x4), (5, .int x5)]) dX10_feed_18 (by decide) rfl ?_
    exact aw_ls [1, 2, 3, 4, 5, 6, 0] rfl H
  · replace H := H.2 hc1
    refine aw_iconst (v := (-1)) dX10_feed_15 (by decide) ?_
    exact aw_iret dX10_feed_16 rfl ⟨_, rfl, H⟩
set_option maxRecDepth 8000 in
set_option maxHeartbeats 1000000 in
theorem bX10_feed_20 {adK adV : Nat → Nat} {l : Launch} {ad : Nat → Nat} {d : Nat} {R : Int32 → aH → Prop}   (x1 : Int32) (x2 : Int32) (x3 : Int32) (x4 : Int32) (x5 : Int32) (x6 : Int32)  (h : aH)
    (H : ((20 : Int32) ≤ x6 → (R ((sI h 0 2 ((h.1 0 2) + (20 : Int32))).1 0 2) (sI h 0 2 ((h.1 0 2) + (20 : Int32))))) ∧ (¬ (20 : Int32) ≤ x6 → (((4 : Int32) ≤ x6 → (((8 : Int32) ≤ x6 → (((12 : Int32) ≤ x6 → (((16 : Int32) ≤ x6 → (AW (GM adK adV) l ad d mX10_feed 73 [(0, .ref (ad 0)), (1, .int x1), (2, .int x2), (3, .int x3), (4, .int x4), (5, .int x5), (6, .int x6)] [.int x5] h (qi R))) ∧ (¬ (16 : Int32) ≤ x6 → (AW (GM adK adV) l ad d mX10_feed 73 [(0, .ref (ad 0)), (1, .int x1), (2, .int x2), (3, .int x3), (4, .int x4), (5, .int x5), (6, .int x6)] [.int x4] h (qi R))))) ∧ (¬ (12 : Int32) ≤ x6 → (AW (GM adK adV) l ad d mX10_feed 73 [(0, .ref (ad 0)), (1, .int x1), (2, .int x2), (3, .int x3), (4, .int x4), (5, .int x5), (6, .int x6)] [.int x3] h (qi R))))) ∧ (¬ (8 : Int32) ≤ x6 → (AW (GM adK adV) l ad d mX10_feed 73 [(0, .ref (ad 0)), (1, .int x1), (2, .int x2), (3, .int x3), (4, .int x4), (5, .int x5), (6, .int x6)] [.int x2] h (qi R))))) ∧ (¬ (4 : Int32) ≤ x6 → (AW (GM adK adV) l ad d mX10_feed 73 [(0, .ref (ad 0)), (1, .int x1), (2, .int x2), (3, .int x3), (4, .int x4), (5, .int x5), (6, .int x6)] [.int x1] h (qi R)))))) : AW (GM adK adV) l ad d mX10_feed 20 [(0, .ref (ad 0)), (1, .int x1), (2, .int x2), (3, .int x3), (4, .int x4), (5, .int x5), (6, .int x6)] [] h (qi R) := by
  refine aw_iload dX10_feed_20 6 rfl ?_
  refine aw_bipush (v := 20) dX10_feed_22 (by decide) ?_
  refine aw_icmp_ge (tgt := 110) dX10_feed_24 (by decide) (fun hc5 => ?_) (fun hc5 => ?_)
  · replace H := H.1 hc5
    refine aw_aload_n dX10_feed_110 rfl 0 rfl ?_
    refine aw_dup dX10_feed_111 rfl ?_
    refine aw_get dX10_feed_112 shM0 ckX10 flX10_163 (v := .int (h.1 0 2)) rfl ?_
    refine aw_bipush (v := 20) dX10_feed_115 (by decide) ?_
    refine aw_iadd dX10_feed_117 ?_
    refine aw_putI dX10_feed_118 shM0 ckX10 flX10_163 rfl (fun _ => rfl) rfl rfl ?_
    refine aw_aload_n dX10_feed_121 rfl 0 rfl ?_
    refine aw_get dX10_feed_122 shM0 ckX10 flX10_163 (v := .int ((sI h 0 2 ((h.1 0 2) + (20 : Int32))).1 0 2)) rfl ?_
    exact aw_iret dX10_feed_125 rfl ⟨_, rfl, H⟩
  · replace H := H.2 hc5
    refine aw_iload dX10_feed_27 6 rfl ?_
    refine aw_iconst (v := 4) dX10_feed_29 (by decide) ?_
    refine aw_icmp_ge (tgt := 37) dX10_feed_30 (by decide) (fun hc4 => ?_) (fun hc4 => ?_)
    · replace H := H.1 hc4
      refine aw_iload dX10_feed_37 6 rfl ?_
      refine aw_bipush (v := 8) dX10_feed_39 (by decide) ?_
      refine aw_icmp_ge (tgt := 48) dX10_feed_41 (by decide) (fun hc3 => ?_) (fun hc3 => ?_)
      · replace H := H.1 hc3
        refine aw_iload dX10_feed_48 6 rfl ?_
        refine aw_bipush (v := 12) dX10_feed_50 (by decide) ?_
        refine aw_icmp_ge (tgt := 59) dX10_feed_52 (by decide) (fun hc2 => ?_) (fun hc2 => ?_)
        · replace H := H.1 hc2
          refine aw_iload dX10_feed_59 6 rfl ?_
          refine aw_bipush (v := 16) dX10_feed_61 (by decide) ?_
          refine aw_icmp_ge (tgt := 71) dX10_feed_63 (by decide) (fun hc1 => ?_) (fun hc1 => ?_)
          · replace H := H.1 hc1
            refine aw_iload dX10_feed_71 5 rfl ?_
            exact aw_ls [0, 1, 2, 3, 4, 5, 6] rfl H
          · replace H := H.2 hc1
            refine aw_iload dX10_feed_66 4 rfl ?_
            refine aw_goto (tgt := 73) dX10_feed_68 (by decide) ?_
            exact aw_ls [0, 1, 2, 3, 4, 5, 6] rfl H
        · replace H := H.2 hc2
          refine aw_iload_n dX10_feed_55 rfl 3 rfl ?_
          refine aw_goto (tgt := 73) dX10_feed_56 (by decide) ?_
          exact aw_ls [0, 1, 2, 3, 4, 5, 6] rfl H
      · replace H := H.2 hc3
        refine aw_iload_n dX10_feed_44 rfl 2 rfl ?_
        refine aw_goto (tgt := 73) dX10_feed_45 (by decide) ?_
        exact aw_ls [0, 1, 2, 3, 4, 5, 6] rfl H
    · replace H := H.2 hc4
      refine aw_iload_n dX10_feed_33 rfl 1 rfl ?_
      refine aw_goto (tgt := 73) dX10_feed_34 (by decide) ?_
      exact aw_ls [0, 1, 2, 3, 4, 5, 6] rfl H
set_option maxRecDepth 8000 in
set_option maxHeartbeats 1000000 in
theorem bX10_feed_73 {adK adV : Nat → Nat} {l : Launch} {ad : Nat → Nat} {d : Nat} {R : Int32 → aH → Prop}   (x1 : Int32) (x2 : Int32) (x3 : Int32) (x4 : Int32) (x5 : Int32) (x6 : Int32) (s0 : Int32)  (h : aH)
    (H : vp_in ((h.1 0 2) + x6) 700 ∧ (∀ h2 : aH, h2 = (sI h 1 ((h.1 0 2) + x6).toNatClampNeg ((s0 >>> (((24 : Int32) - ((8 : Int32) * (x6 - x6 / (4 : Int32) * (4 : Int32)))) &&& 31)) &&& (255 : Int32))) → (AW (GM adK adV) l ad d mX10_feed 20 [(0, .ref (ad 0)), (1, .int x1), (2, .int x2), (3, .int x3), (4, .int x4), (5, .int x5), (6, .int (x6 + (1 : Int32)))] [] h2 (qi R)))) : AW (GM adK adV) l ad d mX10_feed 73 [(0, .ref (ad 0)), (1, .int x1), (2, .int x2), (3, .int x3), (4, .int x4), (5, .int x5), (6, .int x6)] [.int s0] h (qi R) := by
  refine aw_istore (ls' := [(7, .int s0), (0, .ref (ad 0)), (1, .int x1), (2, .int x2), (3, .int x3), (4, .int x4), (5, .int x5), (6, .int x6)]) dX10_feed_73 (by decide) rfl ?_
  refine aw_aload_n dX10_feed_75 rfl 1 rfl ?_
  refine aw_get dX10_feed_76 shM0 ckX10 flX10_7 (v := .ref (ad 1)) rfl ?_
  refine aw_aload_n dX10_feed_79 rfl 1 rfl ?_
  refine aw_get dX10_feed_80 shM0 ckX10 flX10_163 (v := .int (h.1 0 2)) rfl ?_
  refine aw_iload dX10_feed_83 7 rfl ?_
  refine aw_iadd dX10_feed_85 ?_
  refine aw_iload dX10_feed_86 0 rfl ?_
  refine aw_bipush (v := 24) dX10_feed_88 (by decide) ?_
  refine aw_bipush (v := 8) dX10_feed_90 (by decide) ?_
  refine aw_iload dX10_feed_92 7 rfl ?_
  refine aw_iconst (v := 4) dX10_feed_94 (by decide) ?_
  refine aw_irem dX10_feed_95 (by decide) ?_
  refine aw_imul dX10_feed_96 ?_
  refine aw_isub dX10_feed_97 ?_
  refine aw_ishr dX10_feed_98 ?_
  refine aw_sipush (v := 255) dX10_feed_99 (by decide) ?_
  refine aw_iand dX10_feed_102 ?_
  obtain ⟨hi1, H⟩ := H
  refine aw_iastK (t0 := 0) (j := ((h.1 0 2) + x6).toNatClampNeg) dX10_feed_103 shM1 rfl rfl hi1 ?_
  refine aw_toph (fun h2 eh2 => ?_)
  replace H := H h2 eh2
  refine aw_inc (mm := (1)) (ls' := [(6, .int (x6 + (1 : Int32))), (7, .int s0), (0, .ref (ad 0)), (1, .int x1), (2, .int x2), (3, .int x3), (4, .int x4), (5, .int x5)]) dX10_feed_104 (by decide) (j := 7) rfl (by decide) rfl ?_
  refine aw_goto (tgt := 20) dX10_feed_107 (by decide) ?_
  exact aw_ls [2, 3, 4, 5, 6, 7, 0] rfl H
set_option maxRecDepth 8000 in
set_option maxHeartbeats 1000000 in
theorem bX10_here_0 {adK adV : Nat → Nat} {l : Launch} {ad : Nat → Nat} {d : Nat} {R : Int32 → aH → Prop}     (h : aH)
    (H : ((h.1 0 24) ≤ (h.1 0 25) → (R (-1 : Int32) h)) ∧ (¬ (h.1 0 24) ≤ (h.1 0 25) → (vp_in (h.1 0 25) 700 ∧ (R (h.1 1 (h.1 0 25).toNatClampNeg) h)))) : AW (GM adK adV) l ad d mX10_here 0 [(0, .ref (ad 0))] [] h (qi R) := by
  refine aw_aload_n dX10_here_0 rfl 0 rfl ?_
  refine aw_get dX10_here_1 shM0 ckX10 flX10_166 (v := .int (h.1 0 25)) rfl ?_
  refine aw_aload_n dX10_here_4 rfl 0 rfl ?_
  refine aw_get dX10_here_5 shM0 ckX10 flX10_169 (v := .int (h.1 0 24)) rfl ?_
  refine aw_icmp_ge (tgt := 23) dX10_here_8 (by decide) (fun hc2 => ?_) (fun hc2 => ?_)
  · replace H := H.1 hc2
    refine aw_iconst (v := (-1)) dX10_here_23 (by decide) ?_
    exact aw_iret dX10_here_24 rfl ⟨_, rfl, H⟩
  · replace H := H.2 hc2
    refine aw_aload_n dX10_here_11 rfl 0 rfl ?_
    refine aw_get dX10_here_12 shM0 ckX10 flX10_7 (v := .ref (ad 1)) rfl ?_
    refine aw_aload_n dX10_here_15 rfl 0 rfl ?_
    refine aw_get dX10_here_16 shM0 ckX10 flX10_166 (v := .int (h.1 0 25)) rfl ?_
    obtain ⟨hi1, H⟩ := H
    refine aw_ialdK (t0 := 0) (j := (h.1 0 25).toNatClampNeg) dX10_here_19 shM1 rfl rfl hi1 ?_
    refine aw_goto (tgt := 24) dX10_here_20 (by decide) ?_
    exact aw_iret dX10_here_24 rfl ⟨_, rfl, H⟩
set_option maxRecDepth 8000 in
set_option maxHeartbeats 1000000 in
theorem bX10_isSmall_0 {adK adV : Nat → Nat} {l : Launch} {ad : Nat → Nat} {d : Nat} {R : Int32 → aH → Prop}   (x0 : Int32)  (h : aH)
    (H : (x0 < (97 : Int32) → (R (0 : Int32) h)) ∧ (¬ x0 < (97 : Int32) → (((122 : Int32) < x0 → (R (0 : Int32) h)) ∧ (¬ (122 : Int32) < x0 → (R (1 : Int32) h))))) : AW (GM adK adV) l ad d mX10_isSmall 0 [(0, .int x0)] [] h (qi R) := by
  refine aw_iload_n dX10_isSmall_0 rfl 0 rfl ?_
  refine aw_bipush (v := 97) dX10_isSmall_1 (by decide) ?_
  refine aw_icmp_lt (tgt := 16) dX10_isSmall_3 (by decide) (fun hc2 => ?_) (fun hc2 => ?_)
  · replace H := H.1 hc2
    refine aw_iconst (v := 0) dX10_isSmall_16 (by decide) ?_
    exact aw_zret dX10_isSmall_17 rfl (by decide) ⟨_, rfl, H⟩
  · replace H := H.2 hc2
    refine aw_iload_n dX10_isSmall_6 rfl 0 rfl ?_
    refine aw_bipush (v := 122) dX10_isSmall_7 (by decide) ?_
    refine aw_icmp_gt (tgt := 16) dX10_isSmall_9 (by decide) (fun hc1 => ?_) (fun hc1 => ?_)
    · replace H := H.1 hc1
      refine aw_iconst (v := 0) dX10_isSmall_16 (by decide) ?_
      exact aw_zret dX10_isSmall_17 rfl (by decide) ⟨_, rfl, H⟩
    · replace H := H.2 hc1
      refine aw_iconst (v := 1) dX10_isSmall_12 (by decide) ?_
      refine aw_goto (tgt := 17) dX10_isSmall_13 (by decide) ?_
      exact aw_zret dX10_isSmall_17 rfl (by decide) ⟨_, rfl, H⟩
set_option maxRecDepth 8000 in
set_option maxHeartbeats 1000000 in
theorem bX10_isDigit_0 {adK adV : Nat → Nat} {l : Launch} {ad : Nat → Nat} {d : Nat} {R : Int32 → aH → Prop}   (x0 : Int32)  (h : aH)
    (H : (x0 < (48 : Int32) → (R (0 : Int32) h)) ∧ (¬ x0 < (48 : Int32) → (((57 : Int32) < x0 → (R (0 : Int32) h)) ∧ (¬ (57 : Int32) < x0 → (R (1 : Int32) h))))) : AW (GM adK adV) l ad d mX10_isDigit 0 [(0, .int x0)] [] h (qi R) := by
  refine aw_iload_n dX10_isDigit_0 rfl 0 rfl ?_
  refine aw_bipush (v := 48) dX10_isDigit_1 (by decide) ?_
  refine aw_icmp_lt (tgt := 16) dX10_isDigit_3 (by decide) (fun hc2 => ?_) (fun hc2 => ?_)
  · replace H := H.1 hc2
    refine aw_iconst (v := 0) dX10_isDigit_16 (by decide) ?_
    exact aw_zret dX10_isDigit_17 rfl (by decide) ⟨_, rfl, H⟩
  · replace H := H.2 hc2
    refine aw_iload_n dX10_isDigit_6 rfl 0 rfl ?_
    refine aw_bipush (v := 57) dX10_isDigit_7 (by decide) ?_
    refine aw_icmp_gt (tgt := 16) dX10_isDigit_9 (by decide) (fun hc1 => ?_) (fun hc1 => ?_)
    · replace H := H.1 hc1
      refine aw_iconst (v := 0) dX10_isDigit_16 (by decide) ?_
      exact aw_zret dX10_isDigit_17 rfl (by decide) ⟨_, rfl, H⟩
    · replace H := H.2 hc1
      refine aw_iconst (v := 1) dX10_isDigit_12 (by decide) ?_
      refine aw_goto (tgt := 17) dX10_isDigit_13 (by decide) ?_
      exact aw_zret dX10_isDigit_17 rfl (by decide) ⟨_, rfl, H⟩
set_option maxRecDepth 8000 in
set_option maxHeartbeats 1000000 in
theorem bX10_token_0 {adK adV : Nat → Nat} {l : Launch} {ad : Nat → Nat} {d : Nat} {R : aH → Prop}     (h : aH)
    (H : AW (GM adK adV) l ad d mX10_here 0 [(0, .ref (ad 0))] [] h (qi fun z2 h1 => (z2 = (10 : Int32) → (AW (GM adK adV) l ad (d + 1) mX10_token 0 [(0, .ref (ad 0))] [] (sI h1 0 25 ((h1.1 0 25) + (1 : Int32))) (qv R))) ∧ (¬ z2 = (10 : Int32) → (AW (GM adK adV) l ad d mX10_here 0 [(0, .ref (ad 0))] [] h1 (qi fun z4 h3 => (¬ z4 = (32 : Int32) → (AW (GM adK adV) l ad d mX10_here 0 [(0, .ref (ad 0))] [] (sI h3 0 26 (h3.1 0 25)) (qi fun z6 h5 => (¬ z6 = (-1 : Int32) → (AW (GM adK adV) l ad d mX10_isSmall 0 [(0, .int z6)] [] h5 (qi fun z8 h7 => (z8 = 0 → (AW (GM adK adV) l ad d mX10_isDigit 0 [(0, .int z6)] [] h7 (qi fun z10 h9 => (z10 = 0 → (AW (GM adK adV) l ad d mX10_sign 0 [(0, .ref (ad 0)), (1, .int z6)] [] h9 (qv fun h11 => R h11))) ∧ (¬ z10 = 0 → (AW (GM adK adV) l ad (d + 1) mX10_token 162 [(0, .ref (ad 0))] [] (sI (sI h9 0 27 (2 : Int32)) 0 28 (0 : Int32)) (qv R)))))) ∧ (¬ z8 = 0 → (AW (GM adK adV) l ad (d + 1) mX10_token 64 [(0, .ref (ad 0))] [] h7 (qv R)))))) ∧ (z6 = (-1 : Int32) → (R (sI h5 0 27 (4 : Int32))))))) ∧ (z4 = (32 : Int32) → (AW (GM adK adV) l ad (d + 1) mX10_token 0 [(0, .ref (ad 0))] [] (sI h3 0 25 ((h3.1 0 25) + (1 : Int32))) (qv R)))))))) : AW (GM adK adV) l ad (d + 1) mX10_token 0 [(0, .ref (ad 0))] [] h (qv R) := by
  refine aw_aload_n dX10_token_0 rfl 0 rfl ?_
  refine cvX10_here dX10_token_1 mlX10_172 shM0 (Nat.le_of_ble_eq_true rfl) H (fun z2 h1 H => ?_)
  refine aw_bipush (v := 10) dX10_token_4 (by decide) ?_
  refine aw_icmp_eq (tgt := 18) dX10_token_6 (by decide) (fun hc17 => ?_) (fun hc17 => ?_)
  · replace H := H.1 hc17
    refine aw_aload_n dX10_token_18 rfl 0 rfl ?_
    refine aw_dup dX10_token_19 rfl ?_
    refine aw_get dX10_token_20 shM0 ckX10 flX10_166 (v := .int (h1.1 0 25)) rfl ?_
    refine aw_iconst (v := 1) dX10_token_23 (by decide) ?_
    refine aw_iadd dX10_token_24 ?_
    refine aw_putI dX10_token_25 shM0 ckX10 flX10_166 rfl (fun _ => rfl) rfl rfl ?_
    refine aw_goto (tgt := 0) dX10_token_28 (by decide) ?_
    exact aw_ls [0] rfl H
  · replace H := H.2 hc17
    refine aw_aload_n dX10_token_9 rfl 0 rfl ?_
    refine cvX10_here dX10_token_10 mlX10_172 shM0 (Nat.le_of_ble_eq_true rfl) H (fun z4 h3 H => ?_)
    refine aw_bipush (v := 32) dX10_token_13 (by decide) ?_
    refine aw_icmp_ne (tgt := 31) dX10_token_15 (by decide) (fun hc16 => ?_) (fun hc16 => ?_)
    · replace H := H.1 hc16
      refine aw_aload_n dX10_token_31 rfl 0 rfl ?_
      refine aw_aload_n dX10_token_32 rfl 0 rfl ?_
      refine aw_get dX10_token_33 shM0 ckX10 flX10_166 (v := .int (h3.1 0 25)) rfl ?_
      refine aw_putI dX10_token_36 shM0 ckX10 flX10_176 rfl (fun _ => rfl) rfl rfl ?_
      refine aw_aload_n dX10_token_39 rfl 0 rfl ?_
      refine cvX10_here dX10_token_40 mlX10_172 shM0 (Nat.le_of_ble_eq_true rfl) H (fun z6 h5 H => ?_)
      refine aw_istore_n (ls' := [(1, .int z6), (0, .ref (ad 0))]) dX10_token_43 rfl (by decide) rfl ?_
      refine aw_iload_n dX10_token_44 rfl 0 rfl ?_
      refine aw_iconst (v := (-1)) dX10_token_45 (by decide) ?_
      refine aw_icmp_ne (tgt := 57) dX10_token_46 (by decide) (fun hc15 => ?_) (fun hc15 => ?_)
      · replace H := H.1 hc15
        refine aw_iload_n dX10_token_57 rfl 0 rfl ?_
        refine cvX10_isSmall dX10_token_58 mlX10_182 (Nat.le_of_ble_eq_true rfl) H (fun z8 h7 H => ?_)
        refine aw_if_eq (tgt := 145) dX10_token_61 (by decide) (fun hc14 => ?_) (fun hc14 => ?_)
        · replace H := H.1 hc14
          refine aw_iload_n dX10_token_145 rfl 0 rfl ?_
          refine cvX10_isDigit dX10_token_146 mlX10_195 (Nat.le_of_ble_eq_true rfl) H (fun z10 h9 H => ?_)
          refine aw_if_eq (tgt := 220) dX10_token_149 (by decide) (fun hc13 => ?_) (fun hc13 => ?_)
          · replace H := H.1 hc13
            refine aw_aload_n dX10_token_220 rfl 1 rfl ?_
            refine aw_iload_n dX10_token_221 rfl 0 rfl ?_
            refine cvX10_sign dX10_token_222 mlX10_199 shM0 (Nat.le_of_ble_eq_true rfl) H (fun h11 H => ?_)
            exact aw_vret dX10_token_225 rfl ⟨rfl, H⟩
          · replace H := H.2 hc13
            refine aw_aload_n dX10_token_152 rfl 1 rfl ?_
            refine aw_iconst (v := 2) dX10_token_153 (by decide) ?_
            refine aw_putI dX10_token_154 shM0 ckX10 flX10_179 rfl (fun _ => rfl) rfl rfl ?_
            refine aw_aload_n dX10_token_157 rfl 1 rfl ?_
            refine aw_iconst (v := 0) dX10_token_158 (by decide) ?_
            refine aw_putI dX10_token_159 shM0 ckX10 flX10_189 rfl (fun _ => rfl) rfl rfl ?_
            exact aw_ls [1] rfl H
        · replace H := H.2 hc14
          exact aw_ls [1] rfl H
      · replace H := H.2 hc15
        refine aw_aload_n dX10_token_49 rfl 1 rfl ?_
        refine aw_iconst (v := 4) dX10_token_50 (by decide) ?_
        refine aw_putI dX10_token_51 shM0 ckX10 flX10_179 rfl (fun _ => rfl) rfl rfl ?_
        refine aw_goto (tgt := 225) dX10_token_54 (by decide) ?_
        exact aw_vret dX10_token_225 rfl ⟨rfl, H⟩
    · replace H := H.2 hc16
      refine aw_aload_n dX10_token_18 rfl 0 rfl ?_
      refine aw_dup dX10_token_19 rfl ?_
      refine aw_get dX10_token_20 shM0 ckX10 flX10_166 (v := .int (h3.1 0 25)) rfl ?_
      refine aw_iconst (v := 1) dX10_token_23 (by decide) ?_
      refine aw_iadd dX10_token_24 ?_
      refine aw_putI dX10_token_25 shM0 ckX10 flX10_166 rfl (fun _ => rfl) rfl rfl ?_
      refine aw_goto (tgt := 0) dX10_token_28 (by decide) ?_
      exact aw_ls [0] rfl H
set_option maxRecDepth 8000 in
set_option maxHeartbeats 1000000 in
theorem bX10_token_64 {adK adV : Nat → Nat} {l : Launch} {ad : Nat → Nat} {d : Nat} {R : aH → Prop}     (h : aH)
    (H : AW (GM adK adV) l ad d mX10_here 0 [(0, .ref (ad 0))] [] h (qi fun z2 h1 => AW (GM adK adV) l ad d mX10_isSmall 0 [(0, .int z2)] [] h1 (qi fun z4 h3 => (z4 = 0 → (AW (GM adK adV) l ad d mX10_word 0 [(0, .ref (ad 0))] [] h3 (qi fun z6 h5 => (((sI h5 0 28 z6).1 0 28) = (-1 : Int32) → (((((sI h5 0 28 z6).1 0 25) - ((sI h5 0 28 z6).1 0 26)) ≤ (6 : Int32) → (AW (GM adK adV) l ad (d + 1) mX10_token 127 [(0, .ref (ad 0))] [.int (1 : Int32), .ref (ad 0)] (sI h5 0 28 z6) (qv R))) ∧ (¬ (((sI h5 0 28 z6).1 0 25) - ((sI h5 0 28 z6).1 0 26)) ≤ (6 : Int32) → (AW (GM adK adV) l ad (d + 1) mX10_token 127 [(0, .ref (ad 0))] [.int (5 : Int32), .ref (ad 0)] (sI h5 0 28 z6) (qv R))))) ∧ (¬ ((sI h5 0 28 z6).1 0 28) = (-1 : Int32) → (AW (GM adK adV) l ad (d + 1) mX10_token 127 [(0, .ref (ad 0))] [.int (0 : Int32), .ref (ad 0)] (sI h5 0 28 z6) (qv R)))))) ∧ (¬ z4 = 0 → (AW (GM adK adV) l ad (d + 1) mX10_token 64 [(0, .ref (ad 0))] [] (sI h3 0 25 ((h3.1 0 25) + (1 : Int32))) (qv R)))))) : AW (GM adK adV) l ad (d + 1) mX10_token 64 [(0, .ref (ad 0))] [] h (qv R) := by
  refine aw_aload_n dX10_token_64 rfl 0 rfl ?_
  refine cvX10_here dX10_token_65 mlX10_172 shM0 (Nat.le_of_ble_eq_true rfl) H (fun z2 h1 H => ?_)
  refine cvX10_isSmall dX10_token_68 mlX10_182 (Nat.le_of_ble_eq_true rfl) H (fun z4 h3 H => ?_)
  refine aw_if_eq (tgt := 87) dX10_token_71 (by decide) (fun hc9 => ?_) (fun hc9 => ?_)
  · replace H := H.1 hc9
    refine aw_aload_n dX10_token_87 rfl 0 rfl ?_
    refine aw_aload_n dX10_token_88 rfl 0 rfl ?_
    refine cvX10_word dX10_token_89 mlX10_186 shM0 (Nat.le_of_ble_eq_true rfl) H (fun z6 h5 H => ?_)
    refine aw_putI dX10_token_92 shM0 ckX10 flX10_189 rfl (fun _ => rfl) rfl rfl ?_
    refine aw_aload_n dX10_token_95 rfl 0 rfl ?_
    refine aw_aload_n dX10_token_96 rfl 0 rfl ?_
    refine aw_get dX10_token_97 shM0 ckX10 flX10_189 (v := .int ((sI h5 0 28 z6).1 0 28)) rfl ?_
    refine aw_iconst (v := (-1)) dX10_token_100 (by decide) ?_
    refine aw_icmp_eq (tgt := 108) dX10_token_101 (by decide) (fun hc8 => ?_) (fun hc8 => ?_)
    · replace H := H.1 hc8
      refine aw_aload_n dX10_token_108 rfl 0 rfl ?_
      refine aw_get dX10_token_109 shM0 ckX10 flX10_166 (v := .int ((sI h5 0 28 z6).1 0 25)) rfl ?_
      refine aw_aload_n dX10_token_112 rfl 0 rfl ?_
      refine aw_get dX10_token_113 shM0 ckX10 flX10_176 (v := .int ((sI h5 0 28 z6).1 0 26)) rfl ?_
      refine aw_isub dX10_token_116 ?_
      refine aw_bipush (v := 6) dX10_token_117 (by decide) ?_
      refine aw_icmp_le (tgt := 126) dX10_token_119 (by decide) (fun hc7 => ?_) (fun hc7 => ?_)
      · replace H := H.1 hc7
        refine aw_iconst (v := 1) dX10_token_126 (by decide) ?_
        exact aw_ls [0] rfl H
      · replace H := H.2 hc7
        refine aw_iconst (v := 5) dX10_token_122 (by decide) ?_
        refine aw_goto (tgt := 127) dX10_token_123 (by decide) ?_
        exact aw_ls [0] rfl H
    · replace H := H.2 hc8
      refine aw_iconst (v := 0) dX10_token_104 (by decide) ?_
      refine aw_goto (tgt := 127) dX10_token_105 (by decide) ?_
      exact aw_ls [0] rfl H
  · replace H := H.2 hc9
    refine aw_aload_n dX10_token_74 rfl 0 rfl ?_
    refine aw_dup dX10_token_75 rfl ?_
    refine aw_get dX10_token_76 shM0 ckX10 flX10_166 (v := .int (h3.1 0 25)) rfl ?_
    refine aw_iconst (v := 1) dX10_token_79 (by decide) ?_
    refine aw_iadd dX10_token_80 ?_
    refine aw_putI dX10_token_81 shM0 ckX10 flX10_166 rfl (fun _ => rfl) rfl rfl ?_
    refine aw_goto (tgt := 64) dX10_token_84 (by decide) ?_
    exact aw_ls [0] rfl H
set_option maxRecDepth 8000 in
set_option maxHeartbeats 1000000 in
theorem bX10_token_127 {adK adV : Nat → Nat} {l : Launch} {ad : Nat → Nat} {d : Nat} {R : aH → Prop}   (s0 : Int32)  (h : aH)
    (H : (¬ ((sI h 0 27 s0).1 0 27) = (1 : Int32) → (R (sI h 0 27 s0))) ∧ (((sI h 0 27 s0).1 0 27) = (1 : Int32) → (AW (GM adK adV) l ad d mX10_name 0 [(0, .ref (ad 0))] [] (sI h 0 27 s0) (qv fun h1 => R h1)))) : AW (GM adK adV) l ad (d + 1) mX10_token 127 [(0, .ref (ad 0))] [.int s0, .ref (ad 0)] h (qv R) := by
  refine aw_putI dX10_token_127 shM0 ckX10 flX10_179 rfl (fun _ => rfl) rfl rfl ?_
  refine aw_aload_n dX10_token_130 rfl 0 rfl ?_
  refine aw_get dX10_token_131 shM0 ckX10 flX10_179 (v := .int ((sI h 0 27 s0).1 0 27)) rfl ?_
  refine aw_iconst (v := 1) dX10_token_134 (by decide) ?_
  refine aw_icmp_ne (tgt := 225) dX10_token_135 (by decide) (fun hc3 => ?_) (fun hc3 => ?_)
  · replace H := H.1 hc3
    exact aw_vret dX10_token_225 rfl ⟨rfl, H⟩
  · replace H := H.2 hc3
    refine aw_aload_n dX10_token_138 rfl 0 rfl ?_
    refine cvX10_name dX10_token_139 mlX10_192 shM0 (Nat.le_of_ble_eq_true rfl) H (fun h1 H => ?_)
    refine aw_goto (tgt := 225) dX10_token_142 (by decide) ?_
    exact aw_vret dX10_token_225 rfl ⟨rfl, H⟩
set_option maxRecDepth 8000 in
set_option maxHeartbeats 1000000 in
theorem bX10_token_162 {adK adV : Nat → Nat} {l : Launch} {ad : Nat → Nat} {d : Nat} {R : aH → Prop}     (h : aH)
    (H : AW (GM adK adV) l ad d mX10_here 0 [(0, .ref (ad 0))] [] h (qi fun z2 h1 => AW (GM adK adV) l ad d mX10_isDigit 0 [(0, .int z2)] [] h1 (qi fun z4 h3 => (z4 = 0 → (R h3)) ∧ (¬ z4 = 0 → (((h3.1 0 28) ≤ (99999 : Int32) → (AW (GM adK adV) l ad d mX10_here 0 [(0, .ref (ad 0))] [] h3 (qi fun z6 h5 => ∀ h7 : aH, h7 = (sI (sI h5 0 28 ((((10 : Int32) * (h3.1 0 28)) + z6) - (48 : Int32))) 0 25 (((sI h5 0 28 ((((10 : Int32) * (h3.1 0 28)) + z6) - (48 : Int32))).1 0 25) + (1 : Int32))) → (AW (GM adK adV) l ad (d + 1) mX10_token 162 [(0, .ref (ad 0))] [] h7 (qv R))))) ∧ (¬ (h3.1 0 28) ≤ (99999 : Int32) → (AW (GM adK adV) l ad (d + 1) mX10_token 162 [(0, .ref (ad 0))] [] (sI (sI h3 0 28 (h3.1 0 28)) 0 25 (((sI h3 0 28 (h3.1 0 28)).1 0 25) + (1 : Int32))) (qv R)))))))) : AW (GM adK adV) l ad (d + 1) mX10_token 162 [(0, .ref (ad 0))] [] h (qv R) := by
  refine aw_aload_n dX10_token_162 rfl 0 rfl ?_
  refine cvX10_here dX10_token_163 mlX10_172 shM0 (Nat.le_of_ble_eq_true rfl) H (fun z2 h1 H => ?_)
  refine cvX10_isDigit dX10_token_166 mlX10_195 (Nat.le_of_ble_eq_true rfl) H (fun z4 h3 H => ?_)
  refine aw_if_eq (tgt := 225) dX10_token_169 (by decide) (fun hc9 => ?_) (fun hc9 => ?_)
  · replace H := H.1 hc9
    exact aw_vret dX10_token_225 rfl ⟨rfl, H⟩
  · replace H := H.2 hc9
    refine aw_aload_n dX10_token_172 rfl 0 rfl ?_
    refine aw_aload_n dX10_token_173 rfl 0 rfl ?_
    refine aw_get dX10_token_174 shM0 ckX10 flX10_189 (v := .int (h3.1 0 28)) rfl ?_
    refine aw_ldc dX10_token_177 coX10_198 ?_
    refine aw_icmp_le (tgt := 189) dX10_token_179 (by decide) (fun hc8 => ?_) (fun hc8 => ?_)
    · replace H := H.1 hc8
      refine aw_bipush (v := 10) dX10_token_189 (by decide) ?_
      refine aw_aload_n dX10_token_191 rfl 0 rfl ?_
      refine aw_get dX10_token_192 shM0 ckX10 flX10_189 (v := .int (h3.1 0 28)) rfl ?_
      refine aw_imul dX10_token_195 ?_
      refine aw_aload_n dX10_token_196 rfl 0 rfl ?_
      refine cvX10_here dX10_token_197 mlX10_172 shM0 (Nat.le_of_ble_eq_true rfl) H (fun z6 h5 H => ?_)
      refine aw_iadd dX10_token_200 ?_
      refine aw_bipush (v := 48) dX10_token_201 (by decide) ?_
      refine aw_isub dX10_token_203 ?_
      refine aw_putI dX10_token_204 shM0 ckX10 flX10_189 rfl (fun _ => rfl) rfl rfl ?_
      refine aw_aload_n dX10_token_207 rfl 0 rfl ?_
      refine aw_dup dX10_token_208 rfl ?_
      refine aw_get dX10_token_209 shM0 ckX10 flX10_166 (v := .int ((sI h5 0 28 ((((10 : Int32) * (h3.1 0 28)) + z6) - (48 : Int32))).1 0 25)) rfl ?_
      refine aw_iconst (v := 1) dX10_token_212 (by decide) ?_
      refine aw_iadd dX10_token_213 ?_
      refine aw_putI dX10_token_214 shM0 ckX10 flX10_166 rfl (fun _ => rfl) rfl rfl ?_
      refine aw_toph (fun h7 eh7 => ?_)
      replace H := H h7 eh7
      refine aw_goto (tgt := 162) dX10_token_217 (by decide) ?_
      exact aw_ls [0] rfl H
    · replace H := H.2 hc8
      refine aw_aload_n dX10_token_182 rfl 0 rfl ?_
      refine aw_get dX10_token_183 shM0 ckX10 flX10_189 (v := .int (h3.1 0 28)) rfl ?_
      refine aw_goto (tgt := 204) dX10_token_186 (by decide) ?_
      refine aw_putI dX10_token_204 shM0 ckX10 flX10_189 rfl (fun _ => rfl) rfl rfl ?_
      refine aw_aload_n dX10_token_207 rfl 0 rfl ?_
      refine aw_dup dX10_token_208 rfl ?_
      refine aw_get dX10_token_209 shM0 ckX10 flX10_166 (v := .int ((sI h3 0 28 (h3.1 0 28)).1 0 25)) rfl ?_
      refine aw_iconst (v := 1) dX10_token_212 (by decide) ?_
      refine aw_iadd dX10_token_213 ?_
      refine aw_putI dX10_token_214 shM0 ckX10 flX10_166 rfl (fun _ => rfl) rfl rfl ?_
      refine aw_goto (tgt := 162) dX10_token_217 (by decide) ?_
      exact aw_ls [0] rfl H
set_option maxRecDepth 8000 in
set_option maxHeartbeats 1000000 in
theorem bX10_sign_0 {adK adV : Nat → Nat} {l : Launch} {ad : Nat → Nat} {d : Nat} {R : aH → Prop}   (x1 : Int32)  (h : aH)
    (H : (x1 = (59 : Int32) → (AW (GM adK adV) l ad (d + 1) mX10_sign 71 [(0, .ref (ad 0)), (1, .int x1)] [.ref (ad 0)] (sI h 0 25 ((h.1 0 25) + (1 : Int32))) (qv R))) ∧ (¬ x1 = (59 : Int32) → ((x1 = (40 : Int32) → (AW (GM adK adV) l ad (d + 1) mX10_sign 71 [(0, .ref (ad 0)), (1, .int x1)] [.ref (ad 0)] (sI h 0 25 ((h.1 0 25) + (1 : Int32))) (qv R))) ∧ (¬ x1 = (40 : Int32) → ((x1 = (41 : Int32) → (AW (GM adK adV) l ad (d + 1) mX10_sign 71 [(0, .ref (ad 0)), (1, .int x1)] [.ref (ad 0)] (sI h 0 25 ((h.1 0 25) + (1 : Int32))) (qv R))) ∧ (¬ x1 = (41 : Int32) → ((x1 = (43 : Int32) → (AW (GM adK adV) l ad (d + 1) mX10_sign 71 [(0, .ref (ad 0)), (1, .int x1)] [.ref (ad 0)] (sI h 0 25 ((h.1 0 25) + (1 : Int32))) (qv R))) ∧ (¬ x1 = (43 : Int32) → ((x1 = (45 : Int32) → (AW (GM adK adV) l ad (d + 1) mX10_sign 71 [(0, .ref (ad 0)), (1, .int x1)] [.ref (ad 0)] (sI h 0 25 ((h.1 0 25) + (1 : Int32))) (qv R))) ∧ (¬ x1 = (45 : Int32) → ((x1 = (42 : Int32) → (AW (GM adK adV) l ad (d + 1) mX10_sign 71 [(0, .ref (ad 0)), (1, .int x1)] [.ref (ad 0)] (sI h 0 25 ((h.1 0 25) + (1 : Int32))) (qv R))) ∧ (¬ x1 = (42 : Int32) → ((x1 = (47 : Int32) → (AW (GM adK adV) l ad (d + 1) mX10_sign 71 [(0, .ref (ad 0)), (1, .int x1)] [.ref (ad 0)] (sI h 0 25 ((h.1 0 25) + (1 : Int32))) (qv R))) ∧ (¬ x1 = (47 : Int32) → ((x1 = (60 : Int32) → (AW (GM adK adV) l ad (d + 1) mX10_sign 71 [(0, .ref (ad 0)), (1, .int x1)] [.ref (ad 0)] (sI h 0 25 ((h.1 0 25) + (1 : Int32))) (qv R))) ∧ (¬ x1 = (60 : Int32) → ((x1 = (61 : Int32) → (AW (GM adK adV) l ad (d + 1) mX10_sign 71 [(0, .ref (ad 0)), (1, .int x1)] [.ref (ad 0)] (sI h 0 25 ((h.1 0 25) + (1 : Int32))) (qv R))) ∧ (¬ x1 = (61 : Int32) → ((¬ x1 = (62 : Int32) → (AW (GM adK adV) l ad (d + 1) mX10_sign 76 [(0, .ref (ad 0)), (1, .int x1)] [.int (5 : Int32), .ref (ad 0)] (sI h 0 25 ((h.1 0 25) + (1 : Int32))) (qv R))) ∧ (x1 = (62 : Int32) → (AW (GM adK adV) l ad (d + 1) mX10_sign 71 [(0, .ref (ad 0)), (1, .int x1)] [.ref (ad 0)] (sI h 0 25 ((h.1 0 25) + (1 : Int32))) (qv R)))))))))))))))))))))) : AW (GM adK adV) l ad (d + 1) mX10_sign 0 [(0, .ref (ad 0)), (1, .int x1)] [] h (qv R) := by
  refine aw_aload_n dX10_sign_0 rfl 0 rfl ?_
  refine aw_dup dX10_sign_1 rfl ?_
  refine aw_get dX10_sign_2 shM0 ckX10 flX10_166 (v := .int (h.1 0 25)) rfl ?_
  refine aw_iconst (v := 1) dX10_sign_5 (by decide) ?_
  refine aw_iadd dX10_sign_6 ?_
  refine aw_putI dX10_sign_7 shM0 ckX10 flX10_166 rfl (fun _ => rfl) rfl rfl ?_
  refine aw_aload_n dX10_sign_10 rfl 0 rfl ?_
  refine aw_iload_n dX10_sign_11 rfl 1 rfl ?_
  refine aw_bipush (v := 59) dX10_sign_12 (by decide) ?_
  refine aw_icmp_eq (tgt := 71) dX10_sign_14 (by decide) (fun hc10 => ?_) (fun hc10 => ?_)
  · replace H := H.1 hc10
    exact aw_ls [0, 1] rfl H
  · replace H := H.2 hc10
    refine aw_iload_n dX10_sign_17 rfl 1 rfl ?_
    refine aw_bipush (v := 40) dX10_sign_18 (by decide) ?_
    refine aw_icmp_eq (tgt := 71) dX10_sign_20 (by decide) (fun hc9 => ?_) (fun hc9 => ?_)
    · replace H := H.1 hc9
      exact aw_ls [0, 1] rfl H
    · replace H := H.2 hc9
      refine aw_iload_n dX10_sign_23 rfl 1 rfl ?_
      refine aw_bipush (v := 41) dX10_sign_24 (by decide) ?_
      refine aw_icmp_eq (tgt := 71) dX10_sign_26 (by decide) (fun hc8 => ?_) (fun hc8 => ?_)
      · replace H := H.1 hc8
        exact aw_ls [0, 1] rfl H
      · replace H := H.2 hc8
        refine aw_iload_n dX10_sign_29 rfl 1 rfl ?_
        refine aw_bipush (v := 43) dX10_sign_30 (by decide) ?_
        refine aw_icmp_eq (tgt := 71) dX10_sign_32 (by decide) (fun hc7 => ?_) (fun hc7 => ?_)
        · replace H := H.1 hc7
          exact aw_ls [0, 1] rfl H
        · replace H := H.2 hc7
          refine aw_iload_n dX10_sign_35 rfl 1 rfl ?_
          refine aw_bipush (v := 45) dX10_sign_36 (by decide) ?_
          refine aw_icmp_eq (tgt := 71) dX10_sign_38 (by decide) (fun hc6 => ?_) (fun hc6 => ?_)
          · replace H := H.1 hc6
            exact aw_ls [0, 1] rfl H
          · replace H := H.2 hc6
            refine aw_iload_n dX10_sign_41 rfl 1 rfl ?_
            refine aw_bipush (v := 42) dX10_sign_42 (by decide) ?_
            refine aw_icmp_eq (tgt := 71) dX10_sign_44 (by decide) (fun hc5 => ?_) (fun hc5 => ?_)
            · replace H := H.1 hc5
              exact aw_ls [0, 1] rfl H
            · replace H := H.2 hc5
              refine aw_iload_n dX10_sign_47 rfl 1 rfl ?_
              refine aw_bipush (v := 47) dX10_sign_48 (by decide) ?_
              refine aw_icmp_eq (tgt := 71) dX10_sign_50 (by decide) (fun hc4 => ?_) (fun hc4 => ?_)
              · replace H := H.1 hc4
                exact aw_ls [0, 1] rfl H
              · replace H := H.2 hc4
                refine aw_iload_n dX10_sign_53 rfl 1 rfl ?_
                refine aw_bipush (v := 60) dX10_sign_54 (by decide) ?_
                refine aw_icmp_eq (tgt := 71) dX10_sign_56 (by decide) (fun hc3 => ?_) (fun hc3 => ?_)
                · replace H := H.1 hc3
                  exact aw_ls [0, 1] rfl H
                · replace H := H.2 hc3
                  refine aw_iload_n dX10_sign_59 rfl 1 rfl ?_
                  refine aw_bipush (v := 61) dX10_sign_60 (by decide) ?_
                  refine aw_icmp_eq (tgt := 71) dX10_sign_62 (by decide) (fun hc2 => ?_) (fun hc2 => ?_)
                  · replace H := H.1 hc2
                    exact aw_ls [0, 1] rfl H
                  · replace H := H.2 hc2
                    refine aw_iload_n dX10_sign_65 rfl 1 rfl ?_
                    refine aw_bipush (v := 62) dX10_sign_66 (by decide) ?_
                    refine aw_icmp_ne (tgt := 75) dX10_sign_68 (by decide) (fun hc1 => ?_) (fun hc1 => ?_)
                    · replace H := H.1 hc1
                      refine aw_iconst (v := 5) dX10_sign_75 (by decide) ?_
                      exact aw_ls [0, 1] rfl H
                    · replace H := H.2 hc1
                      exact aw_ls [0, 1] rfl H
set_option maxRecDepth 8000 in
set_option maxHeartbeats 1000000 in
theorem bX10_sign_71 {adK adV : Nat → Nat} {l : Launch} {ad : Nat → Nat} {d : Nat} {R : aH → Prop}   (x1 : Int32)  (h : aH)
    (H : AW (GM adK adV) l ad (d + 1) mX10_sign 76 [(0, .ref (ad 0)), (1, .int x1)] [.int (3 : Int32), .ref (ad 0)] h (qv R)) : AW (GM adK adV) l ad (d + 1) mX10_sign 71 [(0, .ref (ad 0)), (1, .int x1)] [.ref (ad 0)] h (qv R) := by
  refine aw_iconst (v := 3) dX10_sign_71 (by decide) ?_
  refine aw_goto (tgt := 76) dX10_sign_72 (by decide) ?_
  exact aw_ls [0, 1] rfl H
set_option maxRecDepth 8000 in
set_option maxHeartbeats 1000000 in
theorem bX10_sign_76 {adK adV : Nat → Nat} {l : Launch} {ad : Nat → Nat} {d : Nat} {R : aH → Prop}   (x1 : Int32) (s0 : Int32)  (h : aH)
    (H : (¬ x1 = (60 : Int32) → (AW (GM adK adV) l ad (d + 1) mX10_sign 106 [(0, .ref (ad 0)), (1, .int x1)] [] (sI (sI h 0 27 s0) 0 28 x1) (qv R))) ∧ (x1 = (60 : Int32) → (AW (GM adK adV) l ad d mX10_here 0 [(0, .ref (ad 0))] [] (sI (sI h 0 27 s0) 0 28 x1) (qi fun z2 h1 => (¬ z2 = (61 : Int32) → (AW (GM adK adV) l ad (d + 1) mX10_sign 106 [(0, .ref (ad 0)), (1, .int x1)] [] h1 (qv R))) ∧ (z2 = (61 : Int32) → (AW (GM adK adV) l ad (d + 1) mX10_sign 106 [(0, .ref (ad 0)), (1, .int x1)] [] (sI h1 0 28 (256 : Int32)) (qv R))))))) : AW (GM adK adV) l ad (d + 1) mX10_sign 76 [(0, .ref (ad 0)), (1, .int x1)] [.int s0, .ref (ad 0)] h (qv R) := by
  refine aw_putI dX10_sign_76 shM0 ckX10 flX10_179 rfl (fun _ => rfl) rfl rfl ?_
  refine aw_aload_n dX10_sign_79 rfl 0 rfl ?_
  refine aw_iload_n dX10_sign_80 rfl 1 rfl ?_
  refine aw_putI dX10_sign_81 shM0 ckX10 flX10_189 rfl (fun _ => rfl) rfl rfl ?_
  refine aw_iload_n dX10_sign_84 rfl 1 rfl ?_
  refine aw_bipush (v := 60) dX10_sign_85 (by decide) ?_
  refine aw_icmp_ne (tgt := 106) dX10_sign_87 (by decide) (fun hc4 => ?_) (fun hc4 => ?_)
  · replace H := H.1 hc4
    exact aw_ls [0, 1] rfl H
  · replace H := H.2 hc4
    refine aw_aload_n dX10_sign_90 rfl 0 rfl ?_
    refine cvX10_here dX10_sign_91 mlX10_172 shM0 (Nat.le_of_ble_eq_true rfl) H (fun z2 h1 H => ?_)
    refine aw_bipush (v := 61) dX10_sign_94 (by decide) ?_
    refine aw_icmp_ne (tgt := 106) dX10_sign_96 (by decide) (fun hc3 => ?_) (fun hc3 => ?_)
    · replace H := H.1 hc3
      exact aw_ls [0, 1] rfl H
    · replace H := H.2 hc3
      refine aw_aload_n dX10_sign_99 rfl 0 rfl ?_
      refine aw_sipush (v := 256) dX10_sign_100 (by decide) ?_
      refine aw_putI dX10_sign_103 shM0 ckX10 flX10_189 rfl (fun _ => rfl) rfl rfl ?_
      exact aw_ls [0, 1] rfl H
set_option maxRecDepth 8000 in
set_option maxHeartbeats 1000000 in
theorem bX10_sign_106 {adK adV : Nat → Nat} {l : Launch} {ad : Nat → Nat} {d : Nat} {R : aH → Prop}   (x1 : Int32)  (h : aH)
    (H : (¬ x1 = (60 : Int32) → (AW (GM adK adV) l ad (d + 1) mX10_sign 128 [(0, .ref (ad 0)), (1, .int x1)] [] h (qv R))) ∧ (x1 = (60 : Int32) → (AW (GM adK adV) l ad d mX10_here 0 [(0, .ref (ad 0))] [] h (qi fun z2 h1 => (¬ z2 = (62 : Int32) → (AW (GM adK adV) l ad (d + 1) mX10_sign 128 [(0, .ref (ad 0)), (1, .int x1)] [] h1 (qv R))) ∧ (z2 = (62 : Int32) → (AW (GM adK adV) l ad (d + 1) mX10_sign 128 [(0, .ref (ad 0)), (1, .int x1)] [] (sI h1 0 28 (257 : Int32)) (qv R))))))) : AW (GM adK adV) l ad (d + 1) mX10_sign 106 [(0, .ref (ad 0)), (1, .int x1)] [] h (qv R) := by
  refine aw_iload_n dX10_sign_106 rfl 1 rfl ?_
  refine aw_bipush (v := 60) dX10_sign_107 (by decide) ?_
  refine aw_icmp_ne (tgt := 128) dX10_sign_109 (by decide) (fun hc4 => ?_) (fun hc4 => ?_)
  · replace H := H.1 hc4
    exact aw_ls [0, 1] rfl H
  · replace H := H.2 hc4
    refine aw_aload_n dX10_sign_112 rfl 0 rfl ?_
    refine cvX10_here dX10_sign_113 mlX10_172 shM0 (Nat.le_of_ble_eq_true rfl) H (fun z2 h1 H => ?_)
    refine aw_bipush (v := 62) dX10_sign_116 (by decide) ?_
    refine aw_icmp_ne (tgt := 128) dX10_sign_118 (by decide) (fun hc3 => ?_) (fun hc3 => ?_)
    · replace H := H.1 hc3
      exact aw_ls [0, 1] rfl H
    · replace H := H.2 hc3
      refine aw_aload_n dX10_sign_121 rfl 0 rfl ?_
      refine aw_sipush (v := 257) dX10_sign_122 (by decide) ?_
      refine aw_putI dX10_sign_125 shM0 ckX10 flX10_189 rfl (fun _ => rfl) rfl rfl ?_
      exact aw_ls [0, 1] rfl H
set_option maxRecDepth 8000 in
set_option maxHeartbeats 1000000 in
theorem bX10_sign_128 {adK adV : Nat → Nat} {l : Launch} {ad : Nat → Nat} {d : Nat} {R : aH → Prop}   (x1 : Int32)  (h : aH)
    (H : (¬ x1 = (62 : Int32) → (AW (GM adK adV) l ad (d + 1) mX10_sign 150 [(0, .ref (ad 0))] [] h (qv R))) ∧ (x1 = (62 : Int32) → (AW (GM adK adV) l ad d mX10_here 0 [(0, .ref (ad 0))] [] h (qi fun z2 h1 => (¬ z2 = (61 : Int32) → (AW (GM adK adV) l ad (d + 1) mX10_sign 150 [(0, .ref (ad 0))] [] h1 (qv R))) ∧ (z2 = (61 : Int32) → (AW (GM adK adV) l ad (d + 1) mX10_sign 150 [(0, .ref (ad 0))] [] (sI h1 0 28 (258 : Int32)) (qv R))))))) : AW (GM adK adV) l ad (d + 1) mX10_sign 128 [(0, .ref (ad 0)), (1, .int x1)] [] h (qv R) := by
  refine aw_iload_n dX10_sign_128 rfl 1 rfl ?_
  refine aw_bipush (v := 62) dX10_sign_129 (by decide) ?_
  refine aw_icmp_ne (tgt := 150) dX10_sign_131 (by decide) (fun hc4 => ?_) (fun hc4 => ?_)
  · replace H := H.1 hc4
    exact aw_ls [0] rfl H
  · replace H := H.2 hc4
    refine aw_aload_n dX10_sign_134 rfl 0 rfl ?_
    refine cvX10_here dX10_sign_135 mlX10_172 shM0 (Nat.le_of_ble_eq_true rfl) H (fun z2 h1 H => ?_)
    refine aw_bipush (v := 61) dX10_sign_138 (by decide) ?_
    refine aw_icmp_ne (tgt := 150) dX10_sign_140 (by decide) (fun hc3 => ?_) (fun hc3 => ?_)
    · replace H := H.1 hc3
      exact aw_ls [0] rfl H
    · replace H := H.2 hc3
      refine aw_aload_n dX10_sign_143 rfl 0 rfl ?_
      refine aw_sipush (v := 258) dX10_sign_144 (by decide) ?_
      refine aw_putI dX10_sign_147 shM0 ckX10 flX10_189 rfl (fun _ => rfl) rfl rfl ?_
      exact aw_ls [0] rfl H
set_option maxRecDepth 8000 in
set_option maxHeartbeats 1000000 in
theorem bX10_sign_150 {adK adV : Nat → Nat} {l : Launch} {ad : Nat → Nat} {d : Nat} {R : aH → Prop}     (h : aH)
    (H : ((h.1 0 28) < (256 : Int32) → (R h)) ∧ (¬ (h.1 0 28) < (256 : Int32) → (R (sI h 0 25 ((h.1 0 25) + (1 : Int32)))))) : AW (GM adK adV) l ad (d + 1) mX10_sign 150 [(0, .ref (ad 0))] [] h (qv R) := by
  refine aw_aload_n dX10_sign_150 rfl 0 rfl ?_
  refine aw_get dX10_sign_151 shM0 ckX10 flX10_189 (v := .int (h.1 0 28)) rfl ?_
  refine aw_sipush (v := 256) dX10_sign_154 (by decide) ?_
  refine aw_icmp_lt (tgt := 170) dX10_sign_157 (by decide) (fun hc1 => ?_) (fun hc1 => ?_)
  · replace H := H.1 hc1
    exact aw_vret dX10_sign_170 rfl ⟨rfl, H⟩
  · replace H := H.2 hc1
    refine aw_aload_n dX10_sign_160 rfl 0 rfl ?_
    refine aw_dup dX10_sign_161 rfl ?_
    refine aw_get dX10_sign_162 shM0 ckX10 flX10_166 (v := .int (h.1 0 25)) rfl ?_
    refine aw_iconst (v := 1) dX10_sign_165 (by decide) ?_
    refine aw_iadd dX10_sign_166 ?_
    refine aw_putI dX10_sign_167 shM0 ckX10 flX10_166 rfl (fun _ => rfl) rfl rfl ?_
    exact aw_vret dX10_sign_170 rfl ⟨rfl, H⟩
set_option maxRecDepth 8000 in
set_option maxHeartbeats 1000000 in
theorem bX10_name_0 {adK adV : Nat → Nat} {l : Launch} {ad : Nat → Nat} {d : Nat} {R : aH → Prop}     (h : aH)
    (H : AW (GM adK adV) l ad d mX10_name 7 [(0, .ref (ad 0)), (1, .int (0 : Int32))] [] (sI h 0 28 (0 : Int32)) (qv R)) : AW (GM adK adV) l ad d mX10_name 0 [(0, .ref (ad 0))] [] h (qv R) := by
  refine aw_aload_n dX10_name_0 rfl 0 rfl ?_
  refine aw_iconst (v := 0) dX10_name_1 (by decide) ?_
  refine aw_putI dX10_name_2 shM0 ckX10 flX10_189 rfl (fun _ => rfl) rfl rfl ?_
  refine aw_iconst (v := 0) dX10_name_5 (by decide) ?_
  refine aw_istore_n (ls' := [(1, .int (0 : Int32)), (0, .ref (ad 0))]) dX10_name_6 rfl (by decide) rfl ?_
  exact aw_ls [1, 0] rfl H
set_option maxRecDepth 8000 in
set_option maxHeartbeats 1000000 in
theorem bX10_name_7 {adK adV : Nat → Nat} {l : Launch} {ad : Nat → Nat} {d : Nat} {R : aH → Prop}   (x1 : Int32)  (h : aH)
    (H : ((6 : Int32) ≤ x1 → (R h)) ∧ (¬ (6 : Int32) ≤ x1 → (((h.1 0 25) ≤ ((h.1 0 26) + x1) → (AW (GM adK adV) l ad d mX10_name 53 [(0, .ref (ad 0)), (1, .int x1)] [.int (0 : Int32), .int ((h.1 0 28) <<< ((5 : Int32) &&& 31)), .ref (ad 0)] h (qv R))) ∧ (¬ (h.1 0 25) ≤ ((h.1 0 26) + x1) → (vp_in ((h.1 0 26) + x1) 700 ∧ (AW (GM adK adV) l ad d mX10_name 53 [(0, .ref (ad 0)), (1, .int x1)] [.int (((h.1 1 ((h.1 0 26) + x1).toNatClampNeg) - (97 : Int32)) + (1 : Int32)), .int ((h.1 0 28) <<< ((5 : Int32) &&& 31)), .ref (ad 0)] h (qv R))))))) : AW (GM adK adV) l ad d mX10_name 7 [(0, .ref (ad 0)), (1, .int x1)] [] h (qv R) := by
  refine aw_iload_n dX10_name_7 rfl 1 rfl ?_
  refine aw_bipush (v := 6) dX10_name_8 (by decide) ?_
  refine aw_icmp_ge (tgt := 63) dX10_name_10 (by decide) (fun hc3 => ?_) (fun hc3 => ?_)
  · replace H := H.1 hc3
    exact aw_vret dX10_name_63 rfl ⟨rfl, H⟩
  · replace H := H.2 hc3
    refine aw_aload_n dX10_name_13 rfl 0 rfl ?_
    refine aw_aload_n dX10_name_14 rfl 0 rfl ?_
    refine aw_get dX10_name_15 shM0 ckX10 flX10_189 (v := .int (h.1 0 28)) rfl ?_
    refine aw_iconst (v := 5) dX10_name_18 (by decide) ?_
    refine aw_ishl dX10_name_19 ?_
    refine aw_aload_n dX10_name_20 rfl 0 rfl ?_
    refine aw_get dX10_name_21 shM0 ckX10 flX10_176 (v := .int (h.1 0 26)) rfl ?_
    refine aw_iload_n dX10_name_24 rfl 1 rfl ?_
    refine aw_iadd dX10_name_25 ?_
    refine aw_aload_n dX10_name_26 rfl 0 rfl ?_
    refine aw_get dX10_name_27 shM0 ckX10 flX10_166 (v := .int (h.1 0 25)) rfl ?_
    refine aw_icmp_ge (tgt := 52) dX10_name_30 (by decide) (fun hc2 => ?_) (fun hc2 => ?_)
    · replace H := H.1 hc2
      refine aw_iconst (v := 0) dX10_name_52 (by decide) ?_
      exact aw_ls [0, 1] rfl H
    · replace H := H.2 hc2
      refine aw_aload_n dX10_name_33 rfl 0 rfl ?_
      refine aw_get dX10_name_34 shM0 ckX10 flX10_7 (v := .ref (ad 1)) rfl ?_
      refine aw_aload_n dX10_name_37 rfl 0 rfl ?_
      refine aw_get dX10_name_38 shM0 ckX10 flX10_176 (v := .int (h.1 0 26)) rfl ?_
      refine aw_iload_n dX10_name_41 rfl 1 rfl ?_
      refine aw_iadd dX10_name_42 ?_
      obtain ⟨hi1, H⟩ := H
      refine aw_ialdK (t0 := 0) (j := ((h.1 0 26) + x1).toNatClampNeg) dX10_name_43 shM1 rfl rfl hi1 ?_
      refine aw_bipush (v := 97) dX10_name_44 (by decide) ?_
      refine aw_isub dX10_name_46 ?_
      refine aw_iconst (v := 1) dX10_name_47 (by decide) ?_
      refine aw_iadd dX10_name_48 ?_
      refine aw_goto (tgt := 53) dX10_name_49 (by decide) ?_
      exact aw_ls [0, 1] rfl H
set_option maxRecDepth 8000 in
set_option maxHeartbeats 1000000 in
theorem bX10_name_53 {adK adV : Nat → Nat} {l : Launch} {ad : Nat → Nat} {d : Nat} {R : aH → Prop}   (x1 : Int32) (s0 : Int32) (s1 : Int32)  (h : aH)
    (H : AW (GM adK adV) l ad d mX10_name 7 [(0, .ref (ad 0)), (1, .int (x1 + (1 : Int32)))] [] (sI h 0 28 (s1 ||| s0)) (qv R)) : AW (GM adK adV) l ad d mX10_name 53 [(0, .ref (ad 0)), (1, .int x1)] [.int s0, .int s1, .ref (ad 0)] h (qv R) := by
  refine aw_ior dX10_name_53 ?_
  refine aw_putI dX10_name_54 shM0 ckX10 flX10_189 rfl (fun _ => rfl) rfl rfl ?_
  refine aw_inc (mm := (1)) (ls' := [(1, .int (x1 + (1 : Int32))), (0, .ref (ad 0))]) dX10_name_57 (by decide) (j := 1) rfl (by decide) rfl ?_
  refine aw_goto (tgt := 7) dX10_name_60 (by decide) ?_
  exact aw_ls [1, 0] rfl H
set_option maxRecDepth 8000 in
set_option maxHeartbeats 1000000 in
theorem bX10_wrong_0 {adK adV : Nat → Nat} {l : Launch} {ad : Nat → Nat} {d : Nat} {R : aH → Prop}   (x1 : Int32)  (h : aH)
    (H : ((h.1 0 29) = 0 → (R (sI (sI h 0 29 x1) 0 30 ((sI h 0 29 x1).1 0 26)))) ∧ (¬ (h.1 0 29) = 0 → (R h))) : AW (GM adK adV) l ad d mX10_wrong 0 [(0, .ref (ad 0)), (1, .int x1)] [] h (qv R) := by
  refine aw_aload_n dX10_wrong_0 rfl 0 rfl ?_
  refine aw_get dX10_wrong_1 shM0 ckX10 flX10_214 (v := .int (h.1 0 29)) rfl ?_
  refine aw_if_eq (tgt := 8) dX10_wrong_4 (by decide) (fun hc1 => ?_) (fun hc1 => ?_)
  · replace H := H.1 hc1
    refine aw_aload_n dX10_wrong_8 rfl 0 rfl ?_
    refine aw_iload_n dX10_wrong_9 rfl 1 rfl ?_
    refine aw_putI dX10_wrong_10 shM0 ckX10 flX10_214 rfl (fun _ => rfl) rfl rfl ?_
    refine aw_aload_n dX10_wrong_13 rfl 0 rfl ?_
    refine aw_aload_n dX10_wrong_14 rfl 0 rfl ?_
    refine aw_get dX10_wrong_15 shM0 ckX10 flX10_176 (v := .int ((sI h 0 29 x1).1 0 26)) rfl ?_
    refine aw_putI dX10_wrong_18 shM0 ckX10 flX10_217 rfl (fun _ => rfl) rfl rfl ?_
    exact aw_vret dX10_wrong_21 rfl ⟨rfl, H⟩
  · replace H := H.2 hc1
    exact aw_vret dX10_wrong_7 rfl ⟨rfl, H⟩
set_option maxRecDepth 8000 in
set_option maxHeartbeats 1000000 in
theorem bX10_isWord_0 {adK adV : Nat → Nat} {l : Launch} {ad : Nat → Nat} {d : Nat} {R : Int32 → aH → Prop}   (x1 : Int32)  (h : aH)
    (H : (¬ (h.1 0 29) = 0 → (R (0 : Int32) h)) ∧ ((h.1 0 29) = 0 → ((¬ (h.1 0 27) = 0 → (R (0 : Int32) h)) ∧ ((h.1 0 27) = 0 → ((¬ (h.1 0 28) = x1 → (R (0 : Int32) h)) ∧ ((h.1 0 28) = x1 → (R (1 : Int32) h))))))) : AW (GM adK adV) l ad d mX10_isWord 0 [(0, .ref (ad 0)), (1, .int x1)] [] h (qi R) := by
  refine aw_aload_n dX10_isWord_0 rfl 0 rfl ?_
  refine aw_get dX10_isWord_1 shM0 ckX10 flX10_214 (v := .int (h.1 0 29)) rfl ?_
  refine aw_if_ne (tgt := 26) dX10_isWord_4 (by decide) (fun hc3 => ?_) (fun hc3 => ?_)
  · replace H := H.1 hc3
    refine aw_iconst (v := 0) dX10_isWord_26 (by decide) ?_
    exact aw_zret dX10_isWord_27 rfl (by decide) ⟨_, rfl, H⟩
  · replace H := H.2 hc3
    refine aw_aload_n dX10_isWord_7 rfl 0 rfl ?_
    refine aw_get dX10_isWord_8 shM0 ckX10 flX10_179 (v := .int (h.1 0 27)) rfl ?_
    refine aw_if_ne (tgt := 26) dX10_isWord_11 (by decide) (fun hc2 => ?_) (fun hc2 => ?_)
    · replace H := H.1 hc2
      refine aw_iconst (v := 0) dX10_isWord_26 (by decide) ?_
      exact aw_zret dX10_isWord_27 rfl (by decide) ⟨_, rfl, H⟩
    · replace H := H.2 hc2
      refine aw_aload_n dX10_isWord_14 rfl 0 rfl ?_
      refine aw_get dX10_isWord_15 shM0 ckX10 flX10_189 (v := .int (h.1 0 28)) rfl ?_
      refine aw_iload_n dX10_isWord_18 rfl 1 rfl ?_
      refine aw_icmp_ne (tgt := 26) dX10_isWord_19 (by decide) (fun hc1 => ?_) (fun hc1 => ?_)
      · replace H := H.1 hc1
        refine aw_iconst (v := 0) dX10_isWord_26 (by decide) ?_
        exact aw_zret dX10_isWord_27 rfl (by decide) ⟨_, rfl, H⟩
      · replace H := H.2 hc1
        refine aw_iconst (v := 1) dX10_isWord_22 (by decide) ?_
        refine aw_goto (tgt := 27) dX10_isWord_23 (by decide) ?_
        exact aw_zret dX10_isWord_27 rfl (by decide) ⟨_, rfl, H⟩
set_option maxRecDepth 8000 in
set_option maxHeartbeats 1000000 in
theorem bX10_isSign_0 {adK adV : Nat → Nat} {l : Launch} {ad : Nat → Nat} {d : Nat} {R : Int32 → aH → Prop}   (x1 : Int32)  (h : aH)
    (H : (¬ (h.1 0 29) = 0 → (R (0 : Int32) h)) ∧ ((h.1 0 29) = 0 → ((¬ (h.1 0 27) = (3 : Int32) → (R (0 : Int32) h)) ∧ ((h.1 0 27) = (3 : Int32) → ((¬ (h.1 0 28) = x1 → (R (0 : Int32) h)) ∧ ((h.1 0 28) = x1 → (R (1 : Int32) h))))))) : AW (GM adK adV) l ad d mX10_isSign 0 [(0, .ref (ad 0)), (1, .int x1)] [] h (qi R) := by
  refine aw_aload_n dX10_isSign_0 rfl 0 rfl ?_
  refine aw_get dX10_isSign_1 shM0 ckX10 flX10_214 (v := .int (h.1 0 29)) rfl ?_
  refine aw_if_ne (tgt := 27) dX10_isSign_4 (by decide) (fun hc3 => ?_) (fun hc3 => ?_)
  · replace H := H.1 hc3
    refine aw_iconst (v := 0) dX10_isSign_27 (by decide) ?_
    exact aw_zret dX10_isSign_28 rfl (by decide) ⟨_, rfl, H⟩
  · replace H := H.2 hc3
    refine aw_aload_n dX10_isSign_7 rfl 0 rfl ?_
    refine aw_get dX10_isSign_8 shM0 ckX10 flX10_179 (v := .int (h.1 0 27)) rfl ?_
    refine aw_iconst (v := 3) dX10_isSign_11 (by decide) ?_
    refine aw_icmp_ne (tgt := 27) dX10_isSign_12 (by decide) (fun hc2 => ?_) (fun hc2 => ?_)
    · replace H := H.1 hc2
      refine aw_iconst (v := 0) dX10_isSign_27 (by decide) ?_
      exact aw_zret dX10_isSign_28 rfl (by decide) ⟨_, rfl, H⟩
    · replace H := H.2 hc2
      refine aw_aload_n dX10_isSign_15 rfl 0 rfl ?_
      refine aw_get dX10_isSign_16 shM0 ckX10 flX10_189 (v := .int (h.1 0 28)) rfl ?_
      refine aw_iload_n dX10_isSign_19 rfl 1 rfl ?_
      refine aw_icmp_ne (tgt := 27) dX10_isSign_20 (by decide) (fun hc1 => ?_) (fun hc1 => ?_)
      · replace H := H.1 hc1
        refine aw_iconst (v := 0) dX10_isSign_27 (by decide) ?_
        exact aw_zret dX10_isSign_28 rfl (by decide) ⟨_, rfl, H⟩
      · replace H := H.2 hc1
        refine aw_iconst (v := 1) dX10_isSign_23 (by decide) ?_
        refine aw_goto (tgt := 28) dX10_isSign_24 (by decide) ?_
        exact aw_zret dX10_isSign_28 rfl (by decide) ⟨_, rfl, H⟩
set_option maxRecDepth 8000 in
set_option maxHeartbeats 1000000 in
theorem bX10_goOn_0 {adK adV : Nat → Nat} {l : Launch} {ad : Nat → Nat} {d : Nat} {R : aH → Prop}     (h : aH)
    (H : (¬ (h.1 0 29) = 0 → (R h)) ∧ ((h.1 0 29) = 0 → (AW (GM adK adV) l ad d mX10_token 0 [(0, .ref (ad 0))] [] h (qv fun h1 => R h1)))) : AW (GM adK adV) l ad (d + 1) mX10_goOn 0 [(0, .ref (ad 0))] [] h (qv R) := by
  refine aw_aload_n dX10_goOn_0 rfl 0 rfl ?_
  refine aw_get dX10_goOn_1 shM0 ckX10 flX10_214 (v := .int (h.1 0 29)) rfl ?_
  refine aw_if_ne (tgt := 11) dX10_goOn_4 (by decide) (fun hc3 => ?_) (fun hc3 => ?_)
  · replace H := H.1 hc3
    exact aw_vret dX10_goOn_11 rfl ⟨rfl, H⟩
  · replace H := H.2 hc3
    refine aw_aload_n dX10_goOn_7 rfl 0 rfl ?_
    refine cvX10_token dX10_goOn_8 mlX10_220 shM0 (Nat.le_of_ble_eq_true rfl) H (fun h1 H => ?_)
    exact aw_vret dX10_goOn_11 rfl ⟨rfl, H⟩
set_option maxRecDepth 8000 in
set_option maxHeartbeats 1000000 in
theorem bX10_numeral_0 {adK adV : Nat → Nat} {l : Launch} {ad : Nat → Nat} {d : Nat} {R : Int32 → aH → Prop}   (x1 : Int32) (x2 : Int32)  (h : aH)
    (H : ((h.1 0 29) = 0 → (((h.1 0 27) = (2 : Int32) → (((h.1 0 28) < x1 → (AW (GM adK adV) l ad (d + 1) mX10_numeral 41 [(0, .ref (ad 0)), (1, .int x1)] [] h (qi R))) ∧ (¬ (h.1 0 28) < x1 → (((h.1 0 28) ≤ x2 → (AW (GM adK adV) l ad (d + 1) mX10_numeral 46 [(0, .ref (ad 0)), (1, .int x1)] [] h (qi R))) ∧ (¬ (h.1 0 28) ≤ x2 → (AW (GM adK adV) l ad (d + 1) mX10_numeral 41 [(0, .ref (ad 0)), (1, .int x1)] [] h (qi R))))))) ∧ (¬ (h.1 0 27) = (2 : Int32) → (AW (GM adK adV) l ad d mX10_wrong 0 [(0, .ref (ad 0)), (1, .int (1 : Int32))] [] h (qv fun h3 => AW (GM adK adV) l ad (d + 1) mX10_numeral 46 [(0, .ref (ad 0)), (1, .int x1)] [] h3 (qi R)))))) ∧ (¬ (h.1 0 29) = 0 → (R x1 h))) : AW (GM adK adV) l ad (d + 1) mX10_numeral 0 [(0, .ref (ad 0)), (1, .int x1), (2, .int x2)] [] h (qi R) := by
  refine aw_aload_n dX10_numeral_0 rfl 0 rfl ?_
  refine aw_get dX10_numeral_1 shM0 ckX10 flX10_214 (v := .int (h.1 0 29)) rfl ?_
  refine aw_if_eq (tgt := 9) dX10_numeral_4 (by decide) (fun hc6 => ?_) (fun hc6 => ?_)
  · replace H := H.1 hc6
    refine aw_aload_n dX10_numeral_9 rfl 0 rfl ?_
    refine aw_get dX10_numeral_10 shM0 ckX10 flX10_179 (v := .int (h.1 0 27)) rfl ?_
    refine aw_iconst (v := 2) dX10_numeral_13 (by decide) ?_
    refine aw_icmp_eq (tgt := 25) dX10_numeral_14 (by decide) (fun hc5 => ?_) (fun hc5 => ?_)
    · replace H := H.1 hc5
      refine aw_aload_n dX10_numeral_25 rfl 0 rfl ?_
      refine aw_get dX10_numeral_26 shM0 ckX10 flX10_189 (v := .int (h.1 0 28)) rfl ?_
      refine aw_iload_n dX10_numeral_29 rfl 1 rfl ?_
      refine aw_icmp_lt (tgt := 41) dX10_numeral_30 (by decide) (fun hc2 => ?_) (fun hc2 => ?_)
      · replace H := H.1 hc2
        exact aw_ls [0, 1] rfl H
      · replace H := H.2 hc2
        refine aw_aload_n dX10_numeral_33 rfl 0 rfl ?_
        refine aw_get dX10_numeral_34 shM0 ckX10 flX10_189 (v := .int (h.1 0 28)) rfl ?_
        refine aw_iload_n dX10_numeral_37 rfl 2 rfl ?_
        refine aw_icmp_le (tgt := 46) dX10_numeral_38 (by decide) (fun hc1 => ?_) (fun hc1 => ?_)
        · replace H := H.1 hc1
          exact aw_ls [0, 1] rfl H
        · replace H := H.2 hc1
          exact aw_ls [0, 1] rfl H
    · replace H := H.2 hc5
      refine aw_aload_n dX10_numeral_17 rfl 0 rfl ?_
      refine aw_iconst (v := 1) dX10_numeral_18 (by decide) ?_
      refine cvX10_wrong dX10_numeral_19 mlX10_223 shM0 (Nat.le_of_ble_eq_true rfl) H (fun h3 H => ?_)
      refine aw_goto (tgt := 46) dX10_numeral_22 (by decide) ?_
      exact aw_ls [0, 1] rfl H
  · replace H := H.2 hc6
    refine aw_iload_n dX10_numeral_7 rfl 1 rfl ?_
    exact aw_iret dX10_numeral_8 rfl ⟨_, rfl, H⟩
set_option maxRecDepth 8000 in
set_option maxHeartbeats 1000000 in
theorem bX10_numeral_41 {adK adV : Nat → Nat} {l : Launch} {ad : Nat → Nat} {d : Nat} {R : Int32 → aH → Prop}   (x1 : Int32)  (h : aH)
    (H : AW (GM adK adV) l ad d mX10_wrong 0 [(0, .ref (ad 0)), (1, .int (2 : Int32))] [] h (qv fun h1 => AW (GM adK adV) l ad (d + 1) mX10_numeral 46 [(0, .ref (ad 0)), (1, .int x1)] [] h1 (qi R))) : AW (GM adK adV) l ad (d + 1) mX10_numeral 41 [(0, .ref (ad 0)), (1, .int x1)] [] h (qi R) := by
  refine aw_aload_n dX10_numeral_41 rfl 0 rfl ?_
  refine aw_iconst (v := 2) dX10_numeral_42 (by decide) ?_
  refine cvX10_wrong dX10_numeral_43 mlX10_223 shM0 (Nat.le_of_ble_eq_true rfl) H (fun h1 H => ?_)
  exact aw_ls [0, 1] rfl H
set_option maxRecDepth 8000 in
set_option maxHeartbeats 1000000 in
theorem bX10_numeral_46 {adK adV : Nat → Nat} {l : Launch} {ad : Nat → Nat} {d : Nat} {R : Int32 → aH → Prop}   (x1 : Int32)  (h : aH)
    (H : ((h.1 0 29) = 0 → (AW (GM adK adV) l ad d mX10_token 0 [(0, .ref (ad 0))] [] h (qv fun h1 => R (h.1 0 28) h1))) ∧ (¬ (h.1 0 29) = 0 → (R x1 h))) : AW (GM adK adV) l ad (d + 1) mX10_numeral 46 [(0, .ref (ad 0)), (1, .int x1)] [] h (qi R) := by
  refine aw_aload_n dX10_numeral_46 rfl 0 rfl ?_
  refine aw_get dX10_numeral_47 shM0 ckX10 flX10_214 (v := .int (h.1 0 29)) rfl ?_
  refine aw_if_eq (tgt := 55) dX10_numeral_50 (by decide) (fun hc3 => ?_) (fun hc3 => ?_)
  · replace H := H.1 hc3
    refine aw_aload_n dX10_numeral_55 rfl 0 rfl ?_
    refine aw_get dX10_numeral_56 shM0 ckX10 flX10_189 (v := .int (h.1 0 28)) rfl ?_
    refine aw_istore_n (ls' := [(3, .int (h.1 0 28)), (0, .ref (ad 0)), (1, .int x1)]) dX10_numeral_59 rfl (by decide) rfl ?_
    refine aw_aload_n dX10_numeral_60 rfl 1 rfl ?_
    refine cvX10_token dX10_numeral_61 mlX10_220 shM0 (Nat.le_of_ble_eq_true rfl) H (fun h1 H => ?_)
    refine aw_iload_n dX10_numeral_64 rfl 0 rfl ?_
    exact aw_iret dX10_numeral_65 rfl ⟨_, rfl, H⟩
  · replace H := H.2 hc3
    refine aw_iload_n dX10_numeral_53 rfl 1 rfl ?_
    exact aw_iret dX10_numeral_54 rfl ⟨_, rfl, H⟩
set_option maxRecDepth 8000 in
set_option maxHeartbeats 1000000 in
theorem bX10_found_0 {adK adV : Nat → Nat} {l : Launch} {ad : Nat → Nat} {d : Nat} {R : Int32 → aH → Prop} (a0 n0 : Nat) (ha0 : (GM adK adV).2.2.2.1[a0]? = some (.inr (.int, n0))) (x1 : Int32) (x2 : Int32) (x3 : Int32)  (h : aH)
    (H : AW (GM adK adV) l ad d mX10_found 3 [(0, .ref (ad a0)), (1, .int x1), (2, .int x2), (3, .int x3), (4, .int (0 : Int32))] [] h (qi R)) : AW (GM adK adV) l ad d mX10_found 0 [(0, .ref (ad a0)), (1, .int x1), (2, .int x2), (3, .int x3)] [] h (qi R) := by
  refine aw_iconst (v := 0) dX10_found_0 (by decide) ?_
  refine aw_istore (ls' := [(4, .int (0 : Int32)), (0, .ref (ad a0)), (1, .int x1), (2, .int x2), (3, .int x3)]) dX10_found_1 (by decide) rfl ?_
  exact aw_ls [1, 2, 3, 4, 0] rfl H
set_option maxRecDepth 8000 in
set_option maxHeartbeats 1000000 in
theorem bX10_found_3 {adK adV : Nat → Nat} {l : Launch} {ad : Nat → Nat} {d : Nat} {R : Int32 → aH → Prop} (a0 n0 : Nat) (ha0 : (GM adK adV).2.2.2.1[a0]? = some (.inr (.int, n0))) (x1 : Int32) (x2 : Int32) (x3 : Int32) (x4 : Int32)  (h : aH)
    (H : (x2 ≤ x4 → (R (-1 : Int32) h)) ∧ (¬ x2 ≤ x4 → (vp_in (x1 + x4) n0 ∧ ((¬ (h.1 a0 (x1 + x4).toNatClampNeg) = x3 → (AW (GM adK adV) l ad d mX10_found 3 [(0, .ref (ad a0)), (1, .int x1), (2, .int x2), (3, .int x3), (4, .int (x4 + (1 : Int32)))] [] h (qi R))) ∧ ((h.1 a0 (x1 + x4).toNatClampNeg) = x3 → (R x4 h)))))) : AW (GM adK adV) l ad d mX10_found 3 [(0, .ref (ad a0)), (1, .int x1), (2, .int x2), (3, .int x3), (4, .int x4)] [] h (qi R) := by
  refine aw_iload dX10_found_3 4 rfl ?_
  refine aw_iload_n dX10_found_5 rfl 2 rfl ?_
  refine aw_icmp_ge (tgt := 28) dX10_found_6 (by decide) (fun hc3 => ?_) (fun hc3 => ?_)
  · replace H := H.1 hc3
    refine aw_iconst (v := (-1)) dX10_found_28 (by decide) ?_
    exact aw_iret dX10_found_29 rfl ⟨_, rfl, H⟩
  · replace H := H.2 hc3
    refine aw_aload_n dX10_found_9 rfl 0 rfl ?_
    refine aw_iload_n dX10_found_10 rfl 1 rfl ?_
    refine aw_iload dX10_found_11 4 rfl ?_
    refine aw_iadd dX10_found_13 ?_
    obtain ⟨hi1, H⟩ := H
    refine aw_ialdK (t0 := 0) (j := (x1 + x4).toNatClampNeg) dX10_found_14 ha0 rfl rfl hi1 ?_
    refine aw_iload_n dX10_found_15 rfl 3 rfl ?_
    refine aw_icmp_ne (tgt := 22) dX10_found_16 (by decide) (fun hc2 => ?_) (fun hc2 => ?_)
    · replace H := H.1 hc2
      refine aw_inc (mm := (1)) (ls' := [(4, .int (x4 + (1 : Int32))), (0, .ref (ad a0)), (1, .int x1), (2, .int x2), (3, .int x3)]) dX10_found_22 (by decide) (j := 4) rfl (by decide) rfl ?_
      refine aw_goto (tgt := 3) dX10_found_25 (by decide) ?_
      exact aw_ls [1, 2, 3, 4, 0] rfl H
    · replace H := H.2 hc2
      refine aw_iload dX10_found_19 4 rfl ?_
      exact aw_iret dX10_found_21 rfl ⟨_, rfl, H⟩
set_option maxRecDepth 8000 in
set_option maxHeartbeats 1000000 in
theorem bX10_fresh_0 {adK adV : Nat → Nat} {l : Launch} {ad : Nat → Nat} {d : Nat} {R : Int32 → aH → Prop} (a1 n1 : Nat) (ha1 : (GM adK adV).2.2.2.1[a1]? = some (.inr (.int, n1))) (x2 : Int32) (x3 : Int32)  (h : aH)
    (H : ((h.1 0 29) = 0 → (((h.1 0 27) = (1 : Int32) → (AW (GM adK adV) l ad d mX10_found 0 [(0, .ref (ad a1)), (1, .int x2), (2, .int x3), (3, .int (h.1 0 28))] [] h (qi fun z2 h1 => (z2 = (-1 : Int32) → (AW (GM adK adV) l ad (d + 1) mX10_fresh 44 [(0, .ref (ad 0))] [] h1 (qi R))) ∧ (¬ z2 = (-1 : Int32) → (AW (GM adK adV) l ad d mX10_wrong 0 [(0, .ref (ad 0)), (1, .int (3 : Int32))] [] h1 (qv fun h3 => AW (GM adK adV) l ad (d + 1) mX10_fresh 44 [(0, .ref (ad 0))] [] h3 (qi R))))))) ∧ (¬ (h.1 0 27) = (1 : Int32) → (AW (GM adK adV) l ad d mX10_wrong 0 [(0, .ref (ad 0)), (1, .int (1 : Int32))] [] h (qv fun h6 => AW (GM adK adV) l ad (d + 1) mX10_fresh 44 [(0, .ref (ad 0))] [] h6 (qi R)))))) ∧ (¬ (h.1 0 29) = 0 → (R (0 : Int32) h))) : AW (GM adK adV) l ad (d + 1) mX10_fresh 0 [(0, .ref (ad 0)), (1, .ref (ad a1)), (2, .int x2), (3, .int x3)] [] h (qi R) := by
  refine aw_aload_n dX10_fresh_0 rfl 0 rfl ?_
  refine aw_get dX10_fresh_1 shM0 ckX10 flX10_214 (v := .int (h.1 0 29)) rfl ?_
  refine aw_if_eq (tgt := 9) dX10_fresh_4 (by decide) (fun hc9 => ?_) (fun hc9 => ?_)
  · replace H := H.1 hc9
    refine aw_aload_n dX10_fresh_9 rfl 0 rfl ?_
    refine aw_get dX10_fresh_10 shM0 ckX10 flX10_179 (v := .int (h.1 0 27)) rfl ?_
    refine aw_iconst (v := 1) dX10_fresh_13 (by decide) ?_
    refine aw_icmp_eq (tgt := 25) dX10_fresh_14 (by decide) (fun hc8 => ?_) (fun hc8 => ?_)
    · replace H := H.1 hc8
      refine aw_aload_n dX10_fresh_25 rfl 1 rfl ?_
      refine aw_iload_n dX10_fresh_26 rfl 2 rfl ?_
      refine aw_iload_n dX10_fresh_27 rfl 3 rfl ?_
      refine aw_aload_n dX10_fresh_28 rfl 0 rfl ?_
      refine aw_get dX10_fresh_29 shM0 ckX10 flX10_189 (v := .int (h.1 0 28)) rfl ?_
      refine cvX10_found dX10_fresh_32 mlX10_226 (Nat.le_of_ble_eq_true rfl) H (fun z2 h1 H => ?_)
      refine aw_iconst (v := (-1)) dX10_fresh_35 (by decide) ?_
      refine aw_icmp_eq (tgt := 44) dX10_fresh_36 (by decide) (fun hc5 => ?_) (fun hc5 => ?_)
      · replace H := H.1 hc5
        exact aw_ls [0] rfl H
      · replace H := H.2 hc5
        refine aw_aload_n dX10_fresh_39 rfl 0 rfl ?_
        refine aw_iconst (v := 3) dX10_fresh_40 (by decide) ?_
        refine cvX10_wrong dX10_fresh_41 mlX10_223 shM0 (Nat.le_of_ble_eq_true rfl) H (fun h3 H => ?_)
        exact aw_ls [0] rfl H
    · replace H := H.2 hc8
      refine aw_aload_n dX10_fresh_17 rfl 0 rfl ?_
      refine aw_iconst (v := 1) dX10_fresh_18 (by decide) ?_
      refine cvX10_wrong dX10_fresh_19 mlX10_223 shM0 (Nat.le_of_ble_eq_true rfl) H (fun h6 H => ?_)
      refine aw_goto (tgt := 44) dX10_fresh_22 (by decide) ?_
      exact aw_ls [0] rfl H
  · replace H := H.2 hc9
    refine aw_iconst (v := 0) dX10_fresh_7 (by decide) ?_
    exact aw_iret dX10_fresh_8 rfl ⟨_, rfl, H⟩
set_option maxRecDepth 8000 in
set_option maxHeartbeats 1000000 in
theorem bX10_fresh_44 {adK adV : Nat → Nat} {l : Launch} {ad : Nat → Nat} {d : Nat} {R : Int32 → aH → Prop} (a1 n1 : Nat) (ha1 : (GM adK adV).2.2.2.1[a1]? = some (.inr (.int, n1)))   (h : aH)
    (H : ((h.1 0 29) = 0 → (AW (GM adK adV) l ad d mX10_token 0 [(0, .ref (ad 0))] [] h (qv fun h1 => R (h.1 0 28) h1))) ∧ (¬ (h.1 0 29) = 0 → (R (0 : Int32) h))) : AW (GM adK adV) l ad (d + 1) mX10_fresh 44 [(0, .ref (ad 0))] [] h (qi R) := by
  refine aw_aload_n dX10_fresh_44 rfl 0 rfl ?_
  refine aw_get dX10_fresh_45 shM0 ckX10 flX10_214 (v := .int (h.1 0 29)) rfl ?_
  refine aw_if_eq (tgt := 53) dX10_fresh_48 (by decide) (fun hc3 => ?_) (fun hc3 => ?_)
  · replace H := H.1 hc3
    refine aw_aload_n dX10_fresh_53 rfl 0 rfl ?_
    refine aw_get dX10_fresh_54 shM0 ckX10 flX10_189 (v := .int (h.1 0 28)) rfl ?_
    refine aw_istore (ls' := [(4, .int (h.1 0 28)), (0, .ref (ad 0))]) dX10_fresh_57 (by decide) rfl ?_
    refine aw_aload_n dX10_fresh_59 rfl 1 rfl ?_
    refine cvX10_token dX10_fresh_60 mlX10_220 shM0 (Nat.le_of_ble_eq_true rfl) H (fun h1 H => ?_)
    refine aw_iload dX10_fresh_63 0 rfl ?_
    exact aw_iret dX10_fresh_65 rfl ⟨_, rfl, H⟩
  · replace H := H.2 hc3
    refine aw_iconst (v := 0) dX10_fresh_51 (by decide) ?_
    exact aw_iret dX10_fresh_52 rfl ⟨_, rfl, H⟩
set_option maxRecDepth 8000 in
set_option maxHeartbeats 1000000 in
theorem bX10_fresher_0 {adK adV : Nat → Nat} {l : Launch} {ad : Nat → Nat} {d : Nat} {R : Int32 → aH → Prop}   (x1 : Int32)  (h : aH)
    (H : vp_in ((7 : Int32) + x1) 14 ∧ (R (h.1 2 ((7 : Int32) + x1).toNatClampNeg) h)) : AW (GM adK adV) l ad d mX10_fresher 0 [(0, .ref (ad 0)), (1, .int x1)] [] h (qi R) := by
  refine aw_aload_n dX10_fresher_0 rfl 0 rfl ?_
  refine aw_get dX10_fresher_1 shM0 ckX10 flX10_13 (v := .ref (ad 2)) rfl ?_
  refine aw_bipush (v := 7) dX10_fresher_4 (by decide) ?_
  refine aw_iload_n dX10_fresher_6 rfl 1 rfl ?_
  refine aw_iadd dX10_fresher_7 ?_
  obtain ⟨hi1, H⟩ := H
  refine aw_ialdK (t0 := 0) (j := ((7 : Int32) + x1).toNatClampNeg) dX10_fresher_8 shM2 rfl rfl hi1 ?_
  exact aw_iret dX10_fresher_9 rfl ⟨_, rfl, H⟩
set_option maxRecDepth 8000 in
set_option maxHeartbeats 1000000 in
theorem bX10_reads_0 {adK adV : Nat → Nat} {l : Launch} {ad : Nat → Nat} {d : Nat} {R : aH → Prop}   (x1 : Int32) (x2 : Int32)  (h : aH)
    (H : vp_in ((7 : Int32) + x1) 14 ∧ (R (sI h 2 ((7 : Int32) + x1).toNatClampNeg x2))) : AW (GM adK adV) l ad d mX10_reads 0 [(0, .ref (ad 0)), (1, .int x1), (2, .int x2)] [] h (qv R) := by
  refine aw_aload_n dX10_reads_0 rfl 0 rfl ?_
  refine aw_get dX10_reads_1 shM0 ckX10 flX10_13 (v := .ref (ad 2)) rfl ?_
  refine aw_bipush (v := 7) dX10_reads_4 (by decide) ?_
  refine aw_iload_n dX10_reads_6 rfl 1 rfl ?_
  refine aw_iadd dX10_reads_7 ?_
  refine aw_iload_n dX10_reads_8 rfl 2 rfl ?_
  obtain ⟨hi1, H⟩ := H
  refine aw_iastK (t0 := 0) (j := ((7 : Int32) + x1).toNatClampNeg) dX10_reads_9 shM2 rfl rfl hi1 ?_
  exact aw_vret dX10_reads_10 rfl ⟨rfl, H⟩
set_option maxRecDepth 8000 in
set_option maxHeartbeats 1000000 in
theorem bX10_atHand_0 {adK adV : Nat → Nat} {l : Launch} {ad : Nat → Nat} {d : Nat} {R : Int32 → aH → Prop} (a1 n1 : Nat) (ha1 : (GM adK adV).2.2.2.1[a1]? = some (.inr (.int, n1))) (x2 : Int32) (x3 : Int32)  (h : aH)
    (H : ((h.1 0 29) = 0 → (((h.1 0 27) = (1 : Int32) → (AW (GM adK adV) l ad d mX10_found 0 [(0, .ref (ad a1)), (1, .int x2), (2, .int x3), (3, .int (h.1 0 28))] [] h (qi fun z2 h1 => (¬ z2 = (-1 : Int32) → (AW (GM adK adV) l ad (d + 1) mX10_atHand 44 [(0, .ref (ad 0)), (1, .ref (ad a1)), (2, .int x2), (3, .int x3)] [] h1 (qi R))) ∧ (z2 = (-1 : Int32) → (AW (GM adK adV) l ad d mX10_wrong 0 [(0, .ref (ad 0)), (1, .int (4 : Int32))] [] h1 (qv fun h3 => AW (GM adK adV) l ad (d + 1) mX10_atHand 44 [(0, .ref (ad 0)), (1, .ref (ad a1)), (2, .int x2), (3, .int x3)] [] h3 (qi R))))))) ∧ (¬ (h.1 0 27) = (1 : Int32) → (AW (GM adK adV) l ad d mX10_wrong 0 [(0, .ref (ad 0)), (1, .int (1 : Int32))] [] h (qv fun h6 => AW (GM adK adV) l ad (d + 1) mX10_atHand 44 [(0, .ref (ad 0)), (1, .ref (ad a1)), (2, .int x2), (3, .int x3)] [] h6 (qi R)))))) ∧ (¬ (h.1 0 29) = 0 → (R (0 : Int32) h))) : AW (GM adK adV) l ad (d + 1) mX10_atHand 0 [(0, .ref (ad 0)), (1, .ref (ad a1)), (2, .int x2), (3, .int x3)] [] h (qi R) := by
  refine aw_aload_n dX10_atHand_0 rfl 0 rfl ?_
  refine aw_get dX10_atHand_1 shM0 ckX10 flX10_214 (v := .int (h.1 0 29)) rfl ?_
  refine aw_if_eq (tgt := 9) dX10_atHand_4 (by decide) (fun hc9 => ?_) (fun hc9 => ?_)
  · replace H := H.1 hc9
    refine aw_aload_n dX10_atHand_9 rfl 0 rfl ?_
    refine aw_get dX10_atHand_10 shM0 ckX10 flX10_179 (v := .int (h.1 0 27)) rfl ?_
    refine aw_iconst (v := 1) dX10_atHand_13 (by decide) ?_
    refine aw_icmp_eq (tgt := 25) dX10_atHand_14 (by decide) (fun hc8 => ?_) (fun hc8 => ?_)
    · replace H := H.1 hc8
      refine aw_aload_n dX10_atHand_25 rfl 1 rfl ?_
      refine aw_iload_n dX10_atHand_26 rfl 2 rfl ?_
      refine aw_iload_n dX10_atHand_27 rfl 3 rfl ?_
      refine aw_aload_n dX10_atHand_28 rfl 0 rfl ?_
      refine aw_get dX10_atHand_29 shM0 ckX10 flX10_189 (v := .int (h.1 0 28)) rfl ?_
      refine cvX10_found dX10_atHand_32 mlX10_226 (Nat.le_of_ble_eq_true rfl) H (fun z2 h1 H => ?_)
      refine aw_iconst (v := (-1)) dX10_atHand_35 (by decide) ?_
      refine aw_icmp_ne (tgt := 44) dX10_atHand_36 (by decide) (fun hc5 => ?_) (fun hc5 => ?_)
      · replace H := H.1 hc5
        exact aw_ls [0, 1, 2, 3] rfl H
      · replace H := H.2 hc5
        refine aw_aload_n dX10_atHand_39 rfl 0 rfl ?_
        refine aw_iconst (v := 4) dX10_atHand_40 (by decide) ?_
        refine cvX10_wrong dX10_atHand_41 mlX10_223 shM0 (Nat.le_of_ble_eq_true rfl) H (fun h3 H => ?_)
        exact aw_ls [0, 1, 2, 3] rfl H
    · replace H := H.2 hc8
      refine aw_aload_n dX10_atHand_17 rfl 0 rfl ?_
      refine aw_iconst (v := 1) dX10_atHand_18 (by decide) ?_
      refine cvX10_wrong dX10_atHand_19 mlX10_223 shM0 (Nat.le_of_ble_eq_true rfl) H (fun h6 H => ?_)
      refine aw_goto (tgt := 44) dX10_atHand_22 (by decide) ?_
      exact aw_ls [0, 1, 2, 3] rfl H
  · replace H := H.2 hc9
    refine aw_iconst (v := 0) dX10_atHand_7 (by decide) ?_
    exact aw_iret dX10_atHand_8 rfl ⟨_, rfl, H⟩
set_option maxRecDepth 8000 in
set_option maxHeartbeats 1000000 in
theorem bX10_atHand_44 {adK adV : Nat → Nat} {l : Launch} {ad : Nat → Nat} {d : Nat} {R : Int32 → aH → Prop} (a1 n1 : Nat) (ha1 : (GM adK adV).2.2.2.1[a1]? = some (.inr (.int, n1))) (x2 : Int32) (x3 : Int32)  (h : aH)
    (H : ((h.1 0 29) = 0 → (AW (GM adK adV) l ad d mX10_found 0 [(0, .ref (ad a1)), (1, .int x2), (2, .int x3), (3, .int (h.1 0 28))] [] h (qi fun z2 h1 => R z2 h1))) ∧ (¬ (h.1 0 29) = 0 → (R (0 : Int32) h))) : AW (GM adK adV) l ad (d + 1) mX10_atHand 44 [(0, .ref (ad 0)), (1, .ref (ad a1)), (2, .int x2), (3, .int x3)] [] h (qi R) := by
  refine aw_aload_n dX10_atHand_44 rfl 0 rfl ?_
  refine aw_get dX10_atHand_45 shM0 ckX10 flX10_214 (v := .int (h.1 0 29)) rfl ?_
  refine aw_if_eq (tgt := 55) dX10_atHand_48 (by decide) (fun hc3 => ?_) (fun hc3 => ?_)
  · replace H := H.1 hc3
    refine aw_aload_n dX10_atHand_55 rfl 1 rfl ?_
    refine aw_iload_n dX10_atHand_56 rfl 2 rfl ?_
    refine aw_iload_n dX10_atHand_57 rfl 3 rfl ?_
    refine aw_aload_n dX10_atHand_58 rfl 0 rfl ?_
    refine aw_get dX10_atHand_59 shM0 ckX10 flX10_189 (v := .int (h.1 0 28)) rfl ?_
    refine cvX10_found dX10_atHand_62 mlX10_226 (Nat.le_of_ble_eq_true rfl) H (fun z2 h1 H => ?_)
    exact aw_iret dX10_atHand_65 rfl ⟨_, rfl, H⟩
  · replace H := H.2 hc3
    refine aw_iconst (v := 0) dX10_atHand_51 (by decide) ?_
    refine aw_goto (tgt := 65) dX10_atHand_52 (by decide) ?_
    exact aw_iret dX10_atHand_65 rfl ⟨_, rfl, H⟩
set_option maxRecDepth 8000 in
set_option maxHeartbeats 1000000 in
theorem bX10_manAtHand_0 {adK adV : Nat → Nat} {l : Launch} {ad : Nat → Nat} {d : Nat} {R : Int32 → aH → Prop}     (h : aH)
    (H : AW (GM adK adV) l ad d mX10_fresher 0 [(0, .ref (ad 0)), (1, .int (0 : Int32))] [] h (qi fun z2 h1 => AW (GM adK adV) l ad d mX10_atHand 0 [(0, .ref (ad 0)), (1, .ref (ad 3)), (2, .int (6 : Int32)), (3, .int z2)] [] h1 (qi fun z4 h3 => R z4 h3))) : AW (GM adK adV) l ad (d + 1) mX10_manAtHand 0 [(0, .ref (ad 0))] [] h (qi R) := by
  refine aw_aload_n dX10_manAtHand_0 rfl 0 rfl ?_
  refine aw_aload_n dX10_manAtHand_1 rfl 0 rfl ?_
  refine aw_get dX10_manAtHand_2 shM0 ckX10 flX10_16 (v := .ref (ad 3)) rfl ?_
  refine aw_bipush (v := 6) dX10_manAtHand_5 (by decide) ?_
  refine aw_aload_n dX10_manAtHand_7 rfl 0 rfl ?_
  refine aw_iconst (v := 0) dX10_manAtHand_8 (by decide) ?_
  refine cvX10_fresher dX10_manAtHand_9 mlX10_230 shM0 (Nat.le_of_ble_eq_true rfl) H (fun z2 h1 H => ?_)
  refine cvX10_atHand dX10_manAtHand_12 mlX10_234 shM0 (Nat.le_of_ble_eq_true rfl) H (fun z4 h3 H => ?_)
  exact aw_iret dX10_manAtHand_15 rfl ⟨_, rfl, H⟩
set_option maxRecDepth 8000 in
set_option maxHeartbeats 1000000 in
theorem bX10_tuskAtHand_0 {adK adV : Nat → Nat} {l : Launch} {ad : Nat → Nat} {d : Nat} {R : Int32 → aH → Prop}     (h : aH)
    (H : AW (GM adK adV) l ad d mX10_fresher 0 [(0, .ref (ad 0)), (1, .int (1 : Int32))] [] h (qi fun z2 h1 => AW (GM adK adV) l ad d mX10_atHand 0 [(0, .ref (ad 0)), (1, .ref (ad 5)), (2, .int (6 : Int32)), (3, .int z2)] [] h1 (qi fun z4 h3 => R z4 h3))) : AW (GM adK adV) l ad (d + 1) mX10_tuskAtHand 0 [(0, .ref (ad 0))] [] h (qi R) := by
  refine aw_aload_n dX10_tuskAtHand_0 rfl 0 rfl ?_
  refine aw_aload_n dX10_tuskAtHand_1 rfl 0 rfl ?_
  refine aw_get dX10_tuskAtHand_2 shM0 ckX10 flX10_22 (v := .ref (ad 5)) rfl ?_
  refine aw_bipush (v := 6) dX10_tuskAtHand_5 (by decide) ?_
  refine aw_aload_n dX10_tuskAtHand_7 rfl 0 rfl ?_
  refine aw_iconst (v := 1) dX10_tuskAtHand_8 (by decide) ?_
  refine cvX10_fresher dX10_tuskAtHand_9 mlX10_230 shM0 (Nat.le_of_ble_eq_true rfl) H (fun z2 h1 H => ?_)
  refine cvX10_atHand dX10_tuskAtHand_12 mlX10_234 shM0 (Nat.le_of_ble_eq_true rfl) H (fun z4 h3 H => ?_)
  exact aw_iret dX10_tuskAtHand_15 rfl ⟨_, rfl, H⟩
set_option maxRecDepth 8000 in
set_option maxHeartbeats 1000000 in
theorem bX10_isFull_0 {adK adV : Nat → Nat} {l : Launch} {ad : Nat → Nat} {d : Nat} {R : Int32 → aH → Prop}   (x1 : Int32)  (h : aH)
    (H : (x1 = (0 : Int32) → (AW (GM adK adV) l ad d mX10_fresher 0 [(0, .ref (ad 0)), (1, .int (0 : Int32))] [] h (qi fun z3 h2 => (¬ z3 = (6 : Int32) → (R (0 : Int32) h2)) ∧ (z3 = (6 : Int32) → (R (1 : Int32) h2))))) ∧ ((x1 = (1 : Int32) → (AW (GM adK adV) l ad d mX10_fresher 0 [(0, .ref (ad 0)), (1, .int (1 : Int32))] [] h (qi fun z6 h5 => (¬ z6 = (6 : Int32) → (R (0 : Int32) h5)) ∧ (z6 = (6 : Int32) → (R (1 : Int32) h5))))) ∧ ((x1 = (2 : Int32) → (AW (GM adK adV) l ad d mX10_fresher 0 [(0, .ref (ad 0)), (1, .int (2 : Int32))] [] h (qi fun z9 h8 => (¬ z9 = (8 : Int32) → (R (0 : Int32) h8)) ∧ (z9 = (8 : Int32) → (R (1 : Int32) h8))))) ∧ ((x1 = (3 : Int32) → (AW (GM adK adV) l ad d mX10_fresher 0 [(0, .ref (ad 0)), (1, .int (3 : Int32))] [] h (qi fun z12 h11 => (¬ z12 = (10 : Int32) → (R (0 : Int32) h11)) ∧ (z12 = (10 : Int32) → (R (1 : Int32) h11))))) ∧ (¬ x1 = (0 : Int32) → ¬ x1 = (1 : Int32) → ¬ x1 = (2 : Int32) → ¬ x1 = (3 : Int32) → (R (0 : Int32) h)))))) : AW (GM adK adV) l ad (d + 1) mX10_isFull 0 [(0, .ref (ad 0)), (1, .int x1)] [] h (qi R) := by
  refine aw_iload_n dX10_isFull_0 rfl 1 rfl ?_
  by_cases hx1_0 : x1 = (0 : Int32)
  · replace H := H.1 hx1_0
    refine aw_tableIn (off := 31) (tgt := 32) dX10_isFull_1 (by rw [hx1_0]; decide) (by rw [hx1_0]; decide) (by rw [hx1_0]; decide) (by decide) ?_
    refine aw_aload_n dX10_isFull_32 rfl 0 rfl ?_
    refine aw_iconst (v := 0) dX10_isFull_33 (by decide) ?_
    refine cvX10_fresher dX10_isFull_34 mlX10_230 shM0 (Nat.le_of_ble_eq_true rfl) H (fun z3 h2 H => ?_)
    refine aw_bipush (v := 6) dX10_isFull_37 (by decide) ?_
    refine aw_icmp_ne (tgt := 46) dX10_isFull_39 (by decide) (fun hc4 => ?_) (fun hc4 => ?_)
    · replace H := H.1 hc4
      refine aw_iconst (v := 0) dX10_isFull_46 (by decide) ?_
      exact aw_zret dX10_isFull_47 rfl (by decide) ⟨_, rfl, H⟩
    · replace H := H.2 hc4
      refine aw_iconst (v := 1) dX10_isFull_42 (by decide) ?_
      refine aw_goto (tgt := 47) dX10_isFull_43 (by decide) ?_
      exact aw_zret dX10_isFull_47 rfl (by decide) ⟨_, rfl, H⟩
  by_cases hx1_1 : x1 = (1 : Int32)
  · replace H := H.2.1 hx1_1
    refine aw_tableIn (off := 47) (tgt := 48) dX10_isFull_1 (by rw [hx1_1]; decide) (by rw [hx1_1]; decide) (by rw [hx1_1]; decide) (by decide) ?_
    refine aw_aload_n dX10_isFull_48 rfl 0 rfl ?_
    refine aw_iconst (v := 1) dX10_isFull_49 (by decide) ?_
    refine cvX10_fresher dX10_isFull_50 mlX10_230 shM0 (Nat.le_of_ble_eq_true rfl) H (fun z6 h5 H => ?_)
    refine aw_bipush (v := 6) dX10_isFull_53 (by decide) ?_
    refine aw_icmp_ne (tgt := 62) dX10_isFull_55 (by decide) (fun hc7 => ?_) (fun hc7 => ?_)
    · replace H := H.1 hc7
      refine aw_iconst (v := 0) dX10_isFull_62 (by decide) ?_
      exact aw_zret dX10_isFull_63 rfl (by decide) ⟨_, rfl, H⟩
    · replace H := H.2 hc7
      refine aw_iconst (v := 1) dX10_isFull_58 (by decide) ?_
      refine aw_goto (tgt := 63) dX10_isFull_59 (by decide) ?_
      exact aw_zret dX10_isFull_63 rfl (by decide) ⟨_, rfl, H⟩
  by_cases hx1_2 : x1 = (2 : Int32)
  · replace H := H.2.2.1 hx1_2
    refine aw_tableIn (off := 63) (tgt := 64) dX10_isFull_1 (by rw [hx1_2]; decide) (by rw [hx1_2]; decide) (by rw [hx1_2]; decide) (by decide) ?_
    refine aw_aload_n dX10_isFull_64 rfl 0 rfl ?_
    refine aw_iconst (v := 2) dX10_isFull_65 (by decide) ?_
    refine cvX10_fresher dX10_isFull_66 mlX10_230 shM0 (Nat.le_of_ble_eq_true rfl) H (fun z9 h8 H => ?_)
    refine aw_bipush (v := 8) dX10_isFull_69 (by decide) ?_
    refine aw_icmp_ne (tgt := 78) dX10_isFull_71 (by decide) (fun hc10 => ?_) (fun hc10 => ?_)
    · replace H := H.1 hc10
      refine aw_iconst (v := 0) dX10_isFull_78 (by decide) ?_
      exact aw_zret dX10_isFull_79 rfl (by decide) ⟨_, rfl, H⟩
    · replace H := H.2 hc10
      refine aw_iconst (v := 1) dX10_isFull_74 (by decide) ?_
      refine aw_goto (tgt := 79) dX10_isFull_75 (by decide) ?_
      exact aw_zret dX10_isFull_79 rfl (by decide) ⟨_, rfl, H⟩
  by_cases hx1_3 : x1 = (3 : Int32)
  · replace H := H.2.2.2.1 hx1_3
    refine aw_tableIn (off := 79) (tgt := 80) dX10_isFull_1 (by rw [hx1_3]; decide) (by rw [hx1_3]; decide) (by rw [hx1_3]; decide) (by decide) ?_
    refine aw_aload_n dX10_isFull_80 rfl 0 rfl ?_
    refine aw_iconst (v := 3) dX10_isFull_81 (by decide) ?_
    refine cvX10_fresher dX10_isFull_82 mlX10_230 shM0 (Nat.le_of_ble_eq_true rfl) H (fun z12 h11 H => ?_)
    refine aw_bipush (v := 10) dX10_isFull_85 (by decide) ?_
    refine aw_icmp_ne (tgt := 94) dX10_isFull_87 (by decide) (fun hc13 => ?_) (fun hc13 => ?_)
    · replace H := H.1 hc13
      refine aw_iconst (v := 0) dX10_isFull_94 (by decide) ?_
      exact aw_zret dX10_isFull_95 rfl (by decide) ⟨_, rfl, H⟩
    · replace H := H.2 hc13
      refine aw_iconst (v := 1) dX10_isFull_90 (by decide) ?_
      refine aw_goto (tgt := 95) dX10_isFull_91 (by decide) ?_
      exact aw_zret dX10_isFull_95 rfl (by decide) ⟨_, rfl, H⟩
  replace H := H.2.2.2.2 hx1_0 hx1_1 hx1_2 hx1_3
  have hx1_0e := tab_ne hx1_0 (a := 0) (by decide)
  have hx1_1e := tab_ne hx1_1 (a := 1) (by decide)
  have hx1_2e := tab_ne hx1_2 (a := 2) (by decide)
  have hx1_3e := tab_ne hx1_3 (a := 3) (by decide)
  refine aw_tableOut (tgt := 96) dX10_isFull_1 (by omega) (by decide) ?_
  refine aw_iconst (v := 0) dX10_isFull_96 (by decide) ?_
  exact aw_zret dX10_isFull_97 rfl (by decide) ⟨_, rfl, H⟩
set_option maxRecDepth 8000 in
set_option maxHeartbeats 1000000 in
theorem bX10_line_0 {adK adV : Nat → Nat} {l : Launch} {ad : Nat → Nat} {d : Nat} {R : aH → Prop}     (h : aH)
    (H : (¬ (h.1 0 27) = 0 → (AW (GM adK adV) l ad (d + 1) mX10_line 16 [(0, .ref (ad 0))] [] h (qv R))) ∧ ((h.1 0 27) = 0 → (((h.1 0 28) ≤ (7 : Int32) → (AW (GM adK adV) l ad d mX10_isFull 0 [(0, .ref (ad 0)), (1, .int (h.1 0 28))] [] h (qi fun z2 h1 => (z2 = 0 → (((h.1 0 28) = (5 : Int32) → (AW (GM adK adV) l ad (d + 1) mX10_line 54 [(0, .ref (ad 0)), (1, .int (h.1 0 28))] [] h1 (qv R))) ∧ (¬ (h.1 0 28) = (5 : Int32) → ((¬ (h.1 0 28) = (6 : Int32) → (AW (GM adK adV) l ad (d + 1) mX10_line 71 [(0, .ref (ad 0)), (1, .int (h.1 0 28))] [] h1 (qv R))) ∧ ((h.1 0 28) = (6 : Int32) → (AW (GM adK adV) l ad (d + 1) mX10_line 54 [(0, .ref (ad 0)), (1, .int (h.1 0 28))] [] h1 (qv R))))))) ∧ (¬ z2 = 0 → (AW (GM adK adV) l ad d mX10_wrong 0 [(0, .ref (ad 0)), (1, .int (2 : Int32))] [] h1 (qv fun h5 => AW (GM adK adV) l ad (d + 1) mX10_line 71 [(0, .ref (ad 0)), (1, .int (h.1 0 28))] [] h5 (qv R))))))) ∧ (¬ (h.1 0 28) ≤ (7 : Int32) → (AW (GM adK adV) l ad (d + 1) mX10_line 16 [(0, .ref (ad 0))] [] h (qv R)))))) : AW (GM adK adV) l ad (d + 1) mX10_line 0 [(0, .ref (ad 0))] [] h (qv R) := by
  refine aw_aload_n dX10_line_0 rfl 0 rfl ?_
  refine aw_get dX10_line_1 shM0 ckX10 flX10_179 (v := .int (h.1 0 27)) rfl ?_
  refine aw_if_ne (tgt := 16) dX10_line_4 (by decide) (fun hc9 => ?_) (fun hc9 => ?_)
  · replace H := H.1 hc9
    exact aw_ls [0] rfl H
  · replace H := H.2 hc9
    refine aw_aload_n dX10_line_7 rfl 0 rfl ?_
    refine aw_get dX10_line_8 shM0 ckX10 flX10_189 (v := .int (h.1 0 28)) rfl ?_
    refine aw_bipush (v := 7) dX10_line_11 (by decide) ?_
    refine aw_icmp_le (tgt := 22) dX10_line_13 (by decide) (fun hc8 => ?_) (fun hc8 => ?_)
    · replace H := H.1 hc8
      refine aw_aload_n dX10_line_22 rfl 0 rfl ?_
      refine aw_get dX10_line_23 shM0 ckX10 flX10_189 (v := .int (h.1 0 28)) rfl ?_
      refine aw_istore_n (ls' := [(1, .int (h.1 0 28)), (0, .ref (ad 0))]) dX10_line_26 rfl (by decide) rfl ?_
      refine aw_aload_n dX10_line_27 rfl 1 rfl ?_
      refine aw_iload_n dX10_line_28 rfl 0 rfl ?_
      refine cvX10_isFull dX10_line_29 mlX10_238 shM0 (Nat.le_of_ble_eq_true rfl) H (fun z2 h1 H => ?_)
      refine aw_if_eq (tgt := 43) dX10_line_32 (by decide) (fun hc7 => ?_) (fun hc7 => ?_)
      · replace H := H.1 hc7
        refine aw_iload_n dX10_line_43 rfl 0 rfl ?_
        refine aw_iconst (v := 5) dX10_line_44 (by decide) ?_
        refine aw_icmp_eq (tgt := 54) dX10_line_45 (by decide) (fun hc4 => ?_) (fun hc4 => ?_)
        · replace H := H.1 hc4
          exact aw_ls [1, 0] rfl H
        · replace H := H.2 hc4
          refine aw_iload_n dX10_line_48 rfl 0 rfl ?_
          refine aw_bipush (v := 6) dX10_line_49 (by decide) ?_
          refine aw_icmp_ne (tgt := 71) dX10_line_51 (by decide) (fun hc3 => ?_) (fun hc3 => ?_)
          · replace H := H.1 hc3
            exact aw_ls [1, 0] rfl H
          · replace H := H.2 hc3
            exact aw_ls [1, 0] rfl H
      · replace H := H.2 hc7
        refine aw_aload_n dX10_line_35 rfl 1 rfl ?_
        refine aw_iconst (v := 2) dX10_line_36 (by decide) ?_
        refine cvX10_wrong dX10_line_37 mlX10_223 shM0 (Nat.le_of_ble_eq_true rfl) H (fun h5 H => ?_)
        refine aw_goto (tgt := 71) dX10_line_40 (by decide) ?_
        exact aw_ls [1, 0] rfl H
    · replace H := H.2 hc8
      exact aw_ls [0] rfl H
set_option maxRecDepth 8000 in
set_option maxHeartbeats 1000000 in
theorem bX10_line_16 {adK adV : Nat → Nat} {l : Launch} {ad : Nat → Nat} {d : Nat} {R : aH → Prop}     (h : aH)
    (H : AW (GM adK adV) l ad d mX10_wrong 0 [(0, .ref (ad 0)), (1, .int (1 : Int32))] [] h (qv fun h1 => R h1)) : AW (GM adK adV) l ad (d + 1) mX10_line 16 [(0, .ref (ad 0))] [] h (qv R) := by
  refine aw_aload_n dX10_line_16 rfl 0 rfl ?_
  refine aw_iconst (v := 1) dX10_line_17 (by decide) ?_
  refine cvX10_wrong dX10_line_18 mlX10_223 shM0 (Nat.le_of_ble_eq_true rfl) H (fun h1 H => ?_)
  exact aw_vret dX10_line_21 rfl ⟨rfl, H⟩
set_option maxRecDepth 8000 in
set_option maxHeartbeats 1000000 in
theorem bX10_line_54 {adK adV : Nat → Nat} {l : Launch} {ad : Nat → Nat} {d : Nat} {R : aH → Prop}   (x1 : Int32)  (h : aH)
    (H : (¬ (((h.1 0 22) >>> (x1 &&& 31)) &&& (1 : Int32)) = (1 : Int32) → (AW (GM adK adV) l ad (d + 1) mX10_line 71 [(0, .ref (ad 0)), (1, .int x1)] [] h (qv R))) ∧ ((((h.1 0 22) >>> (x1 &&& 31)) &&& (1 : Int32)) = (1 : Int32) → (AW (GM adK adV) l ad d mX10_wrong 0 [(0, .ref (ad 0)), (1, .int (3 : Int32))] [] h (qv fun h1 => AW (GM adK adV) l ad (d + 1) mX10_line 71 [(0, .ref (ad 0)), (1, .int x1)] [] h1 (qv R))))) : AW (GM adK adV) l ad (d + 1) mX10_line 54 [(0, .ref (ad 0)), (1, .int x1)] [] h (qv R) := by
  refine aw_aload_n dX10_line_54 rfl 0 rfl ?_
  refine aw_get dX10_line_55 shM0 ckX10 flX10_241 (v := .int (h.1 0 22)) rfl ?_
  refine aw_iload_n dX10_line_58 rfl 1 rfl ?_
  refine aw_ishr dX10_line_59 ?_
  refine aw_iconst (v := 1) dX10_line_60 (by decide) ?_
  refine aw_iand dX10_line_61 ?_
  refine aw_iconst (v := 1) dX10_line_62 (by decide) ?_
  refine aw_icmp_ne (tgt := 71) dX10_line_63 (by decide) (fun hc3 => ?_) (fun hc3 => ?_)
  · replace H := H.1 hc3
    exact aw_ls [0, 1] rfl H
  · replace H := H.2 hc3
    refine aw_aload_n dX10_line_66 rfl 0 rfl ?_
    refine aw_iconst (v := 3) dX10_line_67 (by decide) ?_
    refine cvX10_wrong dX10_line_68 mlX10_223 shM0 (Nat.le_of_ble_eq_true rfl) H (fun h1 H => ?_)
    exact aw_ls [0, 1] rfl H
set_option maxRecDepth 8000 in
set_option maxHeartbeats 1000000 in
theorem bX10_line_71 {adK adV : Nat → Nat} {l : Launch} {ad : Nat → Nat} {d : Nat} {R : aH → Prop}   (x1 : Int32)  (h : aH)
    (H : ((h.1 0 29) = 0 → (AW (GM adK adV) l ad d mX10_token 0 [(0, .ref (ad 0))] [] (sI h 0 22 ((h.1 0 22) ||| ((1 : Int32) <<< (x1 &&& 31)))) (qv fun h1 => (x1 = (0 : Int32) → (AW (GM adK adV) l ad d mX10_fresher 0 [(0, .ref (ad 0)), (1, .int (0 : Int32))] [] h1 (qi fun z5 h4 => AW (GM adK adV) l ad d mX10_fresher 0 [(0, .ref (ad 0)), (1, .int (0 : Int32))] [] h4 (qi fun z7 h6 => AW (GM adK adV) l ad d mX10_fresh 0 [(0, .ref (ad 0)), (1, .ref (ad 3)), (2, .int (6 : Int32)), (3, .int z7)] [] h6 (qi fun z9 h8 => vp_in ((6 : Int32) + z5) 12 ∧ (AW (GM adK adV) l ad d mX10_numeral 0 [(0, .ref (ad 0)), (1, .int (0 : Int32)), (2, .int (999 : Int32))] [] (sI h8 3 ((6 : Int32) + z5).toNatClampNeg z9) (qi fun z12 h11 => AW (GM adK adV) l ad d mX10_fresher 0 [(0, .ref (ad 0)), (1, .int (0 : Int32))] [] (sI h11 4 ((6 : Int32) + z5).toNatClampNeg z12) (qi fun z14 h13 => AW (GM adK adV) l ad d mX10_reads 0 [(0, .ref (ad 0)), (1, .int (0 : Int32)), (2, .int (z14 + (1 : Int32)))] [] h13 (qv fun h15 => AW (GM adK adV) l ad (d + 1) mX10_line 348 [(0, .ref (ad 0))] [] h15 (qv R)))))))))) ∧ ((x1 = (1 : Int32) → (AW (GM adK adV) l ad d mX10_fresher 0 [(0, .ref (ad 0)), (1, .int (1 : Int32))] [] h1 (qi fun z18 h17 => AW (GM adK adV) l ad d mX10_fresher 0 [(0, .ref (ad 0)), (1, .int (1 : Int32))] [] h17 (qi fun z20 h19 => AW (GM adK adV) l ad d mX10_fresh 0 [(0, .ref (ad 0)), (1, .ref (ad 5)), (2, .int (6 : Int32)), (3, .int z20)] [] h19 (qi fun z22 h21 => vp_in ((6 : Int32) + z18) 12 ∧ (AW (GM adK adV) l ad d mX10_numeral 0 [(0, .ref (ad 0)), (1, .int (0 : Int32)), (2, .int (99 : Int32))] [] (sI h21 5 ((6 : Int32) + z18).toNatClampNeg z22) (qi fun z25 h24 => AW (GM adK adV) l ad d mX10_numeral 0 [(0, .ref (ad 0)), (1, .int (0 : Int32)), (2, .int (9 : Int32))] [] (sI h24 6 ((6 : Int32) + z18).toNatClampNeg z25) (qi fun z27 h26 => AW (GM adK adV) l ad d mX10_fresher 0 [(0, .ref (ad 0)), (1, .int (1 : Int32))] [] (sI (sI h26 7 ((6 : Int32) + z18).toNatClampNeg z27) 8 ((6 : Int32) + z18).toNatClampNeg (-1 : Int32)) (qi fun z29 h28 => AW (GM adK adV) l ad d mX10_reads 0 [(0, .ref (ad 0)), (1, .int (1 : Int32)), (2, .int (z29 + (1 : Int32)))] [] h28 (qv fun h30 => AW (GM adK adV) l ad (d + 1) mX10_line 348 [(0, .ref (ad 0))] [] h30 (qv R))))))))))) ∧ ((x1 = (2 : Int32) → (AW (GM adK adV) l ad d mX10_fresher 0 [(0, .ref (ad 0)), (1, .int (2 : Int32))] [] h1 (qi fun z33 h32 => AW (GM adK adV) l ad d mX10_debtLine 0 [(0, .ref (ad 0)), (1, .int ((8 : Int32) + z33))] [] h32 (qv fun h34 => AW (GM adK adV) l ad (d + 1) mX10_line 348 [(0, .ref (ad 0))] [] h34 (qv R))))) ∧ ((x1 = (3 : Int32) → (AW (GM adK adV) l ad d mX10_fresher 0 [(0, .ref (ad 0)), (1, .int (3 : Int32))] [] h1 (qi fun z37 h36 => AW (GM adK adV) l ad d mX10_leanLine 0 [(0, .ref (ad 0)), (1, .int ((10 : Int32) + z37))] [] h36 (qv fun h38 => AW (GM adK adV) l ad (d + 1) mX10_line 348 [(0, .ref (ad 0))] [] h38 (qv R))))) ∧ ((x1 = (4 : Int32) → (AW (GM adK adV) l ad d mX10_diesLine 0 [(0, .ref (ad 0))] [] h1 (qv fun h40 => AW (GM adK adV) l ad (d + 1) mX10_line 348 [(0, .ref (ad 0))] [] h40 (qv R)))) ∧ ((x1 = (5 : Int32) → (AW (GM adK adV) l ad d mX10_numeral 0 [(0, .ref (ad 0)), (1, .int (0 : Int32)), (2, .int (100 : Int32))] [] h1 (qi fun z43 h42 => AW (GM adK adV) l ad d mX10_reads 0 [(0, .ref (ad 0)), (1, .int (4 : Int32)), (2, .int z43)] [] h42 (qv fun h44 => AW (GM adK adV) l ad (d + 1) mX10_line 348 [(0, .ref (ad 0))] [] h44 (qv R))))) ∧ ((x1 = (6 : Int32) → (AW (GM adK adV) l ad d mX10_numeral 0 [(0, .ref (ad 0)), (1, .int (0 : Int32)), (2, .int (99999 : Int32))] [] h1 (qi fun z47 h46 => AW (GM adK adV) l ad d mX10_reads 0 [(0, .ref (ad 0)), (1, .int (5 : Int32)), (2, .int z47)] [] h46 (qv fun h48 => AW (GM adK adV) l ad (d + 1) mX10_line 348 [(0, .ref (ad 0))] [] h48 (qv R))))) ∧ (¬ x1 = (0 : Int32) → ¬ x1 = (1 : Int32) → ¬ x1 = (2 : Int32) → ¬ x1 = (3 : Int32) → ¬ x1 = (4 : Int32) → ¬ x1 = (5 : Int32) → ¬ x1 = (6 : Int32) → (AW (GM adK adV) l ad d mX10_lawLine 0 [(0, .ref (ad 0))] [] h1 (qv fun h50 => AW (GM adK adV) l ad (d + 1) mX10_line 348 [(0, .ref (ad 0))] [] h50 (qv R))))))))))))) ∧ (¬ (h.1 0 29) = 0 → (R h))) : AW (GM adK adV) l ad (d + 1) mX10_line 71 [(0, .ref (ad 0)), (1, .int x1)] [] h (qv R) := by
  refine aw_aload_n dX10_line_71 rfl 0 rfl ?_
  refine aw_get dX10_line_72 shM0 ckX10 flX10_214 (v := .int (h.1 0 29)) rfl ?_
  refine aw_if_eq (tgt := 79) dX10_line_75 (by decide) (fun hc52 => ?_) (fun hc52 => ?_)
  · replace H := H.1 hc52
    refine aw_aload_n dX10_line_79 rfl 0 rfl ?_
    refine aw_dup dX10_line_80 rfl ?_
    refine aw_get dX10_line_81 shM0 ckX10 flX10_241 (v := .int (h.1 0 22)) rfl ?_
    refine aw_iconst (v := 1) dX10_line_84 (by decide) ?_
    refine aw_iload_n dX10_line_85 rfl 1 rfl ?_
    refine aw_ishl dX10_line_86 ?_
    refine aw_ior dX10_line_87 ?_
    refine aw_putI dX10_line_88 shM0 ckX10 flX10_241 rfl (fun _ => rfl) rfl rfl ?_
    refine aw_aload_n dX10_line_91 rfl 0 rfl ?_
    refine cvX10_token dX10_line_92 mlX10_220 shM0 (Nat.le_of_ble_eq_true rfl) H (fun h1 H => ?_)
    refine aw_iload_n dX10_line_95 rfl 1 rfl ?_
    by_cases hx3_0 : x1 = (0 : Int32)
    · replace H := H.1 hx3_0
      refine aw_tableIn (off := 44) (tgt := 140) dX10_line_96 (by rw [hx3_0]; decide) (by rw [hx3_0]; decide) (by rw [hx3_0]; decide) (by decide) ?_
      refine aw_bipush (v := 6) dX10_line_140 (by decide) ?_
      refine aw_aload_n dX10_line_142 rfl 0 rfl ?_
      refine aw_iconst (v := 0) dX10_line_143 (by decide) ?_
      refine cvX10_fresher dX10_line_144 mlX10_230 shM0 (Nat.le_of_ble_eq_true rfl) H (fun z5 h4 H => ?_)
      refine aw_iadd dX10_line_147 ?_
      refine aw_istore_n (ls' := [(2, .int ((6 : Int32) + z5)), (0, .ref (ad 0)), (1, .int x1)]) dX10_line_148 rfl (by decide) rfl ?_
      refine aw_aload_n dX10_line_149 rfl 1 rfl ?_
      refine aw_get dX10_line_150 shM0 ckX10 flX10_16 (v := .ref (ad 3)) rfl ?_
      refine aw_iload_n dX10_line_153 rfl 0 rfl ?_
      refine aw_aload_n dX10_line_154 rfl 1 rfl ?_
      refine aw_aload_n dX10_line_155 rfl 1 rfl ?_
      refine aw_get dX10_line_156 shM0 ckX10 flX10_16 (v := .ref (ad 3)) rfl ?_
      refine aw_bipush (v := 6) dX10_line_159 (by decide) ?_
      refine aw_aload_n dX10_line_161 rfl 1 rfl ?_
      refine aw_iconst (v := 0) dX10_line_162 (by decide) ?_
      refine cvX10_fresher dX10_line_163 mlX10_230 shM0 (Nat.le_of_ble_eq_true rfl) H (fun z7 h6 H => ?_)
      refine cvX10_fresh dX10_line_166 mlX10_244 shM0 (Nat.le_of_ble_eq_true rfl) H (fun z9 h8 H => ?_)
      obtain ⟨hi10, H⟩ := H
      refine aw_iastK (t0 := 0) (j := ((6 : Int32) + z5).toNatClampNeg) dX10_line_169 shM3 rfl rfl hi10 ?_
      refine aw_aload_n dX10_line_170 rfl 1 rfl ?_
      refine aw_get dX10_line_171 shM0 ckX10 flX10_19 (v := .ref (ad 4)) rfl ?_
      refine aw_iload_n dX10_line_174 rfl 0 rfl ?_
      refine aw_aload_n dX10_line_175 rfl 1 rfl ?_
      refine aw_iconst (v := 0) dX10_line_176 (by decide) ?_
      refine aw_sipush (v := 999) dX10_line_177 (by decide) ?_
      refine cvX10_numeral dX10_line_180 mlX10_247 shM0 (Nat.le_of_ble_eq_true rfl) H (fun z12 h11 H => ?_)
      refine aw_iastK (t0 := 0) (j := ((6 : Int32) + z5).toNatClampNeg) dX10_line_183 shM4 rfl rfl hi10 ?_
      refine aw_aload_n dX10_line_184 rfl 1 rfl ?_
      refine aw_iconst (v := 0) dX10_line_185 (by decide) ?_
      refine aw_aload_n dX10_line_186 rfl 1 rfl ?_
      refine aw_iconst (v := 0) dX10_line_187 (by decide) ?_
      refine cvX10_fresher dX10_line_188 mlX10_230 shM0 (Nat.le_of_ble_eq_true rfl) H (fun z14 h13 H => ?_)
      refine aw_iconst (v := 1) dX10_line_191 (by decide) ?_
      refine aw_iadd dX10_line_192 ?_
      refine cvX10_reads dX10_line_193 mlX10_251 shM0 (Nat.le_of_ble_eq_true rfl) H (fun h15 H => ?_)
      refine aw_goto (tgt := 348) dX10_line_196 (by decide) ?_
      exact aw_ls [1] rfl H
    by_cases hx3_1 : x1 = (1 : Int32)
    · replace H := H.2.1 hx3_1
      refine aw_tableIn (off := 103) (tgt := 199) dX10_line_96 (by rw [hx3_1]; decide) (by rw [hx3_1]; decide) (by rw [hx3_1]; decide) (by decide) ?_
      refine aw_bipush (v := 6) dX10_line_199 (by decide) ?_
      refine aw_aload_n dX10_line_201 rfl 0 rfl ?_
      refine aw_iconst (v := 1) dX10_line_202 (by decide) ?_
      refine cvX10_fresher dX10_line_203 mlX10_230 shM0 (Nat.le_of_ble_eq_true rfl) H (fun z18 h17 H => ?_)
      refine aw_iadd dX10_line_206 ?_
      refine aw_istore_n (ls' := [(3, .int ((6 : Int32) + z18)), (0, .ref (ad 0)), (1, .int x1)]) dX10_line_207 rfl (by decide) rfl ?_
      refine aw_aload_n dX10_line_208 rfl 1 rfl ?_
      refine aw_get dX10_line_209 shM0 ckX10 flX10_22 (v := .ref (ad 5)) rfl ?_
      refine aw_iload_n dX10_line_212 rfl 0 rfl ?_
      refine aw_aload_n dX10_line_213 rfl 1 rfl ?_
      refine aw_aload_n dX10_line_214 rfl 1 rfl ?_
      refine aw_get dX10_line_215 shM0 ckX10 flX10_22 (v := .ref (ad 5)) rfl ?_
      refine aw_bipush (v := 6) dX10_line_218 (by decide) ?_
      refine aw_aload_n dX10_line_220 rfl 1 rfl ?_
      refine aw_iconst (v := 1) dX10_line_221 (by decide) ?_
      refine cvX10_fresher dX10_line_222 mlX10_230 shM0 (Nat.le_of_ble_eq_true rfl) H (fun z20 h19 H => ?_)
      refine cvX10_fresh dX10_line_225 mlX10_244 shM0 (Nat.le_of_ble_eq_true rfl) H (fun z22 h21 H => ?_)
      obtain ⟨hi23, H⟩ := H
      refine aw_iastK (t0 := 0) (j := ((6 : Int32) + z18).toNatClampNeg) dX10_line_228 shM5 rfl rfl hi23 ?_
      refine aw_aload_n dX10_line_229 rfl 1 rfl ?_
      refine aw_get dX10_line_230 shM0 ckX10 flX10_25 (v := .ref (ad 6)) rfl ?_
      refine aw_iload_n dX10_line_233 rfl 0 rfl ?_
      refine aw_aload_n dX10_line_234 rfl 1 rfl ?_
      refine aw_iconst (v := 0) dX10_line_235 (by decide) ?_
      refine aw_bipush (v := 99) dX10_line_236 (by decide) ?_
      refine cvX10_numeral dX10_line_238 mlX10_247 shM0 (Nat.le_of_ble_eq_true rfl) H (fun z25 h24 H => ?_)
      refine aw_iastK (t0 := 0) (j := ((6 : Int32) + z18).toNatClampNeg) dX10_line_241 shM6 rfl rfl hi23 ?_
      refine aw_aload_n dX10_line_242 rfl 1 rfl ?_
      refine aw_get dX10_line_243 shM0 ckX10 flX10_28 (v := .ref (ad 7)) rfl ?_
      refine aw_iload_n dX10_line_246 rfl 0 rfl ?_
      refine aw_aload_n dX10_line_247 rfl 1 rfl ?_
      refine aw_iconst (v := 0) dX10_line_248 (by decide) ?_
      refine aw_bipush (v := 9) dX10_line_249 (by decide) ?_
      refine cvX10_numeral dX10_line_251 mlX10_247 shM0 (Nat.le_of_ble_eq_true rfl) H (fun z27 h26 H => ?_)
      refine aw_iastK (t0 := 0) (j := ((6 : Int32) + z18).toNatClampNeg) dX10_line_254 shM7 rfl rfl hi23 ?_
      refine aw_aload_n dX10_line_255 rfl 1 rfl ?_
      refine aw_get dX10_line_256 shM0 ckX10 flX10_31 (v := .ref (ad 8)) rfl ?_
      refine aw_iload_n dX10_line_259 rfl 0 rfl ?_
      refine aw_iconst (v := (-1)) dX10_line_260 (by decide) ?_
      refine aw_iastK (t0 := 0) (j := ((6 : Int32) + z18).toNatClampNeg) dX10_line_261 shM8 rfl rfl hi23 ?_
      refine aw_aload_n dX10_line_262 rfl 1 rfl ?_
      refine aw_iconst (v := 1) dX10_line_263 (by decide) ?_
      refine aw_aload_n dX10_line_264 rfl 1 rfl ?_
      refine aw_iconst (v := 1) dX10_line_265 (by decide) ?_
      refine cvX10_fresher dX10_line_266 mlX10_230 shM0 (Nat.le_of_ble_eq_true rfl) H (fun z29 h28 H => ?_)
      refine aw_iconst (v := 1) dX10_line_269 (by decide) ?_
      refine aw_iadd dX10_line_270 ?_
      refine cvX10_reads dX10_line_271 mlX10_251 shM0 (Nat.le_of_ble_eq_true rfl) H (fun h30 H => ?_)
      refine aw_goto (tgt := 348) dX10_line_274 (by decide) ?_
      exact aw_ls [1] rfl H
    by_cases hx3_2 : x1 = (2 : Int32)
    · replace H := H.2.2.1 hx3_2
      refine aw_tableIn (off := 181) (tgt := 277) dX10_line_96 (by rw [hx3_2]; decide) (by rw [hx3_2]; decide) (by rw [hx3_2]; decide) (by decide) ?_
      refine aw_aload_n dX10_line_277 rfl 0 rfl ?_
      refine aw_bipush (v := 8) dX10_line_278 (by decide) ?_
      refine aw_aload_n dX10_line_280 rfl 0 rfl ?_
      refine aw_iconst (v := 2) dX10_line_281 (by decide) ?_
      refine cvX10_fresher dX10_line_282 mlX10_230 shM0 (Nat.le_of_ble_eq_true rfl) H (fun z33 h32 H => ?_)
      refine aw_iadd dX10_line_285 ?_
      refine cvX10_debtLine dX10_line_286 mlX10_255 shM0 (Nat.le_of_ble_eq_true rfl) H (fun h34 H => ?_)
      refine aw_goto (tgt := 348) dX10_line_289 (by decide) ?_
      exact aw_ls [0] rfl H
    by_cases hx3_3 : x1 = (3 : Int32)
    · replace H := H.2.2.2.1 hx3_3
      refine aw_tableIn (off := 196) (tgt := 292) dX10_line_96 (by rw [hx3_3]; decide) (by rw [hx3_3]; decide) (by rw [hx3_3]; decide) (by decide) ?_
      refine aw_aload_n dX10_line_292 rfl 0 rfl ?_
      refine aw_bipush (v := 10) dX10_line_293 (by decide) ?_
      refine aw_aload_n dX10_line_295 rfl 0 rfl ?_
      refine aw_iconst (v := 3) dX10_line_296 (by decide) ?_
      refine cvX10_fresher dX10_line_297 mlX10_230 shM0 (Nat.le_of_ble_eq_true rfl) H (fun z37 h36 H => ?_)
      refine aw_iadd dX10_line_300 ?_
      refine cvX10_leanLine dX10_line_301 mlX10_258 shM0 (Nat.le_of_ble_eq_true rfl) H (fun h38 H => ?_)
      refine aw_goto (tgt := 348) dX10_line_304 (by decide) ?_
      exact aw_ls [0] rfl H
    by_cases hx3_4 : x1 = (4 : Int32)
    · replace H := H.2.2.2.2.1 hx3_4
      refine aw_tableIn (off := 211) (tgt := 307) dX10_line_96 (by rw [hx3_4]; decide) (by rw [hx3_4]; decide) (by rw [hx3_4]; decide) (by decide) ?_
      refine aw_aload_n dX10_line_307 rfl 0 rfl ?_
      refine cvX10_diesLine dX10_line_308 mlX10_261 shM0 (Nat.le_of_ble_eq_true rfl) H (fun h40 H => ?_)
      refine aw_goto (tgt := 348) dX10_line_311 (by decide) ?_
      exact aw_ls [0] rfl H
    by_cases hx3_5 : x1 = (5 : Int32)
    · replace H := H.2.2.2.2.2.1 hx3_5
      refine aw_tableIn (off := 218) (tgt := 314) dX10_line_96 (by rw [hx3_5]; decide) (by rw [hx3_5]; decide) (by rw [hx3_5]; decide) (by decide) ?_
      refine aw_aload_n dX10_line_314 rfl 0 rfl ?_
      refine aw_iconst (v := 4) dX10_line_315 (by decide) ?_
      refine aw_aload_n dX10_line_316 rfl 0 rfl ?_
      refine aw_iconst (v := 0) dX10_line_317 (by decide) ?_
      refine aw_bipush (v := 100) dX10_line_318 (by decide) ?_
      refine cvX10_numeral dX10_line_320 mlX10_247 shM0 (Nat.le_of_ble_eq_true rfl) H (fun z43 h42 H => ?_)
      refine cvX10_reads dX10_line_323 mlX10_251 shM0 (Nat.le_of_ble_eq_true rfl) H (fun h44 H => ?_)
      refine aw_goto (tgt := 348) dX10_line_326 (by decide) ?_
      exact aw_ls [0] rfl H
    by_cases hx3_6 : x1 = (6 : Int32)
    · replace H := H.2.2.2.2.2.2.1 hx3_6
      refine aw_tableIn (off := 233) (tgt := 329) dX10_line_96 (by rw [hx3_6]; decide) (by rw [hx3_6]; decide) (by rw [hx3_6]; decide) (by decide) ?_
      refine aw_aload_n dX10_line_329 rfl 0 rfl ?_
      refine aw_iconst (v := 5) dX10_line_330 (by decide) ?_
      refine aw_aload_n dX10_line_331 rfl 0 rfl ?_
      refine aw_iconst (v := 0) dX10_line_332 (by decide) ?_
      refine aw_ldc dX10_line_333 coX10_198 ?_
      refine cvX10_numeral dX10_line_335 mlX10_247 shM0 (Nat.le_of_ble_eq_true rfl) H (fun z47 h46 H => ?_)
      refine cvX10_reads dX10_line_338 mlX10_251 shM0 (Nat.le_of_ble_eq_true rfl) H (fun h48 H => ?_)
      refine aw_goto (tgt := 348) dX10_line_341 (by decide) ?_
      exact aw_ls [0] rfl H
    replace H := H.2.2.2.2.2.2.2 hx3_0 hx3_1 hx3_2 hx3_3 hx3_4 hx3_5 hx3_6
    have hx3_0e := tab_ne hx3_0 (a := 0) (by decide)
    have hx3_1e := tab_ne hx3_1 (a := 1) (by decide)
    have hx3_2e := tab_ne hx3_2 (a := 2) (by decide)
    have hx3_3e := tab_ne hx3_3 (a := 3) (by decide)
    have hx3_4e := tab_ne hx3_4 (a := 4) (by decide)
    have hx3_5e := tab_ne hx3_5 (a := 5) (by decide)
    have hx3_6e := tab_ne hx3_6 (a := 6) (by decide)
    refine aw_tableOut (tgt := 344) dX10_line_96 (by omega) (by decide) ?_
    refine aw_aload_n dX10_line_344 rfl 0 rfl ?_
    refine cvX10_lawLine dX10_line_345 mlX10_264 shM0 (Nat.le_of_ble_eq_true rfl) H (fun h50 H => ?_)
    exact aw_ls [0] rfl H
  · replace H := H.2 hc52
    exact aw_vret dX10_line_78 rfl ⟨rfl, H⟩
set_option maxRecDepth 8000 in
set_option maxHeartbeats 1000000 in
theorem bX10_line_348 {adK adV : Nat → Nat} {l : Launch} {ad : Nat → Nat} {d : Nat} {R : aH → Prop}     (h : aH)
    (H : ((h.1 0 29) = 0 → (AW (GM adK adV) l ad d mX10_isSign 0 [(0, .ref (ad 0)), (1, .int (59 : Int32))] [] h (qi fun z2 h1 => (¬ z2 = 0 → (AW (GM adK adV) l ad d mX10_token 0 [(0, .ref (ad 0))] [] h1 (qv fun h3 => R (sI h3 0 23 ((h3.1 0 23) + (1 : Int32)))))) ∧ (z2 = 0 → (AW (GM adK adV) l ad d mX10_wrong 0 [(0, .ref (ad 0)), (1, .int (1 : Int32))] [] h1 (qv fun h5 => R (sI h5 0 23 ((h5.1 0 23) + (1 : Int32))))))))) ∧ (¬ (h.1 0 29) = 0 → (R h))) : AW (GM adK adV) l ad (d + 1) mX10_line 348 [(0, .ref (ad 0))] [] h (qv R) := by
  refine aw_aload_n dX10_line_348 rfl 0 rfl ?_
  refine aw_get dX10_line_349 shM0 ckX10 flX10_214 (v := .int (h.1 0 29)) rfl ?_
  refine aw_if_eq (tgt := 356) dX10_line_352 (by decide) (fun hc8 => ?_) (fun hc8 => ?_)
  · replace H := H.1 hc8
    refine aw_aload_n dX10_line_356 rfl 0 rfl ?_
    refine aw_bipush (v := 59) dX10_line_357 (by decide) ?_
    refine cvX10_isSign dX10_line_359 mlX10_267 shM0 (Nat.le_of_ble_eq_true rfl) H (fun z2 h1 H => ?_)
    refine aw_if_ne (tgt := 373) dX10_line_362 (by decide) (fun hc7 => ?_) (fun hc7 => ?_)
    · replace H := H.1 hc7
      refine aw_aload_n dX10_line_373 rfl 0 rfl ?_
      refine cvX10_token dX10_line_374 mlX10_220 shM0 (Nat.le_of_ble_eq_true rfl) H (fun h3 H => ?_)
      refine aw_aload_n dX10_line_377 rfl 0 rfl ?_
      refine aw_dup dX10_line_378 rfl ?_
      refine aw_get dX10_line_379 shM0 ckX10 flX10_270 (v := .int (h3.1 0 23)) rfl ?_
      refine aw_iconst (v := 1) dX10_line_382 (by decide) ?_
      refine aw_iadd dX10_line_383 ?_
      refine aw_putI dX10_line_384 shM0 ckX10 flX10_270 rfl (fun _ => rfl) rfl rfl ?_
      exact aw_vret dX10_line_387 rfl ⟨rfl, H⟩
    · replace H := H.2 hc7
      refine aw_aload_n dX10_line_365 rfl 0 rfl ?_
      refine aw_iconst (v := 1) dX10_line_366 (by decide) ?_
      refine cvX10_wrong dX10_line_367 mlX10_223 shM0 (Nat.le_of_ble_eq_true rfl) H (fun h5 H => ?_)
      refine aw_goto (tgt := 377) dX10_line_370 (by decide) ?_
      refine aw_aload_n dX10_line_377 rfl 0 rfl ?_
      refine aw_dup dX10_line_378 rfl ?_
      refine aw_get dX10_line_379 shM0 ckX10 flX10_270 (v := .int (h5.1 0 23)) rfl ?_
      refine aw_iconst (v := 1) dX10_line_382 (by decide) ?_
      refine aw_iadd dX10_line_383 ?_
      refine aw_putI dX10_line_384 shM0 ckX10 flX10_270 rfl (fun _ => rfl) rfl rfl ?_
      exact aw_vret dX10_line_387 rfl ⟨rfl, H⟩
  · replace H := H.2 hc8
    exact aw_vret dX10_line_355 rfl ⟨rfl, H⟩
set_option maxRecDepth 8000 in
set_option maxHeartbeats 1000000 in
theorem bX10_debtLine_0 {adK adV : Nat → Nat} {l : Launch} {ad : Nat → Nat} {d : Nat} {R : aH → Prop}   (x1 : Int32)  (h : aH)
    (H : AW (GM adK adV) l ad d mX10_manAtHand 0 [(0, .ref (ad 0))] [] h (qi fun z2 h1 => vp_in x1 16 ∧ (AW (GM adK adV) l ad d mX10_goOn 0 [(0, .ref (ad 0))] [] (sI h1 9 x1.toNatClampNeg z2) (qv fun h4 => AW (GM adK adV) l ad d mX10_manAtHand 0 [(0, .ref (ad 0))] [] h4 (qi fun z7 h6 => (¬ ((sI h6 10 x1.toNatClampNeg z7).1 0 29) = 0 → (AW (GM adK adV) l ad (d + 1) mX10_debtLine 51 [(0, .ref (ad 0)), (1, .int x1)] [] (sI h6 10 x1.toNatClampNeg z7) (qv R))) ∧ (((sI h6 10 x1.toNatClampNeg z7).1 0 29) = 0 → ((¬ ((sI h6 10 x1.toNatClampNeg z7).1 10 x1.toNatClampNeg) = ((sI h6 10 x1.toNatClampNeg z7).1 9 x1.toNatClampNeg) → (AW (GM adK adV) l ad (d + 1) mX10_debtLine 51 [(0, .ref (ad 0)), (1, .int x1)] [] (sI h6 10 x1.toNatClampNeg z7) (qv R))) ∧ (((sI h6 10 x1.toNatClampNeg z7).1 10 x1.toNatClampNeg) = ((sI h6 10 x1.toNatClampNeg z7).1 9 x1.toNatClampNeg) → (AW (GM adK adV) l ad d mX10_wrong 0 [(0, .ref (ad 0)), (1, .int (5 : Int32))] [] (sI h6 10 x1.toNatClampNeg z7) (qv fun h8 => AW (GM adK adV) l ad (d + 1) mX10_debtLine 51 [(0, .ref (ad 0)), (1, .int x1)] [] h8 (qv R))))))))))) : AW (GM adK adV) l ad (d + 1) mX10_debtLine 0 [(0, .ref (ad 0)), (1, .int x1)] [] h (qv R) := by
  refine aw_aload_n dX10_debtLine_0 rfl 0 rfl ?_
  refine aw_get dX10_debtLine_1 shM0 ckX10 flX10_34 (v := .ref (ad 9)) rfl ?_
  refine aw_iload_n dX10_debtLine_4 rfl 1 rfl ?_
  refine aw_aload_n dX10_debtLine_5 rfl 0 rfl ?_
  refine cvX10_manAtHand dX10_debtLine_6 mlX10_273 shM0 (Nat.le_of_ble_eq_true rfl) H (fun z2 h1 H => ?_)
  obtain ⟨hi3, H⟩ := H
  refine aw_iastK (t0 := 0) (j := x1.toNatClampNeg) dX10_debtLine_9 shM9 rfl rfl hi3 ?_
  refine aw_aload_n dX10_debtLine_10 rfl 0 rfl ?_
  refine cvX10_goOn dX10_debtLine_11 mlX10_276 shM0 (Nat.le_of_ble_eq_true rfl) H (fun h4 H => ?_)
  refine aw_aload_n dX10_debtLine_14 rfl 0 rfl ?_
  refine aw_get dX10_debtLine_15 shM0 ckX10 flX10_37 (v := .ref (ad 10)) rfl ?_
  refine aw_iload_n dX10_debtLine_18 rfl 1 rfl ?_
  refine aw_aload_n dX10_debtLine_19 rfl 0 rfl ?_
  refine cvX10_manAtHand dX10_debtLine_20 mlX10_273 shM0 (Nat.le_of_ble_eq_true rfl) H (fun z7 h6 H => ?_)
  refine aw_iastK (t0 := 0) (j := x1.toNatClampNeg) dX10_debtLine_23 shM10 rfl rfl hi3 ?_
  refine aw_aload_n dX10_debtLine_24 rfl 0 rfl ?_
  refine aw_get dX10_debtLine_25 shM0 ckX10 flX10_214 (v := .int ((sI h6 10 x1.toNatClampNeg z7).1 0 29)) rfl ?_
  refine aw_if_ne (tgt := 51) dX10_debtLine_28 (by decide) (fun hc11 => ?_) (fun hc11 => ?_)
  · replace H := H.1 hc11
    exact aw_ls [0, 1] rfl H
  · replace H := H.2 hc11
    refine aw_aload_n dX10_debtLine_31 rfl 0 rfl ?_
    refine aw_get dX10_debtLine_32 shM0 ckX10 flX10_37 (v := .ref (ad 10)) rfl ?_
    refine aw_iload_n dX10_debtLine_35 rfl 1 rfl ?_
    refine aw_ialdK (t0 := 0) (j := x1.toNatClampNeg) dX10_debtLine_36 shM10 rfl rfl hi3 ?_
    refine aw_aload_n dX10_debtLine_37 rfl 0 rfl ?_
    refine aw_get dX10_debtLine_38 shM0 ckX10 flX10_34 (v := .ref (ad 9)) rfl ?_
    refine aw_iload_n dX10_debtLine_41 rfl 1 rfl ?_
    refine aw_ialdK (t0 := 0) (j := x1.toNatClampNeg) dX10_debtLine_42 shM9 rfl rfl hi3 ?_
    refine aw_icmp_ne (tgt := 51) dX10_debtLine_43 (by decide) (fun hc10 => ?_) (fun hc10 => ?_)
    · replace H := H.1 hc10
      exact aw_ls [0, 1] rfl H
    · replace H := H.2 hc10
      refine aw_aload_n dX10_debtLine_46 rfl 0 rfl ?_
      refine aw_iconst (v := 5) dX10_debtLine_47 (by decide) ?_
      refine cvX10_wrong dX10_debtLine_48 mlX10_223 shM0 (Nat.le_of_ble_eq_true rfl) H (fun h8 H => ?_)
      exact aw_ls [0, 1] rfl H
set_option maxRecDepth 8000 in
set_option maxHeartbeats 1000000 in
theorem bX10_debtLine_51 {adK adV : Nat → Nat} {l : Launch} {ad : Nat → Nat} {d : Nat} {R : aH → Prop}   (x1 : Int32)  (h : aH)
    (H : AW (GM adK adV) l ad d mX10_goOn 0 [(0, .ref (ad 0))] [] h (qv fun h1 => AW (GM adK adV) l ad d mX10_numeral 0 [(0, .ref (ad 0)), (1, .int (1 : Int32)), (2, .int (99 : Int32))] [] h1 (qi fun z4 h3 => vp_in x1 16 ∧ (AW (GM adK adV) l ad d mX10_tuskAtHand 0 [(0, .ref (ad 0))] [] (sI h3 11 x1.toNatClampNeg z4) (qi fun z7 h6 => AW (GM adK adV) l ad d mX10_goOn 0 [(0, .ref (ad 0))] [] (sI h6 12 x1.toNatClampNeg z7) (qv fun h8 => AW (GM adK adV) l ad d mX10_numeral 0 [(0, .ref (ad 0)), (1, .int (0 : Int32)), (2, .int (99 : Int32))] [] h8 (qi fun z11 h10 => AW (GM adK adV) l ad d mX10_fresher 0 [(0, .ref (ad 0)), (1, .int (2 : Int32))] [] (sI h10 13 x1.toNatClampNeg z11) (qi fun z13 h12 => AW (GM adK adV) l ad d mX10_reads 0 [(0, .ref (ad 0)), (1, .int (2 : Int32)), (2, .int (z13 + (1 : Int32)))] [] h12 (qv fun h14 => R h14))))))))) : AW (GM adK adV) l ad (d + 1) mX10_debtLine 51 [(0, .ref (ad 0)), (1, .int x1)] [] h (qv R) := by
  refine aw_aload_n dX10_debtLine_51 rfl 0 rfl ?_
  refine cvX10_goOn dX10_debtLine_52 mlX10_276 shM0 (Nat.le_of_ble_eq_true rfl) H (fun h1 H => ?_)
  refine aw_aload_n dX10_debtLine_55 rfl 0 rfl ?_
  refine aw_get dX10_debtLine_56 shM0 ckX10 flX10_40 (v := .ref (ad 11)) rfl ?_
  refine aw_iload_n dX10_debtLine_59 rfl 1 rfl ?_
  refine aw_aload_n dX10_debtLine_60 rfl 0 rfl ?_
  refine aw_iconst (v := 1) dX10_debtLine_61 (by decide) ?_
  refine aw_bipush (v := 99) dX10_debtLine_62 (by decide) ?_
  refine cvX10_numeral dX10_debtLine_64 mlX10_247 shM0 (Nat.le_of_ble_eq_true rfl) H (fun z4 h3 H => ?_)
  obtain ⟨hi5, H⟩ := H
  refine aw_iastK (t0 := 0) (j := x1.toNatClampNeg) dX10_debtLine_67 shM11 rfl rfl hi5 ?_
  refine aw_aload_n dX10_debtLine_68 rfl 0 rfl ?_
  refine aw_get dX10_debtLine_69 shM0 ckX10 flX10_43 (v := .ref (ad 12)) rfl ?_
  refine aw_iload_n dX10_debtLine_72 rfl 1 rfl ?_
  refine aw_aload_n dX10_debtLine_73 rfl 0 rfl ?_
  refine cvX10_tuskAtHand dX10_debtLine_74 mlX10_279 shM0 (Nat.le_of_ble_eq_true rfl) H (fun z7 h6 H => ?_)
  refine aw_iastK (t0 := 0) (j := x1.toNatClampNeg) dX10_debtLine_77 shM12 rfl rfl hi5 ?_
  refine aw_aload_n dX10_debtLine_78 rfl 0 rfl ?_
  refine cvX10_goOn dX10_debtLine_79 mlX10_276 shM0 (Nat.le_of_ble_eq_true rfl) H (fun h8 H => ?_)
  refine aw_aload_n dX10_debtLine_82 rfl 0 rfl ?_
  refine aw_get dX10_debtLine_83 shM0 ckX10 flX10_46 (v := .ref (ad 13)) rfl ?_
  refine aw_iload_n dX10_debtLine_86 rfl 1 rfl ?_
  refine aw_aload_n dX10_debtLine_87 rfl 0 rfl ?_
  refine aw_iconst (v := 0) dX10_debtLine_88 (by decide) ?_
  refine aw_bipush (v := 99) dX10_debtLine_89 (by decide) ?_
  refine cvX10_numeral dX10_debtLine_91 mlX10_247 shM0 (Nat.le_of_ble_eq_true rfl) H (fun z11 h10 H => ?_)
  refine aw_iastK (t0 := 0) (j := x1.toNatClampNeg) dX10_debtLine_94 shM13 rfl rfl hi5 ?_
  refine aw_aload_n dX10_debtLine_95 rfl 0 rfl ?_
  refine aw_iconst (v := 2) dX10_debtLine_96 (by decide) ?_
  refine aw_aload_n dX10_debtLine_97 rfl 0 rfl ?_
  refine aw_iconst (v := 2) dX10_debtLine_98 (by decide) ?_
  refine cvX10_fresher dX10_debtLine_99 mlX10_230 shM0 (Nat.le_of_ble_eq_true rfl) H (fun z13 h12 H => ?_)
  refine aw_iconst (v := 1) dX10_debtLine_102 (by decide) ?_
  refine aw_iadd dX10_debtLine_103 ?_
  refine cvX10_reads dX10_debtLine_104 mlX10_251 shM0 (Nat.le_of_ble_eq_true rfl) H (fun h14 H => ?_)
  exact aw_vret dX10_debtLine_107 rfl ⟨rfl, H⟩
set_option maxRecDepth 8000 in
set_option maxHeartbeats 1000000 in
theorem bX10_leanLine_0 {adK adV : Nat → Nat} {l : Launch} {ad : Nat → Nat} {d : Nat} {R : aH → Prop}   (x1 : Int32)  (h : aH)
    (H : AW (GM adK adV) l ad d mX10_tuskAtHand 0 [(0, .ref (ad 0))] [] h (qi fun z2 h1 => vp_in x1 20 ∧ (AW (GM adK adV) l ad d mX10_goOn 0 [(0, .ref (ad 0))] [] (sI h1 14 x1.toNatClampNeg z2) (qv fun h4 => AW (GM adK adV) l ad d mX10_tuskAtHand 0 [(0, .ref (ad 0))] [] h4 (qi fun z7 h6 => (¬ ((sI h6 15 x1.toNatClampNeg z7).1 0 29) = 0 → (AW (GM adK adV) l ad (d + 1) mX10_leanLine 51 [(0, .ref (ad 0)), (1, .int x1)] [] (sI h6 15 x1.toNatClampNeg z7) (qv R))) ∧ (((sI h6 15 x1.toNatClampNeg z7).1 0 29) = 0 → ((¬ ((sI h6 15 x1.toNatClampNeg z7).1 14 x1.toNatClampNeg) = ((sI h6 15 x1.toNatClampNeg z7).1 15 x1.toNatClampNeg) → (AW (GM adK adV) l ad (d + 1) mX10_leanLine 51 [(0, .ref (ad 0)), (1, .int x1)] [] (sI h6 15 x1.toNatClampNeg z7) (qv R))) ∧ (((sI h6 15 x1.toNatClampNeg z7).1 14 x1.toNatClampNeg) = ((sI h6 15 x1.toNatClampNeg z7).1 15 x1.toNatClampNeg) → (AW (GM adK adV) l ad d mX10_wrong 0 [(0, .ref (ad 0)), (1, .int (5 : Int32))] [] (sI h6 15 x1.toNatClampNeg z7) (qv fun h8 => AW (GM adK adV) l ad (d + 1) mX10_leanLine 51 [(0, .ref (ad 0)), (1, .int x1)] [] h8 (qv R))))))))))) : AW (GM adK adV) l ad (d + 1) mX10_leanLine 0 [(0, .ref (ad 0)), (1, .int x1)] [] h (qv R) := by
  refine aw_aload_n dX10_leanLine_0 rfl 0 rfl ?_
  refine aw_get dX10_leanLine_1 shM0 ckX10 flX10_49 (v := .ref (ad 14)) rfl ?_
  refine aw_iload_n dX10_leanLine_4 rfl 1 rfl ?_
  refine aw_aload_n dX10_leanLine_5 rfl 0 rfl ?_
  refine cvX10_tuskAtHand dX10_leanLine_6 mlX10_279 shM0 (Nat.le_of_ble_eq_true rfl) H (fun z2 h1 H => ?_)
  obtain ⟨hi3, H⟩ := H
  refine aw_iastK (t0 := 0) (j := x1.toNatClampNeg) dX10_leanLine_9 shM14 rfl rfl hi3 ?_
  refine aw_aload_n dX10_leanLine_10 rfl 0 rfl ?_
  refine cvX10_goOn dX10_leanLine_11 mlX10_276 shM0 (Nat.le_of_ble_eq_true rfl) H (fun h4 H => ?_)
  refine aw_aload_n dX10_leanLine_14 rfl 0 rfl ?_
  refine aw_get dX10_leanLine_15 shM0 ckX10 flX10_52 (v := .ref (ad 15)) rfl ?_
  refine aw_iload_n dX10_leanLine_18 rfl 1 rfl ?_
  refine aw_aload_n dX10_leanLine_19 rfl 0 rfl ?_
  refine cvX10_tuskAtHand dX10_leanLine_20 mlX10_279 shM0 (Nat.le_of_ble_eq_true rfl) H (fun z7 h6 H => ?_)
  refine aw_iastK (t0 := 0) (j := x1.toNatClampNeg) dX10_leanLine_23 shM15 rfl rfl hi3 ?_
  refine aw_aload_n dX10_leanLine_24 rfl 0 rfl ?_
  refine aw_get dX10_leanLine_25 shM0 ckX10 flX10_214 (v := .int ((sI h6 15 x1.toNatClampNeg z7).1 0 29)) rfl ?_
  refine aw_if_ne (tgt := 51) dX10_leanLine_28 (by decide) (fun hc11 => ?_) (fun hc11 => ?_)
  · replace H := H.1 hc11
    exact aw_ls [0, 1] rfl H
  · replace H := H.2 hc11
    refine aw_aload_n dX10_leanLine_31 rfl 0 rfl ?_
    refine aw_get dX10_leanLine_32 shM0 ckX10 flX10_49 (v := .ref (ad 14)) rfl ?_
    refine aw_iload_n dX10_leanLine_35 rfl 1 rfl ?_
    refine aw_ialdK (t0 := 0) (j := x1.toNatClampNeg) dX10_leanLine_36 shM14 rfl rfl hi3 ?_
    refine aw_aload_n dX10_leanLine_37 rfl 0 rfl ?_
    refine aw_get dX10_leanLine_38 shM0 ckX10 flX10_52 (v := .ref (ad 15)) rfl ?_
    refine aw_iload_n dX10_leanLine_41 rfl 1 rfl ?_
    refine aw_ialdK (t0 := 0) (j := x1.toNatClampNeg) dX10_leanLine_42 shM15 rfl rfl hi3 ?_
    refine aw_icmp_ne (tgt := 51) dX10_leanLine_43 (by decide) (fun hc10 => ?_) (fun hc10 => ?_)
    · replace H := H.1 hc10
      exact aw_ls [0, 1] rfl H
    · replace H := H.2 hc10
      refine aw_aload_n dX10_leanLine_46 rfl 0 rfl ?_
      refine aw_iconst (v := 5) dX10_leanLine_47 (by decide) ?_
      refine cvX10_wrong dX10_leanLine_48 mlX10_223 shM0 (Nat.le_of_ble_eq_true rfl) H (fun h8 H => ?_)
      exact aw_ls [0, 1] rfl H
set_option maxRecDepth 8000 in
set_option maxHeartbeats 1000000 in
theorem bX10_leanLine_51 {adK adV : Nat → Nat} {l : Launch} {ad : Nat → Nat} {d : Nat} {R : aH → Prop}   (x1 : Int32)  (h : aH)
    (H : AW (GM adK adV) l ad d mX10_goOn 0 [(0, .ref (ad 0))] [] h (qv fun h1 => AW (GM adK adV) l ad d mX10_numeral 0 [(0, .ref (ad 0)), (1, .int (0 : Int32)), (2, .int (99 : Int32))] [] h1 (qi fun z4 h3 => vp_in x1 20 ∧ (AW (GM adK adV) l ad d mX10_fresher 0 [(0, .ref (ad 0)), (1, .int (3 : Int32))] [] (sI h3 16 x1.toNatClampNeg z4) (qi fun z7 h6 => AW (GM adK adV) l ad d mX10_reads 0 [(0, .ref (ad 0)), (1, .int (3 : Int32)), (2, .int (z7 + (1 : Int32)))] [] h6 (qv fun h8 => R h8)))))) : AW (GM adK adV) l ad (d + 1) mX10_leanLine 51 [(0, .ref (ad 0)), (1, .int x1)] [] h (qv R) := by
  refine aw_aload_n dX10_leanLine_51 rfl 0 rfl ?_
  refine cvX10_goOn dX10_leanLine_52 mlX10_276 shM0 (Nat.le_of_ble_eq_true rfl) H (fun h1 H => ?_)
  refine aw_aload_n dX10_leanLine_55 rfl 0 rfl ?_
  refine aw_get dX10_leanLine_56 shM0 ckX10 flX10_55 (v := .ref (ad 16)) rfl ?_
  refine aw_iload_n dX10_leanLine_59 rfl 1 rfl ?_
  refine aw_aload_n dX10_leanLine_60 rfl 0 rfl ?_
  refine aw_iconst (v := 0) dX10_leanLine_61 (by decide) ?_
  refine aw_bipush (v := 99) dX10_leanLine_62 (by decide) ?_
  refine cvX10_numeral dX10_leanLine_64 mlX10_247 shM0 (Nat.le_of_ble_eq_true rfl) H (fun z4 h3 H => ?_)
  obtain ⟨hi5, H⟩ := H
  refine aw_iastK (t0 := 0) (j := x1.toNatClampNeg) dX10_leanLine_67 shM16 rfl rfl hi5 ?_
  refine aw_aload_n dX10_leanLine_68 rfl 0 rfl ?_
  refine aw_iconst (v := 3) dX10_leanLine_69 (by decide) ?_
  refine aw_aload_n dX10_leanLine_70 rfl 0 rfl ?_
  refine aw_iconst (v := 3) dX10_leanLine_71 (by decide) ?_
  refine cvX10_fresher dX10_leanLine_72 mlX10_230 shM0 (Nat.le_of_ble_eq_true rfl) H (fun z7 h6 H => ?_)
  refine aw_iconst (v := 1) dX10_leanLine_75 (by decide) ?_
  refine aw_iadd dX10_leanLine_76 ?_
  refine cvX10_reads dX10_leanLine_77 mlX10_251 shM0 (Nat.le_of_ble_eq_true rfl) H (fun h8 H => ?_)
  exact aw_vret dX10_leanLine_80 rfl ⟨rfl, H⟩
set_option maxRecDepth 8000 in
set_option maxHeartbeats 1000000 in
theorem bX10_diesLine_0 {adK adV : Nat → Nat} {l : Launch} {ad : Nat → Nat} {d : Nat} {R : aH → Prop}     (h : aH)
    (H : AW (GM adK adV) l ad d mX10_tuskAtHand 0 [(0, .ref (ad 0))] [] h (qi fun z2 h1 => (¬ (h1.1 0 29) = 0 → (AW (GM adK adV) l ad (d + 1) mX10_diesLine 30 [(0, .ref (ad 0)), (1, .int z2)] [] h1 (qv R))) ∧ ((h1.1 0 29) = 0 → (vp_in ((6 : Int32) + z2) 12 ∧ (((h1.1 8 ((6 : Int32) + z2).toNatClampNeg) = (-1 : Int32) → (AW (GM adK adV) l ad (d + 1) mX10_diesLine 30 [(0, .ref (ad 0)), (1, .int z2)] [] h1 (qv R))) ∧ (¬ (h1.1 8 ((6 : Int32) + z2).toNatClampNeg) = (-1 : Int32) → (AW (GM adK adV) l ad d mX10_wrong 0 [(0, .ref (ad 0)), (1, .int (3 : Int32))] [] h1 (qv fun h4 => AW (GM adK adV) l ad (d + 1) mX10_diesLine 30 [(0, .ref (ad 0)), (1, .int z2)] [] h4 (qv R))))))))) : AW (GM adK adV) l ad (d + 1) mX10_diesLine 0 [(0, .ref (ad 0))] [] h (qv R) := by
  refine aw_aload_n dX10_diesLine_0 rfl 0 rfl ?_
  refine cvX10_tuskAtHand dX10_diesLine_1 mlX10_279 shM0 (Nat.le_of_ble_eq_true rfl) H (fun z2 h1 H => ?_)
  refine aw_istore_n (ls' := [(1, .int z2), (0, .ref (ad 0))]) dX10_diesLine_4 rfl (by decide) rfl ?_
  refine aw_aload_n dX10_diesLine_5 rfl 1 rfl ?_
  refine aw_get dX10_diesLine_6 shM0 ckX10 flX10_214 (v := .int (h1.1 0 29)) rfl ?_
  refine aw_if_ne (tgt := 30) dX10_diesLine_9 (by decide) (fun hc7 => ?_) (fun hc7 => ?_)
  · replace H := H.1 hc7
    exact aw_ls [1, 0] rfl H
  · replace H := H.2 hc7
    refine aw_aload_n dX10_diesLine_12 rfl 1 rfl ?_
    refine aw_get dX10_diesLine_13 shM0 ckX10 flX10_31 (v := .ref (ad 8)) rfl ?_
    refine aw_bipush (v := 6) dX10_diesLine_16 (by decide) ?_
    refine aw_iload_n dX10_diesLine_18 rfl 0 rfl ?_
    refine aw_iadd dX10_diesLine_19 ?_
    obtain ⟨hi3, H⟩ := H
    refine aw_ialdK (t0 := 0) (j := ((6 : Int32) + z2).toNatClampNeg) dX10_diesLine_20 shM8 rfl rfl hi3 ?_
    refine aw_iconst (v := (-1)) dX10_diesLine_21 (by decide) ?_
    refine aw_icmp_eq (tgt := 30) dX10_diesLine_22 (by decide) (fun hc6 => ?_) (fun hc6 => ?_)
    · replace H := H.1 hc6
      exact aw_ls [1, 0] rfl H
    · replace H := H.2 hc6
      refine aw_aload_n dX10_diesLine_25 rfl 1 rfl ?_
      refine aw_iconst (v := 3) dX10_diesLine_26 (by decide) ?_
      refine cvX10_wrong dX10_diesLine_27 mlX10_223 shM0 (Nat.le_of_ble_eq_true rfl) H (fun h4 H => ?_)
      exact aw_ls [1, 0] rfl H
set_option maxRecDepth 8000 in
set_option maxHeartbeats 1000000 in
theorem bX10_diesLine_30 {adK adV : Nat → Nat} {l : Launch} {ad : Nat → Nat} {d : Nat} {R : aH → Prop}   (x1 : Int32)  (h : aH)
    (H : AW (GM adK adV) l ad d mX10_goOn 0 [(0, .ref (ad 0))] [] h (qv fun h1 => AW (GM adK adV) l ad d mX10_numeral 0 [(0, .ref (ad 0)), (1, .int (0 : Int32)), (2, .int (99 : Int32))] [] h1 (qi fun z4 h3 => (¬ (h3.1 0 29) = 0 → (R h3)) ∧ ((h3.1 0 29) = 0 → (vp_in ((6 : Int32) + x1) 12 ∧ (R (sI h3 8 ((6 : Int32) + x1).toNatClampNeg z4))))))) : AW (GM adK adV) l ad (d + 1) mX10_diesLine 30 [(0, .ref (ad 0)), (1, .int x1)] [] h (qv R) := by
  refine aw_aload_n dX10_diesLine_30 rfl 0 rfl ?_
  refine cvX10_goOn dX10_diesLine_31 mlX10_276 shM0 (Nat.le_of_ble_eq_true rfl) H (fun h1 H => ?_)
  refine aw_aload_n dX10_diesLine_34 rfl 0 rfl ?_
  refine aw_iconst (v := 0) dX10_diesLine_35 (by decide) ?_
  refine aw_bipush (v := 99) dX10_diesLine_36 (by decide) ?_
  refine cvX10_numeral dX10_diesLine_38 mlX10_247 shM0 (Nat.le_of_ble_eq_true rfl) H (fun z4 h3 H => ?_)
  refine aw_istore_n (ls' := [(2, .int z4), (0, .ref (ad 0)), (1, .int x1)]) dX10_diesLine_41 rfl (by decide) rfl ?_
  refine aw_aload_n dX10_diesLine_42 rfl 1 rfl ?_
  refine aw_get dX10_diesLine_43 shM0 ckX10 flX10_214 (v := .int (h3.1 0 29)) rfl ?_
  refine aw_if_ne (tgt := 59) dX10_diesLine_46 (by decide) (fun hc6 => ?_) (fun hc6 => ?_)
  · replace H := H.1 hc6
    exact aw_vret dX10_diesLine_59 rfl ⟨rfl, H⟩
  · replace H := H.2 hc6
    refine aw_aload_n dX10_diesLine_49 rfl 1 rfl ?_
    refine aw_get dX10_diesLine_50 shM0 ckX10 flX10_31 (v := .ref (ad 8)) rfl ?_
    refine aw_bipush (v := 6) dX10_diesLine_53 (by decide) ?_
    refine aw_iload_n dX10_diesLine_55 rfl 2 rfl ?_
    refine aw_iadd dX10_diesLine_56 ?_
    refine aw_iload_n dX10_diesLine_57 rfl 0 rfl ?_
    obtain ⟨hi5, H⟩ := H
    refine aw_iastK (t0 := 0) (j := ((6 : Int32) + x1).toNatClampNeg) dX10_diesLine_58 shM8 rfl rfl hi5 ?_
    exact aw_vret dX10_diesLine_59 rfl ⟨rfl, H⟩
set_option maxRecDepth 8000 in
set_option maxHeartbeats 1000000 in
theorem bX10_lawLine_0 {adK adV : Nat → Nat} {l : Launch} {ad : Nat → Nat} {d : Nat} {R : aH → Prop}     (h : aH)
    (H : (¬ (h.1 0 27) = 0 → (AW (GM adK adV) l ad (d + 1) mX10_lawLine 25 [(0, .ref (ad 0))] [] h (qv R))) ∧ ((h.1 0 27) = 0 → (((h.1 0 28) < (8 : Int32) → (AW (GM adK adV) l ad (d + 1) mX10_lawLine 25 [(0, .ref (ad 0))] [] h (qv R))) ∧ (¬ (h.1 0 28) < (8 : Int32) → (((h.1 0 28) ≤ (10 : Int32) → (AW (GM adK adV) l ad (d + 1) mX10_lawLine 30 [(0, .ref (ad 0))] [] h (qv R))) ∧ (¬ (h.1 0 28) ≤ (10 : Int32) → (AW (GM adK adV) l ad (d + 1) mX10_lawLine 25 [(0, .ref (ad 0))] [] h (qv R)))))))) : AW (GM adK adV) l ad (d + 1) mX10_lawLine 0 [(0, .ref (ad 0))] [] h (qv R) := by
  refine aw_aload_n dX10_lawLine_0 rfl 0 rfl ?_
  refine aw_get dX10_lawLine_1 shM0 ckX10 flX10_179 (v := .int (h.1 0 27)) rfl ?_
  refine aw_if_ne (tgt := 25) dX10_lawLine_4 (by decide) (fun hc3 => ?_) (fun hc3 => ?_)
  · replace H := H.1 hc3
    exact aw_ls [0] rfl H
  · replace H := H.2 hc3
    refine aw_aload_n dX10_lawLine_7 rfl 0 rfl ?_
    refine aw_get dX10_lawLine_8 shM0 ckX10 flX10_189 (v := .int (h.1 0 28)) rfl ?_
    refine aw_bipush (v := 8) dX10_lawLine_11 (by decide) ?_
    refine aw_icmp_lt (tgt := 25) dX10_lawLine_13 (by decide) (fun hc2 => ?_) (fun hc2 => ?_)
    · replace H := H.1 hc2
      exact aw_ls [0] rfl H
    · replace H := H.2 hc2
      refine aw_aload_n dX10_lawLine_16 rfl 0 rfl ?_
      refine aw_get dX10_lawLine_17 shM0 ckX10 flX10_189 (v := .int (h.1 0 28)) rfl ?_
      refine aw_bipush (v := 10) dX10_lawLine_20 (by decide) ?_
      refine aw_icmp_le (tgt := 30) dX10_lawLine_22 (by decide) (fun hc1 => ?_) (fun hc1 => ?_)
      · replace H := H.1 hc1
        exact aw_ls [0] rfl H
      · replace H := H.2 hc1
        exact aw_ls [0] rfl H
set_option maxRecDepth 8000 in
set_option maxHeartbeats 1000000 in
theorem bX10_lawLine_25 {adK adV : Nat → Nat} {l : Launch} {ad : Nat → Nat} {d : Nat} {R : aH → Prop}     (h : aH)
    (H : AW (GM adK adV) l ad d mX10_wrong 0 [(0, .ref (ad 0)), (1, .int (1 : Int32))] [] h (qv fun h1 => AW (GM adK adV) l ad (d + 1) mX10_lawLine 30 [(0, .ref (ad 0))] [] h1 (qv R))) : AW (GM adK adV) l ad (d + 1) mX10_lawLine 25 [(0, .ref (ad 0))] [] h (qv R) := by
  refine aw_aload_n dX10_lawLine_25 rfl 0 rfl ?_
  refine aw_iconst (v := 1) dX10_lawLine_26 (by decide) ?_
  refine cvX10_wrong dX10_lawLine_27 mlX10_223 shM0 (Nat.le_of_ble_eq_true rfl) H (fun h1 H => ?_)
  exact aw_ls [0] rfl H
set_option maxRecDepth 8000 in
set_option maxHeartbeats 1000000 in
theorem bX10_lawLine_30 {adK adV : Nat → Nat} {l : Launch} {ad : Nat → Nat} {d : Nat} {R : aH → Prop}     (h : aH)
    (H : (¬ (h.1 0 29) = 0 → (AW (GM adK adV) l ad (d + 1) mX10_lawLine 65 [(0, .ref (ad 0)), (1, .int ((h.1 0 28) - (8 : Int32)))] [] h (qv R))) ∧ ((h.1 0 29) = 0 → ((¬ (((h.1 0 22) >>> (((16 : Int32) + ((h.1 0 28) - (8 : Int32))) &&& 31)) &&& (1 : Int32)) = (1 : Int32) → (AW (GM adK adV) l ad (d + 1) mX10_lawLine 65 [(0, .ref (ad 0)), (1, .int ((h.1 0 28) - (8 : Int32)))] [] h (qv R))) ∧ ((((h.1 0 22) >>> (((16 : Int32) + ((h.1 0 28) - (8 : Int32))) &&& 31)) &&& (1 : Int32)) = (1 : Int32) → (AW (GM adK adV) l ad d mX10_wrong 0 [(0, .ref (ad 0)), (1, .int (3 : Int32))] [] h (qv fun h1 => AW (GM adK adV) l ad (d + 1) mX10_lawLine 65 [(0, .ref (ad 0)), (1, .int ((h.1 0 28) - (8 : Int32)))] [] h1 (qv R))))))) : AW (GM adK adV) l ad (d + 1) mX10_lawLine 30 [(0, .ref (ad 0))] [] h (qv R) := by
  refine aw_aload_n dX10_lawLine_30 rfl 0 rfl ?_
  refine aw_get dX10_lawLine_31 shM0 ckX10 flX10_189 (v := .int (h.1 0 28)) rfl ?_
  refine aw_bipush (v := 8) dX10_lawLine_34 (by decide) ?_
  refine aw_isub dX10_lawLine_36 ?_
  refine aw_istore_n (ls' := [(1, .int ((h.1 0 28) - (8 : Int32))), (0, .ref (ad 0))]) dX10_lawLine_37 rfl (by decide) rfl ?_
  refine aw_aload_n dX10_lawLine_38 rfl 1 rfl ?_
  refine aw_get dX10_lawLine_39 shM0 ckX10 flX10_214 (v := .int (h.1 0 29)) rfl ?_
  refine aw_if_ne (tgt := 65) dX10_lawLine_42 (by decide) (fun hc4 => ?_) (fun hc4 => ?_)
  · replace H := H.1 hc4
    exact aw_ls [1, 0] rfl H
  · replace H := H.2 hc4
    refine aw_aload_n dX10_lawLine_45 rfl 1 rfl ?_
    refine aw_get dX10_lawLine_46 shM0 ckX10 flX10_241 (v := .int (h.1 0 22)) rfl ?_
    refine aw_bipush (v := 16) dX10_lawLine_49 (by decide) ?_
    refine aw_iload_n dX10_lawLine_51 rfl 0 rfl ?_
    refine aw_iadd dX10_lawLine_52 ?_
    refine aw_ishr dX10_lawLine_53 ?_
    refine aw_iconst (v := 1) dX10_lawLine_54 (by decide) ?_
    refine aw_iand dX10_lawLine_55 ?_
    refine aw_iconst (v := 1) dX10_lawLine_56 (by decide) ?_
    refine aw_icmp_ne (tgt := 65) dX10_lawLine_57 (by decide) (fun hc3 => ?_) (fun hc3 => ?_)
    · replace H := H.1 hc3
      exact aw_ls [1, 0] rfl H
    · replace H := H.2 hc3
      refine aw_aload_n dX10_lawLine_60 rfl 1 rfl ?_
      refine aw_iconst (v := 3) dX10_lawLine_61 (by decide) ?_
      refine cvX10_wrong dX10_lawLine_62 mlX10_223 shM0 (Nat.le_of_ble_eq_true rfl) H (fun h1 H => ?_)
      exact aw_ls [1, 0] rfl H
set_option maxRecDepth 8000 in
set_option maxHeartbeats 1000000 in
theorem bX10_lawLine_65 {adK adV : Nat → Nat} {l : Launch} {ad : Nat → Nat} {d : Nat} {R : aH → Prop}   (x1 : Int32)  (h : aH)
    (H : ((h.1 0 29) = 0 → (AW (GM adK adV) l ad d mX10_token 0 [(0, .ref (ad 0))] [] (sI h 0 22 ((h.1 0 22) ||| ((1 : Int32) <<< (((16 : Int32) + x1) &&& 31)))) (qv fun h1 => AW (GM adK adV) l ad d mX10_fresher 0 [(0, .ref (ad 0)), (1, .int (6 : Int32))] [] h1 (qi fun z4 h3 => vp_in ((3 : Int32) + x1) 6 ∧ (AW (GM adK adV) l ad d mX10_expression 0 [(0, .ref (ad 0))] [] (sI h3 17 ((3 : Int32) + x1).toNatClampNeg z4) (qv fun h6 => AW (GM adK adV) l ad d mX10_fresher 0 [(0, .ref (ad 0)), (1, .int (6 : Int32))] [] h6 (qi fun z9 h8 => R (sI h8 18 ((3 : Int32) + x1).toNatClampNeg z9)))))))) ∧ (¬ (h.1 0 29) = 0 → (R h))) : AW (GM adK adV) l ad (d + 1) mX10_lawLine 65 [(0, .ref (ad 0)), (1, .int x1)] [] h (qv R) := by
  refine aw_aload_n dX10_lawLine_65 rfl 0 rfl ?_
  refine aw_get dX10_lawLine_66 shM0 ckX10 flX10_214 (v := .int (h.1 0 29)) rfl ?_
  refine aw_if_eq (tgt := 73) dX10_lawLine_69 (by decide) (fun hc10 => ?_) (fun hc10 => ?_)
  · replace H := H.1 hc10
    refine aw_aload_n dX10_lawLine_73 rfl 0 rfl ?_
    refine aw_dup dX10_lawLine_74 rfl ?_
    refine aw_get dX10_lawLine_75 shM0 ckX10 flX10_241 (v := .int (h.1 0 22)) rfl ?_
    refine aw_iconst (v := 1) dX10_lawLine_78 (by decide) ?_
    refine aw_bipush (v := 16) dX10_lawLine_79 (by decide) ?_
    refine aw_iload_n dX10_lawLine_81 rfl 1 rfl ?_
    refine aw_iadd dX10_lawLine_82 ?_
    refine aw_ishl dX10_lawLine_83 ?_
    refine aw_ior dX10_lawLine_84 ?_
    refine aw_putI dX10_lawLine_85 shM0 ckX10 flX10_241 rfl (fun _ => rfl) rfl rfl ?_
    refine aw_aload_n dX10_lawLine_88 rfl 0 rfl ?_
    refine cvX10_token dX10_lawLine_89 mlX10_220 shM0 (Nat.le_of_ble_eq_true rfl) H (fun h1 H => ?_)
    refine aw_aload_n dX10_lawLine_92 rfl 0 rfl ?_
    refine aw_get dX10_lawLine_93 shM0 ckX10 flX10_58 (v := .ref (ad 17)) rfl ?_
    refine aw_iconst (v := 3) dX10_lawLine_96 (by decide) ?_
    refine aw_iload_n dX10_lawLine_97 rfl 1 rfl ?_
    refine aw_iadd dX10_lawLine_98 ?_
    refine aw_aload_n dX10_lawLine_99 rfl 0 rfl ?_
    refine aw_bipush (v := 6) dX10_lawLine_100 (by decide) ?_
    refine cvX10_fresher dX10_lawLine_102 mlX10_230 shM0 (Nat.le_of_ble_eq_true rfl) H (fun z4 h3 H => ?_)
    obtain ⟨hi5, H⟩ := H
    refine aw_iastK (t0 := 0) (j := ((3 : Int32) + x1).toNatClampNeg) dX10_lawLine_105 shM17 rfl rfl hi5 ?_
    refine aw_aload_n dX10_lawLine_106 rfl 0 rfl ?_
    refine cvX10_expression dX10_lawLine_107 mlX10_282 shM0 (Nat.le_of_ble_eq_true rfl) H (fun h6 H => ?_)
    refine aw_aload_n dX10_lawLine_110 rfl 0 rfl ?_
    refine aw_get dX10_lawLine_111 shM0 ckX10 flX10_61 (v := .ref (ad 18)) rfl ?_
    refine aw_iconst (v := 3) dX10_lawLine_114 (by decide) ?_
    refine aw_iload_n dX10_lawLine_115 rfl 1 rfl ?_
    refine aw_iadd dX10_lawLine_116 ?_
    refine aw_aload_n dX10_lawLine_117 rfl 0 rfl ?_
    refine aw_bipush (v := 6) dX10_lawLine_118 (by decide) ?_
    refine cvX10_fresher dX10_lawLine_120 mlX10_230 shM0 (Nat.le_of_ble_eq_true rfl) H (fun z9 h8 H => ?_)
    refine aw_iastK (t0 := 0) (j := ((3 : Int32) + x1).toNatClampNeg) dX10_lawLine_123 shM18 rfl rfl hi5 ?_
    exact aw_vret dX10_lawLine_124 rfl ⟨rfl, H⟩
  · replace H := H.2 hc10
    exact aw_vret dX10_lawLine_72 rfl ⟨rfl, H⟩
set_option maxRecDepth 8000 in
set_option maxHeartbeats 1000000 in
theorem bX10_puts_0 {adK adV : Nat → Nat} {l : Launch} {ad : Nat → Nat} {d : Nat} {R : aH → Prop}   (x1 : Int32) (x2 : Int32)  (h : aH)
    (H : ((h.1 0 29) = 0 → (AW (GM adK adV) l ad d mX10_fresher 0 [(0, .ref (ad 0)), (1, .int (6 : Int32))] [] h (qi fun z2 h1 => vp_in ((64 : Int32) + z2) 128 ∧ (AW (GM adK adV) l ad d mX10_fresher 0 [(0, .ref (ad 0)), (1, .int (6 : Int32))] [] (sI h1 19 ((64 : Int32) + z2).toNatClampNeg x1) (qi fun z5 h4 => vp_in ((64 : Int32) + z5) 128 ∧ (AW (GM adK adV) l ad d mX10_fresher 0 [(0, .ref (ad 0)), (1, .int (6 : Int32))] [] (sI h4 20 ((64 : Int32) + z5).toNatClampNeg x2) (qi fun z8 h7 => AW (GM adK adV) l ad d mX10_reads 0 [(0, .ref (ad 0)), (1, .int (6 : Int32)), (2, .int (z8 + (1 : Int32)))] [] h7 (qv fun h9 => R h9)))))))) ∧ (¬ (h.1 0 29) = 0 → (R h))) : AW (GM adK adV) l ad (d + 1) mX10_puts 0 [(0, .ref (ad 0)), (1, .int x1), (2, .int x2)] [] h (qv R) := by
  refine aw_aload_n dX10_puts_0 rfl 0 rfl ?_
  refine aw_get dX10_puts_1 shM0 ckX10 flX10_214 (v := .int (h.1 0 29)) rfl ?_
  refine aw_if_eq (tgt := 8) dX10_puts_4 (by decide) (fun hc11 => ?_) (fun hc11 => ?_)
  · replace H := H.1 hc11
    refine aw_aload_n dX10_puts_8 rfl 0 rfl ?_
    refine aw_get dX10_puts_9 shM0 ckX10 flX10_64 (v := .ref (ad 19)) rfl ?_
    refine aw_bipush (v := 64) dX10_puts_12 (by decide) ?_
    refine aw_aload_n dX10_puts_14 rfl 0 rfl ?_
    refine aw_bipush (v := 6) dX10_puts_15 (by decide) ?_
    refine cvX10_fresher dX10_puts_17 mlX10_230 shM0 (Nat.le_of_ble_eq_true rfl) H (fun z2 h1 H => ?_)
    refine aw_iadd dX10_puts_20 ?_
    refine aw_iload_n dX10_puts_21 rfl 1 rfl ?_
    obtain ⟨hi3, H⟩ := H
    refine aw_iastK (t0 := 0) (j := ((64 : Int32) + z2).toNatClampNeg) dX10_puts_22 shM19 rfl rfl hi3 ?_
    refine aw_aload_n dX10_puts_23 rfl 0 rfl ?_
    refine aw_get dX10_puts_24 shM0 ckX10 flX10_67 (v := .ref (ad 20)) rfl ?_
    refine aw_bipush (v := 64) dX10_puts_27 (by decide) ?_
    refine aw_aload_n dX10_puts_29 rfl 0 rfl ?_
    refine aw_bipush (v := 6) dX10_puts_30 (by decide) ?_
    refine cvX10_fresher dX10_puts_32 mlX10_230 shM0 (Nat.le_of_ble_eq_true rfl) H (fun z5 h4 H => ?_)
    refine aw_iadd dX10_puts_35 ?_
    refine aw_iload_n dX10_puts_36 rfl 2 rfl ?_
    obtain ⟨hi6, H⟩ := H
    refine aw_iastK (t0 := 0) (j := ((64 : Int32) + z5).toNatClampNeg) dX10_puts_37 shM20 rfl rfl hi6 ?_
    refine aw_aload_n dX10_puts_38 rfl 0 rfl ?_
    refine aw_bipush (v := 6) dX10_puts_39 (by decide) ?_
    refine aw_aload_n dX10_puts_41 rfl 0 rfl ?_
    refine aw_bipush (v := 6) dX10_puts_42 (by decide) ?_
    refine cvX10_fresher dX10_puts_44 mlX10_230 shM0 (Nat.le_of_ble_eq_true rfl) H (fun z8 h7 H => ?_)
    refine aw_iconst (v := 1) dX10_puts_47 (by decide) ?_
    refine aw_iadd dX10_puts_48 ?_
    refine cvX10_reads dX10_puts_49 mlX10_251 shM0 (Nat.le_of_ble_eq_true rfl) H (fun h9 H => ?_)
    exact aw_vret dX10_puts_52 rfl ⟨rfl, H⟩
  · replace H := H.2 hc11
    exact aw_vret dX10_puts_7 rfl ⟨rfl, H⟩
set_option maxRecDepth 8000 in
set_option maxHeartbeats 1000000 in
theorem bX10_knot_0 {adK adV : Nat → Nat} {l : Launch} {ad : Nat → Nat} {d : Nat} {R : aH → Prop}     (h : aH)
    (H : ((h.1 0 29) = 0 → ((¬ (h.1 0 34) = (64 : Int32) → (R (sI h 0 34 ((h.1 0 34) + (1 : Int32))))) ∧ ((h.1 0 34) = (64 : Int32) → (AW (GM adK adV) l ad d mX10_wrong 0 [(0, .ref (ad 0)), (1, .int (2 : Int32))] [] h (qv fun h1 => R h1))))) ∧ (¬ (h.1 0 29) = 0 → (R h))) : AW (GM adK adV) l ad (d + 1) mX10_knot 0 [(0, .ref (ad 0))] [] h (qv R) := by
  refine aw_aload_n dX10_knot_0 rfl 0 rfl ?_
  refine aw_get dX10_knot_1 shM0 ckX10 flX10_214 (v := .int (h.1 0 29)) rfl ?_
  refine aw_if_eq (tgt := 8) dX10_knot_4 (by decide) (fun hc4 => ?_) (fun hc4 => ?_)
  · replace H := H.1 hc4
    refine aw_aload_n dX10_knot_8 rfl 0 rfl ?_
    refine aw_get dX10_knot_9 shM0 ckX10 flX10_285 (v := .int (h.1 0 34)) rfl ?_
    refine aw_bipush (v := 64) dX10_knot_12 (by decide) ?_
    refine aw_icmp_ne (tgt := 25) dX10_knot_14 (by decide) (fun hc3 => ?_) (fun hc3 => ?_)
    · replace H := H.1 hc3
      refine aw_aload_n dX10_knot_25 rfl 0 rfl ?_
      refine aw_dup dX10_knot_26 rfl ?_
      refine aw_get dX10_knot_27 shM0 ckX10 flX10_285 (v := .int (h.1 0 34)) rfl ?_
      refine aw_iconst (v := 1) dX10_knot_30 (by decide) ?_
      refine aw_iadd dX10_knot_31 ?_
      refine aw_putI dX10_knot_32 shM0 ckX10 flX10_285 rfl (fun _ => rfl) rfl rfl ?_
      exact aw_vret dX10_knot_35 rfl ⟨rfl, H⟩
    · replace H := H.2 hc3
      refine aw_aload_n dX10_knot_17 rfl 0 rfl ?_
      refine aw_iconst (v := 2) dX10_knot_18 (by decide) ?_
      refine cvX10_wrong dX10_knot_19 mlX10_223 shM0 (Nat.le_of_ble_eq_true rfl) H (fun h1 H => ?_)
      refine aw_goto (tgt := 35) dX10_knot_22 (by decide) ?_
      exact aw_vret dX10_knot_35 rfl ⟨rfl, H⟩
  · replace H := H.2 hc4
    exact aw_vret dX10_knot_7 rfl ⟨rfl, H⟩
set_option maxRecDepth 8000 in
set_option maxHeartbeats 1000000 in
theorem bX10_expression_0 {adK adV : Nat → Nat} {l : Launch} {ad : Nat → Nat} {d : Nat} {R : aH → Prop}     (h : aH)
    (H : AW (GM adK adV) l ad d mX10_conjunction 0 [(0, .ref (ad 0))] [] h (qv fun h1 => AW (GM adK adV) l ad (d + 1) mX10_expression 4 [(0, .ref (ad 0))] [] h1 (qv R))) : AW (GM adK adV) l ad (d + 1) mX10_expression 0 [(0, .ref (ad 0))] [] h (qv R) := by
  refine aw_aload_n dX10_expression_0 rfl 0 rfl ?_
  refine cvX10_conjunction dX10_expression_1 mlX10_288 shM0 (Nat.le_of_ble_eq_true rfl) H (fun h1 H => ?_)
  exact aw_ls [0] rfl H
set_option maxRecDepth 8000 in
set_option maxHeartbeats 1000000 in
theorem bX10_expression_4 {adK adV : Nat → Nat} {l : Launch} {ad : Nat → Nat} {d : Nat} {R : aH → Prop}     (h : aH)
    (H : AW (GM adK adV) l ad d mX10_isWord 0 [(0, .ref (ad 0)), (1, .int (11 : Int32))] [] h (qi fun z2 h1 => (z2 = 0 → (R h1)) ∧ (¬ z2 = 0 → (AW (GM adK adV) l ad d mX10_knot 0 [(0, .ref (ad 0))] [] h1 (qv fun h3 => AW (GM adK adV) l ad d mX10_goOn 0 [(0, .ref (ad 0))] [] h3 (qv fun h5 => AW (GM adK adV) l ad d mX10_conjunction 0 [(0, .ref (ad 0))] [] h5 (qv fun h7 => AW (GM adK adV) l ad d mX10_puts 0 [(0, .ref (ad 0)), (1, .int (2 : Int32)), (2, .int (262 : Int32))] [] h7 (qv fun h9 => AW (GM adK adV) l ad (d + 1) mX10_expression 4 [(0, .ref (ad 0))] [] h9 (qv R))))))))) : AW (GM adK adV) l ad (d + 1) mX10_expression 4 [(0, .ref (ad 0))] [] h (qv R) := by
  refine aw_aload_n dX10_expression_4 rfl 0 rfl ?_
  refine aw_bipush (v := 11) dX10_expression_5 (by decide) ?_
  refine cvX10_isWord dX10_expression_7 mlX10_291 shM0 (Nat.le_of_ble_eq_true rfl) H (fun z2 h1 H => ?_)
  refine aw_if_eq (tgt := 36) dX10_expression_10 (by decide) (fun hc11 => ?_) (fun hc11 => ?_)
  · replace H := H.1 hc11
    exact aw_vret dX10_expression_36 rfl ⟨rfl, H⟩
  · replace H := H.2 hc11
    refine aw_aload_n dX10_expression_13 rfl 0 rfl ?_
    refine cvX10_knot dX10_expression_14 mlX10_294 shM0 (Nat.le_of_ble_eq_true rfl) H (fun h3 H => ?_)
    refine aw_aload_n dX10_expression_17 rfl 0 rfl ?_
    refine cvX10_goOn dX10_expression_18 mlX10_276 shM0 (Nat.le_of_ble_eq_true rfl) H (fun h5 H => ?_)
    refine aw_aload_n dX10_expression_21 rfl 0 rfl ?_
    refine cvX10_conjunction dX10_expression_22 mlX10_288 shM0 (Nat.le_of_ble_eq_true rfl) H (fun h7 H => ?_)
    refine aw_aload_n dX10_expression_25 rfl 0 rfl ?_
    refine aw_iconst (v := 2) dX10_expression_26 (by decide) ?_
    refine aw_sipush (v := 262) dX10_expression_27 (by decide) ?_
    refine cvX10_puts dX10_expression_30 mlX10_297 shM0 (Nat.le_of_ble_eq_true rfl) H (fun h9 H => ?_)
    refine aw_goto (tgt := 4) dX10_expression_33 (by decide) ?_
    exact aw_ls [0] rfl H
set_option maxRecDepth 8000 in
set_option maxHeartbeats 1000000 in
theorem bX10_conjunction_0 {adK adV : Nat → Nat} {l : Launch} {ad : Nat → Nat} {d : Nat} {R : aH → Prop}     (h : aH)
    (H : AW (GM adK adV) l ad d mX10_negation 0 [(0, .ref (ad 0))] [] h (qv fun h1 => AW (GM adK adV) l ad (d + 1) mX10_conjunction 4 [(0, .ref (ad 0))] [] h1 (qv R))) : AW (GM adK adV) l ad (d + 1) mX10_conjunction 0 [(0, .ref (ad 0))] [] h (qv R) := by
  refine aw_aload_n dX10_conjunction_0 rfl 0 rfl ?_
  refine cvX10_negation dX10_conjunction_1 mlX10_300 shM0 (Nat.le_of_ble_eq_true rfl) H (fun h1 H => ?_)
  exact aw_ls [0] rfl H
set_option maxRecDepth 8000 in
set_option maxHeartbeats 1000000 in
theorem bX10_conjunction_4 {adK adV : Nat → Nat} {l : Launch} {ad : Nat → Nat} {d : Nat} {R : aH → Prop}     (h : aH)
    (H : AW (GM adK adV) l ad d mX10_isWord 0 [(0, .ref (ad 0)), (1, .int (12 : Int32))] [] h (qi fun z2 h1 => (z2 = 0 → (R h1)) ∧ (¬ z2 = 0 → (AW (GM adK adV) l ad d mX10_knot 0 [(0, .ref (ad 0))] [] h1 (qv fun h3 => AW (GM adK adV) l ad d mX10_goOn 0 [(0, .ref (ad 0))] [] h3 (qv fun h5 => AW (GM adK adV) l ad d mX10_negation 0 [(0, .ref (ad 0))] [] h5 (qv fun h7 => AW (GM adK adV) l ad d mX10_puts 0 [(0, .ref (ad 0)), (1, .int (2 : Int32)), (2, .int (261 : Int32))] [] h7 (qv fun h9 => AW (GM adK adV) l ad (d + 1) mX10_conjunction 4 [(0, .ref (ad 0))] [] h9 (qv R))))))))) : AW (GM adK adV) l ad (d + 1) mX10_conjunction 4 [(0, .ref (ad 0))] [] h (qv R) := by
  refine aw_aload_n dX10_conjunction_4 rfl 0 rfl ?_
  refine aw_bipush (v := 12) dX10_conjunction_5 (by decide) ?_
  refine cvX10_isWord dX10_conjunction_7 mlX10_291 shM0 (Nat.le_of_ble_eq_true rfl) H (fun z2 h1 H => ?_)
  refine aw_if_eq (tgt := 36) dX10_conjunction_10 (by decide) (fun hc11 => ?_) (fun hc11 => ?_)
  · replace H := H.1 hc11
    exact aw_vret dX10_conjunction_36 rfl ⟨rfl, H⟩
  · replace H := H.2 hc11
    refine aw_aload_n dX10_conjunction_13 rfl 0 rfl ?_
    refine cvX10_knot dX10_conjunction_14 mlX10_294 shM0 (Nat.le_of_ble_eq_true rfl) H (fun h3 H => ?_)
    refine aw_aload_n dX10_conjunction_17 rfl 0 rfl ?_
    refine cvX10_goOn dX10_conjunction_18 mlX10_276 shM0 (Nat.le_of_ble_eq_true rfl) H (fun h5 H => ?_)
    refine aw_aload_n dX10_conjunction_21 rfl 0 rfl ?_
    refine cvX10_negation dX10_conjunction_22 mlX10_300 shM0 (Nat.le_of_ble_eq_true rfl) H (fun h7 H => ?_)
    refine aw_aload_n dX10_conjunction_25 rfl 0 rfl ?_
    refine aw_iconst (v := 2) dX10_conjunction_26 (by decide) ?_
    refine aw_sipush (v := 261) dX10_conjunction_27 (by decide) ?_
    refine cvX10_puts dX10_conjunction_30 mlX10_297 shM0 (Nat.le_of_ble_eq_true rfl) H (fun h9 H => ?_)
    refine aw_goto (tgt := 4) dX10_conjunction_33 (by decide) ?_
    exact aw_ls [0] rfl H
set_option maxRecDepth 8000 in
set_option maxHeartbeats 1000000 in
theorem bX10_negation_0 {adK adV : Nat → Nat} {l : Launch} {ad : Nat → Nat} {d : Nat} {R : aH → Prop}     (h : aH)
    (H : AW (GM adK adV) l ad d mX10_isWord 0 [(0, .ref (ad 0)), (1, .int (13 : Int32))] [] h (qi fun z2 h1 => (z2 = 0 → (AW (GM adK adV) l ad d mX10_sum 0 [(0, .ref (ad 0))] [] h1 (qv fun h3 => (¬ (h3.1 0 29) = 0 → (R h3)) ∧ ((h3.1 0 29) = 0 → ((¬ (h3.1 0 27) = (3 : Int32) → (R h3)) ∧ ((h3.1 0 27) = (3 : Int32) → (((h3.1 0 28) = (60 : Int32) → (AW (GM adK adV) l ad (d + 1) mX10_negation 87 [(0, .ref (ad 0))] [] h3 (qv R))) ∧ (¬ (h3.1 0 28) = (60 : Int32) → (((h3.1 0 28) = (62 : Int32) → (AW (GM adK adV) l ad (d + 1) mX10_negation 87 [(0, .ref (ad 0))] [] h3 (qv R))) ∧ (¬ (h3.1 0 28) = (62 : Int32) → (((h3.1 0 28) = (61 : Int32) → (AW (GM adK adV) l ad (d + 1) mX10_negation 87 [(0, .ref (ad 0))] [] h3 (qv R))) ∧ (¬ (h3.1 0 28) = (61 : Int32) → (((256 : Int32) ≤ (h3.1 0 28) → (AW (GM adK adV) l ad (d + 1) mX10_negation 87 [(0, .ref (ad 0))] [] h3 (qv R))) ∧ (¬ (256 : Int32) ≤ (h3.1 0 28) → (R h3))))))))))))))) ∧ (¬ z2 = 0 → (AW (GM adK adV) l ad d mX10_knot 0 [(0, .ref (ad 0))] [] h1 (qv fun h11 => AW (GM adK adV) l ad d mX10_goOn 0 [(0, .ref (ad 0))] [] h11 (qv fun h13 => AW (GM adK adV) l ad d mX10_negation 0 [(0, .ref (ad 0))] [] h13 (qv fun h15 => AW (GM adK adV) l ad d mX10_puts 0 [(0, .ref (ad 0)), (1, .int (2 : Int32)), (2, .int (260 : Int32))] [] h15 (qv fun h17 => R h17)))))))) : AW (GM adK adV) l ad (d + 1) mX10_negation 0 [(0, .ref (ad 0))] [] h (qv R) := by
  refine aw_aload_n dX10_negation_0 rfl 0 rfl ?_
  refine aw_bipush (v := 13) dX10_negation_1 (by decide) ?_
  refine cvX10_isWord dX10_negation_3 mlX10_291 shM0 (Nat.le_of_ble_eq_true rfl) H (fun z2 h1 H => ?_)
  refine aw_if_eq (tgt := 30) dX10_negation_6 (by decide) (fun hc19 => ?_) (fun hc19 => ?_)
  · replace H := H.1 hc19
    refine aw_aload_n dX10_negation_30 rfl 0 rfl ?_
    refine cvX10_sum dX10_negation_31 mlX10_303 shM0 (Nat.le_of_ble_eq_true rfl) H (fun h3 H => ?_)
    refine aw_aload_n dX10_negation_34 rfl 0 rfl ?_
    refine aw_get dX10_negation_35 shM0 ckX10 flX10_214 (v := .int (h3.1 0 29)) rfl ?_
    refine aw_if_ne (tgt := 86) dX10_negation_38 (by decide) (fun hc10 => ?_) (fun hc10 => ?_)
    · replace H := H.1 hc10
      exact aw_vret dX10_negation_86 rfl ⟨rfl, H⟩
    · replace H := H.2 hc10
      refine aw_aload_n dX10_negation_41 rfl 0 rfl ?_
      refine aw_get dX10_negation_42 shM0 ckX10 flX10_179 (v := .int (h3.1 0 27)) rfl ?_
      refine aw_iconst (v := 3) dX10_negation_45 (by decide) ?_
      refine aw_icmp_ne (tgt := 86) dX10_negation_46 (by decide) (fun hc9 => ?_) (fun hc9 => ?_)
      · replace H := H.1 hc9
        exact aw_vret dX10_negation_86 rfl ⟨rfl, H⟩
      · replace H := H.2 hc9
        refine aw_aload_n dX10_negation_49 rfl 0 rfl ?_
        refine aw_get dX10_negation_50 shM0 ckX10 flX10_189 (v := .int (h3.1 0 28)) rfl ?_
        refine aw_bipush (v := 60) dX10_negation_53 (by decide) ?_
        refine aw_icmp_eq (tgt := 87) dX10_negation_55 (by decide) (fun hc8 => ?_) (fun hc8 => ?_)
        · replace H := H.1 hc8
          exact aw_ls [0] rfl H
        · replace H := H.2 hc8
          refine aw_aload_n dX10_negation_58 rfl 0 rfl ?_
          refine aw_get dX10_negation_59 shM0 ckX10 flX10_189 (v := .int (h3.1 0 28)) rfl ?_
          refine aw_bipush (v := 62) dX10_negation_62 (by decide) ?_
          refine aw_icmp_eq (tgt := 87) dX10_negation_64 (by decide) (fun hc7 => ?_) (fun hc7 => ?_)
          · replace H := H.1 hc7
            exact aw_ls [0] rfl H
          · replace H := H.2 hc7
            refine aw_aload_n dX10_negation_67 rfl 0 rfl ?_
            refine aw_get dX10_negation_68 shM0 ckX10 flX10_189 (v := .int (h3.1 0 28)) rfl ?_
            refine aw_bipush (v := 61) dX10_negation_71 (by decide) ?_
            refine aw_icmp_eq (tgt := 87) dX10_negation_73 (by decide) (fun hc6 => ?_) (fun hc6 => ?_)
            · replace H := H.1 hc6
              exact aw_ls [0] rfl H
            · replace H := H.2 hc6
              refine aw_aload_n dX10_negation_76 rfl 0 rfl ?_
              refine aw_get dX10_negation_77 shM0 ckX10 flX10_189 (v := .int (h3.1 0 28)) rfl ?_
              refine aw_sipush (v := 256) dX10_negation_80 (by decide) ?_
              refine aw_icmp_ge (tgt := 87) dX10_negation_83 (by decide) (fun hc5 => ?_) (fun hc5 => ?_)
              · replace H := H.1 hc5
                exact aw_ls [0] rfl H
              · replace H := H.2 hc5
                exact aw_vret dX10_negation_86 rfl ⟨rfl, H⟩
  · replace H := H.2 hc19
    refine aw_aload_n dX10_negation_9 rfl 0 rfl ?_
    refine cvX10_knot dX10_negation_10 mlX10_294 shM0 (Nat.le_of_ble_eq_true rfl) H (fun h11 H => ?_)
    refine aw_aload_n dX10_negation_13 rfl 0 rfl ?_
    refine cvX10_goOn dX10_negation_14 mlX10_276 shM0 (Nat.le_of_ble_eq_true rfl) H (fun h13 H => ?_)
    refine aw_aload_n dX10_negation_17 rfl 0 rfl ?_
    refine cvX10_negation dX10_negation_18 mlX10_300 shM0 (Nat.le_of_ble_eq_true rfl) H (fun h15 H => ?_)
    refine aw_aload_n dX10_negation_21 rfl 0 rfl ?_
    refine aw_iconst (v := 2) dX10_negation_22 (by decide) ?_
    refine aw_sipush (v := 260) dX10_negation_23 (by decide) ?_
    refine cvX10_puts dX10_negation_26 mlX10_297 shM0 (Nat.le_of_ble_eq_true rfl) H (fun h17 H => ?_)
    exact aw_vret dX10_negation_29 rfl ⟨rfl, H⟩
set_option maxRecDepth 8000 in
set_option maxHeartbeats 1000000 in
theorem bX10_negation_87 {adK adV : Nat → Nat} {l : Launch} {ad : Nat → Nat} {d : Nat} {R : aH → Prop}     (h : aH)
    (H : AW (GM adK adV) l ad d mX10_knot 0 [(0, .ref (ad 0))] [] h (qv fun h1 => AW (GM adK adV) l ad d mX10_goOn 0 [(0, .ref (ad 0))] [] h1 (qv fun h3 => AW (GM adK adV) l ad d mX10_sum 0 [(0, .ref (ad 0))] [] h3 (qv fun h5 => AW (GM adK adV) l ad d mX10_puts 0 [(0, .ref (ad 0)), (1, .int (2 : Int32)), (2, .int (h.1 0 28))] [] h5 (qv fun h7 => R h7))))) : AW (GM adK adV) l ad (d + 1) mX10_negation 87 [(0, .ref (ad 0))] [] h (qv R) := by
  refine aw_aload_n dX10_negation_87 rfl 0 rfl ?_
  refine aw_get dX10_negation_88 shM0 ckX10 flX10_189 (v := .int (h.1 0 28)) rfl ?_
  refine aw_istore_n (ls' := [(1, .int (h.1 0 28)), (0, .ref (ad 0))]) dX10_negation_91 rfl (by decide) rfl ?_
  refine aw_aload_n dX10_negation_92 rfl 1 rfl ?_
  refine cvX10_knot dX10_negation_93 mlX10_294 shM0 (Nat.le_of_ble_eq_true rfl) H (fun h1 H => ?_)
  refine aw_aload_n dX10_negation_96 rfl 1 rfl ?_
  refine cvX10_goOn dX10_negation_97 mlX10_276 shM0 (Nat.le_of_ble_eq_true rfl) H (fun h3 H => ?_)
  refine aw_aload_n dX10_negation_100 rfl 1 rfl ?_
  refine cvX10_sum dX10_negation_101 mlX10_303 shM0 (Nat.le_of_ble_eq_true rfl) H (fun h5 H => ?_)
  refine aw_aload_n dX10_negation_104 rfl 1 rfl ?_
  refine aw_iconst (v := 2) dX10_negation_105 (by decide) ?_
  refine aw_iload_n dX10_negation_106 rfl 0 rfl ?_
  refine cvX10_puts dX10_negation_107 mlX10_297 shM0 (Nat.le_of_ble_eq_true rfl) H (fun h7 H => ?_)
  exact aw_vret dX10_negation_110 rfl ⟨rfl, H⟩
set_option maxRecDepth 8000 in
set_option maxHeartbeats 1000000 in
theorem bX10_sum_0 {adK adV : Nat → Nat} {l : Launch} {ad : Nat → Nat} {d : Nat} {R : aH → Prop}     (h : aH)
    (H : AW (GM adK adV) l ad d mX10_product 0 [(0, .ref (ad 0))] [] h (qv fun h1 => AW (GM adK adV) l ad (d + 1) mX10_sum 4 [(0, .ref (ad 0))] [] h1 (qv R))) : AW (GM adK adV) l ad (d + 1) mX10_sum 0 [(0, .ref (ad 0))] [] h (qv R) := by
  refine aw_aload_n dX10_sum_0 rfl 0 rfl ?_
  refine cvX10_product dX10_sum_1 mlX10_306 shM0 (Nat.le_of_ble_eq_true rfl) H (fun h1 H => ?_)
  exact aw_ls [0] rfl H
set_option maxRecDepth 8000 in
set_option maxHeartbeats 1000000 in
theorem bX10_sum_4 {adK adV : Nat → Nat} {l : Launch} {ad : Nat → Nat} {d : Nat} {R : aH → Prop}     (h : aH)
    (H : AW (GM adK adV) l ad d mX10_isSign 0 [(0, .ref (ad 0)), (1, .int (43 : Int32))] [] h (qi fun z2 h1 => (¬ z2 = 0 → (AW (GM adK adV) l ad (d + 1) mX10_sum 22 [(0, .ref (ad 0))] [] h1 (qv R))) ∧ (z2 = 0 → (AW (GM adK adV) l ad d mX10_isSign 0 [(0, .ref (ad 0)), (1, .int (45 : Int32))] [] h1 (qi fun z4 h3 => (z4 = 0 → (R h3)) ∧ (¬ z4 = 0 → (AW (GM adK adV) l ad (d + 1) mX10_sum 22 [(0, .ref (ad 0))] [] h3 (qv R)))))))) : AW (GM adK adV) l ad (d + 1) mX10_sum 4 [(0, .ref (ad 0))] [] h (qv R) := by
  refine aw_aload_n dX10_sum_4 rfl 0 rfl ?_
  refine aw_bipush (v := 43) dX10_sum_5 (by decide) ?_
  refine cvX10_isSign dX10_sum_7 mlX10_267 shM0 (Nat.le_of_ble_eq_true rfl) H (fun z2 h1 H => ?_)
  refine aw_if_ne (tgt := 22) dX10_sum_10 (by decide) (fun hc6 => ?_) (fun hc6 => ?_)
  · replace H := H.1 hc6
    exact aw_ls [0] rfl H
  · replace H := H.2 hc6
    refine aw_aload_n dX10_sum_13 rfl 0 rfl ?_
    refine aw_bipush (v := 45) dX10_sum_14 (by decide) ?_
    refine cvX10_isSign dX10_sum_16 mlX10_267 shM0 (Nat.le_of_ble_eq_true rfl) H (fun z4 h3 H => ?_)
    refine aw_if_eq (tgt := 48) dX10_sum_19 (by decide) (fun hc5 => ?_) (fun hc5 => ?_)
    · replace H := H.1 hc5
      exact aw_vret dX10_sum_48 rfl ⟨rfl, H⟩
    · replace H := H.2 hc5
      exact aw_ls [0] rfl H
set_option maxRecDepth 8000 in
set_option maxHeartbeats 1000000 in
theorem bX10_sum_22 {adK adV : Nat → Nat} {l : Launch} {ad : Nat → Nat} {d : Nat} {R : aH → Prop}     (h : aH)
    (H : AW (GM adK adV) l ad d mX10_knot 0 [(0, .ref (ad 0))] [] h (qv fun h1 => AW (GM adK adV) l ad d mX10_goOn 0 [(0, .ref (ad 0))] [] h1 (qv fun h3 => AW (GM adK adV) l ad d mX10_product 0 [(0, .ref (ad 0))] [] h3 (qv fun h5 => AW (GM adK adV) l ad d mX10_puts 0 [(0, .ref (ad 0)), (1, .int (2 : Int32)), (2, .int (h.1 0 28))] [] h5 (qv fun h7 => AW (GM adK adV) l ad (d + 1) mX10_sum 4 [(0, .ref (ad 0))] [] h7 (qv R)))))) : AW (GM adK adV) l ad (d + 1) mX10_sum 22 [(0, .ref (ad 0))] [] h (qv R) := by
  refine aw_aload_n dX10_sum_22 rfl 0 rfl ?_
  refine aw_get dX10_sum_23 shM0 ckX10 flX10_189 (v := .int (h.1 0 28)) rfl ?_
  refine aw_istore_n (ls' := [(1, .int (h.1 0 28)), (0, .ref (ad 0))]) dX10_sum_26 rfl (by decide) rfl ?_
  refine aw_aload_n dX10_sum_27 rfl 1 rfl ?_
  refine cvX10_knot dX10_sum_28 mlX10_294 shM0 (Nat.le_of_ble_eq_true rfl) H (fun h1 H => ?_)
  refine aw_aload_n dX10_sum_31 rfl 1 rfl ?_
  refine cvX10_goOn dX10_sum_32 mlX10_276 shM0 (Nat.le_of_ble_eq_true rfl) H (fun h3 H => ?_)
  refine aw_aload_n dX10_sum_35 rfl 1 rfl ?_
  refine cvX10_product dX10_sum_36 mlX10_306 shM0 (Nat.le_of_ble_eq_true rfl) H (fun h5 H => ?_)
  refine aw_aload_n dX10_sum_39 rfl 1 rfl ?_
  refine aw_iconst (v := 2) dX10_sum_40 (by decide) ?_
  refine aw_iload_n dX10_sum_41 rfl 0 rfl ?_
  refine cvX10_puts dX10_sum_42 mlX10_297 shM0 (Nat.le_of_ble_eq_true rfl) H (fun h7 H => ?_)
  refine aw_goto (tgt := 4) dX10_sum_45 (by decide) ?_
  exact aw_ls [1] rfl H
set_option maxRecDepth 8000 in
set_option maxHeartbeats 1000000 in
theorem bX10_product_0 {adK adV : Nat → Nat} {l : Launch} {ad : Nat → Nat} {d : Nat} {R : aH → Prop}     (h : aH)
    (H : AW (GM adK adV) l ad d mX10_primary 0 [(0, .ref (ad 0))] [] h (qv fun h1 => AW (GM adK adV) l ad (d + 1) mX10_product 4 [(0, .ref (ad 0))] [] h1 (qv R))) : AW (GM adK adV) l ad (d + 1) mX10_product 0 [(0, .ref (ad 0))] [] h (qv R) := by
  refine aw_aload_n dX10_product_0 rfl 0 rfl ?_
  refine cvX10_primary dX10_product_1 mlX10_309 shM0 (Nat.le_of_ble_eq_true rfl) H (fun h1 H => ?_)
  exact aw_ls [0] rfl H
set_option maxRecDepth 8000 in
set_option maxHeartbeats 1000000 in
theorem bX10_product_4 {adK adV : Nat → Nat} {l : Launch} {ad : Nat → Nat} {d : Nat} {R : aH → Prop}     (h : aH)
    (H : AW (GM adK adV) l ad d mX10_isSign 0 [(0, .ref (ad 0)), (1, .int (42 : Int32))] [] h (qi fun z2 h1 => (¬ z2 = 0 → (AW (GM adK adV) l ad (d + 1) mX10_product 22 [(0, .ref (ad 0))] [] h1 (qv R))) ∧ (z2 = 0 → (AW (GM adK adV) l ad d mX10_isSign 0 [(0, .ref (ad 0)), (1, .int (47 : Int32))] [] h1 (qi fun z4 h3 => (z4 = 0 → (R h3)) ∧ (¬ z4 = 0 → (AW (GM adK adV) l ad (d + 1) mX10_product 22 [(0, .ref (ad 0))] [] h3 (qv R)))))))) : AW (GM adK adV) l ad (d + 1) mX10_product 4 [(0, .ref (ad 0))] [] h (qv R) := by
  refine aw_aload_n dX10_product_4 rfl 0 rfl ?_
  refine aw_bipush (v := 42) dX10_product_5 (by decide) ?_
  refine cvX10_isSign dX10_product_7 mlX10_267 shM0 (Nat.le_of_ble_eq_true rfl) H (fun z2 h1 H => ?_)
  refine aw_if_ne (tgt := 22) dX10_product_10 (by decide) (fun hc6 => ?_) (fun hc6 => ?_)
  · replace H := H.1 hc6
    exact aw_ls [0] rfl H
  · replace H := H.2 hc6
    refine aw_aload_n dX10_product_13 rfl 0 rfl ?_
    refine aw_bipush (v := 47) dX10_product_14 (by decide) ?_
    refine cvX10_isSign dX10_product_16 mlX10_267 shM0 (Nat.le_of_ble_eq_true rfl) H (fun z4 h3 H => ?_)
    refine aw_if_eq (tgt := 48) dX10_product_19 (by decide) (fun hc5 => ?_) (fun hc5 => ?_)
    · replace H := H.1 hc5
      exact aw_vret dX10_product_48 rfl ⟨rfl, H⟩
    · replace H := H.2 hc5
      exact aw_ls [0] rfl H
set_option maxRecDepth 8000 in
set_option maxHeartbeats 1000000 in
theorem bX10_product_22 {adK adV : Nat → Nat} {l : Launch} {ad : Nat → Nat} {d : Nat} {R : aH → Prop}     (h : aH)
    (H : AW (GM adK adV) l ad d mX10_knot 0 [(0, .ref (ad 0))] [] h (qv fun h1 => AW (GM adK adV) l ad d mX10_goOn 0 [(0, .ref (ad 0))] [] h1 (qv fun h3 => AW (GM adK adV) l ad d mX10_primary 0 [(0, .ref (ad 0))] [] h3 (qv fun h5 => AW (GM adK adV) l ad d mX10_puts 0 [(0, .ref (ad 0)), (1, .int (2 : Int32)), (2, .int (h.1 0 28))] [] h5 (qv fun h7 => AW (GM adK adV) l ad (d + 1) mX10_product 4 [(0, .ref (ad 0))] [] h7 (qv R)))))) : AW (GM adK adV) l ad (d + 1) mX10_product 22 [(0, .ref (ad 0))] [] h (qv R) := by
  refine aw_aload_n dX10_product_22 rfl 0 rfl ?_
  refine aw_get dX10_product_23 shM0 ckX10 flX10_189 (v := .int (h.1 0 28)) rfl ?_
  refine aw_istore_n (ls' := [(1, .int (h.1 0 28)), (0, .ref (ad 0))]) dX10_product_26 rfl (by decide) rfl ?_
  refine aw_aload_n dX10_product_27 rfl 1 rfl ?_
  refine cvX10_knot dX10_product_28 mlX10_294 shM0 (Nat.le_of_ble_eq_true rfl) H (fun h1 H => ?_)
  refine aw_aload_n dX10_product_31 rfl 1 rfl ?_
  refine cvX10_goOn dX10_product_32 mlX10_276 shM0 (Nat.le_of_ble_eq_true rfl) H (fun h3 H => ?_)
  refine aw_aload_n dX10_product_35 rfl 1 rfl ?_
  refine cvX10_primary dX10_product_36 mlX10_309 shM0 (Nat.le_of_ble_eq_true rfl) H (fun h5 H => ?_)
  refine aw_aload_n dX10_product_39 rfl 1 rfl ?_
  refine aw_iconst (v := 2) dX10_product_40 (by decide) ?_
  refine aw_iload_n dX10_product_41 rfl 0 rfl ?_
  refine cvX10_puts dX10_product_42 mlX10_297 shM0 (Nat.le_of_ble_eq_true rfl) H (fun h7 H => ?_)
  refine aw_goto (tgt := 4) dX10_product_45 (by decide) ?_
  exact aw_ls [1] rfl H
set_option maxRecDepth 8000 in
set_option maxHeartbeats 1000000 in
theorem bX10_primary_0 {adK adV : Nat → Nat} {l : Launch} {ad : Nat → Nat} {d : Nat} {R : aH → Prop}     (h : aH)
    (H : ((h.1 0 29) = 0 → (AW (GM adK adV) l ad d mX10_isSign 0 [(0, .ref (ad 0)), (1, .int (40 : Int32))] [] h (qi fun z2 h1 => (z2 = 0 → ((¬ (h1.1 0 27) = (2 : Int32) → (AW (GM adK adV) l ad (d + 1) mX10_primary 114 [(0, .ref (ad 0))] [.int (0 : Int32)] h1 (qv R))) ∧ ((h1.1 0 27) = (2 : Int32) → (AW (GM adK adV) l ad (d + 1) mX10_primary 114 [(0, .ref (ad 0))] [.int (1 : Int32)] h1 (qv R))))) ∧ (¬ z2 = 0 → ((¬ (h1.1 0 33) = (8 : Int32) → (AW (GM adK adV) l ad (d + 1) mX10_primary 31 [(0, .ref (ad 0))] [] h1 (qv R))) ∧ ((h1.1 0 33) = (8 : Int32) → (AW (GM adK adV) l ad d mX10_wrong 0 [(0, .ref (ad 0)), (1, .int (2 : Int32))] [] h1 (qv fun h4 => AW (GM adK adV) l ad (d + 1) mX10_primary 31 [(0, .ref (ad 0))] [] h4 (qv R))))))))) ∧ (¬ (h.1 0 29) = 0 → (R h))) : AW (GM adK adV) l ad (d + 1) mX10_primary 0 [(0, .ref (ad 0))] [] h (qv R) := by
  refine aw_aload_n dX10_primary_0 rfl 0 rfl ?_
  refine aw_get dX10_primary_1 shM0 ckX10 flX10_214 (v := .int (h.1 0 29)) rfl ?_
  refine aw_if_eq (tgt := 8) dX10_primary_4 (by decide) (fun hc8 => ?_) (fun hc8 => ?_)
  · replace H := H.1 hc8
    refine aw_aload_n dX10_primary_8 rfl 0 rfl ?_
    refine aw_bipush (v := 40) dX10_primary_9 (by decide) ?_
    refine cvX10_isSign dX10_primary_11 mlX10_267 shM0 (Nat.le_of_ble_eq_true rfl) H (fun z2 h1 H => ?_)
    refine aw_if_eq (tgt := 101) dX10_primary_14 (by decide) (fun hc7 => ?_) (fun hc7 => ?_)
    · replace H := H.1 hc7
      refine aw_aload_n dX10_primary_101 rfl 0 rfl ?_
      refine aw_get dX10_primary_102 shM0 ckX10 flX10_179 (v := .int (h1.1 0 27)) rfl ?_
      refine aw_iconst (v := 2) dX10_primary_105 (by decide) ?_
      refine aw_icmp_ne (tgt := 113) dX10_primary_106 (by decide) (fun hc3 => ?_) (fun hc3 => ?_)
      · replace H := H.1 hc3
        refine aw_iconst (v := 0) dX10_primary_113 (by decide) ?_
        exact aw_ls [0] rfl H
      · replace H := H.2 hc3
        refine aw_iconst (v := 1) dX10_primary_109 (by decide) ?_
        refine aw_goto (tgt := 114) dX10_primary_110 (by decide) ?_
        exact aw_ls [0] rfl H
    · replace H := H.2 hc7
      refine aw_aload_n dX10_primary_17 rfl 0 rfl ?_
      refine aw_get dX10_primary_18 shM0 ckX10 flX10_312 (v := .int (h1.1 0 33)) rfl ?_
      refine aw_bipush (v := 8) dX10_primary_21 (by decide) ?_
      refine aw_icmp_ne (tgt := 31) dX10_primary_23 (by decide) (fun hc6 => ?_) (fun hc6 => ?_)
      · replace H := H.1 hc6
        exact aw_ls [0] rfl H
      · replace H := H.2 hc6
        refine aw_aload_n dX10_primary_26 rfl 0 rfl ?_
        refine aw_iconst (v := 2) dX10_primary_27 (by decide) ?_
        refine cvX10_wrong dX10_primary_28 mlX10_223 shM0 (Nat.le_of_ble_eq_true rfl) H (fun h4 H => ?_)
        exact aw_ls [0] rfl H
  · replace H := H.2 hc8
    exact aw_vret dX10_primary_7 rfl ⟨rfl, H⟩
set_option maxRecDepth 8000 in
set_option maxHeartbeats 1000000 in
theorem bX10_primary_31 {adK adV : Nat → Nat} {l : Launch} {ad : Nat → Nat} {d : Nat} {R : aH → Prop}     (h : aH)
    (H : ((h.1 0 29) = 0 → (AW (GM adK adV) l ad d mX10_token 0 [(0, .ref (ad 0))] [] (sI h 0 33 ((h.1 0 33) + (1 : Int32))) (qv fun h1 => AW (GM adK adV) l ad d mX10_expression 0 [(0, .ref (ad 0))] [] h1 (qv fun h3 => (¬ (h3.1 0 29) = 0 → (AW (GM adK adV) l ad (d + 1) mX10_primary 78 [(0, .ref (ad 0))] [] h3 (qv R))) ∧ ((h3.1 0 29) = 0 → (AW (GM adK adV) l ad d mX10_isSign 0 [(0, .ref (ad 0)), (1, .int (41 : Int32))] [] h3 (qi fun z6 h5 => (¬ z6 = 0 → (AW (GM adK adV) l ad (d + 1) mX10_primary 78 [(0, .ref (ad 0))] [] h5 (qv R))) ∧ (z6 = 0 → (AW (GM adK adV) l ad d mX10_wrong 0 [(0, .ref (ad 0)), (1, .int (1 : Int32))] [] h5 (qv fun h7 => AW (GM adK adV) l ad (d + 1) mX10_primary 78 [(0, .ref (ad 0))] [] h7 (qv R))))))))))) ∧ (¬ (h.1 0 29) = 0 → (R h))) : AW (GM adK adV) l ad (d + 1) mX10_primary 31 [(0, .ref (ad 0))] [] h (qv R) := by
  refine aw_aload_n dX10_primary_31 rfl 0 rfl ?_
  refine aw_get dX10_primary_32 shM0 ckX10 flX10_214 (v := .int (h.1 0 29)) rfl ?_
  refine aw_if_eq (tgt := 39) dX10_primary_35 (by decide) (fun hc11 => ?_) (fun hc11 => ?_)
  · replace H := H.1 hc11
    refine aw_aload_n dX10_primary_39 rfl 0 rfl ?_
    refine aw_dup dX10_primary_40 rfl ?_
    refine aw_get dX10_primary_41 shM0 ckX10 flX10_312 (v := .int (h.1 0 33)) rfl ?_
    refine aw_iconst (v := 1) dX10_primary_44 (by decide) ?_
    refine aw_iadd dX10_primary_45 ?_
    refine aw_putI dX10_primary_46 shM0 ckX10 flX10_312 rfl (fun _ => rfl) rfl rfl ?_
    refine aw_aload_n dX10_primary_49 rfl 0 rfl ?_
    refine cvX10_token dX10_primary_50 mlX10_220 shM0 (Nat.le_of_ble_eq_true rfl) H (fun h1 H => ?_)
    refine aw_aload_n dX10_primary_53 rfl 0 rfl ?_
    refine cvX10_expression dX10_primary_54 mlX10_282 shM0 (Nat.le_of_ble_eq_true rfl) H (fun h3 H => ?_)
    refine aw_aload_n dX10_primary_57 rfl 0 rfl ?_
    refine aw_get dX10_primary_58 shM0 ckX10 flX10_214 (v := .int (h3.1 0 29)) rfl ?_
    refine aw_if_ne (tgt := 78) dX10_primary_61 (by decide) (fun hc10 => ?_) (fun hc10 => ?_)
    · replace H := H.1 hc10
      exact aw_ls [0] rfl H
    · replace H := H.2 hc10
      refine aw_aload_n dX10_primary_64 rfl 0 rfl ?_
      refine aw_bipush (v := 41) dX10_primary_65 (by decide) ?_
      refine cvX10_isSign dX10_primary_67 mlX10_267 shM0 (Nat.le_of_ble_eq_true rfl) H (fun z6 h5 H => ?_)
      refine aw_if_ne (tgt := 78) dX10_primary_70 (by decide) (fun hc9 => ?_) (fun hc9 => ?_)
      · replace H := H.1 hc9
        exact aw_ls [0] rfl H
      · replace H := H.2 hc9
        refine aw_aload_n dX10_primary_73 rfl 0 rfl ?_
        refine aw_iconst (v := 1) dX10_primary_74 (by decide) ?_
        refine cvX10_wrong dX10_primary_75 mlX10_223 shM0 (Nat.le_of_ble_eq_true rfl) H (fun h7 H => ?_)
        exact aw_ls [0] rfl H
  · replace H := H.2 hc11
    exact aw_vret dX10_primary_38 rfl ⟨rfl, H⟩
set_option maxRecDepth 8000 in
set_option maxHeartbeats 1000000 in
theorem bX10_primary_78 {adK adV : Nat → Nat} {l : Launch} {ad : Nat → Nat} {d : Nat} {R : aH → Prop}     (h : aH)
    (H : ((h.1 0 29) = 0 → (AW (GM adK adV) l ad d mX10_token 0 [(0, .ref (ad 0))] [] (sI h 0 33 ((h.1 0 33) - (1 : Int32))) (qv fun h1 => R h1))) ∧ (¬ (h.1 0 29) = 0 → (R h))) : AW (GM adK adV) l ad (d + 1) mX10_primary 78 [(0, .ref (ad 0))] [] h (qv R) := by
  refine aw_aload_n dX10_primary_78 rfl 0 rfl ?_
  refine aw_get dX10_primary_79 shM0 ckX10 flX10_214 (v := .int (h.1 0 29)) rfl ?_
  refine aw_if_eq (tgt := 86) dX10_primary_82 (by decide) (fun hc3 => ?_) (fun hc3 => ?_)
  · replace H := H.1 hc3
    refine aw_aload_n dX10_primary_86 rfl 0 rfl ?_
    refine aw_dup dX10_primary_87 rfl ?_
    refine aw_get dX10_primary_88 shM0 ckX10 flX10_312 (v := .int (h.1 0 33)) rfl ?_
    refine aw_iconst (v := 1) dX10_primary_91 (by decide) ?_
    refine aw_isub dX10_primary_92 ?_
    refine aw_putI dX10_primary_93 shM0 ckX10 flX10_312 rfl (fun _ => rfl) rfl rfl ?_
    refine aw_aload_n dX10_primary_96 rfl 0 rfl ?_
    refine cvX10_token dX10_primary_97 mlX10_220 shM0 (Nat.le_of_ble_eq_true rfl) H (fun h1 H => ?_)
    exact aw_vret dX10_primary_100 rfl ⟨rfl, H⟩
  · replace H := H.2 hc3
    exact aw_vret dX10_primary_85 rfl ⟨rfl, H⟩
set_option maxRecDepth 8000 in
set_option maxHeartbeats 1000000 in
theorem bX10_primary_114 {adK adV : Nat → Nat} {l : Launch} {ad : Nat → Nat} {d : Nat} {R : aH → Prop}   (s0 : Int32)  (h : aH)
    (H : (s0 = 0 → (AW (GM adK adV) l ad (d + 1) mX10_primary 137 [(0, .ref (ad 0)), (1, .int s0)] [] h (qv R))) ∧ (¬ s0 = 0 → (((h.1 0 28) ≤ (9999 : Int32) → (AW (GM adK adV) l ad (d + 1) mX10_primary 137 [(0, .ref (ad 0)), (1, .int s0)] [] h (qv R))) ∧ (¬ (h.1 0 28) ≤ (9999 : Int32) → (AW (GM adK adV) l ad d mX10_wrong 0 [(0, .ref (ad 0)), (1, .int (2 : Int32))] [] h (qv fun h1 => AW (GM adK adV) l ad (d + 1) mX10_primary 162 [(0, .ref (ad 0)), (1, .int s0)] [] h1 (qv R))))))) : AW (GM adK adV) l ad (d + 1) mX10_primary 114 [(0, .ref (ad 0))] [.int s0] h (qv R) := by
  refine aw_istore_n (ls' := [(1, .int s0), (0, .ref (ad 0))]) dX10_primary_114 rfl (by decide) rfl ?_
  refine aw_iload_n dX10_primary_115 rfl 0 rfl ?_
  refine aw_if_eq (tgt := 137) dX10_primary_116 (by decide) (fun hc4 => ?_) (fun hc4 => ?_)
  · replace H := H.1 hc4
    exact aw_ls [1, 0] rfl H
  · replace H := H.2 hc4
    refine aw_aload_n dX10_primary_119 rfl 1 rfl ?_
    refine aw_get dX10_primary_120 shM0 ckX10 flX10_189 (v := .int (h.1 0 28)) rfl ?_
    refine aw_sipush (v := 9999) dX10_primary_123 (by decide) ?_
    refine aw_icmp_le (tgt := 137) dX10_primary_126 (by decide) (fun hc3 => ?_) (fun hc3 => ?_)
    · replace H := H.1 hc3
      exact aw_ls [1, 0] rfl H
    · replace H := H.2 hc3
      refine aw_aload_n dX10_primary_129 rfl 1 rfl ?_
      refine aw_iconst (v := 2) dX10_primary_130 (by decide) ?_
      refine cvX10_wrong dX10_primary_131 mlX10_223 shM0 (Nat.le_of_ble_eq_true rfl) H (fun h1 H => ?_)
      refine aw_goto (tgt := 162) dX10_primary_134 (by decide) ?_
      exact aw_ls [1, 0] rfl H
set_option maxRecDepth 8000 in
set_option maxHeartbeats 1000000 in
theorem bX10_primary_137 {adK adV : Nat → Nat} {l : Launch} {ad : Nat → Nat} {d : Nat} {R : aH → Prop}   (x1 : Int32)  (h : aH)
    (H : (¬ x1 = 0 → (AW (GM adK adV) l ad (d + 1) mX10_primary 162 [(0, .ref (ad 0)), (1, .int x1)] [] h (qv R))) ∧ (x1 = 0 → ((¬ (h.1 0 27) = 0 → (AW (GM adK adV) l ad (d + 1) mX10_primary 157 [(0, .ref (ad 0)), (1, .int x1)] [] h (qv R))) ∧ ((h.1 0 27) = 0 → (((14 : Int32) ≤ (h.1 0 28) → (AW (GM adK adV) l ad (d + 1) mX10_primary 162 [(0, .ref (ad 0)), (1, .int x1)] [] h (qv R))) ∧ (¬ (14 : Int32) ≤ (h.1 0 28) → (AW (GM adK adV) l ad (d + 1) mX10_primary 157 [(0, .ref (ad 0)), (1, .int x1)] [] h (qv R)))))))) : AW (GM adK adV) l ad (d + 1) mX10_primary 137 [(0, .ref (ad 0)), (1, .int x1)] [] h (qv R) := by
  refine aw_iload_n dX10_primary_137 rfl 1 rfl ?_
  refine aw_if_ne (tgt := 162) dX10_primary_138 (by decide) (fun hc3 => ?_) (fun hc3 => ?_)
  · replace H := H.1 hc3
    exact aw_ls [0, 1] rfl H
  · replace H := H.2 hc3
    refine aw_aload_n dX10_primary_141 rfl 0 rfl ?_
    refine aw_get dX10_primary_142 shM0 ckX10 flX10_179 (v := .int (h.1 0 27)) rfl ?_
    refine aw_if_ne (tgt := 157) dX10_primary_145 (by decide) (fun hc2 => ?_) (fun hc2 => ?_)
    · replace H := H.1 hc2
      exact aw_ls [0, 1] rfl H
    · replace H := H.2 hc2
      refine aw_aload_n dX10_primary_148 rfl 0 rfl ?_
      refine aw_get dX10_primary_149 shM0 ckX10 flX10_189 (v := .int (h.1 0 28)) rfl ?_
      refine aw_bipush (v := 14) dX10_primary_152 (by decide) ?_
      refine aw_icmp_ge (tgt := 162) dX10_primary_154 (by decide) (fun hc1 => ?_) (fun hc1 => ?_)
      · replace H := H.1 hc1
        exact aw_ls [0, 1] rfl H
      · replace H := H.2 hc1
        exact aw_ls [0, 1] rfl H
set_option maxRecDepth 8000 in
set_option maxHeartbeats 1000000 in
theorem bX10_primary_157 {adK adV : Nat → Nat} {l : Launch} {ad : Nat → Nat} {d : Nat} {R : aH → Prop}   (x1 : Int32)  (h : aH)
    (H : AW (GM adK adV) l ad d mX10_wrong 0 [(0, .ref (ad 0)), (1, .int (1 : Int32))] [] h (qv fun h1 => AW (GM adK adV) l ad (d + 1) mX10_primary 162 [(0, .ref (ad 0)), (1, .int x1)] [] h1 (qv R))) : AW (GM adK adV) l ad (d + 1) mX10_primary 157 [(0, .ref (ad 0)), (1, .int x1)] [] h (qv R) := by
  refine aw_aload_n dX10_primary_157 rfl 0 rfl ?_
  refine aw_iconst (v := 1) dX10_primary_158 (by decide) ?_
  refine cvX10_wrong dX10_primary_159 mlX10_223 shM0 (Nat.le_of_ble_eq_true rfl) H (fun h1 H => ?_)
  exact aw_ls [0, 1] rfl H
set_option maxRecDepth 8000 in
set_option maxHeartbeats 1000000 in
theorem bX10_primary_162 {adK adV : Nat → Nat} {l : Launch} {ad : Nat → Nat} {d : Nat} {R : aH → Prop}   (x1 : Int32)  (h : aH)
    (H : AW (GM adK adV) l ad d mX10_knot 0 [(0, .ref (ad 0))] [] h (qv fun h1 => (x1 = 0 → (AW (GM adK adV) l ad (d + 1) mX10_primary 176 [(0, .ref (ad 0)), (1, .int x1)] [.int (1 : Int32), .ref (ad 0)] h1 (qv R))) ∧ (¬ x1 = 0 → (AW (GM adK adV) l ad (d + 1) mX10_primary 176 [(0, .ref (ad 0)), (1, .int x1)] [.int (0 : Int32), .ref (ad 0)] h1 (qv R))))) : AW (GM adK adV) l ad (d + 1) mX10_primary 162 [(0, .ref (ad 0)), (1, .int x1)] [] h (qv R) := by
  refine aw_aload_n dX10_primary_162 rfl 0 rfl ?_
  refine cvX10_knot dX10_primary_163 mlX10_294 shM0 (Nat.le_of_ble_eq_true rfl) H (fun h1 H => ?_)
  refine aw_aload_n dX10_primary_166 rfl 0 rfl ?_
  refine aw_iload_n dX10_primary_167 rfl 1 rfl ?_
  refine aw_if_eq (tgt := 175) dX10_primary_168 (by decide) (fun hc3 => ?_) (fun hc3 => ?_)
  · replace H := H.1 hc3
    refine aw_iconst (v := 1) dX10_primary_175 (by decide) ?_
    exact aw_ls [0, 1] rfl H
  · replace H := H.2 hc3
    refine aw_iconst (v := 0) dX10_primary_171 (by decide) ?_
    refine aw_goto (tgt := 176) dX10_primary_172 (by decide) ?_
    exact aw_ls [0, 1] rfl H
set_option maxRecDepth 8000 in
set_option maxHeartbeats 1000000 in
theorem bX10_primary_176 {adK adV : Nat → Nat} {l : Launch} {ad : Nat → Nat} {d : Nat} {R : aH → Prop}   (x1 : Int32) (s0 : Int32)  (h : aH)
    (H : (x1 = 0 → (AW (GM adK adV) l ad (d + 1) mX10_primary 194 [(0, .ref (ad 0))] [.int ((h.1 0 28) - (14 : Int32)), .int s0, .ref (ad 0)] h (qv R))) ∧ (¬ x1 = 0 → (AW (GM adK adV) l ad (d + 1) mX10_primary 194 [(0, .ref (ad 0))] [.int (h.1 0 28), .int s0, .ref (ad 0)] h (qv R)))) : AW (GM adK adV) l ad (d + 1) mX10_primary 176 [(0, .ref (ad 0)), (1, .int x1)] [.int s0, .ref (ad 0)] h (qv R) := by
  refine aw_iload_n dX10_primary_176 rfl 1 rfl ?_
  refine aw_if_eq (tgt := 187) dX10_primary_177 (by decide) (fun hc1 => ?_) (fun hc1 => ?_)
  · replace H := H.1 hc1
    refine aw_aload_n dX10_primary_187 rfl 0 rfl ?_
    refine aw_get dX10_primary_188 shM0 ckX10 flX10_189 (v := .int (h.1 0 28)) rfl ?_
    refine aw_bipush (v := 14) dX10_primary_191 (by decide) ?_
    refine aw_isub dX10_primary_193 ?_
    exact aw_ls [0] rfl H
  · replace H := H.2 hc1
    refine aw_aload_n dX10_primary_180 rfl 0 rfl ?_
    refine aw_get dX10_primary_181 shM0 ckX10 flX10_189 (v := .int (h.1 0 28)) rfl ?_
    refine aw_goto (tgt := 194) dX10_primary_184 (by decide) ?_
    exact aw_ls [0] rfl H
set_option maxRecDepth 8000 in
set_option maxHeartbeats 1000000 in
theorem bX10_primary_194 {adK adV : Nat → Nat} {l : Launch} {ad : Nat → Nat} {d : Nat} {R : aH → Prop}   (s0 : Int32) (s1 : Int32)  (h : aH)
    (H : AW (GM adK adV) l ad d mX10_puts 0 [(0, .ref (ad 0)), (1, .int s1), (2, .int s0)] [] h (qv fun h1 => AW (GM adK adV) l ad d mX10_goOn 0 [(0, .ref (ad 0))] [] h1 (qv fun h3 => R h3))) : AW (GM adK adV) l ad (d + 1) mX10_primary 194 [(0, .ref (ad 0))] [.int s0, .int s1, .ref (ad 0)] h (qv R) := by
  refine cvX10_puts dX10_primary_194 mlX10_297 shM0 (Nat.le_of_ble_eq_true rfl) H (fun h1 H => ?_)
  refine aw_aload_n dX10_primary_197 rfl 0 rfl ?_
  refine cvX10_goOn dX10_primary_198 mlX10_276 shM0 (Nat.le_of_ble_eq_true rfl) H (fun h3 H => ?_)
  exact aw_vret dX10_primary_201 rfl ⟨rfl, H⟩
set_option maxRecDepth 8000 in
set_option maxHeartbeats 1000000 in
theorem bX10_half_0 {adK adV : Nat → Nat} {l : Launch} {ad : Nat → Nat} {d : Nat} {R : aH → Prop} (a0 n0 : Nat) (ha0 : (GM adK adV).2.2.2.1[a0]? = some (.inr (.int, n0)))   (h : aH)
    (H : AW (GM adK adV) l ad d mX10_half 7 [(0, .ref (ad a0)), (1, .int ((Int32.ofNat n0) / (2 : Int32))), (2, .int (0 : Int32))] [] h (qv R)) : AW (GM adK adV) l ad d mX10_half 0 [(0, .ref (ad a0))] [] h (qv R) := by
  refine aw_aload_n dX10_half_0 rfl 0 rfl ?_
  refine aw_alen (t0 := 0) dX10_half_1 ha0 rfl ?_
  refine aw_iconst (v := 2) dX10_half_2 (by decide) ?_
  refine aw_idiv dX10_half_3 (by decide) ?_
  refine aw_istore_n (ls' := [(1, .int ((Int32.ofNat n0) / (2 : Int32))), (0, .ref (ad a0))]) dX10_half_4 rfl (by decide) rfl ?_
  refine aw_iconst (v := 0) dX10_half_5 (by decide) ?_
  refine aw_istore_n (ls' := [(2, .int (0 : Int32)), (1, .int ((Int32.ofNat n0) / (2 : Int32))), (0, .ref (ad a0))]) dX10_half_6 rfl (by decide) rfl ?_
  exact aw_ls [2, 1, 0] rfl H
set_option maxRecDepth 8000 in
set_option maxHeartbeats 1000000 in
theorem bX10_half_7 {adK adV : Nat → Nat} {l : Launch} {ad : Nat → Nat} {d : Nat} {R : aH → Prop} (a0 n0 : Nat) (ha0 : (GM adK adV).2.2.2.1[a0]? = some (.inr (.int, n0))) (x1 : Int32) (x2 : Int32)  (h : aH)
    (H : (x1 ≤ x2 → (R h)) ∧ (¬ x1 ≤ x2 → (vp_in (x1 + x2) n0 ∧ (vp_in x2 n0 ∧ (AW (GM adK adV) l ad d mX10_half 7 [(0, .ref (ad a0)), (1, .int x1), (2, .int (x2 + (1 : Int32)))] [] (sI h a0 x2.toNatClampNeg (h.1 a0 (x1 + x2).toNatClampNeg)) (qv R)))))) : AW (GM adK adV) l ad d mX10_half 7 [(0, .ref (ad a0)), (1, .int x1), (2, .int x2)] [] h (qv R) := by
  refine aw_iload_n dX10_half_7 rfl 2 rfl ?_
  refine aw_iload_n dX10_half_8 rfl 1 rfl ?_
  refine aw_icmp_ge (tgt := 26) dX10_half_9 (by decide) (fun hc3 => ?_) (fun hc3 => ?_)
  · replace H := H.1 hc3
    exact aw_vret dX10_half_26 rfl ⟨rfl, H⟩
  · replace H := H.2 hc3
    refine aw_aload_n dX10_half_12 rfl 0 rfl ?_
    refine aw_iload_n dX10_half_13 rfl 2 rfl ?_
    refine aw_aload_n dX10_half_14 rfl 0 rfl ?_
    refine aw_iload_n dX10_half_15 rfl 1 rfl ?_
    refine aw_iload_n dX10_half_16 rfl 2 rfl ?_
    refine aw_iadd dX10_half_17 ?_
    obtain ⟨hi1, H⟩ := H
    refine aw_ialdK (t0 := 0) (j := (x1 + x2).toNatClampNeg) dX10_half_18 ha0 rfl rfl hi1 ?_
    obtain ⟨hi2, H⟩ := H
    refine aw_iastK (t0 := 0) (j := x2.toNatClampNeg) dX10_half_19 ha0 rfl rfl hi2 ?_
    refine aw_inc (mm := (1)) (ls' := [(2, .int (x2 + (1 : Int32))), (0, .ref (ad a0)), (1, .int x1)]) dX10_half_20 (by decide) (j := 2) rfl (by decide) rfl ?_
    refine aw_goto (tgt := 7) dX10_half_23 (by decide) ?_
    exact aw_ls [1, 2, 0] rfl H
set_option maxRecDepth 8000 in
set_option maxHeartbeats 1000000 in
theorem bX10_text_0 {adK adV : Nat → Nat} {l : Launch} {ad : Nat → Nat} {d : Nat} {R : Int32 → aH → Prop}   (x1 : Int32)  (h : aH)
    (H : (x1 < 0 → (R (-2 : Int32) (sI h 0 0 (0 : Int32)))) ∧ (¬ x1 < 0 → ((x1 ≤ ((sI h 0 0 (0 : Int32)).1 0 2) → (∀ h1 : aH, h1 = (sI (sI (sI (sI (sI (sI h 0 0 (0 : Int32)) 0 24 x1) 0 2 (0 : Int32)) 0 25 (0 : Int32)) 0 29 (0 : Int32)) 0 30 (-1 : Int32)) → (AW (GM adK adV) l ad (d + 1) mX10_text 47 [(0, .ref (ad 0)), (2, .int (0 : Int32))] [] h1 (qi R)))) ∧ (¬ x1 ≤ ((sI h 0 0 (0 : Int32)).1 0 2) → (R (-2 : Int32) (sI h 0 0 (0 : Int32))))))) : AW (GM adK adV) l ad (d + 1) mX10_text 0 [(0, .ref (ad 0)), (1, .int x1)] [] h (qi R) := by
  refine aw_aload_n dX10_text_0 rfl 0 rfl ?_
  refine aw_iconst (v := 0) dX10_text_1 (by decide) ?_
  refine aw_putI dX10_text_2 shM0 ckX10 flX10_160 rfl (fun _ => rfl) rfl rfl ?_
  refine aw_iload_n dX10_text_5 rfl 1 rfl ?_
  refine aw_if_lt (tgt := 17) dX10_text_6 (by decide) (fun hc3 => ?_) (fun hc3 => ?_)
  · replace H := H.1 hc3
    refine aw_bipush (v := (-2)) dX10_text_17 (by decide) ?_
    exact aw_iret dX10_text_19 rfl ⟨_, rfl, H⟩
  · replace H := H.2 hc3
    refine aw_iload_n dX10_text_9 rfl 1 rfl ?_
    refine aw_aload_n dX10_text_10 rfl 0 rfl ?_
    refine aw_get dX10_text_11 shM0 ckX10 flX10_163 (v := .int ((sI h 0 0 (0 : Int32)).1 0 2)) rfl ?_
    refine aw_icmp_le (tgt := 20) dX10_text_14 (by decide) (fun hc2 => ?_) (fun hc2 => ?_)
    · replace H := H.1 hc2
      refine aw_aload_n dX10_text_20 rfl 0 rfl ?_
      refine aw_iload_n dX10_text_21 rfl 1 rfl ?_
      refine aw_putI dX10_text_22 shM0 ckX10 flX10_169 rfl (fun _ => rfl) rfl rfl ?_
      refine aw_aload_n dX10_text_25 rfl 0 rfl ?_
      refine aw_iconst (v := 0) dX10_text_26 (by decide) ?_
      refine aw_putI dX10_text_27 shM0 ckX10 flX10_163 rfl (fun _ => rfl) rfl rfl ?_
      refine aw_aload_n dX10_text_30 rfl 0 rfl ?_
      refine aw_iconst (v := 0) dX10_text_31 (by decide) ?_
      refine aw_putI dX10_text_32 shM0 ckX10 flX10_166 rfl (fun _ => rfl) rfl rfl ?_
      refine aw_aload_n dX10_text_35 rfl 0 rfl ?_
      refine aw_iconst (v := 0) dX10_text_36 (by decide) ?_
      refine aw_putI dX10_text_37 shM0 ckX10 flX10_214 rfl (fun _ => rfl) rfl rfl ?_
      refine aw_aload_n dX10_text_40 rfl 0 rfl ?_
      refine aw_iconst (v := (-1)) dX10_text_41 (by decide) ?_
      refine aw_putI dX10_text_42 shM0 ckX10 flX10_217 rfl (fun _ => rfl) rfl rfl ?_
      refine aw_toph (fun h1 eh1 => ?_)
      replace H := H h1 eh1
      refine aw_iconst (v := 0) dX10_text_45 (by decide) ?_
      refine aw_istore_n (ls' := [(2, .int (0 : Int32)), (0, .ref (ad 0)), (1, .int x1)]) dX10_text_46 rfl (by decide) rfl ?_
      exact aw_ls [1, 0] rfl H
    · replace H := H.2 hc2
      refine aw_bipush (v := (-2)) dX10_text_17 (by decide) ?_
      exact aw_iret dX10_text_19 rfl ⟨_, rfl, H⟩
set_option maxRecDepth 8000 in
set_option maxHeartbeats 1000000 in
theorem bX10_text_47 {adK adV : Nat → Nat} {l : Launch} {ad : Nat → Nat} {d : Nat} {R : Int32 → aH → Prop}   (x2 : Int32)  (h : aH)
    (H : ((7 : Int32) ≤ x2 → (AW (GM adK adV) l ad (d + 1) mX10_text 67 [(0, .ref (ad 0)), (2, .int (3 : Int32))] [] h (qi R))) ∧ (¬ (7 : Int32) ≤ x2 → (AW (GM adK adV) l ad d mX10_reads 0 [(0, .ref (ad 0)), (1, .int x2), (2, .int (0 : Int32))] [] h (qv fun h1 => AW (GM adK adV) l ad (d + 1) mX10_text 47 [(0, .ref (ad 0)), (2, .int (x2 + (1 : Int32)))] [] h1 (qi R))))) : AW (GM adK adV) l ad (d + 1) mX10_text 47 [(0, .ref (ad 0)), (2, .int x2)] [] h (qi R) := by
  refine aw_iload_n dX10_text_47 rfl 1 rfl ?_
  refine aw_bipush (v := 7) dX10_text_48 (by decide) ?_
  refine aw_icmp_ge (tgt := 65) dX10_text_50 (by decide) (fun hc3 => ?_) (fun hc3 => ?_)
  · replace H := H.1 hc3
    refine aw_iconst (v := 3) dX10_text_65 (by decide) ?_
    refine aw_istore_n (ls' := [(2, .int (3 : Int32)), (0, .ref (ad 0))]) dX10_text_66 rfl (by decide) rfl ?_
    exact aw_ls [1, 0] rfl H
  · replace H := H.2 hc3
    refine aw_aload_n dX10_text_53 rfl 0 rfl ?_
    refine aw_iload_n dX10_text_54 rfl 1 rfl ?_
    refine aw_iconst (v := 0) dX10_text_55 (by decide) ?_
    refine cvX10_reads dX10_text_56 mlX10_251 shM0 (Nat.le_of_ble_eq_true rfl) H (fun h1 H => ?_)
    refine aw_inc (mm := (1)) (ls' := [(2, .int (x2 + (1 : Int32))), (0, .ref (ad 0))]) dX10_text_59 (by decide) (j := 1) rfl (by decide) rfl ?_
    refine aw_goto (tgt := 47) dX10_text_62 (by decide) ?_
    exact aw_ls [1, 0] rfl H
set_option maxRecDepth 8000 in
set_option maxHeartbeats 1000000 in
theorem bX10_text_67 {adK adV : Nat → Nat} {l : Launch} {ad : Nat → Nat} {d : Nat} {R : Int32 → aH → Prop}   (x2 : Int32)  (h : aH)
    (H : ((6 : Int32) ≤ x2 → (AW (GM adK adV) l ad d mX10_token 0 [(0, .ref (ad 0))] [] (sI (sI (sI (sI h 0 22 (0 : Int32)) 0 23 (0 : Int32)) 0 33 (0 : Int32)) 0 34 (0 : Int32)) (qv fun h1 => AW (GM adK adV) l ad (d + 1) mX10_text 117 [(0, .ref (ad 0))] [] h1 (qi R)))) ∧ (¬ (6 : Int32) ≤ x2 → (vp_in x2 6 ∧ (AW (GM adK adV) l ad (d + 1) mX10_text 67 [(0, .ref (ad 0)), (2, .int (x2 + (1 : Int32)))] [] (sI (sI h 17 x2.toNatClampNeg (0 : Int32)) 18 x2.toNatClampNeg (0 : Int32)) (qi R))))) : AW (GM adK adV) l ad (d + 1) mX10_text 67 [(0, .ref (ad 0)), (2, .int x2)] [] h (qi R) := by
  refine aw_iload_n dX10_text_67 rfl 1 rfl ?_
  refine aw_bipush (v := 6) dX10_text_68 (by decide) ?_
  refine aw_icmp_ge (tgt := 93) dX10_text_70 (by decide) (fun hc4 => ?_) (fun hc4 => ?_)
  · replace H := H.1 hc4
    refine aw_aload_n dX10_text_93 rfl 0 rfl ?_
    refine aw_iconst (v := 0) dX10_text_94 (by decide) ?_
    refine aw_putI dX10_text_95 shM0 ckX10 flX10_241 rfl (fun _ => rfl) rfl rfl ?_
    refine aw_aload_n dX10_text_98 rfl 0 rfl ?_
    refine aw_iconst (v := 0) dX10_text_99 (by decide) ?_
    refine aw_putI dX10_text_100 shM0 ckX10 flX10_270 rfl (fun _ => rfl) rfl rfl ?_
    refine aw_aload_n dX10_text_103 rfl 0 rfl ?_
    refine aw_iconst (v := 0) dX10_text_104 (by decide) ?_
    refine aw_putI dX10_text_105 shM0 ckX10 flX10_312 rfl (fun _ => rfl) rfl rfl ?_
    refine aw_aload_n dX10_text_108 rfl 0 rfl ?_
    refine aw_iconst (v := 0) dX10_text_109 (by decide) ?_
    refine aw_putI dX10_text_110 shM0 ckX10 flX10_285 rfl (fun _ => rfl) rfl rfl ?_
    refine aw_aload_n dX10_text_113 rfl 0 rfl ?_
    refine cvX10_token dX10_text_114 mlX10_220 shM0 (Nat.le_of_ble_eq_true rfl) H (fun h1 H => ?_)
    exact aw_ls [0] rfl H
  · replace H := H.2 hc4
    refine aw_aload_n dX10_text_73 rfl 0 rfl ?_
    refine aw_get dX10_text_74 shM0 ckX10 flX10_58 (v := .ref (ad 17)) rfl ?_
    refine aw_iload_n dX10_text_77 rfl 1 rfl ?_
    refine aw_iconst (v := 0) dX10_text_78 (by decide) ?_
    obtain ⟨hi3, H⟩ := H
    refine aw_iastK (t0 := 0) (j := x2.toNatClampNeg) dX10_text_79 shM17 rfl rfl hi3 ?_
    refine aw_aload_n dX10_text_80 rfl 0 rfl ?_
    refine aw_get dX10_text_81 shM0 ckX10 flX10_61 (v := .ref (ad 18)) rfl ?_
    refine aw_iload_n dX10_text_84 rfl 1 rfl ?_
    refine aw_iconst (v := 0) dX10_text_85 (by decide) ?_
    refine aw_iastK (t0 := 0) (j := x2.toNatClampNeg) dX10_text_86 shM18 rfl rfl hi3 ?_
    refine aw_inc (mm := (1)) (ls' := [(2, .int (x2 + (1 : Int32))), (0, .ref (ad 0))]) dX10_text_87 (by decide) (j := 1) rfl (by decide) rfl ?_
    refine aw_goto (tgt := 67) dX10_text_90 (by decide) ?_
    exact aw_ls [1, 0] rfl H
set_option maxRecDepth 8000 in
set_option maxHeartbeats 1000000 in
theorem bX10_text_117 {adK adV : Nat → Nat} {l : Launch} {ad : Nat → Nat} {d : Nat} {R : Int32 → aH → Prop}     (h : aH)
    (H : (¬ (h.1 0 29) = 0 → (AW (GM adK adV) l ad (d + 1) mX10_text 139 [(0, .ref (ad 0))] [] h (qi R))) ∧ ((h.1 0 29) = 0 → (((h.1 0 27) = (4 : Int32) → (AW (GM adK adV) l ad (d + 1) mX10_text 139 [(0, .ref (ad 0))] [] h (qi R))) ∧ (¬ (h.1 0 27) = (4 : Int32) → (AW (GM adK adV) l ad d mX10_line 0 [(0, .ref (ad 0))] [] h (qv fun h1 => AW (GM adK adV) l ad (d + 1) mX10_text 117 [(0, .ref (ad 0))] [] h1 (qi R))))))) : AW (GM adK adV) l ad (d + 1) mX10_text 117 [(0, .ref (ad 0))] [] h (qi R) := by
  refine aw_aload_n dX10_text_117 rfl 0 rfl ?_
  refine aw_get dX10_text_118 shM0 ckX10 flX10_214 (v := .int (h.1 0 29)) rfl ?_
  refine aw_if_ne (tgt := 139) dX10_text_121 (by decide) (fun hc4 => ?_) (fun hc4 => ?_)
  · replace H := H.1 hc4
    exact aw_ls [0] rfl H
  · replace H := H.2 hc4
    refine aw_aload_n dX10_text_124 rfl 0 rfl ?_
    refine aw_get dX10_text_125 shM0 ckX10 flX10_179 (v := .int (h.1 0 27)) rfl ?_
    refine aw_iconst (v := 4) dX10_text_128 (by decide) ?_
    refine aw_icmp_eq (tgt := 139) dX10_text_129 (by decide) (fun hc3 => ?_) (fun hc3 => ?_)
    · replace H := H.1 hc3
      exact aw_ls [0] rfl H
    · replace H := H.2 hc3
      refine aw_aload_n dX10_text_132 rfl 0 rfl ?_
      refine cvX10_line dX10_text_133 mlX10_315 shM0 (Nat.le_of_ble_eq_true rfl) H (fun h1 H => ?_)
      refine aw_goto (tgt := 117) dX10_text_136 (by decide) ?_
      exact aw_ls [0] rfl H
set_option maxRecDepth 8000 in
set_option maxHeartbeats 1000000 in
theorem bX10_text_139 {adK adV : Nat → Nat} {l : Launch} {ad : Nat → Nat} {d : Nat} {R : Int32 → aH → Prop}     (h : aH)
    (H : (((sI (sI h 0 31 (h.1 0 29)) 0 32 ((sI h 0 31 (h.1 0 29)).1 0 30)).1 0 29) = 0 → (AW (GM adK adV) l ad d mX10_half 0 [(0, .ref (ad 2))] [] (sI (sI h 0 31 (h.1 0 29)) 0 32 ((sI h 0 31 (h.1 0 29)).1 0 30)) (qv fun h1 => AW (GM adK adV) l ad d mX10_half 0 [(0, .ref (ad 3))] [] h1 (qv fun h3 => AW (GM adK adV) l ad d mX10_half 0 [(0, .ref (ad 4))] [] h3 (qv fun h5 => AW (GM adK adV) l ad d mX10_half 0 [(0, .ref (ad 5))] [] h5 (qv fun h7 => AW (GM adK adV) l ad d mX10_half 0 [(0, .ref (ad 6))] [] h7 (qv fun h9 => AW (GM adK adV) l ad d mX10_half 0 [(0, .ref (ad 7))] [] h9 (qv fun h11 => AW (GM adK adV) l ad d mX10_half 0 [(0, .ref (ad 8))] [] h11 (qv fun h13 => AW (GM adK adV) l ad d mX10_half 0 [(0, .ref (ad 9))] [] h13 (qv fun h15 => AW (GM adK adV) l ad d mX10_half 0 [(0, .ref (ad 10))] [] h15 (qv fun h17 => AW (GM adK adV) l ad d mX10_half 0 [(0, .ref (ad 11))] [] h17 (qv fun h19 => AW (GM adK adV) l ad d mX10_half 0 [(0, .ref (ad 12))] [] h19 (qv fun h21 => AW (GM adK adV) l ad d mX10_half 0 [(0, .ref (ad 13))] [] h21 (qv fun h23 => AW (GM adK adV) l ad d mX10_half 0 [(0, .ref (ad 14))] [] h23 (qv fun h25 => AW (GM adK adV) l ad d mX10_half 0 [(0, .ref (ad 15))] [] h25 (qv fun h27 => AW (GM adK adV) l ad d mX10_half 0 [(0, .ref (ad 16))] [] h27 (qv fun h29 => AW (GM adK adV) l ad d mX10_half 0 [(0, .ref (ad 17))] [] h29 (qv fun h31 => AW (GM adK adV) l ad d mX10_half 0 [(0, .ref (ad 18))] [] h31 (qv fun h33 => AW (GM adK adV) l ad d mX10_half 0 [(0, .ref (ad 19))] [] h33 (qv fun h35 => AW (GM adK adV) l ad d mX10_half 0 [(0, .ref (ad 20))] [] h35 (qv fun h37 => AW (GM adK adV) l ad d mX10_begins 0 [(0, .ref (ad 0))] [] (sI (sI (sI (sI h37 0 62 (0 : Int32)) 0 63 (-1 : Int32)) 0 52 (0 : Int32)) 0 53 (0 : Int32)) (qv fun h39 => R (h39.1 0 23) h39)))))))))))))))))))))) ∧ (¬ ((sI (sI h 0 31 (h.1 0 29)) 0 32 ((sI h 0 31 (h.1 0 29)).1 0 30)).1 0 29) = 0 → (R (-1 : Int32) (sI (sI h 0 31 (h.1 0 29)) 0 32 ((sI h 0 31 (h.1 0 29)).1 0 30))))) : AW (GM adK adV) l ad (d + 1) mX10_text 139 [(0, .ref (ad 0))] [] h (qi R) := by
  refine aw_aload_n dX10_text_139 rfl 0 rfl ?_
  refine aw_aload_n dX10_text_140 rfl 0 rfl ?_
  refine aw_get dX10_text_141 shM0 ckX10 flX10_214 (v := .int (h.1 0 29)) rfl ?_
  refine aw_putI dX10_text_144 shM0 ckX10 flX10_318 rfl (fun _ => rfl) rfl rfl ?_
  refine aw_aload_n dX10_text_147 rfl 0 rfl ?_
  refine aw_aload_n dX10_text_148 rfl 0 rfl ?_
  refine aw_get dX10_text_149 shM0 ckX10 flX10_217 (v := .int ((sI h 0 31 (h.1 0 29)).1 0 30)) rfl ?_
  refine aw_putI dX10_text_152 shM0 ckX10 flX10_70 rfl (fun _ => rfl) rfl rfl ?_
  refine aw_aload_n dX10_text_155 rfl 0 rfl ?_
  refine aw_get dX10_text_156 shM0 ckX10 flX10_214 (v := .int ((sI (sI h 0 31 (h.1 0 29)) 0 32 ((sI h 0 31 (h.1 0 29)).1 0 30)).1 0 29)) rfl ?_
  refine aw_if_eq (tgt := 164) dX10_text_159 (by decide) (fun hc41 => ?_) (fun hc41 => ?_)
  · replace H := H.1 hc41
    refine aw_aload_n dX10_text_164 rfl 0 rfl ?_
    refine aw_get dX10_text_165 shM0 ckX10 flX10_13 (v := .ref (ad 2)) rfl ?_
    refine cvX10_half dX10_text_168 mlX10_321 (Nat.le_of_ble_eq_true rfl) H (fun h1 H => ?_)
    refine aw_aload_n dX10_text_171 rfl 0 rfl ?_
    refine aw_get dX10_text_172 shM0 ckX10 flX10_16 (v := .ref (ad 3)) rfl ?_
    refine cvX10_half dX10_text_175 mlX10_321 (Nat.le_of_ble_eq_true rfl) H (fun h3 H => ?_)
    refine aw_aload_n dX10_text_178 rfl 0 rfl ?_
    refine aw_get dX10_text_179 shM0 ckX10 flX10_19 (v := .ref (ad 4)) rfl ?_
    refine cvX10_half dX10_text_182 mlX10_321 (Nat.le_of_ble_eq_true rfl) H (fun h5 H => ?_)
    refine aw_aload_n dX10_text_185 rfl 0 rfl ?_
    refine aw_get dX10_text_186 shM0 ckX10 flX10_22 (v := .ref (ad 5)) rfl ?_
    refine cvX10_half dX10_text_189 mlX10_321 (Nat.le_of_ble_eq_true rfl) H (fun h7 H => ?_)
    refine aw_aload_n dX10_text_192 rfl 0 rfl ?_
    refine aw_get dX10_text_193 shM0 ckX10 flX10_25 (v := .ref (ad 6)) rfl ?_
    refine cvX10_half dX10_text_196 mlX10_321 (Nat.le_of_ble_eq_true rfl) H (fun h9 H => ?_)
    refine aw_aload_n dX10_text_199 rfl 0 rfl ?_
    refine aw_get dX10_text_200 shM0 ckX10 flX10_28 (v := .ref (ad 7)) rfl ?_
    refine cvX10_half dX10_text_203 mlX10_321 (Nat.le_of_ble_eq_true rfl) H (fun h11 H => ?_)
    refine aw_aload_n dX10_text_206 rfl 0 rfl ?_
    refine aw_get dX10_text_207 shM0 ckX10 flX10_31 (v := .ref (ad 8)) rfl ?_
    refine cvX10_half dX10_text_210 mlX10_321 (Nat.le_of_ble_eq_true rfl) H (fun h13 H => ?_)
    refine aw_aload_n dX10_text_213 rfl 0 rfl ?_
    refine aw_get dX10_text_214 shM0 ckX10 flX10_34 (v := .ref (ad 9)) rfl ?_
    refine cvX10_half dX10_text_217 mlX10_321 (Nat.le_of_ble_eq_true rfl) H (fun h15 H => ?_)
    refine aw_aload_n dX10_text_220 rfl 0 rfl ?_
    refine aw_get dX10_text_221 shM0 ckX10 flX10_37 (v := .ref (ad 10)) rfl ?_
    refine cvX10_half dX10_text_224 mlX10_321 (Nat.le_of_ble_eq_true rfl) H (fun h17 H => ?_)
    refine aw_aload_n dX10_text_227 rfl 0 rfl ?_
    refine aw_get dX10_text_228 shM0 ckX10 flX10_40 (v := .ref (ad 11)) rfl ?_
    refine cvX10_half dX10_text_231 mlX10_321 (Nat.le_of_ble_eq_true rfl) H (fun h19 H => ?_)
    refine aw_aload_n dX10_text_234 rfl 0 rfl ?_
    refine aw_get dX10_text_235 shM0 ckX10 flX10_43 (v := .ref (ad 12)) rfl ?_
    refine cvX10_half dX10_text_238 mlX10_321 (Nat.le_of_ble_eq_true rfl) H (fun h21 H => ?_)
    refine aw_aload_n dX10_text_241 rfl 0 rfl ?_
    refine aw_get dX10_text_242 shM0 ckX10 flX10_46 (v := .ref (ad 13)) rfl ?_
    refine cvX10_half dX10_text_245 mlX10_321 (Nat.le_of_ble_eq_true rfl) H (fun h23 H => ?_)
    refine aw_aload_n dX10_text_248 rfl 0 rfl ?_
    refine aw_get dX10_text_249 shM0 ckX10 flX10_49 (v := .ref (ad 14)) rfl ?_
    refine cvX10_half dX10_text_252 mlX10_321 (Nat.le_of_ble_eq_true rfl) H (fun h25 H => ?_)
    refine aw_aload_n dX10_text_255 rfl 0 rfl ?_
    refine aw_get dX10_text_256 shM0 ckX10 flX10_52 (v := .ref (ad 15)) rfl ?_
    refine cvX10_half dX10_text_259 mlX10_321 (Nat.le_of_ble_eq_true rfl) H (fun h27 H => ?_)
    refine aw_aload_n dX10_text_262 rfl 0 rfl ?_
    refine aw_get dX10_text_263 shM0 ckX10 flX10_55 (v := .ref (ad 16)) rfl ?_
    refine cvX10_half dX10_text_266 mlX10_321 (Nat.le_of_ble_eq_true rfl) H (fun h29 H => ?_)
    refine aw_aload_n dX10_text_269 rfl 0 rfl ?_
    refine aw_get dX10_text_270 shM0 ckX10 flX10_58 (v := .ref (ad 17)) rfl ?_
    refine cvX10_half dX10_text_273 mlX10_321 (Nat.le_of_ble_eq_true rfl) H (fun h31 H => ?_)
    refine aw_aload_n dX10_text_276 rfl 0 rfl ?_
    refine aw_get dX10_text_277 shM0 ckX10 flX10_61 (v := .ref (ad 18)) rfl ?_
    refine cvX10_half dX10_text_280 mlX10_321 (Nat.le_of_ble_eq_true rfl) H (fun h33 H => ?_)
    refine aw_aload_n dX10_text_283 rfl 0 rfl ?_
    refine aw_get dX10_text_284 shM0 ckX10 flX10_64 (v := .ref (ad 19)) rfl ?_
    refine cvX10_half dX10_text_287 mlX10_321 (Nat.le_of_ble_eq_true rfl) H (fun h35 H => ?_)
    refine aw_aload_n dX10_text_290 rfl 0 rfl ?_
    refine aw_get dX10_text_291 shM0 ckX10 flX10_67 (v := .ref (ad 20)) rfl ?_
    refine cvX10_half dX10_text_294 mlX10_321 (Nat.le_of_ble_eq_true rfl) H (fun h37 H => ?_)
    refine aw_aload_n dX10_text_297 rfl 0 rfl ?_
    refine aw_iconst (v := 0) dX10_text_298 (by decide) ?_
    refine aw_putI dX10_text_299 shM0 ckX10 flX10_325 rfl (fun _ => rfl) rfl rfl ?_
    refine aw_aload_n dX10_text_302 rfl 0 rfl ?_
    refine aw_iconst (v := (-1)) dX10_text_303 (by decide) ?_
    refine aw_putI dX10_text_304 shM0 ckX10 flX10_138 rfl (fun _ => rfl) rfl rfl ?_
    refine aw_aload_n dX10_text_307 rfl 0 rfl ?_
    refine aw_iconst (v := 0) dX10_text_308 (by decide) ?_
    refine aw_putI dX10_text_309 shM0 ckX10 flX10_328 rfl (fun _ => rfl) (show narrow .boolean (.int (0 : Int32)) = .int (0 : Int32) by decide) (show fits .boolean (.int (0 : Int32)) = true by decide) ?_
    refine aw_aload_n dX10_text_312 rfl 0 rfl ?_
    refine aw_iconst (v := 0) dX10_text_313 (by decide) ?_
    refine aw_putI dX10_text_314 shM0 ckX10 flX10_332 rfl (fun _ => rfl) rfl rfl ?_
    refine aw_aload_n dX10_text_317 rfl 0 rfl ?_
    refine cvX10_begins dX10_text_318 mlX10_157 shM0 (Nat.le_of_ble_eq_true rfl) H (fun h39 H => ?_)
    refine aw_aload_n dX10_text_321 rfl 0 rfl ?_
    refine aw_get dX10_text_322 shM0 ckX10 flX10_270 (v := .int (h39.1 0 23)) rfl ?_
    exact aw_iret dX10_text_325 rfl ⟨_, rfl, H⟩
  · replace H := H.2 hc41
    refine aw_iconst (v := (-1)) dX10_text_162 (by decide) ?_
    exact aw_iret dX10_text_163 rfl ⟨_, rfl, H⟩
set_option maxRecDepth 8000 in
set_option maxHeartbeats 1000000 in
theorem bX10_fault_0 {adK adV : Nat → Nat} {l : Launch} {ad : Nat → Nat} {d : Nat} {R : Int32 → aH → Prop}   (x1 : Int32)  (h : aH)
    (H : (¬ x1 = 0 → ((¬ x1 = (1 : Int32) → (R (-1 : Int32) (sI h 0 0 (0 : Int32)))) ∧ (x1 = (1 : Int32) → (R ((sI h 0 0 (0 : Int32)).1 0 32) (sI h 0 0 (0 : Int32)))))) ∧ (x1 = 0 → (R ((sI h 0 0 (0 : Int32)).1 0 31) (sI h 0 0 (0 : Int32))))) : AW (GM adK adV) l ad d mX10_fault 0 [(0, .ref (ad 0)), (1, .int x1)] [] h (qi R) := by
  refine aw_aload_n dX10_fault_0 rfl 0 rfl ?_
  refine aw_iconst (v := 0) dX10_fault_1 (by decide) ?_
  refine aw_putI dX10_fault_2 shM0 ckX10 flX10_160 rfl (fun _ => rfl) rfl rfl ?_
  refine aw_iload_n dX10_fault_5 rfl 1 rfl ?_
  refine aw_if_ne (tgt := 16) dX10_fault_6 (by decide) (fun hc2 => ?_) (fun hc2 => ?_)
  · replace H := H.1 hc2
    refine aw_iload_n dX10_fault_16 rfl 1 rfl ?_
    refine aw_iconst (v := 1) dX10_fault_17 (by decide) ?_
    refine aw_icmp_ne (tgt := 28) dX10_fault_18 (by decide) (fun hc1 => ?_) (fun hc1 => ?_)
    · replace H := H.1 hc1
      refine aw_iconst (v := (-1)) dX10_fault_28 (by decide) ?_
      exact aw_iret dX10_fault_29 rfl ⟨_, rfl, H⟩
    · replace H := H.2 hc1
      refine aw_aload_n dX10_fault_21 rfl 0 rfl ?_
      refine aw_get dX10_fault_22 shM0 ckX10 flX10_70 (v := .int ((sI h 0 0 (0 : Int32)).1 0 32)) rfl ?_
      refine aw_goto (tgt := 29) dX10_fault_25 (by decide) ?_
      exact aw_iret dX10_fault_29 rfl ⟨_, rfl, H⟩
  · replace H := H.2 hc2
    refine aw_aload_n dX10_fault_9 rfl 0 rfl ?_
    refine aw_get dX10_fault_10 shM0 ckX10 flX10_318 (v := .int ((sI h 0 0 (0 : Int32)).1 0 31)) rfl ?_
    refine aw_goto (tgt := 29) dX10_fault_13 (by decide) ?_
    exact aw_iret dX10_fault_29 rfl ⟨_, rfl, H⟩
set_option maxRecDepth 8000 in
set_option maxHeartbeats 1000000 in
theorem bX10_named_0 {adK adV : Nat → Nat} {l : Launch} {ad : Nat → Nat} {d : Nat} {R : Int32 → aH → Prop}   (x1 : Int32) (x2 : Int32)  (h : aH)
    (H : (x1 = (0 : Int32) → (AW (GM adK adV) l ad d mX10_found 0 [(0, .ref (ad 3)), (1, .int (0 : Int32)), (2, .int ((sI h 0 0 (0 : Int32)).1 2 0)), (3, .int x2)] [] (sI h 0 0 (0 : Int32)) (qi fun z3 h2 => R z3 h2))) ∧ ((x1 = (1 : Int32) → (AW (GM adK adV) l ad d mX10_found 0 [(0, .ref (ad 5)), (1, .int (0 : Int32)), (2, .int ((sI h 0 0 (0 : Int32)).1 2 1)), (3, .int x2)] [] (sI h 0 0 (0 : Int32)) (qi fun z5 h4 => R z5 h4))) ∧ (¬ x1 = (0 : Int32) → ¬ x1 = (1 : Int32) → (R (-1 : Int32) (sI h 0 0 (0 : Int32)))))) : AW (GM adK adV) l ad (d + 1) mX10_named 0 [(0, .ref (ad 0)), (1, .int x1), (2, .int x2)] [] h (qi R) := by
  refine aw_aload_n dX10_named_0 rfl 0 rfl ?_
  refine aw_iconst (v := 0) dX10_named_1 (by decide) ?_
  refine aw_putI dX10_named_2 shM0 ckX10 flX10_160 rfl (fun _ => rfl) rfl rfl ?_
  refine aw_iload_n dX10_named_5 rfl 1 rfl ?_
  by_cases hx1_0 : x1 = (0 : Int32)
  · replace H := H.1 hx1_0
    refine aw_lookup (off := 26) (tgt := 32) dX10_named_6 (by decide) (by rw [hx1_0]; decide) (by decide) ?_
    refine aw_aload_n dX10_named_32 rfl 0 rfl ?_
    refine aw_get dX10_named_33 shM0 ckX10 flX10_16 (v := .ref (ad 3)) rfl ?_
    refine aw_iconst (v := 0) dX10_named_36 (by decide) ?_
    refine aw_aload_n dX10_named_37 rfl 0 rfl ?_
    refine aw_get dX10_named_38 shM0 ckX10 flX10_13 (v := .ref (ad 2)) rfl ?_
    refine aw_iconst (v := 0) dX10_named_41 (by decide) ?_
    refine aw_ialdK (t0 := 0) (j := 0) dX10_named_42 shM2 rfl (by decide) (vp_inK (by decide) (by decide)) ?_
    refine aw_iload_n dX10_named_43 rfl 2 rfl ?_
    refine cvX10_found dX10_named_44 mlX10_226 (Nat.le_of_ble_eq_true rfl) H (fun z3 h2 H => ?_)
    exact aw_iret dX10_named_47 rfl ⟨_, rfl, H⟩
  by_cases hx1_1 : x1 = (1 : Int32)
  · replace H := H.2.1 hx1_1
    refine aw_lookup (off := 42) (tgt := 48) dX10_named_6 (by decide) (by rw [hx1_1]; decide) (by decide) ?_
    refine aw_aload_n dX10_named_48 rfl 0 rfl ?_
    refine aw_get dX10_named_49 shM0 ckX10 flX10_22 (v := .ref (ad 5)) rfl ?_
    refine aw_iconst (v := 0) dX10_named_52 (by decide) ?_
    refine aw_aload_n dX10_named_53 rfl 0 rfl ?_
    refine aw_get dX10_named_54 shM0 ckX10 flX10_13 (v := .ref (ad 2)) rfl ?_
    refine aw_iconst (v := 1) dX10_named_57 (by decide) ?_
    refine aw_ialdK (t0 := 0) (j := 1) dX10_named_58 shM2 rfl (by decide) (vp_inK (by decide) (by decide)) ?_
    refine aw_iload_n dX10_named_59 rfl 2 rfl ?_
    refine cvX10_found dX10_named_60 mlX10_226 (Nat.le_of_ble_eq_true rfl) H (fun z5 h4 H => ?_)
    exact aw_iret dX10_named_63 rfl ⟨_, rfl, H⟩
  replace H := H.2.2 hx1_0 hx1_1
  refine aw_lookup (off := 58) (tgt := 64) dX10_named_6 (by decide) (by rw [lv_osw hx1_0 (by decide), lv_osw hx1_1 (by decide)]; rfl) (by decide) ?_
  refine aw_iconst (v := (-1)) dX10_named_64 (by decide) ?_
  exact aw_iret dX10_named_65 rfl ⟨_, rfl, H⟩
set_option maxRecDepth 8000 in
set_option maxHeartbeats 1000000 in
theorem bX10_is_0 {adK adV : Nat → Nat} {l : Launch} {ad : Nat → Nat} {d : Nat} {R : Int64 → aH → Prop}   (x0 : Int32)  (h : aH)
    (H : (x0 = 0 → (R (0 : Int64) h)) ∧ (¬ x0 = 0 → (R (1 : Int64) h))) : AW (GM adK adV) l ad d mX10_is 0 [(0, .int x0)] [] h (ql R) := by
  refine aw_iload_n dX10_is_0 rfl 0 rfl ?_
  refine aw_if_eq (tgt := 8) dX10_is_1 (by decide) (fun hc1 => ?_) (fun hc1 => ?_)
  · replace H := H.1 hc1
    refine aw_lconst (v := 0) dX10_is_8 (by decide) ?_
    exact aw_lret dX10_is_9 rfl ⟨_, rfl, H⟩
  · replace H := H.2 hc1
    refine aw_lconst (v := 1) dX10_is_4 (by decide) ?_
    refine aw_goto (tgt := 9) dX10_is_5 (by decide) ?_
    exact aw_lret dX10_is_9 rfl ⟨_, rfl, H⟩
set_option maxRecDepth 8000 in
set_option maxHeartbeats 1000000 in
theorem bX10_works_0 {adK adV : Nat → Nat} {l : Launch} {ad : Nat → Nat} {d : Nat} {R : Int32 → aH → Prop}   (x1 : Int32)  (h : aH)
    (H : vp_in ((h.1 0 37) - (1 : Int32)) 64 ∧ (∀ t2 : Int64, t2 = (h.2.1 22 ((h.1 0 37) - (1 : Int32)).toNatClampNeg) → ((¬ x1 = (260 : Int32) → (vp_in ((h.1 0 37) - (2 : Int32)) 64 ∧ (∀ t4 : Int64, t4 = (h.2.1 22 ((h.1 0 37) - (2 : Int32)).toNatClampNeg) → ((x1 = (42 : Int32) → ((t4 = (0 : Int64) → (AW (GM adK adV) l ad (d + 1) mX10_works 212 [(0, .ref (ad 0)), (2, .long t2), (4, .long t4)] [] (sI h 0 37 ((h.1 0 37) - (1 : Int32))) (qi R))) ∧ (¬ t4 = (0 : Int64) → (¬ (if 0 < t4 then t4 else -t4) = 0 ∧ (((if 0 < t2 then t2 else -t2) ≤ ((1000000000000 : Int64) / (if 0 < t4 then t4 else -t4)) → (AW (GM adK adV) l ad (d + 1) mX10_works 212 [(0, .ref (ad 0)), (2, .long t2), (4, .long t4)] [] (sI h 0 37 ((h.1 0 37) - (1 : Int32))) (qi R))) ∧ (¬ (if 0 < t2 then t2 else -t2) ≤ ((1000000000000 : Int64) / (if 0 < t4 then t4 else -t4)) → (R (0 : Int32) (sI h 0 37 ((h.1 0 37) - (1 : Int32)))))))))) ∧ ((x1 = (43 : Int32) → (AW (GM adK adV) l ad (d + 1) mX10_works 407 [(0, .ref (ad 0)), (6, .long (t4 + t2))] [] (sI h 0 37 ((h.1 0 37) - (1 : Int32))) (qi R))) ∧ ((x1 = (45 : Int32) → (AW (GM adK adV) l ad (d + 1) mX10_works 407 [(0, .ref (ad 0)), (6, .long (t4 - t2))] [] (sI h 0 37 ((h.1 0 37) - (1 : Int32))) (qi R))) ∧ ((x1 = (47 : Int32) → ((¬ t2 = (0 : Int64) → (¬ t2 = 0 ∧ (AW (GM adK adV) l ad (d + 1) mX10_works 407 [(0, .ref (ad 0)), (6, .long (t4 / t2))] [] (sI h 0 37 ((h.1 0 37) - (1 : Int32))) (qi R)))) ∧ (t2 = (0 : Int64) → (R (0 : Int32) (sI h 0 37 ((h.1 0 37) - (1 : Int32))))))) ∧ ((x1 = (60 : Int32) → ((t2 ≤ t4 → (AW (GM adK adV) l ad (d + 1) mX10_works 250 [(0, .ref (ad 0))] [.int (0 : Int32)] (sI h 0 37 ((h.1 0 37) - (1 : Int32))) (qi R))) ∧ (¬ t2 ≤ t4 → (AW (GM adK adV) l ad (d + 1) mX10_works 250 [(0, .ref (ad 0))] [.int (1 : Int32)] (sI h 0 37 ((h.1 0 37) - (1 : Int32))) (qi R))))) ∧ ((x1 = (61 : Int32) → ((¬ t4 = t2 → (AW (GM adK adV) l ad (d + 1) mX10_works 290 [(0, .ref (ad 0))] [.int (0 : Int32)] (sI h 0 37 ((h.1 0 37) - (1 : Int32))) (qi R))) ∧ (t4 = t2 → (AW (GM adK adV) l ad (d + 1) mX10_works 290 [(0, .ref (ad 0))] [.int (1 : Int32)] (sI h 0 37 ((h.1 0 37) - (1 : Int32))) (qi R))))) ∧ ((x1 = (62 : Int32) → ((t4 ≤ t2 → (AW (GM adK adV) l ad (d + 1) mX10_works 270 [(0, .ref (ad 0))] [.int (0 : Int32)] (sI h 0 37 ((h.1 0 37) - (1 : Int32))) (qi R))) ∧ (¬ t4 ≤ t2 → (AW (GM adK adV) l ad (d + 1) mX10_works 270 [(0, .ref (ad 0))] [.int (1 : Int32)] (sI h 0 37 ((h.1 0 37) - (1 : Int32))) (qi R))))) ∧ ((x1 = (256 : Int32) → ((t2 < t4 → (AW (GM adK adV) l ad (d + 1) mX10_works 310 [(0, .ref (ad 0))] [.int (0 : Int32)] (sI h 0 37 ((h.1 0 37) - (1 : Int32))) (qi R))) ∧ (¬ t2 < t4 → (AW (GM adK adV) l ad (d + 1) mX10_works 310 [(0, .ref (ad 0))] [.int (1 : Int32)] (sI h 0 37 ((h.1 0 37) - (1 : Int32))) (qi R))))) ∧ ((x1 = (257 : Int32) → ((t4 = t2 → (AW (GM adK adV) l ad (d + 1) mX10_works 350 [(0, .ref (ad 0))] [.int (0 : Int32)] (sI h 0 37 ((h.1 0 37) - (1 : Int32))) (qi R))) ∧ (¬ t4 = t2 → (AW (GM adK adV) l ad (d + 1) mX10_works 350 [(0, .ref (ad 0))] [.int (1 : Int32)] (sI h 0 37 ((h.1 0 37) - (1 : Int32))) (qi R))))) ∧ ((x1 = (258 : Int32) → ((t4 < t2 → (AW (GM adK adV) l ad (d + 1) mX10_works 330 [(0, .ref (ad 0))] [.int (0 : Int32)] (sI h 0 37 ((h.1 0 37) - (1 : Int32))) (qi R))) ∧ (¬ t4 < t2 → (AW (GM adK adV) l ad (d + 1) mX10_works 330 [(0, .ref (ad 0))] [.int (1 : Int32)] (sI h 0 37 ((h.1 0 37) - (1 : Int32))) (qi R))))) ∧ ((x1 = (261 : Int32) → ((t4 = (0 : Int64) → (AW (GM adK adV) l ad (d + 1) mX10_works 375 [(0, .ref (ad 0))] [] (sI h 0 37 ((h.1 0 37) - (1 : Int32))) (qi R))) ∧ (¬ t4 = (0 : Int64) → ((t2 = (0 : Int64) → (AW (GM adK adV) l ad (d + 1) mX10_works 375 [(0, .ref (ad 0))] [] (sI h 0 37 ((h.1 0 37) - (1 : Int32))) (qi R))) ∧ (¬ t2 = (0 : Int64) → (AW (GM adK adV) l ad (d + 1) mX10_works 376 [(0, .ref (ad 0))] [.int (1 : Int32)] (sI h 0 37 ((h.1 0 37) - (1 : Int32))) (qi R))))))) ∧ (¬ x1 = (42 : Int32) → ¬ x1 = (43 : Int32) → ¬ x1 = (45 : Int32) → ¬ x1 = (47 : Int32) → ¬ x1 = (60 : Int32) → ¬ x1 = (61 : Int32) → ¬ x1 = (62 : Int32) → ¬ x1 = (256 : Int32) → ¬ x1 = (257 : Int32) → ¬ x1 = (258 : Int32) → ¬ x1 = (261 : Int32) → ((¬ t4 = (0 : Int64) → (AW (GM adK adV) l ad (d + 1) mX10_works 397 [(0, .ref (ad 0))] [] (sI h 0 37 ((h.1 0 37) - (1 : Int32))) (qi R))) ∧ (t4 = (0 : Int64) → ((t2 = (0 : Int64) → (AW (GM adK adV) l ad (d + 1) mX10_works 402 [(0, .ref (ad 0))] [.int (0 : Int32)] (sI h 0 37 ((h.1 0 37) - (1 : Int32))) (qi R))) ∧ (¬ t2 = (0 : Int64) → (AW (GM adK adV) l ad (d + 1) mX10_works 397 [(0, .ref (ad 0))] [] (sI h 0 37 ((h.1 0 37) - (1 : Int32))) (qi R))))))))))))))))))))) ∧ (x1 = (260 : Int32) → ((¬ t2 = (0 : Int64) → (AW (GM adK adV) l ad (d + 1) mX10_works 40 [] [.int (0 : Int32), .int ((h.1 0 37) - (1 : Int32)), .ref (ad 22)] h (qi R))) ∧ (t2 = (0 : Int64) → (AW (GM adK adV) l ad (d + 1) mX10_works 40 [] [.int (1 : Int32), .int ((h.1 0 37) - (1 : Int32)), .ref (ad 22)] h (qi R)))))))) : AW (GM adK adV) l ad (d + 1) mX10_works 0 [(0, .ref (ad 0)), (1, .int x1)] [] h (qi R) := by
  refine aw_aload_n dX10_works_0 rfl 0 rfl ?_
  refine aw_get dX10_works_1 shM0 ckX10 flX10_78 (v := .ref (ad 22)) rfl ?_
  refine aw_aload_n dX10_works_4 rfl 0 rfl ?_
  refine aw_get dX10_works_5 shM0 ckX10 flX10_335 (v := .int (h.1 0 37)) rfl ?_
  refine aw_iconst (v := 1) dX10_works_8 (by decide) ?_
  refine aw_isub dX10_works_9 ?_
  obtain ⟨hi1, H⟩ := H
  refine aw_laldK (t0 := 1) (j := ((h.1 0 37) - (1 : Int32)).toNatClampNeg) dX10_works_10 shM22 rfl rfl hi1 ?_
  refine aw_topl (fun t2 et2 => ?_)
  replace H := H t2 et2
  refine aw_lstore_n (ls' := [(2, .long t2), (0, .ref (ad 0)), (1, .int x1)]) dX10_works_11 rfl (by decide) rfl ?_
  refine aw_iload_n dX10_works_12 rfl 2 rfl ?_
  refine aw_sipush (v := 260) dX10_works_13 (by decide) ?_
  refine aw_icmp_ne (tgt := 46) dX10_works_16 (by decide) (fun hc22 => ?_) (fun hc22 => ?_)
  · replace H := H.1 hc22
    refine aw_aload_n dX10_works_46 rfl 1 rfl ?_
    refine aw_get dX10_works_47 shM0 ckX10 flX10_78 (v := .ref (ad 22)) rfl ?_
    refine aw_aload_n dX10_works_50 rfl 1 rfl ?_
    refine aw_get dX10_works_51 shM0 ckX10 flX10_335 (v := .int (h.1 0 37)) rfl ?_
    refine aw_iconst (v := 2) dX10_works_54 (by decide) ?_
    refine aw_isub dX10_works_55 ?_
    obtain ⟨hi3, H⟩ := H
    refine aw_laldK (t0 := 1) (j := ((h.1 0 37) - (2 : Int32)).toNatClampNeg) dX10_works_56 shM22 rfl rfl hi3 ?_
    refine aw_topl (fun t4 et4 => ?_)
    replace H := H t4 et4
    refine aw_lstore (ls' := [(4, .long t4), (2, .long t2), (0, .ref (ad 0)), (1, .int x1)]) dX10_works_57 (by decide) rfl ?_
    refine aw_aload_n dX10_works_59 rfl 2 rfl ?_
    refine aw_dup dX10_works_60 rfl ?_
    refine aw_get dX10_works_61 shM0 ckX10 flX10_335 (v := .int (h.1 0 37)) rfl ?_
    refine aw_iconst (v := 1) dX10_works_64 (by decide) ?_
    refine aw_isub dX10_works_65 ?_
    refine aw_putI dX10_works_66 shM0 ckX10 flX10_335 rfl (fun _ => rfl) rfl rfl ?_
    refine aw_iload_n dX10_works_69 rfl 3 rfl ?_
    by_cases hx5_0 : x1 = (42 : Int32)
    · replace H := H.1 hx5_0
      refine aw_lookup (off := 116) (tgt := 186) dX10_works_70 (by decide) (by rw [hx5_0]; decide) (by decide) ?_
      refine aw_lload dX10_works_186 0 rfl ?_
      refine aw_lconst (v := 0) dX10_works_188 (by decide) ?_
      refine aw_lif_eq (tgt := 212) dX10_works_189 dX10_works_190 (by decide) (fun hc8 => ?_) (fun hc8 => ?_)
      · replace H := H.1 hc8
        exact aw_ls [2, 1, 0] rfl H
      · replace H := H.2 hc8
        refine aw_lload_n dX10_works_193 rfl 1 rfl ?_
        refine aw_mabsl dX10_works_194 mlX10_342 (Nat.le_of_ble_eq_true rfl) ?_
        refine aw_ldc2 dX10_works_197 clX10_348 ?_
        refine aw_lload dX10_works_200 0 rfl ?_
        refine aw_mabsl dX10_works_202 mlX10_342 (Nat.le_of_ble_eq_true rfl) ?_
        obtain ⟨hn6, H⟩ := H
        refine aw_ldiv dX10_works_205 hn6 ?_
        refine aw_lif_le (tgt := 212) dX10_works_206 dX10_works_207 (by decide) (fun hc7 => ?_) (fun hc7 => ?_)
        · replace H := H.1 hc7
          exact aw_ls [2, 1, 0] rfl H
        · replace H := H.2 hc7
          refine aw_iconst (v := 0) dX10_works_210 (by decide) ?_
          exact aw_zret dX10_works_211 rfl (by decide) ⟨_, rfl, H⟩
    by_cases hx5_1 : x1 = (43 : Int32)
    · replace H := H.2.1 hx5_1
      refine aw_lookup (off := 98) (tgt := 168) dX10_works_70 (by decide) (by rw [hx5_1]; decide) (by decide) ?_
      refine aw_lload dX10_works_168 0 rfl ?_
      refine aw_lload_n dX10_works_170 rfl 1 rfl ?_
      refine aw_ladd dX10_works_171 ?_
      refine aw_lstore (ls' := [(6, .long (t4 + t2)), (4, .long t4), (2, .long t2), (0, .ref (ad 0)), (1, .int x1)]) dX10_works_172 (by decide) rfl ?_
      refine aw_goto (tgt := 407) dX10_works_174 (by decide) ?_
      exact aw_ls [3, 0] rfl H
    by_cases hx5_2 : x1 = (45 : Int32)
    · replace H := H.2.2.1 hx5_2
      refine aw_lookup (off := 107) (tgt := 177) dX10_works_70 (by decide) (by rw [hx5_2]; decide) (by decide) ?_
      refine aw_lload dX10_works_177 0 rfl ?_
      refine aw_lload_n dX10_works_179 rfl 1 rfl ?_
      refine aw_lsub dX10_works_180 ?_
      refine aw_lstore (ls' := [(6, .long (t4 - t2)), (4, .long t4), (2, .long t2), (0, .ref (ad 0)), (1, .int x1)]) dX10_works_181 (by decide) rfl ?_
      refine aw_goto (tgt := 407) dX10_works_183 (by decide) ?_
      exact aw_ls [3, 0] rfl H
    by_cases hx5_3 : x1 = (47 : Int32)
    · replace H := H.2.2.2.1 hx5_3
      refine aw_lookup (off := 151) (tgt := 221) dX10_works_70 (by decide) (by rw [hx5_3]; decide) (by decide) ?_
      refine aw_lload_n dX10_works_221 rfl 1 rfl ?_
      refine aw_lconst (v := 0) dX10_works_222 (by decide) ?_
      refine aw_lif_ne (tgt := 229) dX10_works_223 dX10_works_224 (by decide) (fun hc10 => ?_) (fun hc10 => ?_)
      · replace H := H.1 hc10
        refine aw_lload dX10_works_229 0 rfl ?_
        refine aw_lload_n dX10_works_231 rfl 1 rfl ?_
        obtain ⟨hn9, H⟩ := H
        refine aw_ldiv dX10_works_232 hn9 ?_
        refine aw_lstore (ls' := [(6, .long (t4 / t2)), (4, .long t4), (2, .long t2), (0, .ref (ad 0)), (1, .int x1)]) dX10_works_233 (by decide) rfl ?_
        refine aw_goto (tgt := 407) dX10_works_235 (by decide) ?_
        exact aw_ls [3, 0] rfl H
      · replace H := H.2 hc10
        refine aw_iconst (v := 0) dX10_works_227 (by decide) ?_
        exact aw_zret dX10_works_228 rfl (by decide) ⟨_, rfl, H⟩
    by_cases hx5_4 : x1 = (60 : Int32)
    · replace H := H.2.2.2.2.1 hx5_4
      refine aw_lookup (off := 168) (tgt := 238) dX10_works_70 (by decide) (by rw [hx5_4]; decide) (by decide) ?_
      refine aw_lload dX10_works_238 0 rfl ?_
      refine aw_lload_n dX10_works_240 rfl 1 rfl ?_
      refine aw_lif_ge (tgt := 249) dX10_works_241 dX10_works_242 (by decide) (fun hc11 => ?_) (fun hc11 => ?_)
      · replace H := H.1 hc11
        refine aw_iconst (v := 0) dX10_works_249 (by decide) ?_
        exact aw_ls [2] rfl H
      · replace H := H.2 hc11
        refine aw_iconst (v := 1) dX10_works_245 (by decide) ?_
        refine aw_goto (tgt := 250) dX10_works_246 (by decide) ?_
        exact aw_ls [2] rfl H
    by_cases hx5_5 : x1 = (61 : Int32)
    · replace H := H.2.2.2.2.2.1 hx5_5
      refine aw_lookup (off := 208) (tgt := 278) dX10_works_70 (by decide) (by rw [hx5_5]; decide) (by decide) ?_
      refine aw_lload dX10_works_278 0 rfl ?_
      refine aw_lload_n dX10_works_280 rfl 1 rfl ?_
      refine aw_lif_ne (tgt := 289) dX10_works_281 dX10_works_282 (by decide) (fun hc12 => ?_) (fun hc12 => ?_)
      · replace H := H.1 hc12
        refine aw_iconst (v := 0) dX10_works_289 (by decide) ?_
        exact aw_ls [2] rfl H
      · replace H := H.2 hc12
        refine aw_iconst (v := 1) dX10_works_285 (by decide) ?_
        refine aw_goto (tgt := 290) dX10_works_286 (by decide) ?_
        exact aw_ls [2] rfl H
    by_cases hx5_6 : x1 = (62 : Int32)
    · replace H := H.2.2.2.2.2.2.1 hx5_6
      refine aw_lookup (off := 188) (tgt := 258) dX10_works_70 (by decide) (by rw [hx5_6]; decide) (by decide) ?_
      refine aw_lload dX10_works_258 0 rfl ?_
      refine aw_lload_n dX10_works_260 rfl 1 rfl ?_
      refine aw_lif_le (tgt := 269) dX10_works_261 dX10_works_262 (by decide) (fun hc13 => ?_) (fun hc13 => ?_)
      · replace H := H.1 hc13
        refine aw_iconst (v := 0) dX10_works_269 (by decide) ?_
        exact aw_ls [2] rfl H
      · replace H := H.2 hc13
        refine aw_iconst (v := 1) dX10_works_265 (by decide) ?_
        refine aw_goto (tgt := 270) dX10_works_266 (by decide) ?_
        exact aw_ls [2] rfl H
    by_cases hx5_7 : x1 = (256 : Int32)
    · replace H := H.2.2.2.2.2.2.2.1 hx5_7
      refine aw_lookup (off := 228) (tgt := 298) dX10_works_70 (by decide) (by rw [hx5_7]; decide) (by decide) ?_
      refine aw_lload dX10_works_298 0 rfl ?_
      refine aw_lload_n dX10_works_300 rfl 1 rfl ?_
      refine aw_lif_gt (tgt := 309) dX10_works_301 dX10_works_302 (by decide) (fun hc14 => ?_) (fun hc14 => ?_)
      · replace H := H.1 hc14
        refine aw_iconst (v := 0) dX10_works_309 (by decide) ?_
        exact aw_ls [2] rfl H
      · replace H := H.2 hc14
        refine aw_iconst (v := 1) dX10_works_305 (by decide) ?_
        refine aw_goto (tgt := 310) dX10_works_306 (by decide) ?_
        exact aw_ls [2] rfl H
    by_cases hx5_8 : x1 = (257 : Int32)
    · replace H := H.2.2.2.2.2.2.2.2.1 hx5_8
      refine aw_lookup (off := 268) (tgt := 338) dX10_works_70 (by decide) (by rw [hx5_8]; decide) (by decide) ?_
      refine aw_lload dX10_works_338 0 rfl ?_
      refine aw_lload_n dX10_works_340 rfl 1 rfl ?_
      refine aw_lif_eq (tgt := 349) dX10_works_341 dX10_works_342 (by decide) (fun hc15 => ?_) (fun hc15 => ?_)
      · replace H := H.1 hc15
        refine aw_iconst (v := 0) dX10_works_349 (by decide) ?_
        exact aw_ls [2] rfl H
      · replace H := H.2 hc15
        refine aw_iconst (v := 1) dX10_works_345 (by decide) ?_
        refine aw_goto (tgt := 350) dX10_works_346 (by decide) ?_
        exact aw_ls [2] rfl H
    by_cases hx5_9 : x1 = (258 : Int32)
    · replace H := H.2.2.2.2.2.2.2.2.2.1 hx5_9
      refine aw_lookup (off := 248) (tgt := 318) dX10_works_70 (by decide) (by rw [hx5_9]; decide) (by decide) ?_
      refine aw_lload dX10_works_318 0 rfl ?_
      refine aw_lload_n dX10_works_320 rfl 1 rfl ?_
      refine aw_lif_lt (tgt := 329) dX10_works_321 dX10_works_322 (by decide) (fun hc16 => ?_) (fun hc16 => ?_)
      · replace H := H.1 hc16
        refine aw_iconst (v := 0) dX10_works_329 (by decide) ?_
        exact aw_ls [2] rfl H
      · replace H := H.2 hc16
        refine aw_iconst (v := 1) dX10_works_325 (by decide) ?_
        refine aw_goto (tgt := 330) dX10_works_326 (by decide) ?_
        exact aw_ls [2] rfl H
    by_cases hx5_10 : x1 = (261 : Int32)
    · replace H := H.2.2.2.2.2.2.2.2.2.2.1 hx5_10
      refine aw_lookup (off := 288) (tgt := 358) dX10_works_70 (by decide) (by rw [hx5_10]; decide) (by decide) ?_
      refine aw_lload dX10_works_358 0 rfl ?_
      refine aw_lconst (v := 0) dX10_works_360 (by decide) ?_
      refine aw_lif_eq (tgt := 375) dX10_works_361 dX10_works_362 (by decide) (fun hc18 => ?_) (fun hc18 => ?_)
      · replace H := H.1 hc18
        exact aw_ls [2] rfl H
      · replace H := H.2 hc18
        refine aw_lload_n dX10_works_365 rfl 1 rfl ?_
        refine aw_lconst (v := 0) dX10_works_366 (by decide) ?_
        refine aw_lif_eq (tgt := 375) dX10_works_367 dX10_works_368 (by decide) (fun hc17 => ?_) (fun hc17 => ?_)
        · replace H := H.1 hc17
          exact aw_ls [2] rfl H
        · replace H := H.2 hc17
          refine aw_iconst (v := 1) dX10_works_371 (by decide) ?_
          refine aw_goto (tgt := 376) dX10_works_372 (by decide) ?_
          exact aw_ls [2] rfl H
    replace H := H.2.2.2.2.2.2.2.2.2.2.2 hx5_0 hx5_1 hx5_2 hx5_3 hx5_4 hx5_5 hx5_6 hx5_7 hx5_8 hx5_9 hx5_10
    refine aw_lookup (off := 314) (tgt := 384) dX10_works_70 (by decide) (by rw [lv_osw hx5_0 (by decide), lv_osw hx5_1 (by decide), lv_osw hx5_2 (by decide), lv_osw hx5_3 (by decide), lv_osw hx5_4 (by decide), lv_osw hx5_5 (by decide), lv_osw hx5_6 (by decide), lv_osw hx5_7 (by decide), lv_osw hx5_8 (by decide), lv_osw hx5_9 (by decide), lv_osw hx5_10 (by decide)]; rfl) (by decide) ?_
    refine aw_lload dX10_works_384 0 rfl ?_
    refine aw_lconst (v := 0) dX10_works_386 (by decide) ?_
    refine aw_lif_ne (tgt := 397) dX10_works_387 dX10_works_388 (by decide) (fun hc20 => ?_) (fun hc20 => ?_)
    · replace H := H.1 hc20
      exact aw_ls [2] rfl H
    · replace H := H.2 hc20
      refine aw_lload_n dX10_works_391 rfl 1 rfl ?_
      refine aw_lconst (v := 0) dX10_works_392 (by decide) ?_
      refine aw_lif_eq (tgt := 401) dX10_works_393 dX10_works_394 (by decide) (fun hc19 => ?_) (fun hc19 => ?_)
      · replace H := H.1 hc19
        refine aw_iconst (v := 0) dX10_works_401 (by decide) ?_
        exact aw_ls [2] rfl H
      · replace H := H.2 hc19
        exact aw_ls [2] rfl H
  · replace H := H.2 hc22
    refine aw_aload_n dX10_works_19 rfl 1 rfl ?_
    refine aw_get dX10_works_20 shM0 ckX10 flX10_78 (v := .ref (ad 22)) rfl ?_
    refine aw_aload_n dX10_works_23 rfl 1 rfl ?_
    refine aw_get dX10_works_24 shM0 ckX10 flX10_335 (v := .int (h.1 0 37)) rfl ?_
    refine aw_iconst (v := 1) dX10_works_27 (by decide) ?_
    refine aw_isub dX10_works_28 ?_
    refine aw_lload_n dX10_works_29 rfl 0 rfl ?_
    refine aw_lconst (v := 0) dX10_works_30 (by decide) ?_
    refine aw_lif_ne (tgt := 39) dX10_works_31 dX10_works_32 (by decide) (fun hc21 => ?_) (fun hc21 => ?_)
    · replace H := H.1 hc21
      refine aw_iconst (v := 0) dX10_works_39 (by decide) ?_
      exact aw_ls [] rfl H
    · replace H := H.2 hc21
      refine aw_iconst (v := 1) dX10_works_35 (by decide) ?_
      refine aw_goto (tgt := 40) dX10_works_36 (by decide) ?_
      exact aw_ls [] rfl H
set_option maxRecDepth 8000 in
set_option maxHeartbeats 1000000 in
theorem bX10_works_40 {adK adV : Nat → Nat} {l : Launch} {ad : Nat → Nat} {d : Nat} {R : Int32 → aH → Prop}   (s0 : Int32) (s1 : Int32)  (h : aH)
    (H : AW (GM adK adV) l ad d mX10_is 0 [(0, .int s0)] [] h (ql fun z2 h1 => vp_in s1 64 ∧ (R (1 : Int32) (sJ h1 22 s1.toNatClampNeg z2)))) : AW (GM adK adV) l ad (d + 1) mX10_works 40 [] [.int s0, .int s1, .ref (ad 22)] h (qi R) := by
  refine cvX10_is dX10_works_40 mlX10_338 (Nat.le_of_ble_eq_true rfl) H (fun z2 h1 H => ?_)
  obtain ⟨hi3, H⟩ := H
  refine aw_lastK (t0 := 1) (j := s1.toNatClampNeg) dX10_works_43 shM22 rfl rfl hi3 ?_
  refine aw_iconst (v := 1) dX10_works_44 (by decide) ?_
  exact aw_zret dX10_works_45 rfl (by decide) ⟨_, rfl, H⟩
set_option maxRecDepth 8000 in
set_option maxHeartbeats 1000000 in
theorem bX10_works_212 {adK adV : Nat → Nat} {l : Launch} {ad : Nat → Nat} {d : Nat} {R : Int32 → aH → Prop}   (x2 : Int64) (x4 : Int64)  (h : aH)
    (H : AW (GM adK adV) l ad (d + 1) mX10_works 407 [(0, .ref (ad 0)), (6, .long (x4 * x2))] [] h (qi R)) : AW (GM adK adV) l ad (d + 1) mX10_works 212 [(0, .ref (ad 0)), (2, .long x2), (4, .long x4)] [] h (qi R) := by
  refine aw_lload dX10_works_212 2 rfl ?_
  refine aw_lload_n dX10_works_214 rfl 1 rfl ?_
  refine aw_lmul dX10_works_215 ?_
  refine aw_lstore (ls' := [(6, .long (x4 * x2)), (0, .ref (ad 0)), (2, .long x2), (4, .long x4)]) dX10_works_216 (by decide) rfl ?_
  refine aw_goto (tgt := 407) dX10_works_218 (by decide) ?_
  exact aw_ls [1, 0] rfl H
set_option maxRecDepth 8000 in
set_option maxHeartbeats 1000000 in
theorem bX10_works_250 {adK adV : Nat → Nat} {l : Launch} {ad : Nat → Nat} {d : Nat} {R : Int32 → aH → Prop}   (s0 : Int32)  (h : aH)
    (H : AW (GM adK adV) l ad d mX10_is 0 [(0, .int s0)] [] h (ql fun z2 h1 => AW (GM adK adV) l ad (d + 1) mX10_works 407 [(0, .ref (ad 0)), (6, .long z2)] [] h1 (qi R))) : AW (GM adK adV) l ad (d + 1) mX10_works 250 [(0, .ref (ad 0))] [.int s0] h (qi R) := by
  refine cvX10_is dX10_works_250 mlX10_338 (Nat.le_of_ble_eq_true rfl) H (fun z2 h1 H => ?_)
  refine aw_lstore (ls' := [(6, .long z2), (0, .ref (ad 0))]) dX10_works_253 (by decide) rfl ?_
  refine aw_goto (tgt := 407) dX10_works_255 (by decide) ?_
  exact aw_ls [1, 0] rfl H
set_option maxRecDepth 8000 in
set_option maxHeartbeats 1000000 in
theorem bX10_works_270 {adK adV : Nat → Nat} {l : Launch} {ad : Nat → Nat} {d : Nat} {R : Int32 → aH → Prop}   (s0 : Int32)  (h : aH)
    (H : AW (GM adK adV) l ad d mX10_is 0 [(0, .int s0)] [] h (ql fun z2 h1 => AW (GM adK adV) l ad (d + 1) mX10_works 407 [(0, .ref (ad 0)), (6, .long z2)] [] h1 (qi R))) : AW (GM adK adV) l ad (d + 1) mX10_works 270 [(0, .ref (ad 0))] [.int s0] h (qi R) := by
  refine cvX10_is dX10_works_270 mlX10_338 (Nat.le_of_ble_eq_true rfl) H (fun z2 h1 H => ?_)
  refine aw_lstore (ls' := [(6, .long z2), (0, .ref (ad 0))]) dX10_works_273 (by decide) rfl ?_
  refine aw_goto (tgt := 407) dX10_works_275 (by decide) ?_
  exact aw_ls [1, 0] rfl H
set_option maxRecDepth 8000 in
set_option maxHeartbeats 1000000 in
theorem bX10_works_290 {adK adV : Nat → Nat} {l : Launch} {ad : Nat → Nat} {d : Nat} {R : Int32 → aH → Prop}   (s0 : Int32)  (h : aH)
    (H : AW (GM adK adV) l ad d mX10_is 0 [(0, .int s0)] [] h (ql fun z2 h1 => AW (GM adK adV) l ad (d + 1) mX10_works 407 [(0, .ref (ad 0)), (6, .long z2)] [] h1 (qi R))) : AW (GM adK adV) l ad (d + 1) mX10_works 290 [(0, .ref (ad 0))] [.int s0] h (qi R) := by
  refine cvX10_is dX10_works_290 mlX10_338 (Nat.le_of_ble_eq_true rfl) H (fun z2 h1 H => ?_)
  refine aw_lstore (ls' := [(6, .long z2), (0, .ref (ad 0))]) dX10_works_293 (by decide) rfl ?_
  refine aw_goto (tgt := 407) dX10_works_295 (by decide) ?_
  exact aw_ls [1, 0] rfl H
set_option maxRecDepth 8000 in
set_option maxHeartbeats 1000000 in
theorem bX10_works_310 {adK adV : Nat → Nat} {l : Launch} {ad : Nat → Nat} {d : Nat} {R : Int32 → aH → Prop}   (s0 : Int32)  (h : aH)
    (H : AW (GM adK adV) l ad d mX10_is 0 [(0, .int s0)] [] h (ql fun z2 h1 => AW (GM adK adV) l ad (d + 1) mX10_works 407 [(0, .ref (ad 0)), (6, .long z2)] [] h1 (qi R))) : AW (GM adK adV) l ad (d + 1) mX10_works 310 [(0, .ref (ad 0))] [.int s0] h (qi R) := by
  refine cvX10_is dX10_works_310 mlX10_338 (Nat.le_of_ble_eq_true rfl) H (fun z2 h1 H => ?_)
  refine aw_lstore (ls' := [(6, .long z2), (0, .ref (ad 0))]) dX10_works_313 (by decide) rfl ?_
  refine aw_goto (tgt := 407) dX10_works_315 (by decide) ?_
  exact aw_ls [1, 0] rfl H
set_option maxRecDepth 8000 in
set_option maxHeartbeats 1000000 in
theorem bX10_works_330 {adK adV : Nat → Nat} {l : Launch} {ad : Nat → Nat} {d : Nat} {R : Int32 → aH → Prop}   (s0 : Int32)  (h : aH)
    (H : AW (GM adK adV) l ad d mX10_is 0 [(0, .int s0)] [] h (ql fun z2 h1 => AW (GM adK adV) l ad (d + 1) mX10_works 407 [(0, .ref (ad 0)), (6, .long z2)] [] h1 (qi R))) : AW (GM adK adV) l ad (d + 1) mX10_works 330 [(0, .ref (ad 0))] [.int s0] h (qi R) := by
  refine cvX10_is dX10_works_330 mlX10_338 (Nat.le_of_ble_eq_true rfl) H (fun z2 h1 H => ?_)
  refine aw_lstore (ls' := [(6, .long z2), (0, .ref (ad 0))]) dX10_works_333 (by decide) rfl ?_
  refine aw_goto (tgt := 407) dX10_works_335 (by decide) ?_
  exact aw_ls [1, 0] rfl H
set_option maxRecDepth 8000 in
set_option maxHeartbeats 1000000 in
theorem bX10_works_350 {adK adV : Nat → Nat} {l : Launch} {ad : Nat → Nat} {d : Nat} {R : Int32 → aH → Prop}   (s0 : Int32)  (h : aH)
    (H : AW (GM adK adV) l ad d mX10_is 0 [(0, .int s0)] [] h (ql fun z2 h1 => AW (GM adK adV) l ad (d + 1) mX10_works 407 [(0, .ref (ad 0)), (6, .long z2)] [] h1 (qi R))) : AW (GM adK adV) l ad (d + 1) mX10_works 350 [(0, .ref (ad 0))] [.int s0] h (qi R) := by
  refine cvX10_is dX10_works_350 mlX10_338 (Nat.le_of_ble_eq_true rfl) H (fun z2 h1 H => ?_)
  refine aw_lstore (ls' := [(6, .long z2), (0, .ref (ad 0))]) dX10_works_353 (by decide) rfl ?_
  refine aw_goto (tgt := 407) dX10_works_355 (by decide) ?_
  exact aw_ls [1, 0] rfl H
set_option maxRecDepth 8000 in
set_option maxHeartbeats 1000000 in
theorem bX10_works_375 {adK adV : Nat → Nat} {l : Launch} {ad : Nat → Nat} {d : Nat} {R : Int32 → aH → Prop}     (h : aH)
    (H : AW (GM adK adV) l ad (d + 1) mX10_works 376 [(0, .ref (ad 0))] [.int (0 : Int32)] h (qi R)) : AW (GM adK adV) l ad (d + 1) mX10_works 375 [(0, .ref (ad 0))] [] h (qi R) := by
  refine aw_iconst (v := 0) dX10_works_375 (by decide) ?_
  exact aw_ls [0] rfl H
set_option maxRecDepth 8000 in
set_option maxHeartbeats 1000000 in
theorem bX10_works_376 {adK adV : Nat → Nat} {l : Launch} {ad : Nat → Nat} {d : Nat} {R : Int32 → aH → Prop}   (s0 : Int32)  (h : aH)
    (H : AW (GM adK adV) l ad d mX10_is 0 [(0, .int s0)] [] h (ql fun z2 h1 => AW (GM adK adV) l ad (d + 1) mX10_works 407 [(0, .ref (ad 0)), (6, .long z2)] [] h1 (qi R))) : AW (GM adK adV) l ad (d + 1) mX10_works 376 [(0, .ref (ad 0))] [.int s0] h (qi R) := by
  refine cvX10_is dX10_works_376 mlX10_338 (Nat.le_of_ble_eq_true rfl) H (fun z2 h1 H => ?_)
  refine aw_lstore (ls' := [(6, .long z2), (0, .ref (ad 0))]) dX10_works_379 (by decide) rfl ?_
  refine aw_goto (tgt := 407) dX10_works_381 (by decide) ?_
  exact aw_ls [1, 0] rfl H
set_option maxRecDepth 8000 in
set_option maxHeartbeats 1000000 in
theorem bX10_works_397 {adK adV : Nat → Nat} {l : Launch} {ad : Nat → Nat} {d : Nat} {R : Int32 → aH → Prop}     (h : aH)
    (H : AW (GM adK adV) l ad (d + 1) mX10_works 402 [(0, .ref (ad 0))] [.int (1 : Int32)] h (qi R)) : AW (GM adK adV) l ad (d + 1) mX10_works 397 [(0, .ref (ad 0))] [] h (qi R) := by
  refine aw_iconst (v := 1) dX10_works_397 (by decide) ?_
  refine aw_goto (tgt := 402) dX10_works_398 (by decide) ?_
  exact aw_ls [0] rfl H
set_option maxRecDepth 8000 in
set_option maxHeartbeats 1000000 in
theorem bX10_works_402 {adK adV : Nat → Nat} {l : Launch} {ad : Nat → Nat} {d : Nat} {R : Int32 → aH → Prop}   (s0 : Int32)  (h : aH)
    (H : AW (GM adK adV) l ad d mX10_is 0 [(0, .int s0)] [] h (ql fun z2 h1 => AW (GM adK adV) l ad (d + 1) mX10_works 407 [(0, .ref (ad 0)), (6, .long z2)] [] h1 (qi R))) : AW (GM adK adV) l ad (d + 1) mX10_works 402 [(0, .ref (ad 0))] [.int s0] h (qi R) := by
  refine cvX10_is dX10_works_402 mlX10_338 (Nat.le_of_ble_eq_true rfl) H (fun z2 h1 H => ?_)
  refine aw_lstore (ls' := [(6, .long z2), (0, .ref (ad 0))]) dX10_works_405 (by decide) rfl ?_
  exact aw_ls [1, 0] rfl H
set_option maxRecDepth 8000 in
set_option maxHeartbeats 1000000 in
theorem bX10_works_407 {adK adV : Nat → Nat} {l : Launch} {ad : Nat → Nat} {d : Nat} {R : Int32 → aH → Prop}   (x6 : Int64)  (h : aH)
    (H : vp_in ((h.1 0 37) - (1 : Int32)) 64 ∧ (((1000000000000 : Int64) < x6 → (R (0 : Int32) (sJ h 22 ((h.1 0 37) - (1 : Int32)).toNatClampNeg x6))) ∧ (¬ (1000000000000 : Int64) < x6 → ((x6 < (-1000000000000 : Int64) → (R (0 : Int32) (sJ h 22 ((h.1 0 37) - (1 : Int32)).toNatClampNeg x6))) ∧ (¬ x6 < (-1000000000000 : Int64) → (R (1 : Int32) (sJ h 22 ((h.1 0 37) - (1 : Int32)).toNatClampNeg x6))))))) : AW (GM adK adV) l ad (d + 1) mX10_works 407 [(0, .ref (ad 0)), (6, .long x6)] [] h (qi R) := by
  refine aw_aload_n dX10_works_407 rfl 0 rfl ?_
  refine aw_get dX10_works_408 shM0 ckX10 flX10_78 (v := .ref (ad 22)) rfl ?_
  refine aw_aload_n dX10_works_411 rfl 0 rfl ?_
  refine aw_get dX10_works_412 shM0 ckX10 flX10_335 (v := .int (h.1 0 37)) rfl ?_
  refine aw_iconst (v := 1) dX10_works_415 (by decide) ?_
  refine aw_isub dX10_works_416 ?_
  refine aw_lload dX10_works_417 1 rfl ?_
  obtain ⟨hi1, H⟩ := H
  refine aw_lastK (t0 := 1) (j := ((h.1 0 37) - (1 : Int32)).toNatClampNeg) dX10_works_419 shM22 rfl rfl hi1 ?_
  refine aw_lload dX10_works_420 1 rfl ?_
  refine aw_ldc2 dX10_works_422 clX10_348 ?_
  refine aw_lif_gt (tgt := 442) dX10_works_425 dX10_works_426 (by decide) (fun hc3 => ?_) (fun hc3 => ?_)
  · replace H := H.1 hc3
    refine aw_iconst (v := 0) dX10_works_442 (by decide) ?_
    exact aw_zret dX10_works_443 rfl (by decide) ⟨_, rfl, H⟩
  · replace H := H.2 hc3
    refine aw_lload dX10_works_429 1 rfl ?_
    refine aw_ldc2 dX10_works_431 clX10_350 ?_
    refine aw_lif_lt (tgt := 442) dX10_works_434 dX10_works_435 (by decide) (fun hc2 => ?_) (fun hc2 => ?_)
    · replace H := H.1 hc2
      refine aw_iconst (v := 0) dX10_works_442 (by decide) ?_
      exact aw_zret dX10_works_443 rfl (by decide) ⟨_, rfl, H⟩
    · replace H := H.2 hc2
      refine aw_iconst (v := 1) dX10_works_438 (by decide) ?_
      refine aw_goto (tgt := 443) dX10_works_439 (by decide) ?_
      exact aw_zret dX10_works_443 rfl (by decide) ⟨_, rfl, H⟩
set_option maxRecDepth 8000 in
set_option maxHeartbeats 1000000 in
theorem bX10_goes_0 {adK adV : Nat → Nat} {l : Launch} {ad : Nat → Nat} {d : Nat} {R : Int32 → aH → Prop}   (x1 : Int32)  (h : aH)
    (H : vp_in x1 6 ∧ (AW (GM adK adV) l ad (d + 1) mX10_goes 12 [(0, .ref (ad 0)), (1, .int x1), (2, .int ((sI h 0 37 (0 : Int32)).1 17 x1.toNatClampNeg))] [] (sI h 0 37 (0 : Int32)) (qi R))) : AW (GM adK adV) l ad (d + 1) mX10_goes 0 [(0, .ref (ad 0)), (1, .int x1)] [] h (qi R) := by
  refine aw_aload_n dX10_goes_0 rfl 0 rfl ?_
  refine aw_iconst (v := 0) dX10_goes_1 (by decide) ?_
  refine aw_putI dX10_goes_2 shM0 ckX10 flX10_335 rfl (fun _ => rfl) rfl rfl ?_
  refine aw_aload_n dX10_goes_5 rfl 0 rfl ?_
  refine aw_get dX10_goes_6 shM0 ckX10 flX10_58 (v := .ref (ad 17)) rfl ?_
  refine aw_iload_n dX10_goes_9 rfl 1 rfl ?_
  obtain ⟨hi1, H⟩ := H
  refine aw_ialdK (t0 := 0) (j := x1.toNatClampNeg) dX10_goes_10 shM17 rfl rfl hi1 ?_
  refine aw_istore_n (ls' := [(2, .int ((sI h 0 37 (0 : Int32)).1 17 x1.toNatClampNeg)), (0, .ref (ad 0)), (1, .int x1)]) dX10_goes_11 rfl (by decide) rfl ?_
  exact aw_ls [1, 2, 0] rfl H
set_option maxRecDepth 8000 in
set_option maxHeartbeats 1000000 in
theorem bX10_goes_12 {adK adV : Nat → Nat} {l : Launch} {ad : Nat → Nat} {d : Nat} {R : Int32 → aH → Prop}   (x1 : Int32) (x2 : Int32)  (h : aH)
    (H : vp_in x1 6 ∧ (((h.1 18 x1.toNatClampNeg) ≤ x2 → (R (1 : Int32) h)) ∧ (¬ (h.1 18 x1.toNatClampNeg) ≤ x2 → (vp_in x2 128 ∧ ((¬ (h.1 19 x2.toNatClampNeg) = (2 : Int32) → ((¬ (h.1 19 x2.toNatClampNeg) = 0 → (vp_in (h.1 20 x2.toNatClampNeg) 7 ∧ (AW (GM adK adV) l ad (d + 1) mX10_goes 85 [(0, .ref (ad 0)), (1, .int x1), (2, .int x2)] [.long (h.2.1 21 (h.1 20 x2.toNatClampNeg).toNatClampNeg), .int (h.1 0 37), .ref (ad 22)] h (qi R)))) ∧ ((h.1 19 x2.toNatClampNeg) = 0 → (AW (GM adK adV) l ad (d + 1) mX10_goes 85 [(0, .ref (ad 0)), (1, .int x1), (2, .int x2)] [.long (h.1 20 x2.toNatClampNeg).toInt64, .int (h.1 0 37), .ref (ad 22)] h (qi R))))) ∧ ((h.1 19 x2.toNatClampNeg) = (2 : Int32) → (AW (GM adK adV) l ad d mX10_works 0 [(0, .ref (ad 0)), (1, .int (h.1 20 x2.toNatClampNeg))] [] h (qi fun z6 h5 => (¬ z6 = 0 → (AW (GM adK adV) l ad (d + 1) mX10_goes 12 [(0, .ref (ad 0)), (1, .int x1), (2, .int (x2 + (1 : Int32)))] [] h5 (qi R))) ∧ (z6 = 0 → (R (0 : Int32) h5)))))))))) : AW (GM adK adV) l ad (d + 1) mX10_goes 12 [(0, .ref (ad 0)), (1, .int x1), (2, .int x2)] [] h (qi R) := by
  refine aw_iload_n dX10_goes_12 rfl 2 rfl ?_
  refine aw_aload_n dX10_goes_13 rfl 0 rfl ?_
  refine aw_get dX10_goes_14 shM0 ckX10 flX10_61 (v := .ref (ad 18)) rfl ?_
  refine aw_iload_n dX10_goes_17 rfl 1 rfl ?_
  obtain ⟨hi1, H⟩ := H
  refine aw_ialdK (t0 := 0) (j := x1.toNatClampNeg) dX10_goes_18 shM18 rfl rfl hi1 ?_
  refine aw_icmp_ge (tgt := 102) dX10_goes_19 (by decide) (fun hc9 => ?_) (fun hc9 => ?_)
  · replace H := H.1 hc9
    refine aw_iconst (v := 1) dX10_goes_102 (by decide) ?_
    exact aw_zret dX10_goes_103 rfl (by decide) ⟨_, rfl, H⟩
  · replace H := H.2 hc9
    refine aw_aload_n dX10_goes_22 rfl 0 rfl ?_
    refine aw_get dX10_goes_23 shM0 ckX10 flX10_64 (v := .ref (ad 19)) rfl ?_
    refine aw_iload_n dX10_goes_26 rfl 2 rfl ?_
    obtain ⟨hi2, H⟩ := H
    refine aw_ialdK (t0 := 0) (j := x2.toNatClampNeg) dX10_goes_27 shM19 rfl rfl hi2 ?_
    refine aw_iconst (v := 2) dX10_goes_28 (by decide) ?_
    refine aw_icmp_ne (tgt := 47) dX10_goes_29 (by decide) (fun hc8 => ?_) (fun hc8 => ?_)
    · replace H := H.1 hc8
      refine aw_aload_n dX10_goes_47 rfl 0 rfl ?_
      refine aw_get dX10_goes_48 shM0 ckX10 flX10_78 (v := .ref (ad 22)) rfl ?_
      refine aw_aload_n dX10_goes_51 rfl 0 rfl ?_
      refine aw_get dX10_goes_52 shM0 ckX10 flX10_335 (v := .int (h.1 0 37)) rfl ?_
      refine aw_aload_n dX10_goes_55 rfl 0 rfl ?_
      refine aw_get dX10_goes_56 shM0 ckX10 flX10_64 (v := .ref (ad 19)) rfl ?_
      refine aw_iload_n dX10_goes_59 rfl 2 rfl ?_
      refine aw_ialdK (t0 := 0) (j := x2.toNatClampNeg) dX10_goes_60 shM19 rfl rfl hi2 ?_
      refine aw_if_ne (tgt := 74) dX10_goes_61 (by decide) (fun hc4 => ?_) (fun hc4 => ?_)
      · replace H := H.1 hc4
        refine aw_aload_n dX10_goes_74 rfl 0 rfl ?_
        refine aw_get dX10_goes_75 shM0 ckX10 flX10_74 (v := .ref (ad 21)) rfl ?_
        refine aw_aload_n dX10_goes_78 rfl 0 rfl ?_
        refine aw_get dX10_goes_79 shM0 ckX10 flX10_67 (v := .ref (ad 20)) rfl ?_
        refine aw_iload_n dX10_goes_82 rfl 2 rfl ?_
        refine aw_ialdK (t0 := 0) (j := x2.toNatClampNeg) dX10_goes_83 shM20 rfl rfl hi2 ?_
        obtain ⟨hi3, H⟩ := H
        refine aw_laldK (t0 := 1) (j := (h.1 20 x2.toNatClampNeg).toNatClampNeg) dX10_goes_84 shM21 rfl rfl hi3 ?_
        exact aw_ls [0, 1, 2] rfl H
      · replace H := H.2 hc4
        refine aw_aload_n dX10_goes_64 rfl 0 rfl ?_
        refine aw_get dX10_goes_65 shM0 ckX10 flX10_67 (v := .ref (ad 20)) rfl ?_
        refine aw_iload_n dX10_goes_68 rfl 2 rfl ?_
        refine aw_ialdK (t0 := 0) (j := x2.toNatClampNeg) dX10_goes_69 shM20 rfl rfl hi2 ?_
        refine aw_i2l dX10_goes_70 ?_
        refine aw_goto (tgt := 85) dX10_goes_71 (by decide) ?_
        exact aw_ls [0, 1, 2] rfl H
    · replace H := H.2 hc8
      refine aw_aload_n dX10_goes_32 rfl 0 rfl ?_
      refine aw_aload_n dX10_goes_33 rfl 0 rfl ?_
      refine aw_get dX10_goes_34 shM0 ckX10 flX10_67 (v := .ref (ad 20)) rfl ?_
      refine aw_iload_n dX10_goes_37 rfl 2 rfl ?_
      refine aw_ialdK (t0 := 0) (j := x2.toNatClampNeg) dX10_goes_38 shM20 rfl rfl hi2 ?_
      refine cvX10_works dX10_goes_39 mlX10_352 shM0 (Nat.le_of_ble_eq_true rfl) H (fun z6 h5 H => ?_)
      refine aw_if_ne (tgt := 96) dX10_goes_42 (by decide) (fun hc7 => ?_) (fun hc7 => ?_)
      · replace H := H.1 hc7
        refine aw_inc (mm := (1)) (ls' := [(2, .int (x2 + (1 : Int32))), (0, .ref (ad 0)), (1, .int x1)]) dX10_goes_96 (by decide) (j := 2) rfl (by decide) rfl ?_
        refine aw_goto (tgt := 12) dX10_goes_99 (by decide) ?_
        exact aw_ls [1, 2, 0] rfl H
      · replace H := H.2 hc7
        refine aw_iconst (v := 0) dX10_goes_45 (by decide) ?_
        exact aw_zret dX10_goes_46 rfl (by decide) ⟨_, rfl, H⟩
set_option maxRecDepth 8000 in
set_option maxHeartbeats 1000000 in
theorem bX10_goes_85 {adK adV : Nat → Nat} {l : Launch} {ad : Nat → Nat} {d : Nat} {R : Int32 → aH → Prop}   (x1 : Int32) (x2 : Int32) (s0 : Int64) (s1 : Int32)  (h : aH)
    (H : vp_in s1 64 ∧ (AW (GM adK adV) l ad (d + 1) mX10_goes 12 [(0, .ref (ad 0)), (1, .int x1), (2, .int (x2 + (1 : Int32)))] [] (sI (sJ h 22 s1.toNatClampNeg s0) 0 37 (((sJ h 22 s1.toNatClampNeg s0).1 0 37) + (1 : Int32))) (qi R))) : AW (GM adK adV) l ad (d + 1) mX10_goes 85 [(0, .ref (ad 0)), (1, .int x1), (2, .int x2)] [.long s0, .int s1, .ref (ad 22)] h (qi R) := by
  obtain ⟨hi1, H⟩ := H
  refine aw_lastK (t0 := 1) (j := s1.toNatClampNeg) dX10_goes_85 shM22 rfl rfl hi1 ?_
  refine aw_aload_n dX10_goes_86 rfl 0 rfl ?_
  refine aw_dup dX10_goes_87 rfl ?_
  refine aw_get dX10_goes_88 shM0 ckX10 flX10_335 (v := .int ((sJ h 22 s1.toNatClampNeg s0).1 0 37)) rfl ?_
  refine aw_iconst (v := 1) dX10_goes_91 (by decide) ?_
  refine aw_iadd dX10_goes_92 ?_
  refine aw_putI dX10_goes_93 shM0 ckX10 flX10_335 rfl (fun _ => rfl) rfl rfl ?_
  refine aw_inc (mm := (1)) (ls' := [(2, .int (x2 + (1 : Int32))), (0, .ref (ad 0)), (1, .int x1)]) dX10_goes_96 (by decide) (j := 2) rfl (by decide) rfl ?_
  refine aw_goto (tgt := 12) dX10_goes_99 (by decide) ?_
  exact aw_ls [1, 2, 0] rfl H
set_option maxRecDepth 8000 in
set_option maxHeartbeats 1000000 in
theorem bX10_hasLaw_0 {adK adV : Nat → Nat} {l : Launch} {ad : Nat → Nat} {d : Nat} {R : Int32 → aH → Prop}   (x1 : Int32)  (h : aH)
    (H : vp_in x1 6 ∧ (((h.1 18 x1.toNatClampNeg) ≤ (h.1 17 x1.toNatClampNeg) → (R (0 : Int32) h)) ∧ (¬ (h.1 18 x1.toNatClampNeg) ≤ (h.1 17 x1.toNatClampNeg) → (R (1 : Int32) h)))) : AW (GM adK adV) l ad d mX10_hasLaw 0 [(0, .ref (ad 0)), (1, .int x1)] [] h (qi R) := by
  refine aw_aload_n dX10_hasLaw_0 rfl 0 rfl ?_
  refine aw_get dX10_hasLaw_1 shM0 ckX10 flX10_61 (v := .ref (ad 18)) rfl ?_
  refine aw_iload_n dX10_hasLaw_4 rfl 1 rfl ?_
  obtain ⟨hi1, H⟩ := H
  refine aw_ialdK (t0 := 0) (j := x1.toNatClampNeg) dX10_hasLaw_5 shM18 rfl rfl hi1 ?_
  refine aw_aload_n dX10_hasLaw_6 rfl 0 rfl ?_
  refine aw_get dX10_hasLaw_7 shM0 ckX10 flX10_58 (v := .ref (ad 17)) rfl ?_
  refine aw_iload_n dX10_hasLaw_10 rfl 1 rfl ?_
  refine aw_ialdK (t0 := 0) (j := x1.toNatClampNeg) dX10_hasLaw_11 shM17 rfl rfl hi1 ?_
  refine aw_icmp_le (tgt := 19) dX10_hasLaw_12 (by decide) (fun hc2 => ?_) (fun hc2 => ?_)
  · replace H := H.1 hc2
    refine aw_iconst (v := 0) dX10_hasLaw_19 (by decide) ?_
    exact aw_zret dX10_hasLaw_20 rfl (by decide) ⟨_, rfl, H⟩
  · replace H := H.2 hc2
    refine aw_iconst (v := 1) dX10_hasLaw_15 (by decide) ?_
    refine aw_goto (tgt := 20) dX10_hasLaw_16 (by decide) ?_
    exact aw_zret dX10_hasLaw_20 rfl (by decide) ⟨_, rfl, H⟩
