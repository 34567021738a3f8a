set_option maxRecDepth 8000 in
set_option maxHeartbeats 1000000 in
theorem bX8_copyFrom_0 {l : Launch} {ad : Nat → Nat} {d : Nat} {R : aH → Prop} (w : Nat) (v1 : Nat) (hw : isW GC w) (hv1 : isW GC v1)   (h : aH)
    (H : ∀ h1 : aH, h1 = (cpI (cpI (cpI (cpI h (v1 + 1) (w + 1) 0 0 6) (v1 + 2) (w + 2) 0 0 6) (v1 + 3) (w + 3) 0 0 8) (v1 + 4) (w + 4) 0 0 8) → (∀ h2 : aH, h2 = (cpI (cpI (cpI (cpI h1 (v1 + 5) (w + 5) 0 0 8) (v1 + 6) (w + 6) 0 0 8) (v1 + 7) (w + 7) 0 0 8) (v1 + 8) (w + 8) 0 0 8) → (∀ h3 : aH, h3 = (sI (cpI (cpI (cpI h2 (v1 + 9) (w + 9) 0 0 8) (v1 + 10) (w + 10) 0 0 8) (v1 + 11) (w + 11) 0 0 14) w 11 ((cpI (cpI (cpI h2 (v1 + 9) (w + 9) 0 0 8) (v1 + 10) (w + 10) 0 0 8) (v1 + 11) (w + 11) 0 0 14).1 v1 11)) → (∀ h4 : aH, h4 = (sI (sI (sI h3 w 12 (h3.1 v1 12)) w 13 ((sI h3 w 12 (h3.1 v1 12)).1 v1 13)) w 14 ((sI (sI h3 w 12 (h3.1 v1 12)) w 13 ((sI h3 w 12 (h3.1 v1 12)).1 v1 13)).1 v1 14)) → (R h4))))) : AW GC l ad (d + 1) mX8_copyFrom 0 [(0, .ref (ad w)), (1, .ref (ad v1))] [] h (qv R) := by
  refine aw_aload_n dX8_copyFrom_0 rfl 1 rfl ?_
  refine aw_get dX8_copyFrom_1 hv1.1 ckX8 flX8_9 (v := .ref (ad (v1 + 1))) rfl ?_
  refine aw_iconst (v := 0) dX8_copyFrom_4 (by decide) ?_
  refine aw_aload_n dX8_copyFrom_5 rfl 0 rfl ?_
  refine aw_get dX8_copyFrom_6 hw.1 ckX8 flX8_9 (v := .ref (ad (w + 1))) rfl ?_
  refine aw_iconst (v := 0) dX8_copyFrom_9 (by decide) ?_
  refine aw_bipush (v := 6) dX8_copyFrom_10 (by decide) ?_
  refine aw_copy (t0 := 0) (sp' := 0) (dp' := 0) (n' := 6) dX8_copyFrom_12 mlX8_45 (hv1.2 0 (by decide)) (hw.2 0 (by decide)) rfl (Nat.le_of_ble_eq_true rfl) (by decide) (by decide) (by decide) (by decide) (by decide) (by decide) (Nat.le_of_ble_eq_true rfl) (Nat.le_of_ble_eq_true rfl) ?_
  refine aw_aload_n dX8_copyFrom_15 rfl 1 rfl ?_
  refine aw_get dX8_copyFrom_16 hv1.1 ckX8 flX8_15 (v := .ref (ad (v1 + 2))) rfl ?_
  refine aw_iconst (v := 0) dX8_copyFrom_19 (by decide) ?_
  refine aw_aload_n dX8_copyFrom_20 rfl 0 rfl ?_
  refine aw_get dX8_copyFrom_21 hw.1 ckX8 flX8_15 (v := .ref (ad (w + 2))) rfl ?_
  refine aw_iconst (v := 0) dX8_copyFrom_24 (by decide) ?_
  refine aw_bipush (v := 6) dX8_copyFrom_25 (by decide) ?_
  refine aw_copy (t0 := 0) (sp' := 0) (dp' := 0) (n' := 6) dX8_copyFrom_27 mlX8_45 (hv1.2 1 (by decide)) (hw.2 1 (by decide)) rfl (Nat.le_of_ble_eq_true rfl) (by decide) (by decide) (by decide) (by decide) (by decide) (by decide) (Nat.le_of_ble_eq_true rfl) (Nat.le_of_ble_eq_true rfl) ?_
  refine aw_aload_n dX8_copyFrom_30 rfl 1 rfl ?_
  refine aw_get dX8_copyFrom_31 hv1.1 ckX8 flX8_18 (v := .ref (ad (v1 + 3))) rfl ?_
  refine aw_iconst (v := 0) dX8_copyFrom_34 (by decide) ?_
  refine aw_aload_n dX8_copyFrom_35 rfl 0 rfl ?_
  refine aw_get dX8_copyFrom_36 hw.1 ckX8 flX8_18 (v := .ref (ad (w + 3))) rfl ?_
  refine aw_iconst (v := 0) dX8_copyFrom_39 (by decide) ?_
  refine aw_bipush (v := 8) dX8_copyFrom_40 (by decide) ?_
  refine aw_copy (t0 := 0) (sp' := 0) (dp' := 0) (n' := 8) dX8_copyFrom_42 mlX8_45 (hv1.2 2 (by decide)) (hw.2 2 (by decide)) rfl (Nat.le_of_ble_eq_true rfl) (by decide) (by decide) (by decide) (by decide) (by decide) (by decide) (Nat.le_of_ble_eq_true rfl) (Nat.le_of_ble_eq_true rfl) ?_
  refine aw_aload_n dX8_copyFrom_45 rfl 1 rfl ?_
  refine aw_get dX8_copyFrom_46 hv1.1 ckX8 flX8_21 (v := .ref (ad (v1 + 4))) rfl ?_
  refine aw_iconst (v := 0) dX8_copyFrom_49 (by decide) ?_
  refine aw_aload_n dX8_copyFrom_50 rfl 0 rfl ?_
  refine aw_get dX8_copyFrom_51 hw.1 ckX8 flX8_21 (v := .ref (ad (w + 4))) rfl ?_
  refine aw_iconst (v := 0) dX8_copyFrom_54 (by decide) ?_
  refine aw_bipush (v := 8) dX8_copyFrom_55 (by decide) ?_
  refine aw_copy (t0 := 0) (sp' := 0) (dp' := 0) (n' := 8) dX8_copyFrom_57 mlX8_45 (hv1.2 3 (by decide)) (hw.2 3 (by decide)) rfl (Nat.le_of_ble_eq_true rfl) (by decide) (by decide) (by decide) (by decide) (by decide) (by decide) (Nat.le_of_ble_eq_true rfl) (Nat.le_of_ble_eq_true rfl) ?_
  refine aw_toph (fun h1 eh1 => ?_)
  replace H := H h1 eh1
  refine aw_aload_n dX8_copyFrom_60 rfl 1 rfl ?_
  refine aw_get dX8_copyFrom_61 hv1.1 ckX8 flX8_24 (v := .ref (ad (v1 + 5))) rfl ?_
  refine aw_iconst (v := 0) dX8_copyFrom_64 (by decide) ?_
  refine aw_aload_n dX8_copyFrom_65 rfl 0 rfl ?_
  refine aw_get dX8_copyFrom_66 hw.1 ckX8 flX8_24 (v := .ref (ad (w + 5))) rfl ?_
  refine aw_iconst (v := 0) dX8_copyFrom_69 (by decide) ?_
  refine aw_bipush (v := 8) dX8_copyFrom_70 (by decide) ?_
  refine aw_copy (t0 := 0) (sp' := 0) (dp' := 0) (n' := 8) dX8_copyFrom_72 mlX8_45 (hv1.2 4 (by decide)) (hw.2 4 (by decide)) rfl (Nat.le_of_ble_eq_true rfl) (by decide) (by decide) (by decide) (by decide) (by decide) (by decide) (Nat.le_of_ble_eq_true rfl) (Nat.le_of_ble_eq_true rfl) ?_
  refine aw_aload_n dX8_copyFrom_75 rfl 1 rfl ?_
  refine aw_get dX8_copyFrom_76 hv1.1 ckX8 flX8_27 (v := .ref (ad (v1 + 6))) rfl ?_
  refine aw_iconst (v := 0) dX8_copyFrom_79 (by decide) ?_
  refine aw_aload_n dX8_copyFrom_80 rfl 0 rfl ?_
  refine aw_get dX8_copyFrom_81 hw.1 ckX8 flX8_27 (v := .ref (ad (w + 6))) rfl ?_
  refine aw_iconst (v := 0) dX8_copyFrom_84 (by decide) ?_
  refine aw_bipush (v := 8) dX8_copyFrom_85 (by decide) ?_
  refine aw_copy (t0 := 0) (sp' := 0) (dp' := 0) (n' := 8) dX8_copyFrom_87 mlX8_45 (hv1.2 5 (by decide)) (hw.2 5 (by decide)) rfl (Nat.le_of_ble_eq_true rfl) (by decide) (by decide) (by decide) (by decide) (by decide) (by decide) (Nat.le_of_ble_eq_true rfl) (Nat.le_of_ble_eq_true rfl) ?_
  refine aw_aload_n dX8_copyFrom_90 rfl 1 rfl ?_
  refine aw_get dX8_copyFrom_91 hv1.1 ckX8 flX8_30 (v := .ref (ad (v1 + 7))) rfl ?_
  refine aw_iconst (v := 0) dX8_copyFrom_94 (by decide) ?_
  refine aw_aload_n dX8_copyFrom_95 rfl 0 rfl ?_
  refine aw_get dX8_copyFrom_96 hw.1 ckX8 flX8_30 (v := .ref (ad (w + 7))) rfl ?_
  refine aw_iconst (v := 0) dX8_copyFrom_99 (by decide) ?_
  refine aw_bipush (v := 8) dX8_copyFrom_100 (by decide) ?_
  refine aw_copy (t0 := 0) (sp' := 0) (dp' := 0) (n' := 8) dX8_copyFrom_102 mlX8_45 (hv1.2 6 (by decide)) (hw.2 6 (by decide)) rfl (Nat.le_of_ble_eq_true rfl) (by decide) (by decide) (by decide) (by decide) (by decide) (by decide) (Nat.le_of_ble_eq_true rfl) (Nat.le_of_ble_eq_true rfl) ?_
  refine aw_aload_n dX8_copyFrom_105 rfl 1 rfl ?_
  refine aw_get dX8_copyFrom_106 hv1.1 ckX8 flX8_33 (v := .ref (ad (v1 + 8))) rfl ?_
  refine aw_iconst (v := 0) dX8_copyFrom_109 (by decide) ?_
  refine aw_aload_n dX8_copyFrom_110 rfl 0 rfl ?_
  refine aw_get dX8_copyFrom_111 hw.1 ckX8 flX8_33 (v := .ref (ad (w + 8))) rfl ?_
  refine aw_iconst (v := 0) dX8_copyFrom_114 (by decide) ?_
  refine aw_bipush (v := 8) dX8_copyFrom_115 (by decide) ?_
  refine aw_copy (t0 := 0) (sp' := 0) (dp' := 0) (n' := 8) dX8_copyFrom_117 mlX8_45 (hv1.2 7 (by decide)) (hw.2 7 (by decide)) rfl (Nat.le_of_ble_eq_true rfl) (by decide) (by decide) (by decide) (by decide) (by decide) (by decide) (Nat.le_of_ble_eq_true rfl) (Nat.le_of_ble_eq_true rfl) ?_
  refine aw_toph (fun h2 eh2 => ?_)
  replace H := H h2 eh2
  refine aw_aload_n dX8_copyFrom_120 rfl 1 rfl ?_
  refine aw_get dX8_copyFrom_121 hv1.1 ckX8 flX8_36 (v := .ref (ad (v1 + 9))) rfl ?_
  refine aw_iconst (v := 0) dX8_copyFrom_124 (by decide) ?_
  refine aw_aload_n dX8_copyFrom_125 rfl 0 rfl ?_
  refine aw_get dX8_copyFrom_126 hw.1 ckX8 flX8_36 (v := .ref (ad (w + 9))) rfl ?_
  refine aw_iconst (v := 0) dX8_copyFrom_129 (by decide) ?_
  refine aw_bipush (v := 8) dX8_copyFrom_130 (by decide) ?_
  refine aw_copy (t0 := 0) (sp' := 0) (dp' := 0) (n' := 8) dX8_copyFrom_132 mlX8_45 (hv1.2 8 (by decide)) (hw.2 8 (by decide)) rfl (Nat.le_of_ble_eq_true rfl) (by decide) (by decide) (by decide) (by decide) (by decide) (by decide) (Nat.le_of_ble_eq_true rfl) (Nat.le_of_ble_eq_true rfl) ?_
  refine aw_aload_n dX8_copyFrom_135 rfl 1 rfl ?_
  refine aw_get dX8_copyFrom_136 hv1.1 ckX8 flX8_39 (v := .ref (ad (v1 + 10))) rfl ?_
  refine aw_iconst (v := 0) dX8_copyFrom_139 (by decide) ?_
  refine aw_aload_n dX8_copyFrom_140 rfl 0 rfl ?_
  refine aw_get dX8_copyFrom_141 hw.1 ckX8 flX8_39 (v := .ref (ad (w + 10))) rfl ?_
  refine aw_iconst (v := 0) dX8_copyFrom_144 (by decide) ?_
  refine aw_bipush (v := 8) dX8_copyFrom_145 (by decide) ?_
  refine aw_copy (t0 := 0) (sp' := 0) (dp' := 0) (n' := 8) dX8_copyFrom_147 mlX8_45 (hv1.2 9 (by decide)) (hw.2 9 (by decide)) rfl (Nat.le_of_ble_eq_true rfl) (by decide) (by decide) (by decide) (by decide) (by decide) (by decide) (Nat.le_of_ble_eq_true rfl) (Nat.le_of_ble_eq_true rfl) ?_
  refine aw_aload_n dX8_copyFrom_150 rfl 1 rfl ?_
  refine aw_get dX8_copyFrom_151 hv1.1 ckX8 flX8_42 (v := .ref (ad (v1 + 11))) rfl ?_
  refine aw_iconst (v := 0) dX8_copyFrom_154 (by decide) ?_
  refine aw_aload_n dX8_copyFrom_155 rfl 0 rfl ?_
  refine aw_get dX8_copyFrom_156 hw.1 ckX8 flX8_42 (v := .ref (ad (w + 11))) rfl ?_
  refine aw_iconst (v := 0) dX8_copyFrom_159 (by decide) ?_
  refine aw_bipush (v := 14) dX8_copyFrom_160 (by decide) ?_
  refine aw_copy (t0 := 0) (sp' := 0) (dp' := 0) (n' := 14) dX8_copyFrom_162 mlX8_45 (hv1.2 10 (by decide)) (hw.2 10 (by decide)) rfl (Nat.le_of_ble_eq_true rfl) (by decide) (by decide) (by decide) (by decide) (by decide) (by decide) (Nat.le_of_ble_eq_true rfl) (Nat.le_of_ble_eq_true rfl) ?_
  refine aw_aload_n dX8_copyFrom_165 rfl 0 rfl ?_
  refine aw_aload_n dX8_copyFrom_166 rfl 1 rfl ?_
  refine aw_get dX8_copyFrom_167 hv1.1 ckX8 flX8_51 (v := .int ((cpI (cpI (cpI h2 (v1 + 9) (w + 9) 0 0 8) (v1 + 10) (w + 10) 0 0 8) (v1 + 11) (w + 11) 0 0 14).1 v1 11)) rfl ?_
  refine aw_putI dX8_copyFrom_170 hw.1 ckX8 flX8_51 rfl (fun _ => rfl) rfl rfl ?_
  refine aw_toph (fun h3 eh3 => ?_)
  replace H := H h3 eh3
  refine aw_aload_n dX8_copyFrom_173 rfl 0 rfl ?_
  refine aw_aload_n dX8_copyFrom_174 rfl 1 rfl ?_
  refine aw_get dX8_copyFrom_175 hv1.1 ckX8 flX8_55 (v := .int (h3.1 v1 12)) rfl ?_
  refine aw_putI dX8_copyFrom_178 hw.1 ckX8 flX8_55 rfl (fun _ => rfl) rfl rfl ?_
  refine aw_aload_n dX8_copyFrom_181 rfl 0 rfl ?_
  refine aw_aload_n dX8_copyFrom_182 rfl 1 rfl ?_
  refine aw_get dX8_copyFrom_183 hv1.1 ckX8 flX8_58 (v := .int ((sI h3 w 12 (h3.1 v1 12)).1 v1 13)) rfl ?_
  refine aw_putI dX8_copyFrom_186 hw.1 ckX8 flX8_58 rfl (fun _ => rfl) rfl rfl ?_
  refine aw_aload_n dX8_copyFrom_189 rfl 0 rfl ?_
  refine aw_aload_n dX8_copyFrom_190 rfl 1 rfl ?_
  refine aw_get dX8_copyFrom_191 hv1.1 ckX8 flX8_61 (v := .int ((sI (sI h3 w 12 (h3.1 v1 12)) w 13 ((sI h3 w 12 (h3.1 v1 12)).1 v1 13)).1 v1 14)) rfl ?_
  refine aw_putI dX8_copyFrom_194 hw.1 ckX8 flX8_61 rfl (fun _ => rfl) rfl rfl ?_
  refine aw_toph (fun h4 eh4 => ?_)
  replace H := H h4 eh4
  exact aw_vret dX8_copyFrom_197 rfl ⟨rfl, H⟩
set_option maxRecDepth 8000 in
set_option maxHeartbeats 1000000 in
theorem bX8_empty_0 {l : Launch} {ad : Nat → Nat} {d : Nat} {R : aH → Prop} (w : Nat) (hw : isW GC w)   (h : aH)
    (H : R (sI (sI (sI (sI h w 11 (0 : Int32)) w 12 (0 : Int32)) w 13 (0 : Int32)) w 14 (0 : Int32))) : AW GC l ad d mX8_empty 0 [(0, .ref (ad w))] [] h (qv R) := by
  refine aw_aload_n dX8_empty_0 rfl 0 rfl ?_
  refine aw_iconst (v := 0) dX8_empty_1 (by decide) ?_
  refine aw_putI dX8_empty_2 hw.1 ckX8 flX8_51 rfl (fun _ => rfl) rfl rfl ?_
  refine aw_aload_n dX8_empty_5 rfl 0 rfl ?_
  refine aw_iconst (v := 0) dX8_empty_6 (by decide) ?_
  refine aw_putI dX8_empty_7 hw.1 ckX8 flX8_55 rfl (fun _ => rfl) rfl rfl ?_
  refine aw_aload_n dX8_empty_10 rfl 0 rfl ?_
  refine aw_iconst (v := 0) dX8_empty_11 (by decide) ?_
  refine aw_putI dX8_empty_12 hw.1 ckX8 flX8_58 rfl (fun _ => rfl) rfl rfl ?_
  refine aw_aload_n dX8_empty_15 rfl 0 rfl ?_
  refine aw_iconst (v := 0) dX8_empty_16 (by decide) ?_
  refine aw_putI dX8_empty_17 hw.1 ckX8 flX8_61 rfl (fun _ => rfl) rfl rfl ?_
  exact aw_vret dX8_empty_20 rfl ⟨rfl, H⟩
set_option maxRecDepth 8000 in
set_option maxHeartbeats 1000000 in
theorem bX8_addDebt_0 {l : Launch} {ad : Nat → Nat} {d : Nat} {R : aH → Prop} (w : Nat) (hw : isW GC w) (x1 : Int32) (x2 : Int32) (x3 : Int32) (x4 : Int32) (x5 : Int32)  (h : aH)
    (H : ((h.1 w 11) < (8 : Int32) → (vp_in (h.1 w 11) 8 ∧ (vp_in ((sI h (w + 3) (h.1 w 11).toNatClampNeg x1).1 w 11) 8 ∧ (∀ h3 : aH, h3 = (sI (sI h (w + 3) (h.1 w 11).toNatClampNeg x1) (w + 4) ((sI h (w + 3) (h.1 w 11).toNatClampNeg x1).1 w 11).toNatClampNeg x2) → (vp_in (h3.1 w 11) 8 ∧ (vp_in ((sI h3 (w + 5) (h3.1 w 11).toNatClampNeg x3).1 w 11) 8 ∧ (∀ h6 : aH, h6 = (sI (sI h3 (w + 5) (h3.1 w 11).toNatClampNeg x3) (w + 6) ((sI h3 (w + 5) (h3.1 w 11).toNatClampNeg x3).1 w 11).toNatClampNeg x4) → (vp_in (h6.1 w 11) 8 ∧ (vp_in ((sI h6 (w + 7) (h6.1 w 11).toNatClampNeg x5).1 w 11) 8 ∧ (∀ h9 : aH, h9 = (sI (sI h6 (w + 7) (h6.1 w 11).toNatClampNeg x5) (w + 8) ((sI h6 (w + 7) (h6.1 w 11).toNatClampNeg x5).1 w 11).toNatClampNeg (0 : Int32)) → (vp_in (h9.1 w 11) 8 ∧ (vp_in ((sI h9 (w + 9) (h9.1 w 11).toNatClampNeg (0 : Int32)).1 w 11) 8 ∧ (∀ h12 : aH, h12 = (sI (sI h9 (w + 9) (h9.1 w 11).toNatClampNeg (0 : Int32)) (w + 10) ((sI h9 (w + 9) (h9.1 w 11).toNatClampNeg (0 : Int32)).1 w 11).toNatClampNeg (0 : Int32)) → (vp_in (h12.1 w 11) 14 ∧ (∀ h14 : aH, h14 = (sI (sI h12 (w + 11) (h12.1 w 11).toNatClampNeg (0 : Int32)) w 11 (((sI h12 (w + 11) (h12.1 w 11).toNatClampNeg (0 : Int32)).1 w 11) + (1 : Int32))) → (R h14)))))))))))))))) ∧ (¬ (h.1 w 11) < (8 : Int32) → (R h))) : AW GC l ad d mX8_addDebt 0 [(0, .ref (ad w)), (1, .int x1), (2, .int x2), (3, .int x3), (4, .int x4), (5, .int x5)] [] h (qv R) := by
  refine aw_aload_n dX8_addDebt_0 rfl 0 rfl ?_
  refine aw_get dX8_addDebt_1 hw.1 ckX8 flX8_51 (v := .int (h.1 w 11)) rfl ?_
  refine aw_bipush (v := 8) dX8_addDebt_4 (by decide) ?_
  refine aw_icmp_lt (tgt := 10) dX8_addDebt_6 (by decide) (fun hc15 => ?_) (fun hc15 => ?_)
  · replace H := H.1 hc15
    refine aw_aload_n dX8_addDebt_10 rfl 0 rfl ?_
    refine aw_get dX8_addDebt_11 hw.1 ckX8 flX8_18 (v := .ref (ad (w + 3))) rfl ?_
    refine aw_aload_n dX8_addDebt_14 rfl 0 rfl ?_
    refine aw_get dX8_addDebt_15 hw.1 ckX8 flX8_51 (v := .int (h.1 w 11)) rfl ?_
    refine aw_iload_n dX8_addDebt_18 rfl 1 rfl ?_
    obtain ⟨hi1, H⟩ := H
    refine aw_iastK (t0 := 0) (j := (h.1 w 11).toNatClampNeg) dX8_addDebt_19 (hw.2 2 (by decide)) rfl rfl hi1 ?_
    refine aw_aload_n dX8_addDebt_20 rfl 0 rfl ?_
    refine aw_get dX8_addDebt_21 hw.1 ckX8 flX8_21 (v := .ref (ad (w + 4))) rfl ?_
    refine aw_aload_n dX8_addDebt_24 rfl 0 rfl ?_
    refine aw_get dX8_addDebt_25 hw.1 ckX8 flX8_51 (v := .int ((sI h (w + 3) (h.1 w 11).toNatClampNeg x1).1 w 11)) rfl ?_
    refine aw_iload_n dX8_addDebt_28 rfl 2 rfl ?_
    obtain ⟨hi2, H⟩ := H
    refine aw_iastK (t0 := 0) (j := ((sI h (w + 3) (h.1 w 11).toNatClampNeg x1).1 w 11).toNatClampNeg) dX8_addDebt_29 (hw.2 3 (by decide)) rfl rfl hi2 ?_
    refine aw_toph (fun h3 eh3 => ?_)
    replace H := H h3 eh3
    refine aw_aload_n dX8_addDebt_30 rfl 0 rfl ?_
    refine aw_get dX8_addDebt_31 hw.1 ckX8 flX8_24 (v := .ref (ad (w + 5))) rfl ?_
    refine aw_aload_n dX8_addDebt_34 rfl 0 rfl ?_
    refine aw_get dX8_addDebt_35 hw.1 ckX8 flX8_51 (v := .int (h3.1 w 11)) rfl ?_
    refine aw_iload_n dX8_addDebt_38 rfl 3 rfl ?_
    obtain ⟨hi4, H⟩ := H
    refine aw_iastK (t0 := 0) (j := (h3.1 w 11).toNatClampNeg) dX8_addDebt_39 (hw.2 4 (by decide)) rfl rfl hi4 ?_
    refine aw_aload_n dX8_addDebt_40 rfl 0 rfl ?_
    refine aw_get dX8_addDebt_41 hw.1 ckX8 flX8_27 (v := .ref (ad (w + 6))) rfl ?_
    refine aw_aload_n dX8_addDebt_44 rfl 0 rfl ?_
    refine aw_get dX8_addDebt_45 hw.1 ckX8 flX8_51 (v := .int ((sI h3 (w + 5) (h3.1 w 11).toNatClampNeg x3).1 w 11)) rfl ?_
    refine aw_iload dX8_addDebt_48 4 rfl ?_
    obtain ⟨hi5, H⟩ := H
    refine aw_iastK (t0 := 0) (j := ((sI h3 (w + 5) (h3.1 w 11).toNatClampNeg x3).1 w 11).toNatClampNeg) dX8_addDebt_50 (hw.2 5 (by decide)) rfl rfl hi5 ?_
    refine aw_toph (fun h6 eh6 => ?_)
    replace H := H h6 eh6
    refine aw_aload_n dX8_addDebt_51 rfl 0 rfl ?_
    refine aw_get dX8_addDebt_52 hw.1 ckX8 flX8_30 (v := .ref (ad (w + 7))) rfl ?_
    refine aw_aload_n dX8_addDebt_55 rfl 0 rfl ?_
    refine aw_get dX8_addDebt_56 hw.1 ckX8 flX8_51 (v := .int (h6.1 w 11)) rfl ?_
    refine aw_iload dX8_addDebt_59 5 rfl ?_
    obtain ⟨hi7, H⟩ := H
    refine aw_iastK (t0 := 0) (j := (h6.1 w 11).toNatClampNeg) dX8_addDebt_61 (hw.2 6 (by decide)) rfl rfl hi7 ?_
    refine aw_aload_n dX8_addDebt_62 rfl 0 rfl ?_
    refine aw_get dX8_addDebt_63 hw.1 ckX8 flX8_33 (v := .ref (ad (w + 8))) rfl ?_
    refine aw_aload_n dX8_addDebt_66 rfl 0 rfl ?_
    refine aw_get dX8_addDebt_67 hw.1 ckX8 flX8_51 (v := .int ((sI h6 (w + 7) (h6.1 w 11).toNatClampNeg x5).1 w 11)) rfl ?_
    refine aw_iconst (v := 0) dX8_addDebt_70 (by decide) ?_
    obtain ⟨hi8, H⟩ := H
    refine aw_iastK (t0 := 0) (j := ((sI h6 (w + 7) (h6.1 w 11).toNatClampNeg x5).1 w 11).toNatClampNeg) dX8_addDebt_71 (hw.2 7 (by decide)) rfl rfl hi8 ?_
    refine aw_toph (fun h9 eh9 => ?_)
    replace H := H h9 eh9
    refine aw_aload_n dX8_addDebt_72 rfl 0 rfl ?_
    refine aw_get dX8_addDebt_73 hw.1 ckX8 flX8_36 (v := .ref (ad (w + 9))) rfl ?_
    refine aw_aload_n dX8_addDebt_76 rfl 0 rfl ?_
    refine aw_get dX8_addDebt_77 hw.1 ckX8 flX8_51 (v := .int (h9.1 w 11)) rfl ?_
    refine aw_iconst (v := 0) dX8_addDebt_80 (by decide) ?_
    obtain ⟨hi10, H⟩ := H
    refine aw_iastK (t0 := 0) (j := (h9.1 w 11).toNatClampNeg) dX8_addDebt_81 (hw.2 8 (by decide)) rfl rfl hi10 ?_
    refine aw_aload_n dX8_addDebt_82 rfl 0 rfl ?_
    refine aw_get dX8_addDebt_83 hw.1 ckX8 flX8_39 (v := .ref (ad (w + 10))) rfl ?_
    refine aw_aload_n dX8_addDebt_86 rfl 0 rfl ?_
    refine aw_get dX8_addDebt_87 hw.1 ckX8 flX8_51 (v := .int ((sI h9 (w + 9) (h9.1 w 11).toNatClampNeg (0 : Int32)).1 w 11)) rfl ?_
    refine aw_iconst (v := 0) dX8_addDebt_90 (by decide) ?_
    obtain ⟨hi11, H⟩ := H
    refine aw_iastK (t0 := 0) (j := ((sI h9 (w + 9) (h9.1 w 11).toNatClampNeg (0 : Int32)).1 w 11).toNatClampNeg) dX8_addDebt_91 (hw.2 9 (by decide)) rfl rfl hi11 ?_
    refine aw_toph (fun h12 eh12 => ?_)
    replace H := H h12 eh12
    refine aw_aload_n dX8_addDebt_92 rfl 0 rfl ?_
    refine aw_get dX8_addDebt_93 hw.1 ckX8 flX8_42 (v := .ref (ad (w + 11))) rfl ?_
    refine aw_aload_n dX8_addDebt_96 rfl 0 rfl ?_
    refine aw_get dX8_addDebt_97 hw.1 ckX8 flX8_51 (v := .int (h12.1 w 11)) rfl ?_
    refine aw_iconst (v := 0) dX8_addDebt_100 (by decide) ?_
    obtain ⟨hi13, H⟩ := H
    refine aw_iastK (t0 := 0) (j := (h12.1 w 11).toNatClampNeg) dX8_addDebt_101 (hw.2 10 (by decide)) rfl rfl hi13 ?_
    refine aw_aload_n dX8_addDebt_102 rfl 0 rfl ?_
    refine aw_dup dX8_addDebt_103 rfl ?_
    refine aw_get dX8_addDebt_104 hw.1 ckX8 flX8_51 (v := .int ((sI h12 (w + 11) (h12.1 w 11).toNatClampNeg (0 : Int32)).1 w 11)) rfl ?_
    refine aw_iconst (v := 1) dX8_addDebt_107 (by decide) ?_
    refine aw_iadd dX8_addDebt_108 ?_
    refine aw_putI dX8_addDebt_109 hw.1 ckX8 flX8_51 rfl (fun _ => rfl) rfl rfl ?_
    refine aw_toph (fun h14 eh14 => ?_)
    replace H := H h14 eh14
    exact aw_vret dX8_addDebt_112 rfl ⟨rfl, H⟩
  · replace H := H.2 hc15
    exact aw_vret dX8_addDebt_9 rfl ⟨rfl, H⟩
set_option maxRecDepth 8000 in
set_option maxHeartbeats 1000000 in
theorem bX8_isAlive_0 {l : Launch} {ad : Nat → Nat} {d : Nat} {R : Int32 → aH → Prop} (w : Nat) (hw : isW GC w) (x1 : Int32)  (h : aH)
    (H : ((((h.1 w 12) >>> (x1 &&& 31)) &&& (1 : Int32)) = 0 → (R (0 : Int32) h)) ∧ (¬ (((h.1 w 12) >>> (x1 &&& 31)) &&& (1 : Int32)) = 0 → (R (1 : Int32) h))) : AW GC l ad d mX8_isAlive 0 [(0, .ref (ad w)), (1, .int x1)] [] h (qi R) := by
  refine aw_aload_n dX8_isAlive_0 rfl 0 rfl ?_
  refine aw_get dX8_isAlive_1 hw.1 ckX8 flX8_55 (v := .int (h.1 w 12)) rfl ?_
  refine aw_iload_n dX8_isAlive_4 rfl 1 rfl ?_
  refine aw_ishr dX8_isAlive_5 ?_
  refine aw_iconst (v := 1) dX8_isAlive_6 (by decide) ?_
  refine aw_iand dX8_isAlive_7 ?_
  refine aw_if_eq (tgt := 15) dX8_isAlive_8 (by decide) (fun hc1 => ?_) (fun hc1 => ?_)
  · replace H := H.1 hc1
    refine aw_iconst (v := 0) dX8_isAlive_15 (by decide) ?_
    exact aw_zret dX8_isAlive_16 rfl (by decide) ⟨_, rfl, H⟩
  · replace H := H.2 hc1
    refine aw_iconst (v := 1) dX8_isAlive_11 (by decide) ?_
    refine aw_goto (tgt := 16) dX8_isAlive_12 (by decide) ?_
    exact aw_zret dX8_isAlive_16 rfl (by decide) ⟨_, rfl, H⟩
set_option maxRecDepth 8000 in
set_option maxHeartbeats 1000000 in
theorem bX8_purseOf_0 {l : Launch} {ad : Nat → Nat} {d : Nat} {R : Int32 → aH → Prop} (w : Nat) (hw : isW GC w) (x1 : Int32)  (h : aH)
    (H : (x1 < 0 → (R (0 : Int32) h)) ∧ (¬ x1 < 0 → (((6 : Int32) ≤ x1 → (R (0 : Int32) h)) ∧ (¬ (6 : Int32) ≤ x1 → (vp_in x1 6 ∧ (R (h.1 (w + 1) x1.toNatClampNeg) h)))))) : AW GC l ad d mX8_purseOf 0 [(0, .ref (ad w)), (1, .int x1)] [] h (qi R) := by
  refine aw_iload_n dX8_purseOf_0 rfl 1 rfl ?_
  refine aw_if_lt (tgt := 19) dX8_purseOf_1 (by decide) (fun hc3 => ?_) (fun hc3 => ?_)
  · replace H := H.1 hc3
    refine aw_iconst (v := 0) dX8_purseOf_19 (by decide) ?_
    exact aw_iret dX8_purseOf_20 rfl ⟨_, rfl, H⟩
  · replace H := H.2 hc3
    refine aw_iload_n dX8_purseOf_4 rfl 1 rfl ?_
    refine aw_bipush (v := 6) dX8_purseOf_5 (by decide) ?_
    refine aw_icmp_ge (tgt := 19) dX8_purseOf_7 (by decide) (fun hc2 => ?_) (fun hc2 => ?_)
    · replace H := H.1 hc2
      refine aw_iconst (v := 0) dX8_purseOf_19 (by decide) ?_
      exact aw_iret dX8_purseOf_20 rfl ⟨_, rfl, H⟩
    · replace H := H.2 hc2
      refine aw_aload_n dX8_purseOf_10 rfl 0 rfl ?_
      refine aw_get dX8_purseOf_11 hw.1 ckX8 flX8_9 (v := .ref (ad (w + 1))) rfl ?_
      refine aw_iload_n dX8_purseOf_14 rfl 1 rfl ?_
      obtain ⟨hi1, H⟩ := H
      refine aw_ialdK (t0 := 0) (j := x1.toNatClampNeg) dX8_purseOf_15 (hw.2 0 (by decide)) rfl rfl hi1 ?_
      refine aw_goto (tgt := 20) dX8_purseOf_16 (by decide) ?_
      exact aw_iret dX8_purseOf_20 rfl ⟨_, rfl, H⟩
set_option maxRecDepth 8000 in
set_option maxHeartbeats 1000000 in
theorem bX8_earn_0 {l : Launch} {ad : Nat → Nat} {d : Nat} {R : aH → Prop} (w : Nat) (hw : isW GC w) (x1 : Int32) (x2 : Int32)  (h : aH)
    (H : (x1 < 0 → (R h)) ∧ (¬ x1 < 0 → (((6 : Int32) ≤ x1 → (R h)) ∧ (¬ (6 : Int32) ≤ x1 → (vp_in x1 6 ∧ (R (sI h (w + 1) x1.toNatClampNeg ((h.1 (w + 1) x1.toNatClampNeg) + x2)))))))) : AW GC l ad d mX8_earn 0 [(0, .ref (ad w)), (1, .int x1), (2, .int x2)] [] h (qv R) := by
  refine aw_iload_n dX8_earn_0 rfl 1 rfl ?_
  refine aw_if_lt (tgt := 20) dX8_earn_1 (by decide) (fun hc3 => ?_) (fun hc3 => ?_)
  · replace H := H.1 hc3
    exact aw_vret dX8_earn_20 rfl ⟨rfl, H⟩
  · replace H := H.2 hc3
    refine aw_iload_n dX8_earn_4 rfl 1 rfl ?_
    refine aw_bipush (v := 6) dX8_earn_5 (by decide) ?_
    refine aw_icmp_ge (tgt := 20) dX8_earn_7 (by decide) (fun hc2 => ?_) (fun hc2 => ?_)
    · replace H := H.1 hc2
      exact aw_vret dX8_earn_20 rfl ⟨rfl, H⟩
    · replace H := H.2 hc2
      refine aw_aload_n dX8_earn_10 rfl 0 rfl ?_
      refine aw_get dX8_earn_11 hw.1 ckX8 flX8_9 (v := .ref (ad (w + 1))) rfl ?_
      refine aw_iload_n dX8_earn_14 rfl 1 rfl ?_
      refine aw_dup2 dX8_earn_15 rfl rfl ?_
      obtain ⟨hi1, H⟩ := H
      refine aw_ialdK (t0 := 0) (j := x1.toNatClampNeg) dX8_earn_16 (hw.2 0 (by decide)) rfl rfl hi1 ?_
      refine aw_iload_n dX8_earn_17 rfl 2 rfl ?_
      refine aw_iadd dX8_earn_18 ?_
      refine aw_iastK (t0 := 0) (j := x1.toNatClampNeg) dX8_earn_19 (hw.2 0 (by decide)) rfl rfl hi1 ?_
      exact aw_vret dX8_earn_20 rfl ⟨rfl, H⟩
set_option maxRecDepth 8000 in
set_option maxHeartbeats 1000000 in
theorem bX8_isInPurse_0 {l : Launch} {ad : Nat → Nat} {d : Nat} {R : Int32 → aH → Prop} (w : Nat) (hw : isW GC w) (x1 : Int32)  (h : aH)
    (H : vp_in x1 8 ∧ (AW GC l ad d mX8_purseOf 0 [(0, .ref (ad w)), (1, .int (h.1 (w + 4) x1.toNatClampNeg))] [] h (qi fun z3 h2 => (z3 < (h2.1 (w + 9) x1.toNatClampNeg) → (R (0 : Int32) h2)) ∧ (¬ z3 < (h2.1 (w + 9) x1.toNatClampNeg) → (R (1 : Int32) h2))))) : AW GC l ad (d + 1) mX8_isInPurse 0 [(0, .ref (ad w)), (1, .int x1)] [] h (qi R) := by
  refine aw_aload_n dX8_isInPurse_0 rfl 0 rfl ?_
  refine aw_aload_n dX8_isInPurse_1 rfl 0 rfl ?_
  refine aw_get dX8_isInPurse_2 hw.1 ckX8 flX8_21 (v := .ref (ad (w + 4))) rfl ?_
  refine aw_iload_n dX8_isInPurse_5 rfl 1 rfl ?_
  obtain ⟨hi1, H⟩ := H
  refine aw_ialdK (t0 := 0) (j := x1.toNatClampNeg) dX8_isInPurse_6 (hw.2 3 (by decide)) rfl rfl hi1 ?_
  refine cvX8_purseOf dX8_isInPurse_7 mlX8_64 hw.1 (Nat.le_of_ble_eq_true rfl) H (fun z3 h2 H => ?_)
  refine aw_aload_n dX8_isInPurse_10 rfl 0 rfl ?_
  refine aw_get dX8_isInPurse_11 hw.1 ckX8 flX8_36 (v := .ref (ad (w + 9))) rfl ?_
  refine aw_iload_n dX8_isInPurse_14 rfl 1 rfl ?_
  refine aw_ialdK (t0 := 0) (j := x1.toNatClampNeg) dX8_isInPurse_15 (hw.2 8 (by decide)) rfl rfl hi1 ?_
  refine aw_icmp_lt (tgt := 23) dX8_isInPurse_16 (by decide) (fun hc4 => ?_) (fun hc4 => ?_)
  · replace H := H.1 hc4
    refine aw_iconst (v := 0) dX8_isInPurse_23 (by decide) ?_
    exact aw_zret dX8_isInPurse_24 rfl (by decide) ⟨_, rfl, H⟩
  · replace H := H.2 hc4
    refine aw_iconst (v := 1) dX8_isInPurse_19 (by decide) ?_
    refine aw_goto (tgt := 24) dX8_isInPurse_20 (by decide) ?_
    exact aw_zret dX8_isInPurse_24 rfl (by decide) ⟨_, rfl, H⟩
set_option maxRecDepth 8000 in
set_option maxHeartbeats 1000000 in
theorem bX8_daysOpen_0 {l : Launch} {ad : Nat → Nat} {d : Nat} {R : Int32 → aH → Prop} (w : Nat) (hw : isW GC w) (x1 : Int32)  (h : aH)
    (H : vp_in x1 8 ∧ ((¬ (h.1 (w + 8) x1.toNatClampNeg) = (1 : Int32) → (R (0 : Int32) h)) ∧ ((h.1 (w + 8) x1.toNatClampNeg) = (1 : Int32) → (R ((h.1 w 13) - (h.1 (w + 10) x1.toNatClampNeg)) h)))) : AW GC l ad d mX8_daysOpen 0 [(0, .ref (ad w)), (1, .int x1)] [] h (qi R) := by
  refine aw_aload_n dX8_daysOpen_0 rfl 0 rfl ?_
  refine aw_get dX8_daysOpen_1 hw.1 ckX8 flX8_33 (v := .ref (ad (w + 8))) rfl ?_
  refine aw_iload_n dX8_daysOpen_4 rfl 1 rfl ?_
  obtain ⟨hi1, H⟩ := H
  refine aw_ialdK (t0 := 0) (j := x1.toNatClampNeg) dX8_daysOpen_5 (hw.2 7 (by decide)) rfl rfl hi1 ?_
  refine aw_iconst (v := 1) dX8_daysOpen_6 (by decide) ?_
  refine aw_icmp_ne (tgt := 24) dX8_daysOpen_7 (by decide) (fun hc2 => ?_) (fun hc2 => ?_)
  · replace H := H.1 hc2
    refine aw_iconst (v := 0) dX8_daysOpen_24 (by decide) ?_
    exact aw_iret dX8_daysOpen_25 rfl ⟨_, rfl, H⟩
  · replace H := H.2 hc2
    refine aw_aload_n dX8_daysOpen_10 rfl 0 rfl ?_
    refine aw_get dX8_daysOpen_11 hw.1 ckX8 flX8_58 (v := .int (h.1 w 13)) rfl ?_
    refine aw_aload_n dX8_daysOpen_14 rfl 0 rfl ?_
    refine aw_get dX8_daysOpen_15 hw.1 ckX8 flX8_39 (v := .ref (ad (w + 10))) rfl ?_
    refine aw_iload_n dX8_daysOpen_18 rfl 1 rfl ?_
    refine aw_ialdK (t0 := 0) (j := x1.toNatClampNeg) dX8_daysOpen_19 (hw.2 9 (by decide)) rfl rfl hi1 ?_
    refine aw_isub dX8_daysOpen_20 ?_
    refine aw_goto (tgt := 25) dX8_daysOpen_21 (by decide) ?_
    exact aw_iret dX8_daysOpen_25 rfl ⟨_, rfl, H⟩
set_option maxRecDepth 8000 in
set_option maxHeartbeats 1000000 in
theorem bX8_open_0 {l : Launch} {ad : Nat → Nat} {d : Nat} {R : aH → Prop} (w : Nat) (hw : isW GC w) (x1 : Int32) (x2 : Int32) (x3 : Int32)  (h : aH)
    (H : vp_in x1 8 ∧ (AW GC l ad d mX8_earn 0 [(0, .ref (ad w)), (1, .int (h.1 (w + 3) x1.toNatClampNeg)), (2, .int ((-(h.1 (w + 5) x1.toNatClampNeg)) - x2))] [] h (qv fun h2 => AW GC l ad d mX8_earn 0 [(0, .ref (ad w)), (1, .int (h2.1 (w + 4) x1.toNatClampNeg)), (2, .int (h2.1 (w + 5) x1.toNatClampNeg))] [] h2 (qv fun h4 => ∀ h6 : aH, h6 = (sI (sI h4 (w + 8) x1.toNatClampNeg (1 : Int32)) (w + 9) x1.toNatClampNeg ((sI h4 (w + 8) x1.toNatClampNeg (1 : Int32)).1 (w + 5) x1.toNatClampNeg)) → (vp_in x1 14 ∧ (∀ h8 : aH, h8 = (sI (sI h6 (w + 10) x1.toNatClampNeg (h6.1 w 13)) (w + 11) x1.toNatClampNeg (((1 : Int32) <<< (((sI h6 (w + 10) x1.toNatClampNeg (h6.1 w 13)).1 (w + 6) x1.toNatClampNeg) &&& 31)) &&& (x3 ^^^ (-1 : Int32)))) → (R h8))))))) : AW GC l ad (d + 1) mX8_open 0 [(0, .ref (ad w)), (1, .int x1), (2, .int x2), (3, .int x3)] [] h (qv R) := by
  refine aw_aload_n dX8_open_0 rfl 0 rfl ?_
  refine aw_aload_n dX8_open_1 rfl 0 rfl ?_
  refine aw_get dX8_open_2 hw.1 ckX8 flX8_18 (v := .ref (ad (w + 3))) rfl ?_
  refine aw_iload_n dX8_open_5 rfl 1 rfl ?_
  obtain ⟨hi1, H⟩ := H
  refine aw_ialdK (t0 := 0) (j := x1.toNatClampNeg) dX8_open_6 (hw.2 2 (by decide)) rfl rfl hi1 ?_
  refine aw_aload_n dX8_open_7 rfl 0 rfl ?_
  refine aw_get dX8_open_8 hw.1 ckX8 flX8_24 (v := .ref (ad (w + 5))) rfl ?_
  refine aw_iload_n dX8_open_11 rfl 1 rfl ?_
  refine aw_ialdK (t0 := 0) (j := x1.toNatClampNeg) dX8_open_12 (hw.2 4 (by decide)) rfl rfl hi1 ?_
  refine aw_ineg dX8_open_13 ?_
  refine aw_iload_n dX8_open_14 rfl 2 rfl ?_
  refine aw_isub dX8_open_15 ?_
  refine cvX8_earn dX8_open_16 mlX8_68 hw.1 (Nat.le_of_ble_eq_true rfl) H (fun h2 H => ?_)
  refine aw_aload_n dX8_open_19 rfl 0 rfl ?_
  refine aw_aload_n dX8_open_20 rfl 0 rfl ?_
  refine aw_get dX8_open_21 hw.1 ckX8 flX8_21 (v := .ref (ad (w + 4))) rfl ?_
  refine aw_iload_n dX8_open_24 rfl 1 rfl ?_
  refine aw_ialdK (t0 := 0) (j := x1.toNatClampNeg) dX8_open_25 (hw.2 3 (by decide)) rfl rfl hi1 ?_
  refine aw_aload_n dX8_open_26 rfl 0 rfl ?_
  refine aw_get dX8_open_27 hw.1 ckX8 flX8_24 (v := .ref (ad (w + 5))) rfl ?_
  refine aw_iload_n dX8_open_30 rfl 1 rfl ?_
  refine aw_ialdK (t0 := 0) (j := x1.toNatClampNeg) dX8_open_31 (hw.2 4 (by decide)) rfl rfl hi1 ?_
  refine cvX8_earn dX8_open_32 mlX8_68 hw.1 (Nat.le_of_ble_eq_true rfl) H (fun h4 H => ?_)
  refine aw_aload_n dX8_open_35 rfl 0 rfl ?_
  refine aw_get dX8_open_36 hw.1 ckX8 flX8_33 (v := .ref (ad (w + 8))) rfl ?_
  refine aw_iload_n dX8_open_39 rfl 1 rfl ?_
  refine aw_iconst (v := 1) dX8_open_40 (by decide) ?_
  refine aw_iastK (t0 := 0) (j := x1.toNatClampNeg) dX8_open_41 (hw.2 7 (by decide)) rfl rfl hi1 ?_
  refine aw_aload_n dX8_open_42 rfl 0 rfl ?_
  refine aw_get dX8_open_43 hw.1 ckX8 flX8_36 (v := .ref (ad (w + 9))) rfl ?_
  refine aw_iload_n dX8_open_46 rfl 1 rfl ?_
  refine aw_aload_n dX8_open_47 rfl 0 rfl ?_
  refine aw_get dX8_open_48 hw.1 ckX8 flX8_24 (v := .ref (ad (w + 5))) rfl ?_
  refine aw_iload_n dX8_open_51 rfl 1 rfl ?_
  refine aw_ialdK (t0 := 0) (j := x1.toNatClampNeg) dX8_open_52 (hw.2 4 (by decide)) rfl rfl hi1 ?_
  refine aw_iastK (t0 := 0) (j := x1.toNatClampNeg) dX8_open_53 (hw.2 8 (by decide)) rfl rfl hi1 ?_
  refine aw_toph (fun h6 eh6 => ?_)
  replace H := H h6 eh6
  refine aw_aload_n dX8_open_54 rfl 0 rfl ?_
  refine aw_get dX8_open_55 hw.1 ckX8 flX8_39 (v := .ref (ad (w + 10))) rfl ?_
  refine aw_iload_n dX8_open_58 rfl 1 rfl ?_
  refine aw_aload_n dX8_open_59 rfl 0 rfl ?_
  refine aw_get dX8_open_60 hw.1 ckX8 flX8_58 (v := .int (h6.1 w 13)) rfl ?_
  refine aw_iastK (t0 := 0) (j := x1.toNatClampNeg) dX8_open_63 (hw.2 9 (by decide)) rfl rfl hi1 ?_
  refine aw_aload_n dX8_open_64 rfl 0 rfl ?_
  refine aw_get dX8_open_65 hw.1 ckX8 flX8_42 (v := .ref (ad (w + 11))) rfl ?_
  refine aw_iload_n dX8_open_68 rfl 1 rfl ?_
  refine aw_iconst (v := 1) dX8_open_69 (by decide) ?_
  refine aw_aload_n dX8_open_70 rfl 0 rfl ?_
  refine aw_get dX8_open_71 hw.1 ckX8 flX8_27 (v := .ref (ad (w + 6))) rfl ?_
  refine aw_iload_n dX8_open_74 rfl 1 rfl ?_
  refine aw_ialdK (t0 := 0) (j := x1.toNatClampNeg) dX8_open_75 (hw.2 5 (by decide)) rfl rfl hi1 ?_
  refine aw_ishl dX8_open_76 ?_
  refine aw_iload_n dX8_open_77 rfl 3 rfl ?_
  refine aw_iconst (v := (-1)) dX8_open_78 (by decide) ?_
  refine aw_ixor dX8_open_79 ?_
  refine aw_iand dX8_open_80 ?_
  obtain ⟨hi7, H⟩ := H
  refine aw_iastK (t0 := 0) (j := x1.toNatClampNeg) dX8_open_81 (hw.2 10 (by decide)) rfl rfl hi7 ?_
  refine aw_toph (fun h8 eh8 => ?_)
  replace H := H h8 eh8
  exact aw_vret dX8_open_82 rfl ⟨rfl, H⟩
set_option maxRecDepth 8000 in
set_option maxHeartbeats 1000000 in
theorem bX8_settle_0 {l : Launch} {ad : Nat → Nat} {d : Nat} {R : aH → Prop} (w : Nat) (hw : isW GC w) (x1 : Int32)  (h : aH)
    (H : vp_in x1 8 ∧ (AW GC l ad d mX8_earn 0 [(0, .ref (ad w)), (1, .int (h.1 (w + 4) x1.toNatClampNeg)), (2, .int (-(h.1 (w + 9) x1.toNatClampNeg)))] [] h (qv fun h2 => AW GC l ad d mX8_earn 0 [(0, .ref (ad w)), (1, .int (h2.1 (w + 3) x1.toNatClampNeg)), (2, .int (h2.1 (w + 9) x1.toNatClampNeg))] [] h2 (qv fun h4 => AW GC l ad d mX8_end 0 [(0, .ref (ad w)), (1, .int x1), (2, .int (2 : Int32))] [] h4 (qv fun h6 => R h6))))) : AW GC l ad (d + 1) mX8_settle 0 [(0, .ref (ad w)), (1, .int x1)] [] h (qv R) := by
  refine aw_aload_n dX8_settle_0 rfl 0 rfl ?_
  refine aw_aload_n dX8_settle_1 rfl 0 rfl ?_
  refine aw_get dX8_settle_2 hw.1 ckX8 flX8_21 (v := .ref (ad (w + 4))) rfl ?_
  refine aw_iload_n dX8_settle_5 rfl 1 rfl ?_
  obtain ⟨hi1, H⟩ := H
  refine aw_ialdK (t0 := 0) (j := x1.toNatClampNeg) dX8_settle_6 (hw.2 3 (by decide)) rfl rfl hi1 ?_
  refine aw_aload_n dX8_settle_7 rfl 0 rfl ?_
  refine aw_get dX8_settle_8 hw.1 ckX8 flX8_36 (v := .ref (ad (w + 9))) rfl ?_
  refine aw_iload_n dX8_settle_11 rfl 1 rfl ?_
  refine aw_ialdK (t0 := 0) (j := x1.toNatClampNeg) dX8_settle_12 (hw.2 8 (by decide)) rfl rfl hi1 ?_
  refine aw_ineg dX8_settle_13 ?_
  refine cvX8_earn dX8_settle_14 mlX8_68 hw.1 (Nat.le_of_ble_eq_true rfl) H (fun h2 H => ?_)
  refine aw_aload_n dX8_settle_17 rfl 0 rfl ?_
  refine aw_aload_n dX8_settle_18 rfl 0 rfl ?_
  refine aw_get dX8_settle_19 hw.1 ckX8 flX8_18 (v := .ref (ad (w + 3))) rfl ?_
  refine aw_iload_n dX8_settle_22 rfl 1 rfl ?_
  refine aw_ialdK (t0 := 0) (j := x1.toNatClampNeg) dX8_settle_23 (hw.2 2 (by decide)) rfl rfl hi1 ?_
  refine aw_aload_n dX8_settle_24 rfl 0 rfl ?_
  refine aw_get dX8_settle_25 hw.1 ckX8 flX8_36 (v := .ref (ad (w + 9))) rfl ?_
  refine aw_iload_n dX8_settle_28 rfl 1 rfl ?_
  refine aw_ialdK (t0 := 0) (j := x1.toNatClampNeg) dX8_settle_29 (hw.2 8 (by decide)) rfl rfl hi1 ?_
  refine cvX8_earn dX8_settle_30 mlX8_68 hw.1 (Nat.le_of_ble_eq_true rfl) H (fun h4 H => ?_)
  refine aw_aload_n dX8_settle_33 rfl 0 rfl ?_
  refine aw_iload_n dX8_settle_34 rfl 1 rfl ?_
  refine aw_iconst (v := 2) dX8_settle_35 (by decide) ?_
  refine cvX8_end dX8_settle_36 mlX8_72 hw.1 (Nat.le_of_ble_eq_true rfl) H (fun h6 H => ?_)
  exact aw_vret dX8_settle_39 rfl ⟨rfl, H⟩
set_option maxRecDepth 8000 in
set_option maxHeartbeats 1000000 in
theorem bX8_end_0 {l : Launch} {ad : Nat → Nat} {d : Nat} {R : aH → Prop} (w : Nat) (hw : isW GC w) (x1 : Int32) (x2 : Int32)  (h : aH)
    (H : vp_in x1 8 ∧ (vp_in x1 14 ∧ (∀ h3 : aH, h3 = (sI (sI (sI h (w + 8) x1.toNatClampNeg x2) (w + 9) x1.toNatClampNeg (0 : Int32)) (w + 11) x1.toNatClampNeg (0 : Int32)) → (R h3)))) : AW GC l ad d mX8_end 0 [(0, .ref (ad w)), (1, .int x1), (2, .int x2)] [] h (qv R) := by
  refine aw_aload_n dX8_end_0 rfl 0 rfl ?_
  refine aw_get dX8_end_1 hw.1 ckX8 flX8_33 (v := .ref (ad (w + 8))) rfl ?_
  refine aw_iload_n dX8_end_4 rfl 1 rfl ?_
  refine aw_iload_n dX8_end_5 rfl 2 rfl ?_
  obtain ⟨hi1, H⟩ := H
  refine aw_iastK (t0 := 0) (j := x1.toNatClampNeg) dX8_end_6 (hw.2 7 (by decide)) rfl rfl hi1 ?_
  refine aw_aload_n dX8_end_7 rfl 0 rfl ?_
  refine aw_get dX8_end_8 hw.1 ckX8 flX8_36 (v := .ref (ad (w + 9))) rfl ?_
  refine aw_iload_n dX8_end_11 rfl 1 rfl ?_
  refine aw_iconst (v := 0) dX8_end_12 (by decide) ?_
  refine aw_iastK (t0 := 0) (j := x1.toNatClampNeg) dX8_end_13 (hw.2 8 (by decide)) rfl rfl hi1 ?_
  refine aw_aload_n dX8_end_14 rfl 0 rfl ?_
  refine aw_get dX8_end_15 hw.1 ckX8 flX8_42 (v := .ref (ad (w + 11))) rfl ?_
  refine aw_iload_n dX8_end_18 rfl 1 rfl ?_
  refine aw_iconst (v := 0) dX8_end_19 (by decide) ?_
  obtain ⟨hi2, H⟩ := H
  refine aw_iastK (t0 := 0) (j := x1.toNatClampNeg) dX8_end_20 (hw.2 10 (by decide)) rfl rfl hi2 ?_
  refine aw_toph (fun h3 eh3 => ?_)
  replace H := H h3 eh3
  exact aw_vret dX8_end_21 rfl ⟨rfl, H⟩
set_option maxRecDepth 8000 in
set_option maxHeartbeats 1000000 in
theorem bX8_bury_0 {l : Launch} {ad : Nat → Nat} {d : Nat} {R : aH → Prop} (w : Nat) (hw : isW GC w) (x1 : Int32)  (h : aH)
    (H : AW GC l ad d mX8_forgetAll 0 [(0, .ref (ad w)), (1, .int ((1 : Int32) <<< (x1 &&& 31)))] [] (sI h w 12 ((h.1 w 12) &&& (((1 : Int32) <<< (x1 &&& 31)) ^^^ (-1 : Int32)))) (qv fun h1 => R h1)) : AW GC l ad (d + 1) mX8_bury 0 [(0, .ref (ad w)), (1, .int x1)] [] h (qv R) := by
  refine aw_aload_n dX8_bury_0 rfl 0 rfl ?_
  refine aw_dup dX8_bury_1 rfl ?_
  refine aw_get dX8_bury_2 hw.1 ckX8 flX8_55 (v := .int (h.1 w 12)) rfl ?_
  refine aw_iconst (v := 1) dX8_bury_5 (by decide) ?_
  refine aw_iload_n dX8_bury_6 rfl 1 rfl ?_
  refine aw_ishl dX8_bury_7 ?_
  refine aw_iconst (v := (-1)) dX8_bury_8 (by decide) ?_
  refine aw_ixor dX8_bury_9 ?_
  refine aw_iand dX8_bury_10 ?_
  refine aw_putI dX8_bury_11 hw.1 ckX8 flX8_55 rfl (fun _ => rfl) rfl rfl ?_
  refine aw_aload_n dX8_bury_14 rfl 0 rfl ?_
  refine aw_iconst (v := 1) dX8_bury_15 (by decide) ?_
  refine aw_iload_n dX8_bury_16 rfl 1 rfl ?_
  refine aw_ishl dX8_bury_17 ?_
  refine cvX8_forgetAll dX8_bury_18 mlX8_75 hw.1 (Nat.le_of_ble_eq_true rfl) H (fun h1 H => ?_)
  exact aw_vret dX8_bury_21 rfl ⟨rfl, H⟩
set_option maxRecDepth 8000 in
set_option maxHeartbeats 1000000 in
theorem bX8_forgetAll_0 {l : Launch} {ad : Nat → Nat} {d : Nat} {R : aH → Prop} (w : Nat) (hw : isW GC w) (x1 : Int32)  (h : aH)
    (H : AW GC l ad d mX8_forgetAll 2 [(0, .ref (ad w)), (1, .int x1), (2, .int (0 : Int32))] [] h (qv R)) : AW GC l ad d mX8_forgetAll 0 [(0, .ref (ad w)), (1, .int x1)] [] h (qv R) := by
  refine aw_iconst (v := 0) dX8_forgetAll_0 (by decide) ?_
  refine aw_istore_n (ls' := [(2, .int (0 : Int32)), (0, .ref (ad w)), (1, .int x1)]) dX8_forgetAll_1 rfl (by decide) rfl ?_
  exact aw_ls [1, 2, 0] rfl H
set_option maxRecDepth 8000 in
set_option maxHeartbeats 1000000 in
theorem bX8_forgetAll_2 {l : Launch} {ad : Nat → Nat} {d : Nat} {R : aH → Prop} (w : Nat) (hw : isW GC w) (x1 : Int32) (x2 : Int32)  (h : aH)
    (H : ((Int32.ofNat 14) ≤ x2 → (R h)) ∧ (¬ (Int32.ofNat 14) ≤ x2 → (vp_in x2 14 ∧ (AW GC l ad d mX8_forgetAll 2 [(0, .ref (ad w)), (1, .int x1), (2, .int (x2 + (1 : Int32)))] [] (sI h (w + 11) x2.toNatClampNeg ((h.1 (w + 11) x2.toNatClampNeg) &&& (x1 ^^^ (-1 : Int32)))) (qv R))))) : AW GC l ad d mX8_forgetAll 2 [(0, .ref (ad w)), (1, .int x1), (2, .int x2)] [] h (qv R) := by
  refine aw_iload_n dX8_forgetAll_2 rfl 2 rfl ?_
  refine aw_aload_n dX8_forgetAll_3 rfl 0 rfl ?_
  refine aw_get dX8_forgetAll_4 hw.1 ckX8 flX8_42 (v := .ref (ad (w + 11))) rfl ?_
  refine aw_alen (t0 := 0) dX8_forgetAll_7 (hw.2 10 (by decide)) rfl ?_
  refine aw_icmp_ge (tgt := 29) dX8_forgetAll_8 (by decide) (fun hc2 => ?_) (fun hc2 => ?_)
  · replace H := H.1 hc2
    exact aw_vret dX8_forgetAll_29 rfl ⟨rfl, H⟩
  · replace H := H.2 hc2
    refine aw_aload_n dX8_forgetAll_11 rfl 0 rfl ?_
    refine aw_get dX8_forgetAll_12 hw.1 ckX8 flX8_42 (v := .ref (ad (w + 11))) rfl ?_
    refine aw_iload_n dX8_forgetAll_15 rfl 2 rfl ?_
    refine aw_dup2 dX8_forgetAll_16 rfl rfl ?_
    obtain ⟨hi1, H⟩ := H
    refine aw_ialdK (t0 := 0) (j := x2.toNatClampNeg) dX8_forgetAll_17 (hw.2 10 (by decide)) rfl rfl hi1 ?_
    refine aw_iload_n dX8_forgetAll_18 rfl 1 rfl ?_
    refine aw_iconst (v := (-1)) dX8_forgetAll_19 (by decide) ?_
    refine aw_ixor dX8_forgetAll_20 ?_
    refine aw_iand dX8_forgetAll_21 ?_
    refine aw_iastK (t0 := 0) (j := x2.toNatClampNeg) dX8_forgetAll_22 (hw.2 10 (by decide)) rfl rfl hi1 ?_
    refine aw_inc (mm := (1)) (ls' := [(2, .int (x2 + (1 : Int32))), (0, .ref (ad w)), (1, .int x1)]) dX8_forgetAll_23 (by decide) (j := 2) rfl (by decide) rfl ?_
    refine aw_goto (tgt := 2) dX8_forgetAll_26 (by decide) ?_
    exact aw_ls [1, 2, 0] rfl H
set_option maxRecDepth 8000 in
set_option maxHeartbeats 1000000 in
theorem bX8_tellAll_0 {l : Launch} {ad : Nat → Nat} {d : Nat} {R : aH → Prop} (w : Nat) (hw : isW GC w)   (h : aH)
    (H : AW GC l ad d mX8_tellAll 2 [(0, .ref (ad w)), (1, .int (0 : Int32))] [] h (qv R)) : AW GC l ad d mX8_tellAll 0 [(0, .ref (ad w))] [] h (qv R) := by
  refine aw_iconst (v := 0) dX8_tellAll_0 (by decide) ?_
  refine aw_istore_n (ls' := [(1, .int (0 : Int32)), (0, .ref (ad w))]) dX8_tellAll_1 rfl (by decide) rfl ?_
  exact aw_ls [1, 0] rfl H
set_option maxRecDepth 8000 in
set_option maxHeartbeats 1000000 in
theorem bX8_tellAll_2 {l : Launch} {ad : Nat → Nat} {d : Nat} {R : aH → Prop} (w : Nat) (hw : isW GC w) (x1 : Int32)  (h : aH)
    (H : ((h.1 w 11) ≤ x1 → (R h)) ∧ (¬ (h.1 w 11) ≤ x1 → (vp_in x1 8 ∧ ((¬ (h.1 (w + 8) x1.toNatClampNeg) = (1 : Int32) → (AW GC l ad d mX8_tellAll 2 [(0, .ref (ad w)), (1, .int (x1 + (1 : Int32)))] [] h (qv R))) ∧ ((h.1 (w + 8) x1.toNatClampNeg) = (1 : Int32) → (vp_in x1 14 ∧ (AW GC l ad d mX8_tellAll 2 [(0, .ref (ad w)), (1, .int (x1 + (1 : Int32)))] [] (sI h (w + 11) x1.toNatClampNeg (h.1 w 12)) (qv R)))))))) : AW GC l ad d mX8_tellAll 2 [(0, .ref (ad w)), (1, .int x1)] [] h (qv R) := by
  refine aw_iload_n dX8_tellAll_2 rfl 1 rfl ?_
  refine aw_aload_n dX8_tellAll_3 rfl 0 rfl ?_
  refine aw_get dX8_tellAll_4 hw.1 ckX8 flX8_51 (v := .int (h.1 w 11)) rfl ?_
  refine aw_icmp_ge (tgt := 36) dX8_tellAll_7 (by decide) (fun hc4 => ?_) (fun hc4 => ?_)
  · replace H := H.1 hc4
    exact aw_vret dX8_tellAll_36 rfl ⟨rfl, H⟩
  · replace H := H.2 hc4
    refine aw_aload_n dX8_tellAll_10 rfl 0 rfl ?_
    refine aw_get dX8_tellAll_11 hw.1 ckX8 flX8_33 (v := .ref (ad (w + 8))) rfl ?_
    refine aw_iload_n dX8_tellAll_14 rfl 1 rfl ?_
    obtain ⟨hi1, H⟩ := H
    refine aw_ialdK (t0 := 0) (j := x1.toNatClampNeg) dX8_tellAll_15 (hw.2 7 (by decide)) rfl rfl hi1 ?_
    refine aw_iconst (v := 1) dX8_tellAll_16 (by decide) ?_
    refine aw_icmp_ne (tgt := 30) dX8_tellAll_17 (by decide) (fun hc3 => ?_) (fun hc3 => ?_)
    · replace H := H.1 hc3
      refine aw_inc (mm := (1)) (ls' := [(1, .int (x1 + (1 : Int32))), (0, .ref (ad w))]) dX8_tellAll_30 (by decide) (j := 1) rfl (by decide) rfl ?_
      refine aw_goto (tgt := 2) dX8_tellAll_33 (by decide) ?_
      exact aw_ls [1, 0] rfl H
    · replace H := H.2 hc3
      refine aw_aload_n dX8_tellAll_20 rfl 0 rfl ?_
      refine aw_get dX8_tellAll_21 hw.1 ckX8 flX8_42 (v := .ref (ad (w + 11))) rfl ?_
      refine aw_iload_n dX8_tellAll_24 rfl 1 rfl ?_
      refine aw_aload_n dX8_tellAll_25 rfl 0 rfl ?_
      refine aw_get dX8_tellAll_26 hw.1 ckX8 flX8_55 (v := .int (h.1 w 12)) rfl ?_
      obtain ⟨hi2, H⟩ := H
      refine aw_iastK (t0 := 0) (j := x1.toNatClampNeg) dX8_tellAll_29 (hw.2 10 (by decide)) rfl rfl hi2 ?_
      refine aw_inc (mm := (1)) (ls' := [(1, .int (x1 + (1 : Int32))), (0, .ref (ad w))]) dX8_tellAll_30 (by decide) (j := 1) rfl (by decide) rfl ?_
      refine aw_goto (tgt := 2) dX8_tellAll_33 (by decide) ?_
      exact aw_ls [1, 0] rfl H
set_option maxRecDepth 8000 in
set_option maxHeartbeats 1000000 in
theorem bX8_drawNumber_0 {l : Launch} {ad : Nat → Nat} {d : Nat} {R : Int32 → aH → Prop} (w : Nat) (hw : isW GC w)   (h : aH)
    (H : R (((sI h w 14 ((((h.1 w 14).toInt64 * (1103515245 : Int64)) + (12345 : Int64)) &&& (2147483647 : Int64)).toInt32).1 w 14) / (65536 : Int32)) (sI h w 14 ((((h.1 w 14).toInt64 * (1103515245 : Int64)) + (12345 : Int64)) &&& (2147483647 : Int64)).toInt32)) : AW GC l ad d mX8_drawNumber 0 [(0, .ref (ad w))] [] h (qi R) := by
  refine aw_aload_n dX8_drawNumber_0 rfl 0 rfl ?_
  refine aw_aload_n dX8_drawNumber_1 rfl 0 rfl ?_
  refine aw_get dX8_drawNumber_2 hw.1 ckX8 flX8_61 (v := .int (h.1 w 14)) rfl ?_
  refine aw_i2l dX8_drawNumber_5 ?_
  refine aw_ldc2 dX8_drawNumber_6 clX8_79 ?_
  refine aw_lmul dX8_drawNumber_9 ?_
  refine aw_ldc2 dX8_drawNumber_10 clX8_81 ?_
  refine aw_ladd dX8_drawNumber_13 ?_
  refine aw_ldc2 dX8_drawNumber_14 clX8_83 ?_
  refine aw_land dX8_drawNumber_17 ?_
  refine aw_l2i dX8_drawNumber_18 ?_
  refine aw_putI dX8_drawNumber_19 hw.1 ckX8 flX8_61 rfl (fun _ => rfl) rfl rfl ?_
  refine aw_aload_n dX8_drawNumber_22 rfl 0 rfl ?_
  refine aw_get dX8_drawNumber_23 hw.1 ckX8 flX8_61 (v := .int ((sI h w 14 ((((h.1 w 14).toInt64 * (1103515245 : Int64)) + (12345 : Int64)) &&& (2147483647 : Int64)).toInt32).1 w 14)) rfl ?_
  refine aw_ldc dX8_drawNumber_26 coX8_85 ?_
  refine aw_idiv dX8_drawNumber_28 (by decide) ?_
  exact aw_iret dX8_drawNumber_29 rfl ⟨_, rfl, H⟩
set_option maxRecDepth 8000 in
set_option maxHeartbeats 1000000 in
theorem bX8_debtsKnownBy_0 {l : Launch} {ad : Nat → Nat} {d : Nat} {R : Int32 → aH → Prop} (w : Nat) (hw : isW GC w) (x1 : Int32)  (h : aH)
    (H : AW GC l ad d mX8_debtsKnownBy 4 [(0, .ref (ad w)), (1, .int x1), (2, .int (0 : Int32)), (3, .int (0 : Int32))] [] h (qi R)) : AW GC l ad d mX8_debtsKnownBy 0 [(0, .ref (ad w)), (1, .int x1)] [] h (qi R) := by
  refine aw_iconst (v := 0) dX8_debtsKnownBy_0 (by decide) ?_
  refine aw_istore_n (ls' := [(2, .int (0 : Int32)), (0, .ref (ad w)), (1, .int x1)]) dX8_debtsKnownBy_1 rfl (by decide) rfl ?_
  refine aw_iconst (v := 0) dX8_debtsKnownBy_2 (by decide) ?_
  refine aw_istore_n (ls' := [(3, .int (0 : Int32)), (2, .int (0 : Int32)), (0, .ref (ad w)), (1, .int x1)]) dX8_debtsKnownBy_3 rfl (by decide) rfl ?_
  exact aw_ls [2, 3, 1, 0] rfl H
set_option maxRecDepth 8000 in
set_option maxHeartbeats 1000000 in
theorem bX8_debtsKnownBy_4 {l : Launch} {ad : Nat → Nat} {d : Nat} {R : Int32 → aH → Prop} (w : Nat) (hw : isW GC w) (x1 : Int32) (x2 : Int32) (x3 : Int32)  (h : aH)
    (H : ((h.1 w 11) ≤ x3 → (R x2 h)) ∧ (¬ (h.1 w 11) ≤ x3 → (vp_in x3 14 ∧ (∀ t2 : Int32, t2 = (x2 ||| ((((h.1 (w + 11) x3.toNatClampNeg) >>> (x1 &&& 31)) &&& (1 : Int32)) <<< (x3 &&& 31))) → (AW GC l ad d mX8_debtsKnownBy 4 [(0, .ref (ad w)), (1, .int x1), (2, .int t2), (3, .int (x3 + (1 : Int32)))] [] h (qi R)))))) : AW GC l ad d mX8_debtsKnownBy 4 [(0, .ref (ad w)), (1, .int x1), (2, .int x2), (3, .int x3)] [] h (qi R) := by
  refine aw_iload_n dX8_debtsKnownBy_4 rfl 3 rfl ?_
  refine aw_aload_n dX8_debtsKnownBy_5 rfl 0 rfl ?_
  refine aw_get dX8_debtsKnownBy_6 hw.1 ckX8 flX8_51 (v := .int (h.1 w 11)) rfl ?_
  refine aw_icmp_ge (tgt := 33) dX8_debtsKnownBy_9 (by decide) (fun hc3 => ?_) (fun hc3 => ?_)
  · replace H := H.1 hc3
    refine aw_iload_n dX8_debtsKnownBy_33 rfl 2 rfl ?_
    exact aw_iret dX8_debtsKnownBy_34 rfl ⟨_, rfl, H⟩
  · replace H := H.2 hc3
    refine aw_iload_n dX8_debtsKnownBy_12 rfl 2 rfl ?_
    refine aw_aload_n dX8_debtsKnownBy_13 rfl 0 rfl ?_
    refine aw_get dX8_debtsKnownBy_14 hw.1 ckX8 flX8_42 (v := .ref (ad (w + 11))) rfl ?_
    refine aw_iload_n dX8_debtsKnownBy_17 rfl 3 rfl ?_
    obtain ⟨hi1, H⟩ := H
    refine aw_ialdK (t0 := 0) (j := x3.toNatClampNeg) dX8_debtsKnownBy_18 (hw.2 10 (by decide)) rfl rfl hi1 ?_
    refine aw_iload_n dX8_debtsKnownBy_19 rfl 1 rfl ?_
    refine aw_ishr dX8_debtsKnownBy_20 ?_
    refine aw_iconst (v := 1) dX8_debtsKnownBy_21 (by decide) ?_
    refine aw_iand dX8_debtsKnownBy_22 ?_
    refine aw_iload_n dX8_debtsKnownBy_23 rfl 3 rfl ?_
    refine aw_ishl dX8_debtsKnownBy_24 ?_
    refine aw_ior dX8_debtsKnownBy_25 ?_
    refine aw_topi (fun t2 et2 => ?_)
    replace H := H t2 et2
    refine aw_istore_n (ls' := [(2, .int t2), (0, .ref (ad w)), (1, .int x1), (3, .int x3)]) dX8_debtsKnownBy_26 rfl (by decide) rfl ?_
    refine aw_inc (mm := (1)) (ls' := [(3, .int (x3 + (1 : Int32))), (2, .int t2), (0, .ref (ad w)), (1, .int x1)]) dX8_debtsKnownBy_27 (by decide) (j := 3) rfl (by decide) rfl ?_
    refine aw_goto (tgt := 4) dX8_debtsKnownBy_30 (by decide) ?_
    exact aw_ls [2, 3, 1, 0] rfl H
set_option maxRecDepth 8000 in
set_option maxHeartbeats 1000000 in
theorem bX8_debtsKnownOnlyBy_0 {l : Launch} {ad : Nat → Nat} {d : Nat} {R : Int32 → aH → Prop} (w : Nat) (hw : isW GC w) (x1 : Int32)  (h : aH)
    (H : AW GC l ad d mX8_debtsKnownOnlyBy 4 [(0, .ref (ad w)), (1, .int x1), (2, .int (0 : Int32)), (3, .int (0 : Int32))] [] h (qi R)) : AW GC l ad d mX8_debtsKnownOnlyBy 0 [(0, .ref (ad w)), (1, .int x1)] [] h (qi R) := by
  refine aw_iconst (v := 0) dX8_debtsKnownOnlyBy_0 (by decide) ?_
  refine aw_istore_n (ls' := [(2, .int (0 : Int32)), (0, .ref (ad w)), (1, .int x1)]) dX8_debtsKnownOnlyBy_1 rfl (by decide) rfl ?_
  refine aw_iconst (v := 0) dX8_debtsKnownOnlyBy_2 (by decide) ?_
  refine aw_istore_n (ls' := [(3, .int (0 : Int32)), (2, .int (0 : Int32)), (0, .ref (ad w)), (1, .int x1)]) dX8_debtsKnownOnlyBy_3 rfl (by decide) rfl ?_
  exact aw_ls [2, 3, 1, 0] rfl H
set_option maxRecDepth 8000 in
set_option maxHeartbeats 1000000 in
theorem bX8_debtsKnownOnlyBy_4 {l : Launch} {ad : Nat → Nat} {d : Nat} {R : Int32 → aH → Prop} (w : Nat) (hw : isW GC w) (x1 : Int32) (x2 : Int32) (x3 : Int32)  (h : aH)
    (H : ((h.1 w 11) ≤ x3 → (R x2 h)) ∧ (¬ (h.1 w 11) ≤ x3 → (vp_in x3 14 ∧ ((¬ (h.1 (w + 11) x3.toNatClampNeg) = ((1 : Int32) <<< (x1 &&& 31)) → (AW GC l ad d mX8_debtsKnownOnlyBy 4 [(0, .ref (ad w)), (1, .int x1), (2, .int x2), (3, .int (x3 + (1 : Int32)))] [] h (qi R))) ∧ ((h.1 (w + 11) x3.toNatClampNeg) = ((1 : Int32) <<< (x1 &&& 31)) → (AW GC l ad d mX8_debtsKnownOnlyBy 4 [(0, .ref (ad w)), (1, .int x1), (2, .int (x2 ||| ((1 : Int32) <<< (x3 &&& 31)))), (3, .int (x3 + (1 : Int32)))] [] h (qi R))))))) : AW GC l ad d mX8_debtsKnownOnlyBy 4 [(0, .ref (ad w)), (1, .int x1), (2, .int x2), (3, .int x3)] [] h (qi R) := by
  refine aw_iload_n dX8_debtsKnownOnlyBy_4 rfl 3 rfl ?_
  refine aw_aload_n dX8_debtsKnownOnlyBy_5 rfl 0 rfl ?_
  refine aw_get dX8_debtsKnownOnlyBy_6 hw.1 ckX8 flX8_51 (v := .int (h.1 w 11)) rfl ?_
  refine aw_icmp_ge (tgt := 36) dX8_debtsKnownOnlyBy_9 (by decide) (fun hc3 => ?_) (fun hc3 => ?_)
  · replace H := H.1 hc3
    refine aw_iload_n dX8_debtsKnownOnlyBy_36 rfl 2 rfl ?_
    exact aw_iret dX8_debtsKnownOnlyBy_37 rfl ⟨_, rfl, H⟩
  · replace H := H.2 hc3
    refine aw_aload_n dX8_debtsKnownOnlyBy_12 rfl 0 rfl ?_
    refine aw_get dX8_debtsKnownOnlyBy_13 hw.1 ckX8 flX8_42 (v := .ref (ad (w + 11))) rfl ?_
    refine aw_iload_n dX8_debtsKnownOnlyBy_16 rfl 3 rfl ?_
    obtain ⟨hi1, H⟩ := H
    refine aw_ialdK (t0 := 0) (j := x3.toNatClampNeg) dX8_debtsKnownOnlyBy_17 (hw.2 10 (by decide)) rfl rfl hi1 ?_
    refine aw_iconst (v := 1) dX8_debtsKnownOnlyBy_18 (by decide) ?_
    refine aw_iload_n dX8_debtsKnownOnlyBy_19 rfl 1 rfl ?_
    refine aw_ishl dX8_debtsKnownOnlyBy_20 ?_
    refine aw_icmp_ne (tgt := 30) dX8_debtsKnownOnlyBy_21 (by decide) (fun hc2 => ?_) (fun hc2 => ?_)
    · replace H := H.1 hc2
      refine aw_inc (mm := (1)) (ls' := [(3, .int (x3 + (1 : Int32))), (0, .ref (ad w)), (1, .int x1), (2, .int x2)]) dX8_debtsKnownOnlyBy_30 (by decide) (j := 3) rfl (by decide) rfl ?_
      refine aw_goto (tgt := 4) dX8_debtsKnownOnlyBy_33 (by decide) ?_
      exact aw_ls [1, 2, 3, 0] rfl H
    · replace H := H.2 hc2
      refine aw_iload_n dX8_debtsKnownOnlyBy_24 rfl 2 rfl ?_
      refine aw_iconst (v := 1) dX8_debtsKnownOnlyBy_25 (by decide) ?_
      refine aw_iload_n dX8_debtsKnownOnlyBy_26 rfl 3 rfl ?_
      refine aw_ishl dX8_debtsKnownOnlyBy_27 ?_
      refine aw_ior dX8_debtsKnownOnlyBy_28 ?_
      refine aw_istore_n (ls' := [(2, .int (x2 ||| ((1 : Int32) <<< (x3 &&& 31)))), (0, .ref (ad w)), (1, .int x1), (3, .int x3)]) dX8_debtsKnownOnlyBy_29 rfl (by decide) rfl ?_
      refine aw_inc (mm := (1)) (ls' := [(3, .int (x3 + (1 : Int32))), (2, .int (x2 ||| ((1 : Int32) <<< (x3 &&& 31)))), (0, .ref (ad w)), (1, .int x1)]) dX8_debtsKnownOnlyBy_30 (by decide) (j := 3) rfl (by decide) rfl ?_
      refine aw_goto (tgt := 4) dX8_debtsKnownOnlyBy_33 (by decide) ?_
      exact aw_ls [2, 3, 1, 0] rfl H
set_option maxRecDepth 8000 in
set_option maxHeartbeats 1000000 in
theorem bX8_oldestOf_0 {l : Launch} {ad : Nat → Nat} {d : Nat} {R : Int32 → aH → Prop} (w : Nat) (hw : isW GC w) (x1 : Int32)  (h : aH)
    (H : AW GC l ad d mX8_oldestOf 7 [(0, .ref (ad w)), (1, .int x1), (2, .int (-1 : Int32)), (3, .int (-1 : Int32)), (4, .int (0 : Int32))] [] h (qi R)) : AW GC l ad d mX8_oldestOf 0 [(0, .ref (ad w)), (1, .int x1)] [] h (qi R) := by
  refine aw_iconst (v := (-1)) dX8_oldestOf_0 (by decide) ?_
  refine aw_istore_n (ls' := [(2, .int (-1 : Int32)), (0, .ref (ad w)), (1, .int x1)]) dX8_oldestOf_1 rfl (by decide) rfl ?_
  refine aw_iconst (v := (-1)) dX8_oldestOf_2 (by decide) ?_
  refine aw_istore_n (ls' := [(3, .int (-1 : Int32)), (2, .int (-1 : Int32)), (0, .ref (ad w)), (1, .int x1)]) dX8_oldestOf_3 rfl (by decide) rfl ?_
  refine aw_iconst (v := 0) dX8_oldestOf_4 (by decide) ?_
  refine aw_istore (ls' := [(4, .int (0 : Int32)), (3, .int (-1 : Int32)), (2, .int (-1 : Int32)), (0, .ref (ad w)), (1, .int x1)]) dX8_oldestOf_5 (by decide) rfl ?_
  exact aw_ls [3, 4, 2, 1, 0] rfl H
set_option maxRecDepth 8000 in
set_option maxHeartbeats 1000000 in
theorem bX8_oldestOf_7 {l : Launch} {ad : Nat → Nat} {d : Nat} {R : Int32 → aH → Prop} (w : Nat) (hw : isW GC w) (x1 : Int32) (x2 : Int32) (x3 : Int32) (x4 : Int32)  (h : aH)
    (H : ((6 : Int32) ≤ x4 → (R x2 h)) ∧ (¬ (6 : Int32) ≤ x4 → (vp_in x1 14 ∧ (((((h.1 (w + 11) x1.toNatClampNeg) >>> (x4 &&& 31)) &&& (1 : Int32)) = 0 → (AW GC l ad d mX8_oldestOf 7 [(0, .ref (ad w)), (1, .int x1), (2, .int x2), (3, .int x3), (4, .int (x4 + (1 : Int32)))] [] h (qi R))) ∧ (¬ (((h.1 (w + 11) x1.toNatClampNeg) >>> (x4 &&& 31)) &&& (1 : Int32)) = 0 → (vp_in x4 6 ∧ (((h.1 (w + 2) x4.toNatClampNeg) ≤ x3 → (AW GC l ad d mX8_oldestOf 7 [(0, .ref (ad w)), (1, .int x1), (2, .int x2), (3, .int x3), (4, .int (x4 + (1 : Int32)))] [] h (qi R))) ∧ (¬ (h.1 (w + 2) x4.toNatClampNeg) ≤ x3 → (AW GC l ad d mX8_oldestOf 7 [(0, .ref (ad w)), (1, .int x1), (2, .int x4), (3, .int (h.1 (w + 2) x4.toNatClampNeg)), (4, .int (x4 + (1 : Int32)))] [] h (qi R)))))))))) : AW GC l ad d mX8_oldestOf 7 [(0, .ref (ad w)), (1, .int x1), (2, .int x2), (3, .int x3), (4, .int x4)] [] h (qi R) := by
  refine aw_iload dX8_oldestOf_7 4 rfl ?_
  refine aw_bipush (v := 6) dX8_oldestOf_9 (by decide) ?_
  refine aw_icmp_ge (tgt := 56) dX8_oldestOf_11 (by decide) (fun hc5 => ?_) (fun hc5 => ?_)
  · replace H := H.1 hc5
    refine aw_iload_n dX8_oldestOf_56 rfl 2 rfl ?_
    exact aw_iret dX8_oldestOf_57 rfl ⟨_, rfl, H⟩
  · replace H := H.2 hc5
    refine aw_aload_n dX8_oldestOf_14 rfl 0 rfl ?_
    refine aw_get dX8_oldestOf_15 hw.1 ckX8 flX8_42 (v := .ref (ad (w + 11))) rfl ?_
    refine aw_iload_n dX8_oldestOf_18 rfl 1 rfl ?_
    obtain ⟨hi1, H⟩ := H
    refine aw_ialdK (t0 := 0) (j := x1.toNatClampNeg) dX8_oldestOf_19 (hw.2 10 (by decide)) rfl rfl hi1 ?_
    refine aw_iload dX8_oldestOf_20 4 rfl ?_
    refine aw_ishr dX8_oldestOf_22 ?_
    refine aw_iconst (v := 1) dX8_oldestOf_23 (by decide) ?_
    refine aw_iand dX8_oldestOf_24 ?_
    refine aw_if_eq (tgt := 50) dX8_oldestOf_25 (by decide) (fun hc4 => ?_) (fun hc4 => ?_)
    · replace H := H.1 hc4
      refine aw_inc (mm := (1)) (ls' := [(4, .int (x4 + (1 : Int32))), (0, .ref (ad w)), (1, .int x1), (2, .int x2), (3, .int x3)]) dX8_oldestOf_50 (by decide) (j := 4) rfl (by decide) rfl ?_
      refine aw_goto (tgt := 7) dX8_oldestOf_53 (by decide) ?_
      exact aw_ls [1, 2, 3, 4, 0] rfl H
    · replace H := H.2 hc4
      refine aw_aload_n dX8_oldestOf_28 rfl 0 rfl ?_
      refine aw_get dX8_oldestOf_29 hw.1 ckX8 flX8_15 (v := .ref (ad (w + 2))) rfl ?_
      refine aw_iload dX8_oldestOf_32 4 rfl ?_
      obtain ⟨hi2, H⟩ := H
      refine aw_ialdK (t0 := 0) (j := x4.toNatClampNeg) dX8_oldestOf_34 (hw.2 1 (by decide)) rfl rfl hi2 ?_
      refine aw_iload_n dX8_oldestOf_35 rfl 3 rfl ?_
      refine aw_icmp_le (tgt := 50) dX8_oldestOf_36 (by decide) (fun hc3 => ?_) (fun hc3 => ?_)
      · replace H := H.1 hc3
        refine aw_inc (mm := (1)) (ls' := [(4, .int (x4 + (1 : Int32))), (0, .ref (ad w)), (1, .int x1), (2, .int x2), (3, .int x3)]) dX8_oldestOf_50 (by decide) (j := 4) rfl (by decide) rfl ?_
        refine aw_goto (tgt := 7) dX8_oldestOf_53 (by decide) ?_
        exact aw_ls [1, 2, 3, 4, 0] rfl H
      · replace H := H.2 hc3
        refine aw_iload dX8_oldestOf_39 4 rfl ?_
        refine aw_istore_n (ls' := [(2, .int x4), (0, .ref (ad w)), (1, .int x1), (3, .int x3), (4, .int x4)]) dX8_oldestOf_41 rfl (by decide) rfl ?_
        refine aw_aload_n dX8_oldestOf_42 rfl 1 rfl ?_
        refine aw_get dX8_oldestOf_43 hw.1 ckX8 flX8_15 (v := .ref (ad (w + 2))) rfl ?_
        refine aw_iload dX8_oldestOf_46 4 rfl ?_
        refine aw_ialdK (t0 := 0) (j := x4.toNatClampNeg) dX8_oldestOf_48 (hw.2 1 (by decide)) rfl rfl hi2 ?_
        refine aw_istore_n (ls' := [(3, .int (h.1 (w + 2) x4.toNatClampNeg)), (2, .int x4), (0, .ref (ad w)), (1, .int x1), (4, .int x4)]) dX8_oldestOf_49 rfl (by decide) rfl ?_
        refine aw_inc (mm := (1)) (ls' := [(4, .int (x4 + (1 : Int32))), (3, .int (h.1 (w + 2) x4.toNatClampNeg)), (2, .int x4), (0, .ref (ad w)), (1, .int x1)]) dX8_oldestOf_50 (by decide) (j := 4) rfl (by decide) rfl ?_
        refine aw_goto (tgt := 7) dX8_oldestOf_53 (by decide) ?_
        exact aw_ls [3, 4, 2, 1, 0] rfl H
set_option maxRecDepth 8000 in
set_option maxHeartbeats 1000000 in
theorem bX8_netOf_0 {l : Launch} {ad : Nat → Nat} {d : Nat} {R : Int32 → aH → Prop} (w : Nat) (hw : isW GC w) (x1 : Int32)  (h : aH)
    (H : AW GC l ad d mX8_netOf 4 [(0, .ref (ad w)), (1, .int x1), (2, .int (0 : Int32)), (3, .int (0 : Int32))] [] h (qi R)) : AW GC l ad d mX8_netOf 0 [(0, .ref (ad w)), (1, .int x1)] [] h (qi R) := by
  refine aw_iconst (v := 0) dX8_netOf_0 (by decide) ?_
  refine aw_istore_n (ls' := [(2, .int (0 : Int32)), (0, .ref (ad w)), (1, .int x1)]) dX8_netOf_1 rfl (by decide) rfl ?_
  refine aw_iconst (v := 0) dX8_netOf_2 (by decide) ?_
  refine aw_istore_n (ls' := [(3, .int (0 : Int32)), (2, .int (0 : Int32)), (0, .ref (ad w)), (1, .int x1)]) dX8_netOf_3 rfl (by decide) rfl ?_
  exact aw_ls [2, 3, 1, 0] rfl H
set_option maxRecDepth 8000 in
set_option maxHeartbeats 1000000 in
theorem bX8_netOf_4 {l : Launch} {ad : Nat → Nat} {d : Nat} {R : Int32 → aH → Prop} (w : Nat) (hw : isW GC w) (x1 : Int32) (x2 : Int32) (x3 : Int32)  (h : aH)
    (H : ((h.1 w 11) ≤ x3 → (R x2 h)) ∧ (¬ (h.1 w 11) ≤ x3 → (vp_in x3 8 ∧ ((¬ (h.1 (w + 3) x3.toNatClampNeg) = x1 → ((¬ (h.1 (w + 4) x3.toNatClampNeg) = x1 → (AW GC l ad d mX8_netOf 4 [(0, .ref (ad w)), (1, .int x1), (2, .int x2), (3, .int (x3 + (1 : Int32)))] [] h (qi R))) ∧ ((h.1 (w + 4) x3.toNatClampNeg) = x1 → (AW GC l ad d mX8_netOf 4 [(0, .ref (ad w)), (1, .int x1), (2, .int (x2 - (h.1 (w + 9) x3.toNatClampNeg))), (3, .int (x3 + (1 : Int32)))] [] h (qi R))))) ∧ ((h.1 (w + 3) x3.toNatClampNeg) = x1 → (AW GC l ad d mX8_netOf 4 [(0, .ref (ad w)), (1, .int x1), (2, .int (x2 + (h.1 (w + 9) x3.toNatClampNeg))), (3, .int (x3 + (1 : Int32)))] [] h (qi R))))))) : AW GC l ad d mX8_netOf 4 [(0, .ref (ad w)), (1, .int x1), (2, .int x2), (3, .int x3)] [] h (qi R) := by
  refine aw_iload_n dX8_netOf_4 rfl 3 rfl ?_
  refine aw_aload_n dX8_netOf_5 rfl 0 rfl ?_
  refine aw_get dX8_netOf_6 hw.1 ckX8 flX8_51 (v := .int (h.1 w 11)) rfl ?_
  refine aw_icmp_ge (tgt := 59) dX8_netOf_9 (by decide) (fun hc4 => ?_) (fun hc4 => ?_)
  · replace H := H.1 hc4
    refine aw_iload_n dX8_netOf_59 rfl 2 rfl ?_
    exact aw_iret dX8_netOf_60 rfl ⟨_, rfl, H⟩
  · replace H := H.2 hc4
    refine aw_aload_n dX8_netOf_12 rfl 0 rfl ?_
    refine aw_get dX8_netOf_13 hw.1 ckX8 flX8_18 (v := .ref (ad (w + 3))) rfl ?_
    refine aw_iload_n dX8_netOf_16 rfl 3 rfl ?_
    obtain ⟨hi1, H⟩ := H
    refine aw_ialdK (t0 := 0) (j := x3.toNatClampNeg) dX8_netOf_17 (hw.2 2 (by decide)) rfl rfl hi1 ?_
    refine aw_iload_n dX8_netOf_18 rfl 1 rfl ?_
    refine aw_icmp_ne (tgt := 34) dX8_netOf_19 (by decide) (fun hc3 => ?_) (fun hc3 => ?_)
    · replace H := H.1 hc3
      refine aw_aload_n dX8_netOf_34 rfl 0 rfl ?_
      refine aw_get dX8_netOf_35 hw.1 ckX8 flX8_21 (v := .ref (ad (w + 4))) rfl ?_
      refine aw_iload_n dX8_netOf_38 rfl 3 rfl ?_
      refine aw_ialdK (t0 := 0) (j := x3.toNatClampNeg) dX8_netOf_39 (hw.2 3 (by decide)) rfl rfl hi1 ?_
      refine aw_iload_n dX8_netOf_40 rfl 1 rfl ?_
      refine aw_icmp_ne (tgt := 53) dX8_netOf_41 (by decide) (fun hc2 => ?_) (fun hc2 => ?_)
      · replace H := H.1 hc2
        refine aw_inc (mm := (1)) (ls' := [(3, .int (x3 + (1 : Int32))), (0, .ref (ad w)), (1, .int x1), (2, .int x2)]) dX8_netOf_53 (by decide) (j := 3) rfl (by decide) rfl ?_
        refine aw_goto (tgt := 4) dX8_netOf_56 (by decide) ?_
        exact aw_ls [1, 2, 3, 0] rfl H
      · replace H := H.2 hc2
        refine aw_iload_n dX8_netOf_44 rfl 2 rfl ?_
        refine aw_aload_n dX8_netOf_45 rfl 0 rfl ?_
        refine aw_get dX8_netOf_46 hw.1 ckX8 flX8_36 (v := .ref (ad (w + 9))) rfl ?_
        refine aw_iload_n dX8_netOf_49 rfl 3 rfl ?_
        refine aw_ialdK (t0 := 0) (j := x3.toNatClampNeg) dX8_netOf_50 (hw.2 8 (by decide)) rfl rfl hi1 ?_
        refine aw_isub dX8_netOf_51 ?_
        refine aw_istore_n (ls' := [(2, .int (x2 - (h.1 (w + 9) x3.toNatClampNeg))), (0, .ref (ad w)), (1, .int x1), (3, .int x3)]) dX8_netOf_52 rfl (by decide) rfl ?_
        refine aw_inc (mm := (1)) (ls' := [(3, .int (x3 + (1 : Int32))), (2, .int (x2 - (h.1 (w + 9) x3.toNatClampNeg))), (0, .ref (ad w)), (1, .int x1)]) dX8_netOf_53 (by decide) (j := 3) rfl (by decide) rfl ?_
        refine aw_goto (tgt := 4) dX8_netOf_56 (by decide) ?_
        exact aw_ls [2, 3, 1, 0] rfl H
    · replace H := H.2 hc3
      refine aw_iload_n dX8_netOf_22 rfl 2 rfl ?_
      refine aw_aload_n dX8_netOf_23 rfl 0 rfl ?_
      refine aw_get dX8_netOf_24 hw.1 ckX8 flX8_36 (v := .ref (ad (w + 9))) rfl ?_
      refine aw_iload_n dX8_netOf_27 rfl 3 rfl ?_
      refine aw_ialdK (t0 := 0) (j := x3.toNatClampNeg) dX8_netOf_28 (hw.2 8 (by decide)) rfl rfl hi1 ?_
      refine aw_iadd dX8_netOf_29 ?_
      refine aw_istore_n (ls' := [(2, .int (x2 + (h.1 (w + 9) x3.toNatClampNeg))), (0, .ref (ad w)), (1, .int x1), (3, .int x3)]) dX8_netOf_30 rfl (by decide) rfl ?_
      refine aw_goto (tgt := 53) dX8_netOf_31 (by decide) ?_
      refine aw_inc (mm := (1)) (ls' := [(3, .int (x3 + (1 : Int32))), (2, .int (x2 + (h.1 (w + 9) x3.toNatClampNeg))), (0, .ref (ad w)), (1, .int x1)]) dX8_netOf_53 (by decide) (j := 3) rfl (by decide) rfl ?_
      refine aw_goto (tgt := 4) dX8_netOf_56 (by decide) ?_
      exact aw_ls [2, 3, 1, 0] rfl H
set_option maxRecDepth 8000 in
set_option maxHeartbeats 1000000 in
theorem bX8_countOf_0 {l : Launch} {ad : Nat → Nat} {d : Nat} {R : Int32 → aH → Prop} (w : Nat) (hw : isW GC w) (x1 : Int32)  (h : aH)
    (H : AW GC l ad d mX8_countOf 4 [(0, .ref (ad w)), (1, .int x1), (2, .int (0 : Int32)), (3, .int (0 : Int32))] [] h (qi R)) : AW GC l ad d mX8_countOf 0 [(0, .ref (ad w)), (1, .int x1)] [] h (qi R) := by
  refine aw_iconst (v := 0) dX8_countOf_0 (by decide) ?_
  refine aw_istore_n (ls' := [(2, .int (0 : Int32)), (0, .ref (ad w)), (1, .int x1)]) dX8_countOf_1 rfl (by decide) rfl ?_
  refine aw_iconst (v := 0) dX8_countOf_2 (by decide) ?_
  refine aw_istore_n (ls' := [(3, .int (0 : Int32)), (2, .int (0 : Int32)), (0, .ref (ad w)), (1, .int x1)]) dX8_countOf_3 rfl (by decide) rfl ?_
  exact aw_ls [2, 3, 1, 0] rfl H
set_option maxRecDepth 8000 in
set_option maxHeartbeats 1000000 in
theorem bX8_countOf_4 {l : Launch} {ad : Nat → Nat} {d : Nat} {R : Int32 → aH → Prop} (w : Nat) (hw : isW GC w) (x1 : Int32) (x2 : Int32) (x3 : Int32)  (h : aH)
    (H : ((h.1 w 11) ≤ x3 → (R x2 h)) ∧ (¬ (h.1 w 11) ≤ x3 → (vp_in x3 8 ∧ (∀ t2 : Int32, t2 = (if (h.1 (w + 8) x3.toNatClampNeg) = x1 then (1 : Int32) else (0 : Int32)) → (AW GC l ad d mX8_countOf 4 [(0, .ref (ad w)), (1, .int x1), (2, .int (x2 + t2)), (3, .int (x3 + (1 : Int32)))] [] h (qi R)))))) : AW GC l ad d mX8_countOf 4 [(0, .ref (ad w)), (1, .int x1), (2, .int x2), (3, .int x3)] [] h (qi R) := by
  refine aw_iload_n dX8_countOf_4 rfl 3 rfl ?_
  refine aw_aload_n dX8_countOf_5 rfl 0 rfl ?_
  refine aw_get dX8_countOf_6 hw.1 ckX8 flX8_51 (v := .int (h.1 w 11)) rfl ?_
  refine aw_icmp_ge (tgt := 36) dX8_countOf_9 (by decide) (fun hc5 => ?_) (fun hc5 => ?_)
  · replace H := H.1 hc5
    refine aw_iload_n dX8_countOf_36 rfl 2 rfl ?_
    exact aw_iret dX8_countOf_37 rfl ⟨_, rfl, H⟩
  · replace H := H.2 hc5
    refine aw_iload_n dX8_countOf_12 rfl 2 rfl ?_
    refine aw_aload_n dX8_countOf_13 rfl 0 rfl ?_
    refine aw_get dX8_countOf_14 hw.1 ckX8 flX8_33 (v := .ref (ad (w + 8))) rfl ?_
    refine aw_iload_n dX8_countOf_17 rfl 3 rfl ?_
    obtain ⟨hi1, H⟩ := H
    refine aw_ialdK (t0 := 0) (j := x3.toNatClampNeg) dX8_countOf_18 (hw.2 7 (by decide)) rfl rfl hi1 ?_
    refine aw_iload_n dX8_countOf_19 rfl 1 rfl ?_
    have H : True ∧ ∀ t2 : Int32, t2 = (if (h.1 (w + 8) x3.toNatClampNeg) = x1 then (1 : Int32) else (0 : Int32)) → (AW GC l ad d mX8_countOf 4 [(0, .ref (ad w)), (1, .int x1), (2, .int (x2 + t2)), (3, .int (x3 + (1 : Int32)))] [] h (qi R)) := ⟨trivial, H⟩
    have K3 : ∀ t2 : Int32, (AW GC l ad d mX8_countOf 4 [(0, .ref (ad w)), (1, .int x1), (2, .int (x2 + t2)), (3, .int (x3 + (1 : Int32)))] [] h (qi R)) → AW GC l ad d mX8_countOf 28 [(0, .ref (ad w)), (1, .int x1), (2, .int x2), (3, .int x3)] [.int t2, .int x2] h (qi R) := by
      intro t2 H
      refine aw_iadd dX8_countOf_28 ?_
      refine aw_istore_n (ls' := [(2, .int (x2 + t2)), (0, .ref (ad w)), (1, .int x1), (3, .int x3)]) dX8_countOf_29 rfl (by decide) rfl ?_
      refine aw_inc (mm := (1)) (ls' := [(3, .int (x3 + (1 : Int32))), (2, .int (x2 + t2)), (0, .ref (ad w)), (1, .int x1)]) dX8_countOf_30 (by decide) (j := 3) rfl (by decide) rfl ?_
      refine aw_goto (tgt := 4) dX8_countOf_33 (by decide) ?_
      exact aw_ls [2, 3, 1, 0] rfl H
    refine aw_icmp_ne (tgt := 27) dX8_countOf_20 (by decide) (fun hc4 => ?_) (fun hc4 => ?_)
    · refine aw_iconst (v := (0)) dX8_countOf_27 (by decide) ?_
      exact K3 _ (H.2 _ (by simp only [if_neg hc4]))
    · refine aw_iconst (v := (1)) dX8_countOf_23 (by decide) ?_
      refine aw_goto (tgt := 28) dX8_countOf_24 (by decide) ?_
      exact K3 _ (H.2 _ (by simp only [if_pos hc4]))
set_option maxRecDepth 8000 in
set_option maxHeartbeats 1000000 in
theorem bX8_owedInSum_0 {l : Launch} {ad : Nat → Nat} {d : Nat} {R : Int32 → aH → Prop} (w : Nat) (hw : isW GC w)   (h : aH)
    (H : AW GC l ad d mX8_owedInSum 4 [(0, .ref (ad w)), (1, .int (0 : Int32)), (2, .int (0 : Int32))] [] h (qi R)) : AW GC l ad d mX8_owedInSum 0 [(0, .ref (ad w))] [] h (qi R) := by
  refine aw_iconst (v := 0) dX8_owedInSum_0 (by decide) ?_
  refine aw_istore_n (ls' := [(1, .int (0 : Int32)), (0, .ref (ad w))]) dX8_owedInSum_1 rfl (by decide) rfl ?_
  refine aw_iconst (v := 0) dX8_owedInSum_2 (by decide) ?_
  refine aw_istore_n (ls' := [(2, .int (0 : Int32)), (1, .int (0 : Int32)), (0, .ref (ad w))]) dX8_owedInSum_3 rfl (by decide) rfl ?_
  exact aw_ls [2, 1, 0] rfl H
set_option maxRecDepth 8000 in
set_option maxHeartbeats 1000000 in
theorem bX8_owedInSum_4 {l : Launch} {ad : Nat → Nat} {d : Nat} {R : Int32 → aH → Prop} (w : Nat) (hw : isW GC w) (x1 : Int32) (x2 : Int32)  (h : aH)
    (H : ((h.1 w 11) ≤ x2 → (R x1 h)) ∧ (¬ (h.1 w 11) ≤ x2 → (vp_in x2 8 ∧ (AW GC l ad d mX8_owedInSum 4 [(0, .ref (ad w)), (1, .int (x1 + (h.1 (w + 9) x2.toNatClampNeg))), (2, .int (x2 + (1 : Int32)))] [] h (qi R))))) : AW GC l ad d mX8_owedInSum 4 [(0, .ref (ad w)), (1, .int x1), (2, .int x2)] [] h (qi R) := by
  refine aw_iload_n dX8_owedInSum_4 rfl 2 rfl ?_
  refine aw_aload_n dX8_owedInSum_5 rfl 0 rfl ?_
  refine aw_get dX8_owedInSum_6 hw.1 ckX8 flX8_51 (v := .int (h.1 w 11)) rfl ?_
  refine aw_icmp_ge (tgt := 27) dX8_owedInSum_9 (by decide) (fun hc2 => ?_) (fun hc2 => ?_)
  · replace H := H.1 hc2
    refine aw_iload_n dX8_owedInSum_27 rfl 1 rfl ?_
    exact aw_iret dX8_owedInSum_28 rfl ⟨_, rfl, H⟩
  · replace H := H.2 hc2
    refine aw_iload_n dX8_owedInSum_12 rfl 1 rfl ?_
    refine aw_aload_n dX8_owedInSum_13 rfl 0 rfl ?_
    refine aw_get dX8_owedInSum_14 hw.1 ckX8 flX8_36 (v := .ref (ad (w + 9))) rfl ?_
    refine aw_iload_n dX8_owedInSum_17 rfl 2 rfl ?_
    obtain ⟨hi1, H⟩ := H
    refine aw_ialdK (t0 := 0) (j := x2.toNatClampNeg) dX8_owedInSum_18 (hw.2 8 (by decide)) rfl rfl hi1 ?_
    refine aw_iadd dX8_owedInSum_19 ?_
    refine aw_istore_n (ls' := [(1, .int (x1 + (h.1 (w + 9) x2.toNatClampNeg))), (0, .ref (ad w)), (2, .int x2)]) dX8_owedInSum_20 rfl (by decide) rfl ?_
    refine aw_inc (mm := (1)) (ls' := [(2, .int (x2 + (1 : Int32))), (1, .int (x1 + (h.1 (w + 9) x2.toNatClampNeg))), (0, .ref (ad w))]) dX8_owedInSum_21 (by decide) (j := 2) rfl (by decide) rfl ?_
    refine aw_goto (tgt := 4) dX8_owedInSum_24 (by decide) ?_
    exact aw_ls [2, 1, 0] rfl H
set_option maxRecDepth 8000 in
set_option maxHeartbeats 1000000 in
theorem bX8_pursesInSum_0 {l : Launch} {ad : Nat → Nat} {d : Nat} {R : Int32 → aH → Prop} (w : Nat) (hw : isW GC w) (x1 : Int32)  (h : aH)
    (H : AW GC l ad d mX8_pursesInSum 4 [(0, .ref (ad w)), (1, .int x1), (2, .int (0 : Int32)), (3, .int (0 : Int32))] [] h (qi R)) : AW GC l ad d mX8_pursesInSum 0 [(0, .ref (ad w)), (1, .int x1)] [] h (qi R) := by
  refine aw_iconst (v := 0) dX8_pursesInSum_0 (by decide) ?_
  refine aw_istore_n (ls' := [(2, .int (0 : Int32)), (0, .ref (ad w)), (1, .int x1)]) dX8_pursesInSum_1 rfl (by decide) rfl ?_
  refine aw_iconst (v := 0) dX8_pursesInSum_2 (by decide) ?_
  refine aw_istore_n (ls' := [(3, .int (0 : Int32)), (2, .int (0 : Int32)), (0, .ref (ad w)), (1, .int x1)]) dX8_pursesInSum_3 rfl (by decide) rfl ?_
  exact aw_ls [2, 3, 1, 0] rfl H
set_option maxRecDepth 8000 in
set_option maxHeartbeats 1000000 in
theorem bX8_pursesInSum_4 {l : Launch} {ad : Nat → Nat} {d : Nat} {R : Int32 → aH → Prop} (w : Nat) (hw : isW GC w) (x1 : Int32) (x2 : Int32) (x3 : Int32)  (h : aH)
    (H : (x1 ≤ x3 → (R x2 h)) ∧ (¬ x1 ≤ x3 → (((6 : Int32) ≤ x3 → (R x2 h)) ∧ (¬ (6 : Int32) ≤ x3 → (vp_in x3 6 ∧ (AW GC l ad d mX8_pursesInSum 4 [(0, .ref (ad w)), (1, .int x1), (2, .int (x2 + (h.1 (w + 1) x3.toNatClampNeg))), (3, .int (x3 + (1 : Int32)))] [] h (qi R))))))) : AW GC l ad d mX8_pursesInSum 4 [(0, .ref (ad w)), (1, .int x1), (2, .int x2), (3, .int x3)] [] h (qi R) := by
  refine aw_iload_n dX8_pursesInSum_4 rfl 3 rfl ?_
  refine aw_iload_n dX8_pursesInSum_5 rfl 1 rfl ?_
  refine aw_icmp_ge (tgt := 30) dX8_pursesInSum_6 (by decide) (fun hc3 => ?_) (fun hc3 => ?_)
  · replace H := H.1 hc3
    refine aw_iload_n dX8_pursesInSum_30 rfl 2 rfl ?_
    exact aw_iret dX8_pursesInSum_31 rfl ⟨_, rfl, H⟩
  · replace H := H.2 hc3
    refine aw_iload_n dX8_pursesInSum_9 rfl 3 rfl ?_
    refine aw_bipush (v := 6) dX8_pursesInSum_10 (by decide) ?_
    refine aw_icmp_ge (tgt := 30) dX8_pursesInSum_12 (by decide) (fun hc2 => ?_) (fun hc2 => ?_)
    · replace H := H.1 hc2
      refine aw_iload_n dX8_pursesInSum_30 rfl 2 rfl ?_
      exact aw_iret dX8_pursesInSum_31 rfl ⟨_, rfl, H⟩
    · replace H := H.2 hc2
      refine aw_iload_n dX8_pursesInSum_15 rfl 2 rfl ?_
      refine aw_aload_n dX8_pursesInSum_16 rfl 0 rfl ?_
      refine aw_get dX8_pursesInSum_17 hw.1 ckX8 flX8_9 (v := .ref (ad (w + 1))) rfl ?_
      refine aw_iload_n dX8_pursesInSum_20 rfl 3 rfl ?_
      obtain ⟨hi1, H⟩ := H
      refine aw_ialdK (t0 := 0) (j := x3.toNatClampNeg) dX8_pursesInSum_21 (hw.2 0 (by decide)) rfl rfl hi1 ?_
      refine aw_iadd dX8_pursesInSum_22 ?_
      refine aw_istore_n (ls' := [(2, .int (x2 + (h.1 (w + 1) x3.toNatClampNeg))), (0, .ref (ad w)), (1, .int x1), (3, .int x3)]) dX8_pursesInSum_23 rfl (by decide) rfl ?_
      refine aw_inc (mm := (1)) (ls' := [(3, .int (x3 + (1 : Int32))), (2, .int (x2 + (h.1 (w + 1) x3.toNatClampNeg))), (0, .ref (ad w)), (1, .int x1)]) dX8_pursesInSum_24 (by decide) (j := 3) rfl (by decide) rfl ?_
      refine aw_goto (tgt := 4) dX8_pursesInSum_27 (by decide) ?_
      exact aw_ls [2, 3, 1, 0] rfl H
set_option maxRecDepth 8000 in
set_option maxHeartbeats 1000000 in
theorem bJ6_bitCount_0f7a4_0 {G : aG} {l : Launch} {ad : Nat → Nat} {d : Nat} {R : Int32 → aH → Prop}   (x0 : Int32)  (h : aH)
    (H : ∀ t1 : Int32, t1 = (x0 - ((x0.toUInt32 >>> ((1 : Int32).toUInt32 &&& Int32.toUInt32 31)).toInt32 &&& (1431655765 : Int32))) → (∀ t2 : Int32, t2 = ((t1 &&& (858993459 : Int32)) + ((t1.toUInt32 >>> ((2 : Int32).toUInt32 &&& Int32.toUInt32 31)).toInt32 &&& (858993459 : Int32))) → (∀ t3 : Int32, t3 = ((t2 + (t2.toUInt32 >>> ((4 : Int32).toUInt32 &&& Int32.toUInt32 31)).toInt32) &&& (252645135 : Int32)) → (∀ t4 : Int32, t4 = (t3 + (t3.toUInt32 >>> ((8 : Int32).toUInt32 &&& Int32.toUInt32 31)).toInt32) → (∀ t5 : Int32, t5 = (t4 + (t4.toUInt32 >>> ((16 : Int32).toUInt32 &&& Int32.toUInt32 31)).toInt32) → (R (t5 &&& (63 : Int32)) h)))))) : AW G l ad d mJ6_bitCount_0f7a4 0 [(0, .int x0)] [] h (qi R) := by
  refine aw_iload_n dJ6_bitCount_0f7a4_0 rfl 0 rfl ?_
  refine aw_iload_n dJ6_bitCount_0f7a4_1 rfl 0 rfl ?_
  refine aw_iconst (v := 1) dJ6_bitCount_0f7a4_2 (by decide) ?_
  refine aw_iushr dJ6_bitCount_0f7a4_3 rfl ?_
  refine aw_ldcw dJ6_bitCount_0f7a4_4 coJ6_265 ?_
  refine aw_iand dJ6_bitCount_0f7a4_7 ?_
  refine aw_isub dJ6_bitCount_0f7a4_8 ?_
  refine aw_topi (fun t1 et1 => ?_)
  replace H := H t1 et1
  refine aw_istore_n (ls' := [(0, .int t1)]) dJ6_bitCount_0f7a4_9 rfl (by decide) rfl ?_
  refine aw_iload_n dJ6_bitCount_0f7a4_10 rfl 0 rfl ?_
  refine aw_ldcw dJ6_bitCount_0f7a4_11 coJ6_266 ?_
  refine aw_iand dJ6_bitCount_0f7a4_14 ?_
  refine aw_iload_n dJ6_bitCount_0f7a4_15 rfl 0 rfl ?_
  refine aw_iconst (v := 2) dJ6_bitCount_0f7a4_16 (by decide) ?_
  refine aw_iushr dJ6_bitCount_0f7a4_17 rfl ?_
  refine aw_ldcw dJ6_bitCount_0f7a4_18 coJ6_266 ?_
  refine aw_iand dJ6_bitCount_0f7a4_21 ?_
  refine aw_iadd dJ6_bitCount_0f7a4_22 ?_
  refine aw_topi (fun t2 et2 => ?_)
  replace H := H t2 et2
  refine aw_istore_n (ls' := [(0, .int t2)]) dJ6_bitCount_0f7a4_23 rfl (by decide) rfl ?_
  refine aw_iload_n dJ6_bitCount_0f7a4_24 rfl 0 rfl ?_
  refine aw_iload_n dJ6_bitCount_0f7a4_25 rfl 0 rfl ?_
  refine aw_iconst (v := 4) dJ6_bitCount_0f7a4_26 (by decide) ?_
  refine aw_iushr dJ6_bitCount_0f7a4_27 rfl ?_
  refine aw_iadd dJ6_bitCount_0f7a4_28 ?_
  refine aw_ldcw dJ6_bitCount_0f7a4_29 coJ6_267 ?_
  refine aw_iand dJ6_bitCount_0f7a4_32 ?_
  refine aw_topi (fun t3 et3 => ?_)
  replace H := H t3 et3
  refine aw_istore_n (ls' := [(0, .int t3)]) dJ6_bitCount_0f7a4_33 rfl (by decide) rfl ?_
  refine aw_iload_n dJ6_bitCount_0f7a4_34 rfl 0 rfl ?_
  refine aw_iload_n dJ6_bitCount_0f7a4_35 rfl 0 rfl ?_
  refine aw_bipush (v := 8) dJ6_bitCount_0f7a4_36 (by decide) ?_
  refine aw_iushr dJ6_bitCount_0f7a4_38 rfl ?_
  refine aw_iadd dJ6_bitCount_0f7a4_39 ?_
  refine aw_topi (fun t4 et4 => ?_)
  replace H := H t4 et4
  refine aw_istore_n (ls' := [(0, .int t4)]) dJ6_bitCount_0f7a4_40 rfl (by decide) rfl ?_
  refine aw_iload_n dJ6_bitCount_0f7a4_41 rfl 0 rfl ?_
  refine aw_iload_n dJ6_bitCount_0f7a4_42 rfl 0 rfl ?_
  refine aw_bipush (v := 16) dJ6_bitCount_0f7a4_43 (by decide) ?_
  refine aw_iushr dJ6_bitCount_0f7a4_45 rfl ?_
  refine aw_iadd dJ6_bitCount_0f7a4_46 ?_
  refine aw_topi (fun t5 et5 => ?_)
  replace H := H t5 et5
  refine aw_istore_n (ls' := [(0, .int t5)]) dJ6_bitCount_0f7a4_47 rfl (by decide) rfl ?_
  refine aw_iload_n dJ6_bitCount_0f7a4_48 rfl 0 rfl ?_
  refine aw_bipush (v := 63) dJ6_bitCount_0f7a4_49 (by decide) ?_
  refine aw_iand dJ6_bitCount_0f7a4_51 ?_
  exact aw_iret dJ6_bitCount_0f7a4_52 rfl ⟨_, rfl, H⟩
