/-! ===== the constructors of Tokens and Past ===== -/
/-- what else they stand on -/
def kE (adK adV : Nat → Nat) (Zs : State → Prop) : Prop := (∀ s, Zs s → aET adK adV (fun _ => False) s) ∧ ∀ s, Zs s → va_AO "TuskLedger$World" s
def kTw (i : Nat) : Nat → Int32 := fun j => if j < i then nI (wdC j) else 0
theorem kTw_up {i : Nat} (h : i < 21) : upd (kTw i) (nI i).toNatClampNeg (nI (wdC i)) = kTw (i + 1) := by
  funext j
  unfold upd kTw
  rw [nI_clamp (by omega)]
  by_cases e : j = i
  · subst e; rw [if_pos rfl, if_pos (by omega)]
  · rw [if_neg e]
    by_cases h1 : j < i
    · rw [if_pos h1, if_pos (by omega)]
    · rw [if_neg h1, if_neg (by omega)]
abbrev kX7i (aC : FieldType → ClassId) (b i : Nat) : List va_E := [.inr (7, [.ref (b + 1), .ref (b + 2), .ref (b + 3), .int 0, .ref (b + 4)]), kI aC 701, kI aC 701, kI aC 701, .inl (aC .int, 21, .inl (kTw i))]
def kbX7 (aC : FieldType → ClassId) (b : Nat) : List va_E := kX7i aC b 21
theorem kbX7_len {aC : FieldType → ClassId} {b : Nat} : (kbX7 aC b).length = 5 := rfl
theorem k7_loop {l : Launch} {D : va_G} {aC : FieldType → ClassId} {Zs : State → Prop} {adK adV : Nat → Nat} {b b0 : Nat} (hN : kN b0 Zs) (hE : kE adK adV Zs) (hb : b0 ≤ b) : ∀ k i, i + k = 21 → AK l D aC Zs (kR 5 4 2124) mX7_init b 4 2124 (QcK D b (kbX7 aC b)) 41 [(1, .int (nI i)), (0, .ref b)] [] (kX7i aC b i) 4 2124 := by
  intro k
  induction k with
  | zero =>
    intro i hi
    obtain rfl : i = 21 := by omega
    refine ak_iload_n dX7_init_41 rfl 0 rfl (ak_aload_n dX7_init_42 rfl 1 rfl (ak_get (q0 := 0) (k := 4) (v := .ref (b + 4)) dX7_init_43 rfl ckX7 flX7_21 rfl (ak_alen (q0 := 4) (t0 := 0) (v := nI 21) dX7_init_46 rfl rfl rfl ?_)))
    refine ak_icmp_ge (tgt := 66) dX7_init_47 (by decide) (fun _ => ?_) (fun hn => absurd (Int32.le_refl _) hn)
    exact ak_vret dX7_init_66 rfl
  | succ k ih =>
    intro i hi
    have hi1 : i < 21 := by omega
    refine ak_iload_n dX7_init_41 rfl 0 rfl (ak_aload_n dX7_init_42 rfl 1 rfl (ak_get (q0 := 0) (k := 4) (v := .ref (b + 4)) dX7_init_43 rfl ckX7 flX7_21 rfl (ak_alen (q0 := 4) (t0 := 0) (v := nI 21) dX7_init_46 rfl rfl rfl ?_)))
    refine ak_icmp_ge (tgt := 66) dX7_init_47 (by decide) (fun hn => absurd (nI_lt (a := i) (b := 21) hi1 (by decide)) (Int32.not_lt.mpr hn)) (fun _ => ?_)
    refine ak_aload_n dX7_init_50 rfl 1 rfl (ak_get (q0 := 0) (k := 4) (v := .ref (b + 4)) dX7_init_51 rfl ckX7 flX7_21 rfl (ak_iload_n dX7_init_54 rfl 0 rfl (ak_iload_n dX7_init_55 rfl 0 rfl ?_)))
    refine ak_aw (G := GT adK adV) (ad := fun q => q) (h := (fun _ _ => 0, fun _ _ => 0, fun _ _ => 0)) (d := 4) (As := [.int (nI i)]) (st := [.int (nI i), .ref (b + 4)]) rfl (fun _ => rfl) rfl hE.1 dX7_init_56 (stT adK adV) mkX7_wordCode rfl mlX7_24 msX7_wordCode (Nat.le_of_ble_eq_true rfl) (Nat.le_of_ble_eq_true rfl) rfl (by decide) (by decide) (hN.st b hb) (wc_ok (d := 0) hi1) (fun r h1 hr => ?_)
    obtain ⟨_, rfl, rfl⟩ := hr
    refine ak_iast (q0 := 4) dX7_init_59 rfl (vp_in_nI hi1 (by decide)) ?_
    rw [kTw_up hi1]
    refine ak_iinc (j := 0) dX7_init_60 rfl rfl (by decide) rfl (ak_goto (tgt := 41) dX7_init_63 (by decide) ?_)
    rw [show nI i + Int32.ofInt 1 = nI (i + 1) from by show Int32.ofNat i + Int32.ofNat 1 = Int32.ofNat (i + 1); rw [← Int32.ofNat_add]]
    exact ih (i + 1) (by omega)
theorem mtX7 {l : Launch} {D : va_G} {aC : FieldType → ClassId} {Zs : State → Prop} {adK adV : Nat → Nat} {b b0 : Nat} (hN : kN b0 Zs) (hE : kE adK adV Zs) (hb : b0 ≤ b) : Met l mX7_init.1 (aws mX7_init) (kR 5 4 2124) (PcK D aC Zs b [] [.inr (7, kDf 7 5)]) (QcK D b (kbX7 aC b)) 4 2124 (fun q => b ≤ q) := by
  refine ak_met mkX7_init rfl (by show 1 ≤ 2; decide) ?_
  refine ak_aload_n dX7_init_0 rfl 0 rfl (ak_obj dX7_init_1 olX7 oin oco (by decide) (by decide) ?_)
  show AK _ _ _ _ _ _ _ _ _ _ 4 _ [] ((.inr (7, [.null, .null, .null, .int 0, .null]) : va_E) :: []) 0 0
  refine ak_fa (n := 701) dX7_init_4 rfl rfl (Or.inr (Or.inr ⟨701, dX7_init_5, by decide, rfl⟩)) dX7_init_8 rfl (kT_I (n := 701) (by decide)) (by decide) (by decide) rfl dX7_init_10 ckX7 flX7_11 rfl rfl rfl (by show 0 < 5; decide) (by decide) (by decide) ?_
  show AK _ _ _ _ _ _ _ _ _ _ 13 _ [] ((.inr (7, [.ref (b + 1), .null, .null, .int 0, .null]) : va_E) :: [kI aC 701]) 1 701
  refine ak_fa (n := 701) dX7_init_13 rfl rfl (Or.inr (Or.inr ⟨701, dX7_init_14, by decide, rfl⟩)) dX7_init_17 rfl (kT_I (n := 701) (by decide)) (by decide) (by decide) rfl dX7_init_19 ckX7 flX7_15 rfl rfl rfl (by show 1 < 5; decide) (by decide) (by decide) ?_
  show AK _ _ _ _ _ _ _ _ _ _ 22 _ [] ((.inr (7, [.ref (b + 1), .ref (b + 2), .null, .int 0, .null]) : va_E) :: [kI aC 701, kI aC 701]) 2 1402
  refine ak_fa (n := 701) dX7_init_22 rfl rfl (Or.inr (Or.inr ⟨701, dX7_init_23, by decide, rfl⟩)) dX7_init_26 rfl (kT_I (n := 701) (by decide)) (by decide) (by decide) rfl dX7_init_28 ckX7 flX7_18 rfl rfl rfl (by show 2 < 5; decide) (by decide) (by decide) ?_
  show AK _ _ _ _ _ _ _ _ _ _ 31 _ [] ((.inr (7, [.ref (b + 1), .ref (b + 2), .ref (b + 3), .int 0, .null]) : va_E) :: [kI aC 701, kI aC 701, kI aC 701]) 3 2103
  refine ak_fa (n := 21) dX7_init_31 rfl rfl (Or.inr (Or.inl ⟨21, dX7_init_32, by decide, rfl⟩)) dX7_init_34 rfl (kT_I (n := 21) (by decide)) (by decide) (by decide) rfl dX7_init_36 ckX7 flX7_21 rfl rfl rfl (by show 4 < 5; decide) (by decide) (by decide) ?_
  show AK _ _ _ _ _ _ _ _ _ _ 39 _ [] ((.inr (7, [.ref (b + 1), .ref (b + 2), .ref (b + 3), .int 0, .ref (b + 4)]) : va_E) :: [kI aC 701, kI aC 701, kI aC 701, kI aC 21]) 4 2124
  refine ak_iconst (v := 0) dX7_init_39 (by decide) (ak_istore_n dX7_init_40 rfl (by decide) rfl ?_)
  exact k7_loop hN hE hb 21 0 rfl
def kWs (aC : FieldType → ClassId) (b : Nat) : Nat → List va_E
  | 0 => []
  | i + 1 => kWs aC b i ++ kbX8 aC (b + (2 + 12 * i))
theorem kWs_len {aC : FieldType → ClassId} {b : Nat} : ∀ i, (kWs aC b i).length = 12 * i
  | 0 => rfl
  | i + 1 => by show (kWs aC b i ++ kbX8 aC (b + (2 + 12 * i))).length = _; rw [List.length_append, kWs_len i, kbX8_len]; omega
def kTp (b i : Nat) : Nat → Option Nat := fun j => if j < i then some (b + (2 + 12 * j)) else none
theorem kTp_up {b i : Nat} (h : i < 20) : va_up (kTp b i) (nI i).toNatClampNeg (some (b + (2 + 12 * i))) = kTp b (i + 1) := by
  funext j
  unfold va_up kTp
  rw [nI_clamp (by omega)]
  by_cases e : j = i
  · subst e; rw [if_pos rfl, if_pos (by omega)]
  · rw [if_neg e]
    by_cases h1 : j < i
    · rw [if_pos h1, if_pos (by omega)]
    · rw [if_neg h1, if_neg (by omega)]
def kX2i (aC : FieldType → ClassId) (b i : Nat) : List va_E := .inr (2, [.ref (b + 1), .int 0]) :: .inl (aC (.object RX8), 20, .inr (.inr (.inr (.inr (kTp b i))))) :: kWs aC b i
def kbX2 (aC : FieldType → ClassId) (b : Nat) : List va_E := kX2i aC b 20
theorem kX2i_len {aC : FieldType → ClassId} {b i : Nat} : (kX2i aC b i).length = 2 + 12 * i := by
  show (kWs aC b i).length + 1 + 1 = _
  rw [kWs_len]; omega
theorem kbX2_len {aC : FieldType → ClassId} {b : Nat} : (kbX2 aC b).length = 242 := kX2i_len
theorem kX2_w {aC : FieldType → ClassId} {b i : Nat} {e0 e1 : va_E} : ∃ vs, (e0 :: e1 :: (kWs aC b i ++ kbX8 aC (b + (2 + 12 * i))))[2 + 12 * i]? = some (.inr (8, vs)) := by
  have h1 : ∀ W : List va_E, (e0 :: e1 :: (kWs aC b i ++ W))[2 + 12 * i]? = W[0]? := by
    intro W
    rw [show 2 + 12 * i = 12 * i + 1 + 1 by omega, List.getElem?_cons_succ, List.getElem?_cons_succ, List.getElem?_append_right (by rw [kWs_len]; exact Nat.le_refl _), kWs_len, Nat.sub_self]
  exact ⟨_, (h1 _).trans rfl⟩
theorem k2_loop {l : Launch} {D : va_G} {aC : FieldType → ClassId} {Zs : State → Prop} {adK adV : Nat → Nat} {b b0 : Nat} (hN : kN b0 Zs) (hE : kE adK adV Zs) (hb : b0 ≤ b) : ∀ k i, i + k = 20 → AK l D aC Zs (kR 2 241 2120) mX2_init b 241 2120 (QcK D b (kbX2 aC b)) 15 [(1, .int (nI i)), (0, .ref b)] [] (kX2i aC b i) (1 + 12 * i) (20 + 105 * i) := by
  intro k
  induction k with
  | zero =>
    intro i hi
    obtain rfl : i = 20 := by omega
    refine ak_iload_n dX2_init_15 rfl 0 rfl (ak_bipush (v := nI 20) dX2_init_16 (by decide) ?_)
    refine ak_icmp_ge (tgt := 40) dX2_init_18 (by decide) (fun _ => ?_) (fun hn => absurd (Int32.le_refl _) hn)
    exact ak_vret dX2_init_40 rfl
  | succ k ih =>
    intro i hi
    have hi1 : i < 20 := by omega
    refine ak_iload_n dX2_init_15 rfl 0 rfl (ak_bipush (v := nI 20) dX2_init_16 (by decide) ?_)
    refine ak_icmp_ge (tgt := 40) dX2_init_18 (by decide) (fun hn => absurd (nI_lt (a := i) (b := 20) hi1 (by decide)) (Int32.not_lt.mpr hn)) (fun _ => ?_)
    refine ak_aload_n dX2_init_21 rfl 1 rfl (ak_get (q0 := 0) (k := 0) (fs := [.ref (b + 1), .int 0]) (v := .ref (b + 1)) dX2_init_22 rfl ckX2 flX2_11 rfl (ak_iload_n dX2_init_25 rfl 0 rfl ?_))
    refine ak_new (fs := kDf 8 15) dX2_init_26 ckX8 cnX2_9 itX8 inX8 (fun j hj => vr_n (f := fun j => defaultValue (GC.2.1 8 j)) hj) (by show _ ≤ 241; omega) (by show 20 + 105 * i + 15 ≤ 2120; omega) (ak_dup dX2_init_29 rfl ?_)
    rw [kX2i_len]
    have hM := mtX8 (l := l) (D := D) (aC := aC) (b := b + (2 + 12 * i)) hN (by omega)
    have hL : b + (kX2i aC b i).length = b + (2 + 12 * i) := by rw [kX2i_len]
    rw [← hL] at hM
    refine ak_call (pre := kX2i aC b i) (ws0 := [.inr (8, kDf 8 15)]) (ws1 := kbX8 aC (b + (kX2i aC b i).length)) (rm := kR 1 11 90) (mc' := 11) (ms' := 90) (As := []) (st := [.ref (b + (2 + 12 * i)), .int (nI i), .ref (b + 1)]) dX2_init_30 mkX8_init rfl rfl rfl (Or.inr ⟨RX9, fun s h => hN.X2_17 s h⟩) miX8_init (hN.st b hb) rfl rfl rfl (Nat.le_of_ble_eq_true rfl) (by decide) ⟨by show 1 + 12 * i + 1 + 11 ≤ 241; omega, by show 20 + 105 * i + 15 + 90 ≤ 2120; omega⟩ hM (by rw [hL]; rfl) ?_
    rw [hL]
    obtain ⟨vs, hvs⟩ := kX2_w (aC := aC) (b := b) (i := i) (e0 := .inr (2, [.ref (b + 1), .int 0])) (e1 := .inl (aC (.object RX8), 20, .inr (.inr (.inr (.inr (kTp b i))))))
    refine ak_aast (q0 := 1) (qk := 2 + 12 * i) (t0 := 3) (ci := 8) (r := (RX8, TX8, 15)) (f := kTp b i) (vs := vs) dX2_init_33 rfl rfl hvs rfl rfl (vp_in_nI hi1 (by decide)) ?_
    rw [kTp_up hi1]
    refine ak_iinc (j := 0) dX2_init_34 rfl rfl (by decide) rfl (ak_goto (tgt := 15) dX2_init_37 (by decide) ?_)
    rw [show nI i + Int32.ofInt 1 = nI (i + 1) from by show Int32.ofNat i + Int32.ofNat 1 = Int32.ofNat (i + 1); rw [← Int32.ofNat_add]]
    exact ak_eq (ih (i + 1) (by omega)) rfl rfl rfl rfl (by omega) (by show 20 + 105 * (i + 1) = 20 + 105 * i + 15 + 90; omega)
theorem mtX2 {l : Launch} {D : va_G} {aC : FieldType → ClassId} {Zs : State → Prop} {adK adV : Nat → Nat} {b b0 : Nat} (hN : kN b0 Zs) (hE : kE adK adV Zs) (hb : b0 ≤ b) : Met l mX2_init.1 (aws mX2_init) (kR 2 241 2120) (PcK D aC Zs b [] [.inr (2, kDf 2 2)]) (QcK D b (kbX2 aC b)) 241 2120 (fun q => b ≤ q) := by
  refine ak_met mkX2_init rfl (by show 1 ≤ 2; decide) ?_
  refine ak_aload_n dX2_init_0 rfl 0 rfl (ak_obj dX2_init_1 olX2 oin oco (by decide) (by decide) ?_)
  refine ak_aload_n dX2_init_4 rfl 0 rfl (ak_bipush (v := 20) dX2_init_5 (by decide) (ak_anew (C := RX8) (N := 20) (t0 := 3) dX2_init_7 cnX2_9 hE.2 rfl (by decide) (by decide) (by decide) (by decide) (by decide) ?_))
  refine ak_putF (q0 := 0) (k := 0) dX2_init_10 rfl ckX2 flX2_11 rfl rfl rfl rfl (by show 0 < 2; decide) ?_
  refine ak_iconst (v := 0) dX2_init_13 (by decide) (ak_istore_n dX2_init_14 rfl (by decide) rfl ?_)
  refine ak_eq (k2_loop hN hE hb 20 0 rfl) rfl rfl rfl ?_ rfl rfl
  show kX2i aC b 0 = [.inr (2, [.ref (b + 1), .int 0]), .inl (aC (.object RX8), 20, .inr (.inr (.inr (.inr (fun _ => none)))))]
  have h0 : kTp b 0 = fun _ => none := by funext j; unfold kTp; rw [if_neg (by omega)]
  unfold kX2i
  rw [h0]; rfl
