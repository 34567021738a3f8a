/-! ===== String's own code: length, charAt ===== -/
def RJ0 : String := "java/lang/String"
def RJ1 : String := "java/lang/StringLatin1"
def RJ3 : String := "jdk/internal/util/Preconditions"
abbrev cJ0_length : ByteArray := prog_21_method_54_code
def yJ0_length : MethodName := ⟨RJ0, "length", "()I"⟩
abbrev mJ0_length : aM := (yJ0_length, cJ0_length, 1, (some .int))
theorem dJ0_length_0 : decode cJ0_length 0 = .ok (.aload_n 0, 1) := by decide +kernel
theorem dJ0_length_1 : decode cJ0_length 1 = .ok (.getfield 9, 3) := by decide +kernel
theorem dJ0_length_4 : decode cJ0_length 4 = .ok (.arraylength, 1) := by decide +kernel
theorem dJ0_length_5 : decode cJ0_length 5 = .ok (.aload_n 0, 1) := by decide +kernel
theorem dJ0_length_6 : decode cJ0_length 6 = .ok (.invokevirtual 335, 3) := by decide +kernel
theorem dJ0_length_9 : decode cJ0_length 9 = .ok (.ishr, 1) := by decide +kernel
theorem dJ0_length_10 : decode cJ0_length 10 = .ok (.ireturn, 1) := by decide +kernel
theorem mkJ0_length : aMk mJ0_length 0 := ⟨by decide +kernel, aTB_t 51 (by decide +kernel) (by decide +kernel), aTB_t 4 (by decide +kernel) (by decide +kernel), ⟨by decide +kernel, by decide +kernel, by decide +kernel⟩, by decide⟩
theorem miJ0_length : Cond.instanceMethod yJ0_length ∈ aTB := aTB_t 49 (by decide +kernel) (by decide +kernel)
theorem mvJ0_length : Cond.selects RJ0 yJ0_length yJ0_length ∈ aTB := aTB_t 50 (by decide +kernel) (by decide +kernel)
abbrev cJ0_charAt : ByteArray := prog_21_method_56_code
def yJ0_charAt : MethodName := ⟨RJ0, "charAt", "(I)C"⟩
abbrev mJ0_charAt : aM := (yJ0_charAt, cJ0_charAt, 2, (some .char))
theorem dJ0_charAt_0 : decode cJ0_charAt 0 = .ok (.aload_n 0, 1) := by decide +kernel
theorem dJ0_charAt_1 : decode cJ0_charAt 1 = .ok (.invokevirtual 492, 3) := by decide +kernel
theorem dJ0_charAt_4 : decode cJ0_charAt 4 = .ok (.ifCond .eq 12, 3) := by decide +kernel
theorem dJ0_charAt_7 : decode cJ0_charAt 7 = .ok (.aload_n 0, 1) := by decide +kernel
theorem dJ0_charAt_8 : decode cJ0_charAt 8 = .ok (.getfield 9, 3) := by decide +kernel
theorem dJ0_charAt_11 : decode cJ0_charAt 11 = .ok (.iload_n 1, 1) := by decide +kernel
theorem dJ0_charAt_12 : decode cJ0_charAt 12 = .ok (.invokestatic 495, 3) := by decide +kernel
theorem dJ0_charAt_15 : decode cJ0_charAt 15 = .ok (.ireturn, 1) := by decide +kernel
theorem dJ0_charAt_16 : decode cJ0_charAt 16 = .ok (.aload_n 0, 1) := by decide +kernel
theorem dJ0_charAt_17 : decode cJ0_charAt 17 = .ok (.getfield 9, 3) := by decide +kernel
theorem dJ0_charAt_20 : decode cJ0_charAt 20 = .ok (.iload_n 1, 1) := by decide +kernel
theorem dJ0_charAt_21 : decode cJ0_charAt 21 = .ok (.invokestatic 498, 3) := by decide +kernel
theorem dJ0_charAt_24 : decode cJ0_charAt 24 = .ok (.ireturn, 1) := by decide +kernel
theorem mkJ0_charAt : aMk mJ0_charAt 1 := ⟨by decide +kernel, aTB_t 61 (by decide +kernel) (by decide +kernel), aTB_t 4 (by decide +kernel) (by decide +kernel), ⟨by decide +kernel, by decide +kernel, by decide +kernel⟩, by decide⟩
theorem miJ0_charAt : Cond.instanceMethod yJ0_charAt ∈ aTB := aTB_t 59 (by decide +kernel) (by decide +kernel)
theorem mvJ0_charAt : Cond.selects RJ0 yJ0_charAt yJ0_charAt ∈ aTB := aTB_t 60 (by decide +kernel) (by decide +kernel)
abbrev cJ0_coder : ByteArray := prog_21_method_152_code
def yJ0_coder : MethodName := ⟨RJ0, "coder", "()B"⟩
abbrev mJ0_coder : aM := (yJ0_coder, cJ0_coder, 1, (some .byte))
theorem dJ0_coder_0 : decode cJ0_coder 0 = .ok (.getstatic 38, 3) := by decide +kernel
theorem dJ0_coder_3 : decode cJ0_coder 3 = .ok (.ifCond .eq 10, 3) := by decide +kernel
theorem dJ0_coder_6 : decode cJ0_coder 6 = .ok (.aload_n 0, 1) := by decide +kernel
theorem dJ0_coder_7 : decode cJ0_coder 7 = .ok (.getfield 15, 3) := by decide +kernel
theorem dJ0_coder_10 : decode cJ0_coder 10 = .ok (.goto 4, 3) := by decide +kernel
theorem dJ0_coder_13 : decode cJ0_coder 13 = .ok (.iconst 1, 1) := by decide +kernel
theorem dJ0_coder_14 : decode cJ0_coder 14 = .ok (.ireturn, 1) := by decide +kernel
theorem mkJ0_coder : aMk mJ0_coder 0 := ⟨by decide +kernel, aTB_t 55 (by decide +kernel) (by decide +kernel), aTB_t 4 (by decide +kernel) (by decide +kernel), ⟨by decide +kernel, by decide +kernel, by decide +kernel⟩, by decide⟩
theorem miJ0_coder : Cond.instanceMethod yJ0_coder ∈ aTB := aTB_t 53 (by decide +kernel) (by decide +kernel)
theorem mvJ0_coder : Cond.selects RJ0 yJ0_coder yJ0_coder ∈ aTB := aTB_t 54 (by decide +kernel) (by decide +kernel)
abbrev cJ0_isLatin1 : ByteArray := prog_21_method_154_code
def yJ0_isLatin1 : MethodName := ⟨RJ0, "isLatin1", "()Z"⟩
abbrev mJ0_isLatin1 : aM := (yJ0_isLatin1, cJ0_isLatin1, 1, (some .boolean))
theorem dJ0_isLatin1_0 : decode cJ0_isLatin1 0 = .ok (.getstatic 38, 3) := by decide +kernel
theorem dJ0_isLatin1_3 : decode cJ0_isLatin1 3 = .ok (.ifCond .eq 14, 3) := by decide +kernel
theorem dJ0_isLatin1_6 : decode cJ0_isLatin1 6 = .ok (.aload_n 0, 1) := by decide +kernel
theorem dJ0_isLatin1_7 : decode cJ0_isLatin1 7 = .ok (.getfield 15, 3) := by decide +kernel
theorem dJ0_isLatin1_10 : decode cJ0_isLatin1 10 = .ok (.ifCond .ne 7, 3) := by decide +kernel
theorem dJ0_isLatin1_13 : decode cJ0_isLatin1 13 = .ok (.iconst 1, 1) := by decide +kernel
theorem dJ0_isLatin1_14 : decode cJ0_isLatin1 14 = .ok (.goto 4, 3) := by decide +kernel
theorem dJ0_isLatin1_17 : decode cJ0_isLatin1 17 = .ok (.iconst 0, 1) := by decide +kernel
theorem dJ0_isLatin1_18 : decode cJ0_isLatin1 18 = .ok (.ireturn, 1) := by decide +kernel
theorem mkJ0_isLatin1 : aMk mJ0_isLatin1 0 := ⟨by decide +kernel, aTB_t 65 (by decide +kernel) (by decide +kernel), aTB_t 4 (by decide +kernel) (by decide +kernel), ⟨by decide +kernel, by decide +kernel, by decide +kernel⟩, by decide⟩
theorem miJ0_isLatin1 : Cond.instanceMethod yJ0_isLatin1 ∈ aTB := aTB_t 63 (by decide +kernel) (by decide +kernel)
theorem mvJ0_isLatin1 : Cond.selects RJ0 yJ0_isLatin1 yJ0_isLatin1 ∈ aTB := aTB_t 64 (by decide +kernel) (by decide +kernel)
abbrev cJ0_checkIndex : ByteArray := prog_21_method_155_code
def yJ0_checkIndex : MethodName := ⟨RJ0, "checkIndex", "(II)V"⟩
abbrev mJ0_checkIndex : aM := (yJ0_checkIndex, cJ0_checkIndex, 2, none)
theorem dJ0_checkIndex_0 : decode cJ0_checkIndex 0 = .ok (.iload_n 0, 1) := by decide +kernel
theorem dJ0_checkIndex_1 : decode cJ0_checkIndex 1 = .ok (.iload_n 1, 1) := by decide +kernel
theorem dJ0_checkIndex_2 : decode cJ0_checkIndex 2 = .ok (.getstatic 1053, 3) := by decide +kernel
theorem dJ0_checkIndex_5 : decode cJ0_checkIndex 5 = .ok (.invokestatic 1059, 3) := by decide +kernel
theorem dJ0_checkIndex_8 : decode cJ0_checkIndex 8 = .ok (.pop, 1) := by decide +kernel
theorem dJ0_checkIndex_9 : decode cJ0_checkIndex 9 = .ok (.return_, 1) := by decide +kernel
theorem mkJ0_checkIndex : aMk mJ0_checkIndex 2 := ⟨by decide +kernel, aTB_t 71 (by decide +kernel) (by decide +kernel), aTB_t 4 (by decide +kernel) (by decide +kernel), ⟨by decide +kernel, by decide +kernel, by decide +kernel⟩, by decide⟩
theorem msJ0_checkIndex : Cond.static yJ0_checkIndex ∈ aTB := aTB_t 70 (by decide +kernel) (by decide +kernel)
abbrev cJ1_charAt : ByteArray := prog_22_method_2_code
def yJ1_charAt : MethodName := ⟨RJ1, "charAt", "([BI)C"⟩
abbrev mJ1_charAt : aM := (yJ1_charAt, cJ1_charAt, 2, (some .char))
theorem dJ1_charAt_0 : decode cJ1_charAt 0 = .ok (.iload_n 1, 1) := by decide +kernel
theorem dJ1_charAt_1 : decode cJ1_charAt 1 = .ok (.aload_n 0, 1) := by decide +kernel
theorem dJ1_charAt_2 : decode cJ1_charAt 2 = .ok (.arraylength, 1) := by decide +kernel
theorem dJ1_charAt_3 : decode cJ1_charAt 3 = .ok (.invokestatic 9, 3) := by decide +kernel
theorem dJ1_charAt_6 : decode cJ1_charAt 6 = .ok (.aload_n 0, 1) := by decide +kernel
theorem dJ1_charAt_7 : decode cJ1_charAt 7 = .ok (.iload_n 1, 1) := by decide +kernel
theorem dJ1_charAt_8 : decode cJ1_charAt 8 = .ok (.baload, 1) := by decide +kernel
theorem dJ1_charAt_9 : decode cJ1_charAt 9 = .ok (.sipush 255, 3) := by decide +kernel
theorem dJ1_charAt_12 : decode cJ1_charAt 12 = .ok (.iand, 1) := by decide +kernel
theorem dJ1_charAt_13 : decode cJ1_charAt 13 = .ok (.i2c, 1) := by decide +kernel
theorem dJ1_charAt_14 : decode cJ1_charAt 14 = .ok (.ireturn, 1) := by decide +kernel
theorem mkJ1_charAt : aMk mJ1_charAt 2 := ⟨by decide +kernel, aTB_t 68 (by decide +kernel) (by decide +kernel), aTB_t 5 (by decide +kernel) (by decide +kernel), ⟨by decide +kernel, by decide +kernel, by decide +kernel⟩, by decide⟩
theorem msJ1_charAt : Cond.static yJ1_charAt ∈ aTB := aTB_t 67 (by decide +kernel) (by decide +kernel)
abbrev cJ3_checkIndex : ByteArray := prog_29_method_11_code
def yJ3_checkIndex : MethodName := ⟨RJ3, "checkIndex", "(IILjava/util/function/BiFunction;)I"⟩
abbrev mJ3_checkIndex : aM := (yJ3_checkIndex, cJ3_checkIndex, 3, (some .int))
theorem dJ3_checkIndex_0 : decode cJ3_checkIndex 0 = .ok (.iload_n 0, 1) := by decide +kernel
theorem dJ3_checkIndex_1 : decode cJ3_checkIndex 1 = .ok (.ifCond .lt 8, 3) := by decide +kernel
theorem dJ3_checkIndex_4 : decode cJ3_checkIndex 4 = .ok (.iload_n 0, 1) := by decide +kernel
theorem dJ3_checkIndex_5 : decode cJ3_checkIndex 5 = .ok (.iload_n 1, 1) := by decide +kernel
theorem dJ3_checkIndex_6 : decode cJ3_checkIndex 6 = .ok (.if_icmp .lt 10, 3) := by decide +kernel
theorem dJ3_checkIndex_9 : decode cJ3_checkIndex 9 = .ok (.aload_n 2, 1) := by decide +kernel
theorem dJ3_checkIndex_10 : decode cJ3_checkIndex 10 = .ok (.iload_n 0, 1) := by decide +kernel
theorem dJ3_checkIndex_11 : decode cJ3_checkIndex 11 = .ok (.iload_n 1, 1) := by decide +kernel
theorem dJ3_checkIndex_12 : decode cJ3_checkIndex 12 = .ok (.invokestatic 95, 3) := by decide +kernel
theorem dJ3_checkIndex_15 : decode cJ3_checkIndex 15 = .ok (.athrow, 1) := by decide +kernel
theorem dJ3_checkIndex_16 : decode cJ3_checkIndex 16 = .ok (.iload_n 0, 1) := by decide +kernel
theorem dJ3_checkIndex_17 : decode cJ3_checkIndex 17 = .ok (.ireturn, 1) := by decide +kernel
theorem mkJ3_checkIndex : aMk mJ3_checkIndex 3 := ⟨by decide +kernel, aTB_t 76 (by decide +kernel) (by decide +kernel), aTB_t 6 (by decide +kernel) (by decide +kernel), ⟨by decide +kernel, by decide +kernel, by decide +kernel⟩, by decide⟩
theorem msJ3_checkIndex : Cond.static yJ3_checkIndex ∈ aTB := aTB_t 75 (by decide +kernel) (by decide +kernel)
theorem mlX10_205 : Cond.methodLink RX10 205 yJ0_length ∈ aTB := aTB_t 1497 (by decide +kernel) (by decide +kernel)
theorem mlX10_210 : Cond.methodLink RX10 210 yJ0_charAt ∈ aTB := aTB_t 1498 (by decide +kernel) (by decide +kernel)
theorem mlX7_30 : Cond.methodLink RX7 30 yJ0_length ∈ aTB := aTB_t 48 (by decide +kernel) (by decide +kernel)
theorem mlX7_36 : Cond.methodLink RX7 36 yJ0_charAt ∈ aTB := aTB_t 58 (by decide +kernel) (by decide +kernel)
theorem mlJ0_335 : Cond.methodLink RJ0 335 yJ0_coder ∈ aTB := aTB_t 52 (by decide +kernel) (by decide +kernel)
theorem mlJ0_492 : Cond.methodLink RJ0 492 yJ0_isLatin1 ∈ aTB := aTB_t 62 (by decide +kernel) (by decide +kernel)
theorem mlJ0_495 : Cond.methodLink RJ0 495 yJ1_charAt ∈ aTB := aTB_t 66 (by decide +kernel) (by decide +kernel)
theorem mlJ1_9 : Cond.methodLink RJ1 9 yJ0_checkIndex ∈ aTB := aTB_t 69 (by decide +kernel) (by decide +kernel)
theorem mlJ0_1059 : Cond.methodLink RJ0 1059 yJ3_checkIndex ∈ aTB := aTB_t 74 (by decide +kernel) (by decide +kernel)
theorem flJ0_38 : Cond.fieldLink RJ0 38 "java/lang/String" "COMPACT_STRINGS" "Z" ∈ aTB := aTB_t 56 (by decide +kernel) (by decide +kernel)
theorem flJ0_1053 : Cond.fieldLink RJ0 1053 "jdk/internal/util/Preconditions" "SIOOBE_FORMATTER" "Ljava/util/function/BiFunction;" ∈ aTB := aTB_t 72 (by decide +kernel) (by decide +kernel)
theorem flJ0_9 : Cond.fieldLink RJ0 9 "java/lang/String" "value" "[B" ∈ aTB := aTB_t 1953 (by decide +kernel) (by decide +kernel)
theorem flJ0_15 : Cond.fieldLink RJ0 15 "java/lang/String" "coder" "B" ∈ aTB := aTB_t 1954 (by decide +kernel) (by decide +kernel)
section AWS
variable {G : aG} {l : Launch} {ad : Nat → Nat} {d : Nat} {M : aM} {pc : Nat} {ls : List (Nat × Value)} {st : List Value} {h : aH} {Q : Option Value → aH → Prop}
theorem aw_ldcS {i q : Nat} {tx : String} (hd : decode M.2.1 pc = .ok (.ldc i, 2)) (hE : ∀ A s, G.2.2.2.2.2 A s → vk_R M.1.cls i tx q s) (k : AW G l ad d M (pc + 2) ls (.ref q :: st) h Q) : AW G l ad d M pc ls st h Q :=
  fun p e s m args below meth c0 H locs A D aC la X hP hD hS hZ hl => va_ldcS X.1 X.2.1 X.2.2.2.2.2.1 (hE A s hZ) hd (k p e s m args below meth c0 H locs A D aC la X hP hD hS hZ hl)
theorem aw_gets {ix : Nat} {C n dd : String} {v : Value} (hd : decode M.2.1 pc = .ok (.getstatic ix, 3)) (hE : ∀ A s, G.2.2.2.2.2 A s → va_Z C n dd v A s s.heap) (hL : Cond.fieldLink M.1.cls ix C n dd ∈ aTB) (k : AW G l ad d M (pc + 3) ls (v :: st) h Q) : AW G l ad d M pc ls st h Q :=
  fun p e s m args below meth c0 H locs A D aC la X hP hD hS hZ hl => va_gets X.1 X.2.1 (hE A s hZ) hS X.2.2.2.2.2.1 (X.2.2.2.2.2.2.1 _ hL) (fun _ h9 => h9) hd (k p e s m args below meth c0 H locs A D aC la X hP hD hS hZ hl)
theorem aw_getsq {ix : Nat} {C n dd : String} (hd : decode M.2.1 pc = .ok (.getstatic ix, 3)) (hE : ∀ A s, G.2.2.2.2.2 A s → va_Zq C n dd A s s.heap) (hL : Cond.fieldLink M.1.cls ix C n dd ∈ aTB) (k0 : AW G l ad d M (pc + 3) ls (.null :: st) h Q) (k1 : ∀ t : Nat, AW G l ad d M (pc + 3) ls (.ref t :: st) h Q) : AW G l ad d M pc ls st h Q := by
  intro p e s m args below meth c0 H locs A D aC la X hP hD hS hZ hl
  rcases hE A s hZ with w | ⟨t, w⟩
  · exact va_gets X.1 X.2.1 w hS X.2.2.2.2.2.1 (X.2.2.2.2.2.2.1 _ hL) (fun _ h9 => h9) hd (k0 p e s m args below meth c0 H locs A D aC la X hP hD hS hZ hl)
  · exact va_gets X.1 X.2.1 w hS X.2.2.2.2.2.1 (X.2.2.2.2.2.2.1 _ hL) (fun _ h9 => h9) hd (k1 t p e s m args below meth c0 H locs A D aC la X hP hD hS hZ hl)
theorem aw_getO {ix q : Nat} {C n dd : String} {v : Value} (hd : decode M.2.1 pc = .ok (.getfield ix, 3)) (hE : ∀ A s, G.2.2.2.2.2 A s → va_OF C n dd v q A s s.heap) (hL : Cond.fieldLink M.1.cls ix C n dd ∈ aTB) (k : AW G l ad d M (pc + 3) ls (v :: st) h Q) : AW G l ad d M pc ls (.ref q :: st) h Q :=
  fun p e s m args below meth c0 H locs A D aC la X hP hD hS hZ hl => vk_getf X.1 X.2.1 (hE A s hZ) hS X.2.2.2.2.2.1 (X.2.2.2.2.2.2.1 _ hL) (fun _ h9 => h9) hd (k p e s m args below meth c0 H locs A D aC la X hP hD hS hZ hl)
theorem aw_tlen {q n : Nat} {ty : FieldType} {f : Nat → Value} (hd : decode M.2.1 pc = .ok (.arraylength, 1)) (hE : ∀ A s, G.2.2.2.2.2 A s → va_T ty q n f A s s.heap) (k : AW G l ad d M (pc + 1) ls (.int (Int32.ofNat n) :: st) h Q) : AW G l ad d M pc ls (.ref q :: st) h Q :=
  fun p e s m args below meth c0 H locs A D aC la X hP hD hS hZ hl => va_tlen X.1 X.2.1 (hE A s hZ) hS rfl hd (k p e s m args below meth c0 H locs A D aC la X hP hD hS hZ hl)
theorem aw_tb {q n : Nat} {f : Nat → Value} {i : Int32} {v : Value} (hd : decode M.2.1 pc = .ok (.baload, 1)) (hE : ∀ A s, G.2.2.2.2.2 A s → va_T .byte q n f A s s.heap) (hin : vp_in i n) (hv : f i.toNatClampNeg = v) (k : AW G l ad d M (pc + 1) ls (v :: st) h Q) : AW G l ad d M pc ls (.int i :: .ref q :: st) h Q :=
  fun p e s m args below meth c0 H locs A D aC la X hP hD hS hZ hl => va_tb X.1 X.2.1 (hE A s hZ) hS hin hv hd (k p e s m args below meth c0 H locs A D aC la X hP hD hS hZ hl)
theorem aw_i2c {x v : Int32} (hd : decode M.2.1 pc = .ok (.i2c, 1)) (hv : (x.toUInt32 % 65536).toInt32 = v) (k : AW G l ad d M (pc + 1) ls (.int v :: st) h Q) : AW G l ad d M pc ls (.int x :: st) h Q :=
  AW.lift k (fun p e s m args below meth c H locs D aC la Z X hl kk => lv_i2c X.1 X.2.1 hd hv (kk la hl))
theorem aw_nret {v : Int32} {ty : FieldType} (hd : decode M.2.1 pc = .ok (.ireturn, 1)) (hr : M.2.2.2 = some ty) (hn : narrow ty (.int v) = .int v) (hq : Q (some (.int v)) h) : AW G l ad d M pc ls [.int v] h Q := by
  intro p e s m args below meth c0 H locs A D aC la X hP hD hS hZ hl
  exact W.zret (v := v) X.1 X.2.1 (X.2.2.1.trans hr) hn (fun t ht hW => ⟨⟨_, h, rfl, hq, by rw [ht]; exact hP⟩, hS.F ht⟩) hS.2.2 hd X.2.2.2.1
/-- a call of a method of an object that stands outside of the picture -/
theorem aw_callO {n ix a : Nat} {As : List Value} {N : aM} {R : Option Value → aH → Prop} (hd : decode M.2.1 pc = .ok (.invokevirtual ix, 3)) (hst : aSt G) (K : aMk N n) (hn : As.length = n) (hlk : Cond.methodLink M.1.cls ix N.1 ∈ aTB) (hin : Cond.instanceMethod N.1 ∈ aTB) (hse : Cond.selects N.1.cls N.1 N.1 ∈ aTB) (hE : ∀ A s, G.2.2.2.2.2 A s → va_O N.1.cls a A s s.heap) (hlen : (lg_sl (.ref a :: As)).length ≤ N.2.2.1) (hro : (st.map fun v => v.category).sum ≤ 8) {st0 : List Value} (hst0 : st0 = As.reverse ++ .ref a :: st)
    (k : AW G l ad d N 0 (lv_args 0 (.ref a :: As)) [] h R) (kk : ∀ r h1, R r h1 → AW G l ad (d + 1) M (pc + 3) ls (r.toList ++ st) h1 Q) : AW G l ad (d + 1) M pc ls st0 h Q := by
  intro p e s m args below meth c0 H locs A D aC la X hP hD hS hZ hl
  have hM := aw_met (As := .ref a :: As) K hlen k A D aC
  have hts := X.2.2.2.2.2.2.1
  have hcb : CallB (aR (d + 1)) s args M.1.cls ix N.1 N.2.1 N.2.2.1 N.2.2.2 (aws N) (aR d) 0 0 n := callB_of n hts (aws_good K) rfl rfl rfl (hts _ K.2.2.1) (hts _ hlk) K.2.2.2.1 (aw_room K)
  obtain ⟨cell, r1, r2, r3, -⟩ := (hE A s hZ).kept hS.2.1
  refine aw_run (rest := st) (va_runV (C := N.1.cls) (As := As) (rest := st) ⟨X.1, X.2.1, X.2.2.2.2.1, X.2.2.2.2.2.1, hts⟩ hM ⟨hcb, hts _ hin, hts _ hse⟩ ⟨aw_blind hst, ⟨cell, r1, r2, r3⟩, aw_pre hst X hP hD hS hZ⟩ rfl hn hl.1 hst0 (lv_room hro) hd ⟨Nat.le_refl _, Nat.le_refl _⟩) hS (fun r h1 H1 locs1 hR hP1 hS1 => ?_)
  exact kk r h1 hR p e s m args below meth c0 H1 locs1 A D aC la X hP1 (awl_D hD) hS1 hZ hl
/-- a text of a side: its object, its bytes -/
def aStr (G : aG) (a b n : Nat) (f : Nat → Int32) : Prop := ∀ A s, G.2.2.2.2.2 A s → va_O "java/lang/String" a A s s.heap ∧ va_OF "java/lang/String" "coder" "B" (.int 0) a A s s.heap ∧ va_OF "java/lang/String" "value" "[B" (.ref b) a A s s.heap ∧ va_T .byte b n (fun j => .int (f j)) A s s.heap ∧ aZs A s
variable {a b n : Nat} {f : Nat → Int32}
theorem s_coder {R : Int32 → aH → Prop} (S : aStr G a b n f) (H : R 0 h) : AW G l ad d mJ0_coder 0 [(0, .ref a)] [] h (qi R) := by
  refine aw_gets dJ0_coder_0 (fun A s e => (S A s e).2.2.2.2.1) flJ0_38 ?_
  refine aw_if_eq (tgt := 13) dJ0_coder_3 (by decide) (fun z => absurd z (by decide)) (fun _ => ?_)
  refine aw_aload_n dJ0_coder_6 rfl 0 rfl ?_
  refine aw_getO dJ0_coder_7 (fun A s e => (S A s e).2.1) flJ0_15 ?_
  refine aw_goto (tgt := 14) dJ0_coder_10 (by decide) ?_
  exact aw_nret dJ0_coder_14 rfl (by decide) ⟨_, rfl, H⟩
theorem s_isLatin1 {R : Int32 → aH → Prop} (S : aStr G a b n f) (H : R 1 h) : AW G l ad d mJ0_isLatin1 0 [(0, .ref a)] [] h (qi R) := by
  refine aw_gets dJ0_isLatin1_0 (fun A s e => (S A s e).2.2.2.2.1) flJ0_38 ?_
  refine aw_if_eq (tgt := 17) dJ0_isLatin1_3 (by decide) (fun z => absurd z (by decide)) (fun _ => ?_)
  refine aw_aload_n dJ0_isLatin1_6 rfl 0 rfl ?_
  refine aw_getO dJ0_isLatin1_7 (fun A s e => (S A s e).2.1) flJ0_15 ?_
  refine aw_if_ne (tgt := 17) dJ0_isLatin1_10 (by decide) (fun z => absurd rfl z) (fun _ => ?_)
  refine aw_iconst (v := 1) dJ0_isLatin1_13 (by decide) ?_
  refine aw_goto (tgt := 18) dJ0_isLatin1_14 (by decide) ?_
  exact aw_nret dJ0_isLatin1_18 rfl (by decide) ⟨_, rfl, H⟩
theorem s_length {R : Int32 → aH → Prop} {v : Int32} (hst : aSt G) (S : aStr G a b n f) (hv : Int32.ofNat n >>> ((0 : Int32) &&& 31) = v) (H : R v h) : AW G l ad (d + 1) mJ0_length 0 [(0, .ref a)] [] h (qi R) := by
  refine aw_aload_n dJ0_length_0 rfl 0 rfl ?_
  refine aw_getO dJ0_length_1 (fun A s e => (S A s e).2.2.1) flJ0_9 ?_
  refine aw_tlen dJ0_length_4 (fun A s e => (S A s e).2.2.2.1) ?_
  refine aw_aload_n dJ0_length_5 rfl 0 rfl ?_
  refine aw_callO (As := []) (st := [.int (Int32.ofNat n)]) dJ0_length_6 hst mkJ0_coder rfl mlJ0_335 miJ0_coder mvJ0_coder (fun A s e => (S A s e).1) (Nat.le_of_ble_eq_true rfl) (Nat.le_of_ble_eq_true rfl) rfl (s_coder (R := fun z h' => z = 0 ∧ h' = h) S ⟨rfl, rfl⟩) (fun r h1 hr => ?_)
  obtain ⟨_, rfl, rfl, rfl⟩ := hr
  refine aw_ishr dJ0_length_9 ?_
  rw [hv]
  exact aw_iret dJ0_length_10 rfl ⟨_, rfl, H⟩
theorem s_ck3 {R : Int32 → aH → Prop} {x y : Int32} {v : Value} (h1 : ¬ x < 0) (h2 : x < y) (H : R x h) : AW G l ad d mJ3_checkIndex 0 [(0, .int x), (1, .int y), (2, v)] [] h (qi R) := by
  refine aw_iload_n dJ3_checkIndex_0 rfl 0 rfl ?_
  refine aw_if_lt (tgt := 9) dJ3_checkIndex_1 (by decide) (fun z => absurd z h1) (fun _ => ?_)
  refine aw_iload_n dJ3_checkIndex_4 rfl 0 rfl ?_
  refine aw_iload_n dJ3_checkIndex_5 rfl 1 rfl ?_
  refine aw_icmp_lt (tgt := 16) dJ3_checkIndex_6 (by decide) (fun _ => ?_) (fun z => absurd h2 z)
  refine aw_iload_n dJ3_checkIndex_16 rfl 0 rfl ?_
  exact aw_iret dJ3_checkIndex_17 rfl ⟨_, rfl, H⟩
theorem s_ck0 {R : aH → Prop} {x y : Int32} (hst : aSt G) (S : aStr G a b n f) (h1 : ¬ x < 0) (h2 : x < y) (H : R h) : AW G l ad (d + 1) mJ0_checkIndex 0 [(0, .int x), (1, .int y)] [] h (qv R) := by
  refine aw_iload_n dJ0_checkIndex_0 rfl 0 rfl ?_
  refine aw_iload_n dJ0_checkIndex_1 rfl 1 rfl ?_
  refine aw_getsq dJ0_checkIndex_2 (fun A s e => (S A s e).2.2.2.2.2) flJ0_1053 ?_ (fun t => ?_)
  · refine aw_callS (As := [.int x, .int y, .null]) (st := []) dJ0_checkIndex_5 hst mkJ3_checkIndex rfl mlJ0_1059 msJ3_checkIndex (Nat.le_of_ble_eq_true rfl) (Nat.le_of_ble_eq_true rfl) rfl (s_ck3 (R := fun z h' => z = x ∧ h' = h) h1 h2 ⟨rfl, rfl⟩) (fun r h9 hr => ?_)
    obtain ⟨_, rfl, rfl, rfl⟩ := hr
    refine aw_pop dJ0_checkIndex_8 rfl ?_
    exact aw_vret dJ0_checkIndex_9 rfl ⟨rfl, H⟩
  · refine aw_callS (As := [.int x, .int y, .ref t]) (st := []) dJ0_checkIndex_5 hst mkJ3_checkIndex rfl mlJ0_1059 msJ3_checkIndex (Nat.le_of_ble_eq_true rfl) (Nat.le_of_ble_eq_true rfl) rfl (s_ck3 (R := fun z h' => z = x ∧ h' = h) h1 h2 ⟨rfl, rfl⟩) (fun r h9 hr => ?_)
    obtain ⟨_, rfl, rfl, rfl⟩ := hr
    refine aw_pop dJ0_checkIndex_8 rfl ?_
    exact aw_vret dJ0_checkIndex_9 rfl ⟨rfl, H⟩
theorem s_char1 {R : Int32 → aH → Prop} {x v : Int32} (hst : aSt G) (S : aStr G a b n f) (h1 : ¬ x < 0) (h2 : x < Int32.ofNat n) (h3 : vp_in x n) (hv : ((f x.toNatClampNeg &&& 255).toUInt32 % 65536).toInt32 = v) (hn : narrow .char (.int v) = .int v) (H : R v h) : AW G l ad (d + 2) mJ1_charAt 0 [(0, .ref b), (1, .int x)] [] h (qi R) := by
  refine aw_iload_n dJ1_charAt_0 rfl 1 rfl ?_
  refine aw_aload_n dJ1_charAt_1 rfl 0 rfl ?_
  refine aw_tlen dJ1_charAt_2 (fun A s e => (S A s e).2.2.2.1) ?_
  refine aw_callS (As := [.int x, .int (Int32.ofNat n)]) (st := []) dJ1_charAt_3 hst mkJ0_checkIndex rfl mlJ1_9 msJ0_checkIndex (Nat.le_of_ble_eq_true rfl) (Nat.le_of_ble_eq_true rfl) rfl (s_ck0 (R := fun h' => h' = h) hst S h1 h2 rfl) (fun r h9 hr => ?_)
  obtain ⟨rfl, rfl⟩ := hr
  refine aw_aload_n dJ1_charAt_6 rfl 0 rfl ?_
  refine aw_iload_n dJ1_charAt_7 rfl 1 rfl ?_
  refine aw_tb dJ1_charAt_8 (fun A s e => (S A s e).2.2.2.1) h3 rfl ?_
  refine aw_sipush (v := 255) dJ1_charAt_9 (by decide) ?_
  refine aw_iand dJ1_charAt_12 ?_
  refine aw_i2c dJ1_charAt_13 hv ?_
  exact aw_nret dJ1_charAt_14 rfl hn ⟨_, rfl, H⟩
theorem s_charAt {R : Int32 → aH → Prop} {x v : Int32} (hst : aSt G) (S : aStr G a b n f) (h1 : ¬ x < 0) (h2 : x < Int32.ofNat n) (h3 : vp_in x n) (hv : ((f x.toNatClampNeg &&& 255).toUInt32 % 65536).toInt32 = v) (hn : narrow .char (.int v) = .int v) (H : R v h) : AW G l ad (d + 3) mJ0_charAt 0 [(0, .ref a), (1, .int x)] [] h (qi R) := by
  refine aw_aload_n dJ0_charAt_0 rfl 0 rfl ?_
  refine aw_callO (As := []) (st := []) dJ0_charAt_1 hst mkJ0_isLatin1 rfl mlJ0_492 miJ0_isLatin1 mvJ0_isLatin1 (fun A s e => (S A s e).1) (Nat.le_of_ble_eq_true rfl) (Nat.le_of_ble_eq_true rfl) rfl (s_isLatin1 (R := fun z h' => z = 1 ∧ h' = h) S ⟨rfl, rfl⟩) (fun r h9 hr => ?_)
  obtain ⟨_, rfl, rfl, rfl⟩ := hr
  refine aw_if_eq (tgt := 16) dJ0_charAt_4 (by decide) (fun z => absurd z (by decide)) (fun _ => ?_)
  refine aw_aload_n dJ0_charAt_7 rfl 0 rfl ?_
  refine aw_getO dJ0_charAt_8 (fun A s e => (S A s e).2.2.1) flJ0_9 ?_
  refine aw_iload_n dJ0_charAt_11 rfl 1 rfl ?_
  refine aw_callS (As := [.ref b, .int x]) (st := []) dJ0_charAt_12 hst mkJ1_charAt rfl mlJ0_495 msJ1_charAt (Nat.le_of_ble_eq_true rfl) (Nat.le_of_ble_eq_true rfl) rfl (s_char1 (R := fun z h' => z = v ∧ h' = h9) hst S h1 h2 h3 hv hn ⟨rfl, rfl⟩) (fun r h8 hr => ?_)
  obtain ⟨_, rfl, rfl, rfl⟩ := hr
  exact aw_nret dJ0_charAt_15 rfl hn ⟨_, rfl, H⟩
end AWS
theorem aStr_M {adK adV : Nat → Nat} : aStr (GM adK adV) (adK 0) (adV 0) 97 (fun j => aMb.getD j 0) := fun A s e => by
  have h0 := e.1.1 0 (by decide)
  exact ⟨h0.1, h0.2.1, h0.2.2.1, h0.2.2.2, e.2.2⟩
