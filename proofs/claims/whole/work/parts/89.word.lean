/-! ===== the words that the class keeps ===== -/
def aCw : String := "man   tusk  debt  lean  dies  rate  seed  law   pass  pay   die   not   and   or    sum   age   purse known days  knows day   "
def aCb : List Int32 := [109, 97, 110, 32, 32, 32, 116, 117, 115, 107, 32, 32, 100, 101, 98, 116, 32, 32, 108, 101, 97, 110, 32, 32, 100, 105, 101, 115, 32, 32, 114, 97, 116, 101, 32, 32, 115, 101, 101, 100, 32, 32, 108, 97, 119, 32, 32, 32, 112, 97, 115, 115, 32, 32, 112, 97, 121, 32, 32, 32, 100, 105, 101, 32, 32, 32, 110, 111, 116, 32, 32, 32, 97, 110, 100, 32, 32, 32, 111, 114, 32, 32, 32, 32, 115, 117, 109, 32, 32, 32, 97, 103, 101, 32, 32, 32, 112, 117, 114, 115, 101, 32, 107, 110, 111, 119, 110, 32, 100, 97, 121, 115, 32, 32, 107, 110, 111, 119, 115, 32, 100, 97, 121, 32, 32, 32]
def aET (adK adV : Nat → Nat) : (Nat → Prop) → State → Prop := fun A s => vk_S 1 [126] [aCb] adK adV A s s.heap ∧ vk_R RX7 28 aCw (adK 0) s ∧ aZs A s
def GT (adK adV : Nat → Nat) : aG := (acl, afty, awiC, [], atl, aET adK adV)
theorem stT (adK adV : Nat → Nat) : aSt (GT adK adV) := fun A s U h hW hz hk => ⟨vk_S.kept (vk_S.moved hW.alike h.1) hk, vk_R.warm hW h.2.1, va_Z.kept (va_Z.moved hW.alike h.2.2.1) hk, va_Zq.kept (va_Zq.moved hW.alike h.2.2.2) hk⟩
theorem aStr_T {adK adV : Nat → Nat} : aStr (GT adK adV) (adK 0) (adV 0) 126 (fun j => aCb.getD j 0) := fun A s e => by
  have h0 := e.1.1 0 (by decide)
  exact ⟨h0.1, h0.2.1, h0.2.2.1, h0.2.2.2, e.2.2⟩
def tQ (j : Nat) : Int32 := aCb.getD j 0
theorem tc_c : ∀ j, j < 126 → ((tQ j &&& 255).toUInt32 % 65536).toInt32 = tQ j ∧ narrow .char (.int (tQ j)) = .int (tQ j) := by decide +kernel
def wcS (x : Int32) (j : Nat) : Int32 := (x <<< ((5 : Int32) &&& 31)) ||| (if tQ j = 32 then 0 else tQ j - 97 + 1)
def wcF : Nat → Nat → Int32 → Int32
  | _, 0, x => x
  | j, k + 1, x => wcF (j + 1) k (wcS x j)
theorem wcF_all : ∀ i, i < 21 → wcF (6 * i) 6 0 = nI (wdC i) := by decide +kernel
section WCD
variable {l : Launch} {ad : Nat → Nat} {adK adV : Nat → Nat} {h : aH} {d : Nat}
theorem wc_loop {i : Nat} (hi : i < 21) : ∀ (k j : Nat) (x : Int32), j + k = 6 * i + 6 → AW (GT adK adV) l ad (d + 4) mX7_wordCode 7 [(2, .int (nI j)), (1, .int x), (0, .int (nI i))] [] h (qi (fun v _ => v = wcF j k x)) := by
  intro k
  induction k with
  | zero =>
    intro j x hj
    refine aw_iload_n dX7_wordCode_7 rfl 0 rfl (aw_iload_n dX7_wordCode_8 rfl 2 rfl (aw_iconst (v := 1) dX7_wordCode_9 (by decide) (aw_iadd dX7_wordCode_10 (aw_bipush (v := 6) dX7_wordCode_11 (by decide) (aw_imul dX7_wordCode_13 ?_)))))
    refine aw_icmp_ge (tgt := 60) dX7_wordCode_14 (by decide) (fun _ => ?_) (fun hn => absurd ?_ hn)
    · exact aw_iload_n dX7_wordCode_60 rfl 1 rfl (aw_iret dX7_wordCode_61 rfl ⟨_, rfl, rfl⟩)
    · rw [show (nI i + 1) * 6 = nI j from by rw [show j = (i + 1) * 6 by omega]; show (Int32.ofNat i + Int32.ofNat 1) * Int32.ofNat 6 = Int32.ofNat ((i + 1) * 6); rw [← Int32.ofNat_add, ← Int32.ofNat_mul]]
      exact Int32.le_refl _
  | succ k ih =>
    intro j x hj
    have hj1 : j < 126 := by omega
    refine aw_iload_n dX7_wordCode_7 rfl 0 rfl (aw_iload_n dX7_wordCode_8 rfl 2 rfl (aw_iconst (v := 1) dX7_wordCode_9 (by decide) (aw_iadd dX7_wordCode_10 (aw_bipush (v := 6) dX7_wordCode_11 (by decide) (aw_imul dX7_wordCode_13 ?_)))))
    rw [show (nI i + 1) * 6 = nI ((i + 1) * 6) from by show (Int32.ofNat i + Int32.ofNat 1) * Int32.ofNat 6 = Int32.ofNat ((i + 1) * 6); rw [← Int32.ofNat_add, ← Int32.ofNat_mul]]
    refine aw_icmp_ge (tgt := 60) dX7_wordCode_14 (by decide) (fun hn => absurd (nI_lt (a := j) (b := (i + 1) * 6) (by omega) (by omega)) (Int32.not_lt.mpr hn)) (fun _ => ?_)
    refine aw_iload_n dX7_wordCode_17 rfl 0 rfl (aw_ldcS dX7_wordCode_18 (fun A s e => e.2.1) ?_)
    refine aw_callO (As := []) (st := [.int (nI j)]) dX7_wordCode_20 (stT adK adV) mkJ0_length rfl mlX7_30 miJ0_length mvJ0_length (fun A s e => (aStr_T A s e).1) (Nat.le_of_ble_eq_true rfl) (Nat.le_of_ble_eq_true rfl) rfl (s_length (d := d + 2) (R := fun z h' => z = nI 126 ∧ h' = h) (v := nI 126) (stT adK adV) aStr_T (by decide) ⟨rfl, rfl⟩) (fun r h9 hr => ?_)
    obtain ⟨_, rfl, rfl, rfl⟩ := hr
    refine aw_icmp_ge (tgt := 60) dX7_wordCode_23 (by decide) (fun hn => absurd (nI_lt (a := j) (b := 126) hj1 (by decide)) (Int32.not_lt.mpr hn)) (fun _ => ?_)
    refine aw_ldcS dX7_wordCode_26 (fun A s e => e.2.1) (aw_iload_n dX7_wordCode_28 rfl 0 rfl ?_)
    refine aw_callO (As := [.int (nI j)]) (st := []) dX7_wordCode_29 (stT adK adV) mkJ0_charAt rfl mlX7_36 miJ0_charAt mvJ0_charAt (fun A s e => (aStr_T A s e).1) (Nat.le_of_ble_eq_true rfl) (by decide) rfl (s_charAt (R := fun z h' => z = tQ j ∧ h' = h9) (stT adK adV) aStr_T (nI_pos (by omega)) (nI_lt (b := 126) hj1 (by decide)) (vp_in_nI hj1 (by decide)) (by rw [nI_clamp (by omega)]; exact (tc_c j hj1).1) (tc_c j hj1).2 ⟨rfl, rfl⟩) (fun r h9 hr => ?_)
    obtain ⟨_, rfl, rfl, rfl⟩ := hr
    refine aw_istore_n dX7_wordCode_32 rfl (by decide) rfl ?_
    refine aw_iload_n dX7_wordCode_33 rfl 2 rfl (aw_iconst (v := 5) dX7_wordCode_34 (by decide) (aw_ishl dX7_wordCode_35 (aw_iload_n dX7_wordCode_36 rfl 0 rfl (aw_bipush (v := 32) dX7_wordCode_37 (by decide) ?_))))
    have fin : ∀ y, y = (if tQ j = 32 then 0 else tQ j - 97 + 1) → AW (GT adK adV) l ad (d + 4) mX7_wordCode 52 [(3, .int (tQ j)), (2, .int (nI j)), (1, .int x), (0, .int (nI i))] [.int y, .int (x <<< ((5 : Int32) &&& 31))] h9 (qi (fun v _ => v = wcF j (k + 1) x)) := by
      rintro y rfl
      refine aw_ior dX7_wordCode_52 (aw_istore_n dX7_wordCode_53 rfl (by decide) rfl (aw_iinc dX7_wordCode_54 (j := 2) rfl rfl (by decide) rfl ?_))
      refine aw_goto (tgt := 7) dX7_wordCode_57 (by decide) ?_
      refine aw_ls [0, 1, 3] rfl ?_
      have e1 : nI j + Int32.ofInt 1 = nI (j + 1) := by show Int32.ofNat j + Int32.ofNat 1 = Int32.ofNat (j + 1); rw [← Int32.ofNat_add]
      rw [e1]
      exact ih (j + 1) (wcS x j) (by omega)
    refine aw_icmp_ne (tgt := 46) dX7_wordCode_39 (by decide) (fun hc => ?_) (fun hc => ?_)
    · refine aw_iload_n dX7_wordCode_46 rfl 0 rfl (aw_bipush (v := 97) dX7_wordCode_47 (by decide) (aw_isub dX7_wordCode_49 (aw_iconst (v := 1) dX7_wordCode_50 (by decide) (aw_iadd dX7_wordCode_51 ?_))))
      exact fin _ (by rw [if_neg hc])
    · refine aw_iconst (v := 0) dX7_wordCode_42 (by decide) (aw_goto (tgt := 52) dX7_wordCode_43 (by decide) ?_)
      exact fin _ (by rw [if_pos hc])
theorem wc_ok {i : Nat} (hi : i < 21) : AW (GT adK adV) l ad (d + 4) mX7_wordCode 0 [(0, .int (nI i))] [] h (qi (fun v _ => v = nI (wdC i))) := by
  refine aw_iconst (v := 0) dX7_wordCode_0 (by decide) (aw_istore_n dX7_wordCode_1 rfl (by decide) rfl (aw_iload_n dX7_wordCode_2 rfl 1 rfl (aw_bipush (v := 6) dX7_wordCode_3 (by decide) (aw_imul dX7_wordCode_5 (aw_istore_n dX7_wordCode_6 rfl (by decide) rfl ?_)))))
  rw [show nI i * 6 = nI (6 * i) from by rw [Nat.mul_comm]; show Int32.ofNat i * Int32.ofNat 6 = Int32.ofNat (i * 6); rw [← Int32.ofNat_mul]]
  rw [← wcF_all i hi]
  exact wc_loop hi 6 (6 * i) 0 (by omega)
end WCD
