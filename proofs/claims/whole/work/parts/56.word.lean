/-! ===== the reference's words ===== -/
def tS (j : Nat) : Int32 := aMb.getD j 0
def wo (n : Nat) : Nat := [0, 4, 9, 14, 19, 24, 29, 34, 38, 43, 47, 51, 54, 58, 62, 66, 70, 76, 82, 87, 93, 97].getD n 0
def wl (n : Nat) : Nat := wo (n + 1) - wo n - 1
theorem ts_c : ∀ j, j < 97 → ((tS j &&& 255).toUInt32 % 65536).toInt32 = tS j ∧ narrow .char (.int (tS j)) = .int (tS j) := by decide +kernel
theorem wo_b : ∀ n, n < 21 → wl n ≤ 5 ∧ wo n + wl n < 97 ∧ wo n + wl n + 1 = wo (n + 1) := by decide +kernel
theorem ts_32 : ∀ n, n < 21 → ∀ i, i < 6 → i ≤ wl n → (tS (wo n + i) = 32 ↔ i = wl n) := by decide +kernel
/-- these letters are that word -/
abbrev mtW (g : Nat → Int32) (L n : Nat) : Prop := L = wl n ∧ ∀ j, j < L → g j = tS (wo n + j)
/-- the first word from n on, k words on, that the letters are -/
def wxS (g : Nat → Int32) (L : Nat) : Nat → Nat → Int32
  | _, 0 => -1
  | n, k + 1 => if mtW g L n then nI n else wxS g L (n + 1) k
section WD
variable {adK adV : Nat → Nat} {l : Launch} {ad : Nat → Nat} {d : Nat} {h : aH}
theorem w_ldc {pc : Nat} {ls : List (Nat × Value)} {st : List Value} {Q : Option Value → aH → Prop} {d : Nat} (hd : decode mX10_word.2.1 pc = .ok (.ldc 203, 2)) (k : AW (GM adK adV) l ad d mX10_word (pc + 2) ls (.ref (adK 0) :: st) h Q) : AW (GM adK adV) l ad d mX10_word pc ls st h Q :=
  aw_ldcS hd (fun A s e => e.2.1) k
theorem w_chr {pc j : Nat} {x : Int32} {ls : List (Nat × Value)} {st : List Value} {Q : Option Value → aH → Prop} (hd : decode mX10_word.2.1 pc = .ok (.invokevirtual 210, 3)) (hj : j < 97) (hx : x = nI j) (hro : (st.map fun v => v.category).sum ≤ 8) (k : AW (GM adK adV) l ad (d + 4) mX10_word (pc + 3) ls (.int (tS j) :: st) h Q) : AW (GM adK adV) l ad (d + 4) mX10_word pc ls (.int x :: .ref (adK 0) :: st) h Q := by
  subst hx
  refine aw_callO (As := [.int (nI j)]) (st := st) hd (stM adK adV) mkJ0_charAt rfl mlX10_210 miJ0_charAt mvJ0_charAt (fun A s e => (aStr_M A s e).1) (Nat.le_of_ble_eq_true rfl) hro rfl (s_charAt (R := fun z h' => z = tS j ∧ h' = h) (stM adK adV) aStr_M (nI_pos (by omega)) (nI_lt (b := 97) hj (by decide)) (vp_in_nI hj (by decide)) (by rw [nI_clamp (by omega)]; exact (ts_c j hj).1) (ts_c j hj).2 ⟨rfl, rfl⟩) (fun r h9 hr => ?_)
  obtain ⟨_, rfl, rfl, rfl⟩ := hr
  exact k
theorem w_len {pc : Nat} {ls : List (Nat × Value)} {st : List Value} {Q : Option Value → aH → Prop} (hd : decode mX10_word.2.1 pc = .ok (.invokevirtual 205, 3)) (hro : (st.map fun v => v.category).sum ≤ 8) (k : AW (GM adK adV) l ad (d + 4) mX10_word (pc + 3) ls (.int (nI 97) :: st) h Q) : AW (GM adK adV) l ad (d + 4) mX10_word pc ls (.ref (adK 0) :: st) h Q := by
  refine aw_callO (As := []) (st := st) hd (stM adK adV) mkJ0_length rfl mlX10_205 miJ0_length mvJ0_length (fun A s e => (aStr_M A s e).1) (Nat.le_of_ble_eq_true rfl) hro rfl (s_length (d := d + 2) (R := fun z h' => z = nI 97 ∧ h' = h) (v := nI 97) (stM adK adV) aStr_M (by decide) ⟨rfl, rfl⟩) (fun r h9 hr => ?_)
  obtain ⟨_, rfl, rfl, rfl⟩ := hr
  exact k
theorem m_word {R : Int32 → aH → Prop} {p L : Nat} (hp : p + L ≤ 700) (e25 : h.1 0 25 = nI (p + L)) (e26 : h.1 0 26 = nI p) (H : R (wxS (fun j => h.1 1 (p + j)) L 0 21) h) : AW (GM adK adV) l ad (d + 4) mX10_word 0 [(0, .ref (ad 0))] [] h (qi R) := by
  -- over the rest of a word
  have skip : ∀ n, n < 21 → AW (GM adK adV) l ad (d + 4) mX10_word 4 [(0, .ref (ad 0)), (1, .int (nI (n + 1))), (2, .int (nI (wo (n + 1))))] [] h (qi R) → AW (GM adK adV) l ad (d + 4) mX10_word 97 [(0, .ref (ad 0)), (1, .int (nI n)), (2, .int (nI (wo n)))] [] h (qi R) := by
    intro n hn k
    obtain ⟨b1, b2, b3⟩ := wo_b n hn
    refine up_ind (P := fun i => i ≤ wl n → AW (GM adK adV) l ad (d + 4) mX10_word 97 [(0, .ref (ad 0)), (1, .int (nI n)), (2, .int (nI (wo n + i)))] [] h (qi R)) (wl n) (fun _ => ?_) (fun i hi ih _ => ?_) (Nat.zero_le _)
    · refine w_ldc dX10_word_97 ?_
      refine aw_iload_n dX10_word_99 rfl 2 rfl ?_
      refine w_chr dX10_word_100 b2 rfl (Nat.le_of_ble_eq_true rfl) ?_
      refine aw_bipush (v := 32) dX10_word_103 (by decide) ?_
      refine aw_icmp_eq (tgt := 114) dX10_word_105 (by decide) (fun _ => ?_) (fun z => absurd ((ts_32 n hn _ (by omega) (Nat.le_refl _)).mpr rfl) z)
      refine aw_iinc (j := 2) (v := nI (wo (n + 1))) (ls' := [(2, .int (nI (wo (n + 1)))), (0, .ref (ad 0)), (1, .int (nI n))]) dX10_word_114 rfl (by show nI (wo n + wl n) + 1 = _; rw [nI_1, b3]) (by decide) rfl ?_
      refine aw_iinc (j := 2) (v := nI (n + 1)) (ls' := [(1, .int (nI (n + 1))), (2, .int (nI (wo (n + 1)))), (0, .ref (ad 0))]) dX10_word_117 rfl (nI_1 n) (by decide) rfl ?_
      refine aw_goto (tgt := 4) dX10_word_120 (by decide) ?_
      exact aw_ls [2, 0, 1] rfl k
    · refine w_ldc dX10_word_97 ?_
      refine aw_iload_n dX10_word_99 rfl 2 rfl ?_
      refine w_chr dX10_word_100 (j := wo n + i) (by omega) rfl (Nat.le_of_ble_eq_true rfl) ?_
      refine aw_bipush (v := 32) dX10_word_103 (by decide) ?_
      refine aw_icmp_eq (tgt := 114) dX10_word_105 (by decide) (fun z => absurd ((ts_32 n hn i (by omega) (by omega)).mp z) (by omega)) (fun _ => ?_)
      refine aw_iinc (j := 2) (v := nI (wo n + (i + 1))) (ls' := [(2, .int (nI (wo n + (i + 1)))), (0, .ref (ad 0)), (1, .int (nI n))]) dX10_word_108 rfl (nI_1 (wo n + i)) (by decide) rfl ?_
      refine aw_goto (tgt := 97) dX10_word_111 (by decide) ?_
      exact aw_ls [1, 2, 0] rfl (ih (by omega))
  -- the words one by one
  have main : ∀ k n, n + k = 21 → R (wxS (fun j => h.1 1 (p + j)) L n k) h → AW (GM adK adV) l ad (d + 4) mX10_word 4 [(0, .ref (ad 0)), (1, .int (nI n)), (2, .int (nI (wo n)))] [] h (qi R) := by
    intro k
    induction k with
    | zero =>
      intro n hn H
      have : n = 21 := by omega
      subst this
      refine aw_iload_n dX10_word_4 rfl 2 rfl ?_
      refine w_ldc dX10_word_5 ?_
      refine w_len dX10_word_7 (Nat.le_of_ble_eq_true rfl) ?_
      refine aw_icmp_ge (tgt := 123) dX10_word_10 (by decide) (fun _ => ?_) (fun z => absurd (by decide) z)
      refine aw_iconst (v := -1) dX10_word_123 (by decide) ?_
      exact aw_iret dX10_word_124 rfl ⟨_, rfl, H⟩
    | succ k ih =>
      intro n hn H
      obtain ⟨b1, b2, b3⟩ := wo_b n (by omega)
      refine aw_iload_n dX10_word_4 rfl 2 rfl ?_
      refine w_ldc dX10_word_5 ?_
      refine w_len dX10_word_7 (Nat.le_of_ble_eq_true rfl) ?_
      refine aw_icmp_ge (tgt := 123) dX10_word_10 (by decide) (fun z => absurd z (nI_ge (by omega) (by decide))) (fun _ => ?_)
      refine aw_iconst (v := 0) dX10_word_13 (by decide) ?_
      refine aw_istore_n (ls' := [(3, .int (0 : Int32)), (0, .ref (ad 0)), (1, .int (nI n)), (2, .int (nI (wo n)))]) dX10_word_14 rfl (by decide) rfl ?_
      refine aw_ls (ls' := [(0, .ref (ad 0)), (1, .int (nI n)), (2, .int (nI (wo n))), (3, .int (nI 0))]) [1, 2, 3, 0] rfl ?_
      -- behind the letters compared
      have out : ∀ i, i ≤ L → i ≤ wl n → (∀ j, j < i → h.1 1 (p + j) = tS (wo n + j)) → (i = wl n ∨ i = L ∨ i < L ∧ ¬ h.1 1 (p + i) = tS (wo n + i)) → AW (GM adK adV) l ad (d + 4) mX10_word 69 [(0, .ref (ad 0)), (1, .int (nI n)), (2, .int (nI (wo n))), (3, .int (nI i))] [] h (qi R) := by
        intro i i1 i2 i3 i4
        have go : ¬ (i = wl n ∧ i = L) → AW (GM adK adV) l ad (d + 4) mX10_word 97 [(0, .ref (ad 0)), (1, .int (nI n)), (2, .int (nI (wo n)))] [] h (qi R) := by
          intro hne
          have nm : ¬ mtW (fun j => h.1 1 (p + j)) L n := by
            rintro ⟨m1, m2⟩
            rcases i4 with w | w | ⟨w, w2⟩
            · exact hne ⟨w, by omega⟩
            · exact hne ⟨by omega, w⟩
            · exact w2 (m2 i w)
          have H' : R (wxS (fun j => h.1 1 (p + j)) L (n + 1) k) h := by
            have e : wxS (fun j => h.1 1 (p + j)) L n (k + 1) = wxS (fun j => h.1 1 (p + j)) L (n + 1) k := if_neg nm
            rw [← e]; exact H
          exact skip n (by omega) (ih (n + 1) (by omega) H')
        refine w_ldc dX10_word_69 ?_
        refine aw_iload_n dX10_word_71 rfl 2 rfl ?_
        refine aw_iload_n dX10_word_72 rfl 3 rfl ?_
        refine aw_iadd dX10_word_73 ?_
        refine w_chr dX10_word_74 (j := wo n + i) (by omega) (nI_add _ _) (Nat.le_of_ble_eq_true rfl) ?_
        refine aw_bipush (v := 32) dX10_word_77 (by decide) ?_
        refine aw_icmp_ne (tgt := 97) dX10_word_79 (by decide) (fun z => aw_ls [0, 1, 2] rfl (go (fun w => z ((ts_32 n (by omega) i (by omega) i2).mpr w.1)))) (fun z => ?_)
        refine aw_aload_n dX10_word_82 rfl 0 rfl ?_
        refine aw_get dX10_word_83 shM0 ckX10 flX10_176 (v := .int (h.1 0 26)) rfl ?_
        refine aw_iload_n dX10_word_86 rfl 3 rfl ?_
        refine aw_iadd dX10_word_87 ?_
        refine aw_aload_n dX10_word_88 rfl 0 rfl ?_
        refine aw_get dX10_word_89 shM0 ckX10 flX10_166 (v := .int (h.1 0 25)) rfl ?_
        rw [e25, e26, nI_add]
        refine aw_icmp_ne (tgt := 97) dX10_word_92 (by decide) (fun z2 => aw_ls [0, 1, 2] rfl (go (fun w => z2 (by rw [w.2])))) (fun z2 => ?_)
        have e1 : i = wl n := (ts_32 n (by omega) i (by omega) i2).mp z
        have e2 : i = L := by have := (nI_eq (by omega) (by omega)).mp z2; omega
        have mm : mtW (fun j => h.1 1 (p + j)) L n := ⟨by omega, fun j hj => i3 j (by omega)⟩
        refine aw_iload_n dX10_word_95 rfl 1 rfl ?_
        refine aw_iret dX10_word_96 rfl ⟨_, rfl, ?_⟩
        have e : wxS (fun j => h.1 1 (p + j)) L n (k + 1) = nI n := if_pos mm
        rw [← e]; exact H
      refine up_ind (P := fun i => i ≤ L → i ≤ wl n → (∀ j, j < i → h.1 1 (p + j) = tS (wo n + j)) → AW (GM adK adV) l ad (d + 4) mX10_word 15 [(0, .ref (ad 0)), (1, .int (nI n)), (2, .int (nI (wo n))), (3, .int (nI i))] [] h (qi R)) (wl n + 1) (fun _ w => absurd w (by omega)) (fun i hi ih2 i1 i2 i3 => ?_) (Nat.zero_le _) (Nat.zero_le _) (fun j hj => absurd hj (Nat.not_lt_zero _))
      refine w_ldc dX10_word_15 ?_
      refine aw_iload_n dX10_word_17 rfl 2 rfl ?_
      refine aw_iload_n dX10_word_18 rfl 3 rfl ?_
      refine aw_iadd dX10_word_19 ?_
      refine w_chr dX10_word_20 (j := wo n + i) (by omega) (nI_add _ _) (Nat.le_of_ble_eq_true rfl) ?_
      refine aw_bipush (v := 32) dX10_word_23 (by decide) ?_
      refine aw_icmp_eq (tgt := 69) dX10_word_25 (by decide) (fun z => out i i1 i2 i3 (Or.inl ((ts_32 n (by omega) i (by omega) i2).mp z))) (fun z => ?_)
      have ne : ¬ i = wl n := fun w => z ((ts_32 n (by omega) i (by omega) i2).mpr w)
      refine aw_aload_n dX10_word_28 rfl 0 rfl ?_
      refine aw_get dX10_word_29 shM0 ckX10 flX10_176 (v := .int (h.1 0 26)) rfl ?_
      refine aw_iload_n dX10_word_32 rfl 3 rfl ?_
      refine aw_iadd dX10_word_33 ?_
      refine aw_aload_n dX10_word_34 rfl 0 rfl ?_
      refine aw_get dX10_word_35 shM0 ckX10 flX10_166 (v := .int (h.1 0 25)) rfl ?_
      rw [e25, e26, nI_add]
      refine aw_icmp_ge (tgt := 69) dX10_word_38 (by decide) (fun z2 => out i i1 i2 i3 (Or.inr (Or.inl (by have := (nI_leI (by omega) (by omega)).mp z2; omega)))) (fun z2 => ?_)
      have il : i < L := by
        rcases Nat.lt_or_ge i L with w | w
        · exact w
        · exact absurd (nI_le (show p + L ≤ p + i by omega) (by omega)) z2
      refine aw_aload_n dX10_word_41 rfl 0 rfl ?_
      refine aw_get dX10_word_42 shM0 ckX10 flX10_7 (v := .ref (ad 1)) rfl ?_
      refine aw_aload_n dX10_word_45 rfl 0 rfl ?_
      refine aw_get dX10_word_46 shM0 ckX10 flX10_176 (v := .int (h.1 0 26)) rfl ?_
      refine aw_iload_n dX10_word_49 rfl 3 rfl ?_
      refine aw_iadd dX10_word_50 ?_
      rw [e26, nI_add]
      refine aw_ialdK (t0 := 0) (j := p + i) dX10_word_51 shM1 rfl (nI_clamp (by omega)) (vp_in_nI (by omega) (by decide)) ?_
      refine w_ldc dX10_word_52 ?_
      refine aw_iload_n dX10_word_54 rfl 2 rfl ?_
      refine aw_iload_n dX10_word_55 rfl 3 rfl ?_
      refine aw_iadd dX10_word_56 ?_
      refine w_chr dX10_word_57 (j := wo n + i) (by omega) (nI_add _ _) (Nat.le_of_ble_eq_true rfl) ?_
      refine aw_icmp_ne (tgt := 69) dX10_word_60 (by decide) (fun z3 => out i i1 i2 i3 (Or.inr (Or.inr ⟨il, z3⟩))) (fun z3 => ?_)
      refine aw_iinc (j := 3) (v := nI (i + 1)) (ls' := [(3, .int (nI (i + 1))), (0, .ref (ad 0)), (1, .int (nI n)), (2, .int (nI (wo n)))]) dX10_word_63 rfl (nI_1 i) (by decide) rfl ?_
      refine aw_goto (tgt := 15) dX10_word_66 (by decide) ?_
      refine aw_ls [1, 2, 3, 0] rfl (ih2 il (by omega) (fun j hj => ?_))
      by_cases w : j = i
      · subst w; exact z3
      · exact i3 j (by omega)
  refine aw_iconst (v := 0) dX10_word_0 (by decide) ?_
  refine aw_istore_n (ls' := [(1, .int (0 : Int32)), (0, .ref (ad 0))]) dX10_word_1 rfl (by decide) rfl ?_
  refine aw_iconst (v := 0) dX10_word_2 (by decide) ?_
  refine aw_istore_n (ls' := [(2, .int (0 : Int32)), (1, .int (0 : Int32)), (0, .ref (ad 0))]) dX10_word_3 rfl (by decide) rfl ?_
  exact aw_ls [2, 1, 0] rfl (main 21 0 rfl H)
end WD
