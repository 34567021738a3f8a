/-! ===== the law's loop ===== -/
section LLP
variable {p : Program} {l : Launch} {e : Env} {s : State} {m : MethodId} {below : List Frame} {meth : Method} {c : Code} {b L : Nat} {xs : Nat → Int32} {D : va_G} {aC : FieldType → ClassId} {adK adV : Nat → Nat} {hC hM : aH} {J : Int64} {cells slots i : Nat}
/-- what is asked of the case of debt -/
def DbOk (p : Program) (l : Launch) (e : Env) (s : State) (m : MethodId) (below : List Frame) (meth : Method) (c : Code) (b L : Nat) (D : va_G) (aC : FieldType → ClassId) (adK adV : Nat → Nat) : Prop :=
  ∀ (i : Nat) (hC hM : aH) (J : Int64) (cells slots : Nat), i + 6 ≤ L → GR hC hM → cells + 1000 ≤ 601024 → slots + 14000 ≤ 7293033 → (∀ hC' hM' J', GR hC' hM' → AL p l e s m below meth c b D aC adK adV 1379 (lsL s b i) [] hC' hM' J' (cells + 1000) (slots + 14000)) → AL p l e s m below meth c b D aC adK adV 352 (lsL s b i) [] hC hM J cells slots
theorem al_widen {pc cells' slots' : Nat} {ls : List (Nat × Value)} {st : List Value} (h1 : cells ≤ cells') (h2 : slots ≤ slots') (k : AL p l e s m below meth c b D aC adK adV pc ls st hC hM J cells' slots') : AL p l e s m below meth c b D aC adK adV pc ls st hC hM J cells slots :=
  fun H locs la a1 a2 a3 hS hl => W.widen h1 h2 (k H locs la a1 a2 a3 hS hl)
theorem al_switch (X : LC p s m meth c b L xs D aC adK adV) (hi : i + 6 ≤ L) (g : GR hC hM) (h4 : DbOk p l e s m below meth c b L D aC adK adV) (hc1 : cells + 1000 ≤ 601024) (hc2 : slots + 14000 ≤ 7293033) (x : Int32) (hk : ∀ hC' hM' J', GR hC' hM' → AL p l e s m below meth c b D aC adK adV 1379 (lsL s b i) [] hC' hM' J' (cells + 1000) (slots + 14000)) : AL p l e s m below meth c b D aC adK adV 40 (lsL s b i) [.int x] hC hM J cells slots := by
  have hcl : cells ≤ 601024 ∧ slots ≤ 7293033 := ⟨by omega, by omega⟩
  have hk' : ∀ hC' hM', GR hC' hM' → AL p l e s m below meth c b D aC adK adV 1379 (lsL s b i) [] hC' hM' J cells slots := fun hC' hM' g' => al_widen (by omega) (by omega) (hk hC' hM' J g')
  by_cases hx : x.toInt < 0 ∨ 33 < x.toInt
  · exact AL.lift (hk' _ _ g) (fun H locs la Z hS hl kk => lv_tableOut X.1.1 X.1.2.1 dL_law_40 hx (by decide) (kk la hl))
  · have h1 : ¬ x.toInt < 0 := fun h => hx (Or.inl h)
    have h2 : ¬ 33 < x.toInt := fun h => hx (Or.inr h)
    have sw : ∀ (k : Nat) (off : Int) (t : Nat), x.toInt = (k : Int) → (#[152, 225, 250, 275, 312, 380, 417, 454, 504, 565, 602, 627, 664, 689, 738, 763, 776, 813, 838, 875, 924, 974, 999, 1012, 1037, 1102, 1127, 1152, 1177, 1226, 1275, 1288, 1301, 1314] : Array Int)[k]? = some off → (40 : Int) + off = (t : Int) → AL p l e s m below meth c b D aC adK adV t (lsL s b i) [] hC hM J cells slots → AL p l e s m below meth c b D aC adK adV 40 (lsL s b i) [.int x] hC hM J cells slots := by
      intro k off t e1 e2 e3 kt
      exact AL.lift kt (fun H locs la Z hS hl kk => lv_tableIn X.1.1 X.1.2.1 dL_law_40 h1 h2 (by rw [e1]; exact e2) e3 (kk la hl))
    obtain ⟨k, hk1⟩ : ∃ k : Nat, x.toInt = (k : Int) := ⟨x.toInt.toNat, by omega⟩
    have hk2 : k < 34 := by omega
    match k, hk1, hk2 with
    | 0, e1, _ => exact sw 0 152 192 e1 (by decide +kernel) (by decide) (cs_0 X hi g hcl hk')
    | 1, e1, _ => exact sw 1 225 265 e1 (by decide +kernel) (by decide) (cs_1 X hi g hcl hk')
    | 2, e1, _ => exact sw 2 250 290 e1 (by decide +kernel) (by decide) (cs_2 X hi g hcl hk')
    | 3, e1, _ => exact sw 3 275 315 e1 (by decide +kernel) (by decide) (cs_3 X hi g hcl hk')
    | 4, e1, _ => exact sw 4 312 352 e1 (by decide +kernel) (by decide) (h4 i hC hM J cells slots hi g hc1 hc2 hk)
    | 5, e1, _ => exact sw 5 380 420 e1 (by decide +kernel) (by decide) (cs_5 X hi g hcl hk')
    | 6, e1, _ => exact sw 6 417 457 e1 (by decide +kernel) (by decide) (cs_6 X hi g hcl hk')
    | 7, e1, _ => exact sw 7 454 494 e1 (by decide +kernel) (by decide) (cs_7 X hi g hcl hk')
    | 8, e1, _ => exact sw 8 504 544 e1 (by decide +kernel) (by decide) (cs_8 X hi g hcl hk')
    | 9, e1, _ => exact sw 9 565 605 e1 (by decide +kernel) (by decide) (cs_9 X hi g hcl hk')
    | 10, e1, _ => exact sw 10 602 642 e1 (by decide +kernel) (by decide) (cs_10 X hi g hcl hk')
    | 11, e1, _ => exact sw 11 627 667 e1 (by decide +kernel) (by decide) (cs_11 X hi g hcl hk')
    | 12, e1, _ => exact sw 12 664 704 e1 (by decide +kernel) (by decide) (cs_12 X hi g hcl hk')
    | 13, e1, _ => exact sw 13 689 729 e1 (by decide +kernel) (by decide) (cs_13 X hi g hcl hk')
    | 14, e1, _ => exact sw 14 738 778 e1 (by decide +kernel) (by decide) (cs_14 X hi g hcl hk')
    | 15, e1, _ => exact sw 15 763 803 e1 (by decide +kernel) (by decide) (cs_15 X hi g hcl hk')
    | 16, e1, _ => exact sw 16 776 816 e1 (by decide +kernel) (by decide) (cs_16 X hi g hcl hk')
    | 17, e1, _ => exact sw 17 813 853 e1 (by decide +kernel) (by decide) (cs_17 X hi g hcl hk')
    | 18, e1, _ => exact sw 18 838 878 e1 (by decide +kernel) (by decide) (cs_18 X hi g hcl hk')
    | 19, e1, _ => exact sw 19 875 915 e1 (by decide +kernel) (by decide) (cs_19 X hi g hcl hk')
    | 20, e1, _ => exact sw 20 924 964 e1 (by decide +kernel) (by decide) (cs_20 X hi g hcl hk')
    | 21, e1, _ => exact sw 21 974 1014 e1 (by decide +kernel) (by decide) (cs_21 X hi g hcl hk')
    | 22, e1, _ => exact sw 22 999 1039 e1 (by decide +kernel) (by decide) (cs_22 X hi g hcl hk')
    | 23, e1, _ => exact sw 23 1012 1052 e1 (by decide +kernel) (by decide) (cs_23 X hi g hcl hk')
    | 24, e1, _ => exact sw 24 1037 1077 e1 (by decide +kernel) (by decide) (cs_24 X hi g hcl hk')
    | 25, e1, _ => exact sw 25 1102 1142 e1 (by decide +kernel) (by decide) (cs_25 X hi g hcl hk')
    | 26, e1, _ => exact sw 26 1127 1167 e1 (by decide +kernel) (by decide) (cs_26 X hi g hcl hk')
    | 27, e1, _ => exact sw 27 1152 1192 e1 (by decide +kernel) (by decide) (cs_27 X hi g hcl hk')
    | 28, e1, _ => exact sw 28 1177 1217 e1 (by decide +kernel) (by decide) (cs_28 X hi g hcl hk')
    | 29, e1, _ => exact sw 29 1226 1266 e1 (by decide +kernel) (by decide) (cs_29 X hi g hcl hk')
    | 30, e1, _ => exact sw 30 1275 1315 e1 (by decide +kernel) (by decide) (cs_30 X hi g hcl hk')
    | 31, e1, _ => exact sw 31 1288 1328 e1 (by decide +kernel) (by decide) (cs_31 X hi g hcl hk')
    | 32, e1, _ => exact sw 32 1301 1341 e1 (by decide +kernel) (by decide) (cs_32 X hi g hcl hk')
    | 33, e1, _ => exact sw 33 1314 1354 e1 (by decide +kernel) (by decide) (cs_33 X hi g hcl hk')
    | k + 34, _, h9 => exact absurd h9 (by omega)
theorem law_gt {i L : Nat} (hL : L ≤ 3072) (hi : i ≤ L) : (nI L - 6 < nI i) ↔ L < i + 6 := by
  have e1 : (nI L).toInt = (L : Int) := Int32.toInt_ofNat_of_lt (by omega)
  have e2 : (nI i).toInt = (i : Int) := Int32.toInt_ofNat_of_lt (by omega)
  have e3 : (nI L - 6).toInt = (L : Int) - 6 := by
    rw [Int32.toInt_sub, e1, show (6 : Int32).toInt = 6 from by decide]
    exact Int.bmod_eq_of_le (by omega) (by omega)
  rw [Int32.lt_iff_toInt_lt, e2, e3]
  omega
theorem law_loop (X : LC p s m meth c b L xs D aC adK adV) (h4 : DbOk p l e s m below meth c b L D aC adK adV) : ∀ (n k : Nat) (hC hM : aH) (J : Int64), 6 * k ≤ L → L + 1 ≤ 6 * k + n → GR hC hM → AL p l e s m below meth c b D aC adK adV 23 (lsL s b (6 * k)) [] hC hM J (420 + 1000 * k) (10161 + 14000 * k) := by
  have hL := X.2.1
  intro n
  induction n with
  | zero => intro k hC hM J h1 h2; exact absurd h2 (by omega)
  | succ n ih =>
    intro k hC hM J h1 h2 g
    refine al_iload X dL_law_23 4 rfl (al_aload_n X dL_law_25 rfl 0 rfl (al_slen X dL_law_26 (al_bipush (v := 6) X dL_law_27 (by decide) (al_isub X dL_law_29 ?_))))
    by_cases hg : L < 6 * k + 6
    · -- the end
      have hgt := (law_gt hL h1).mpr hg
      intro H locs la a1 a2 a3 hS hl
      refine lv_icmp_gt (tgt := 1385) X.1.1 X.1.2.1 dL_law_30 (by decide) (fun _ => ?_) (fun h => absurd hgt h)
      refine lv_iconst (v := 1) X.1.1 X.1.2.1 dL_law_1385 (by decide) ?_
      refine va_forget (fun q hq => hS.2.2 q hq) ?_
      refine W.widen (k := 601024) (n := 7293033) (by omega) (by omega) ?_
      exact lw_ret X.1.1 X.1.2.1 X.1.2.2.1 X.1.2.2.2.2.2.2.2.2.1 dL_law_1386
    · have hgt : ¬ nI L - 6 < nI (6 * k) := fun h => hg ((law_gt hL h1).mp h)
      have hi : 6 * k + 6 ≤ L := by omega
      have body : AL p l e s m below meth c b D aC adK adV 33 (lsL s b (6 * k)) [] hC hM J (420 + 1000 * k) (10161 + 14000 * k) := by
        refine al_aload_n X dL_law_33 rfl 0 rfl (al_iload X dL_law_34 4 rfl (al_sld (j := 6 * k) X dL_law_36 rfl (by omega) rfl (al_bipush (v := 63) X dL_law_37 (by decide) (al_iand X dL_law_39 ?_))))
        refine al_switch X hi g h4 (by omega) (by omega) _ (fun hC' hM' J' g' => ?_)
        refine al_iinc (j := 4) (v := nI (6 * (k + 1))) X dL_law_1379 rfl ?_ (by decide) rfl (al_goto (tgt := 23) X dL_law_1382 (by decide) ?_)
        · show Int32.ofNat (6 * k) + Int32.ofNat 6 = Int32.ofNat (6 * (k + 1))
          rw [← Int32.ofNat_add, show 6 * k + 6 = 6 * (k + 1) by omega]
        · refine al_ls (ls' := lsL s b (6 * (k + 1))) [1, 2, 3, 4, 0] rfl ?_
          have := ih (k + 1) hC' hM' J' (by omega) (by omega) g'
          rw [show 420 + 1000 * k + 1000 = 420 + 1000 * (k + 1) by omega, show 10161 + 14000 * k + 14000 = 10161 + 14000 * (k + 1) by omega]
          exact this
      exact AL.lift body (fun H locs la Z hS hl kk => lv_icmp_gt (tgt := 1385) X.1.1 X.1.2.1 dL_law_30 (by decide) (fun h => absurd h hgt) (fun _ => kk la hl))
end LLP
