/-! ===== the levels of an E one by one ===== -/
section LV3
variable {l l' : Launch} {ad ad' adK adV : Nat → Nat} {τ : tX} {y lw f o L B : Nat}
theorem ex_product (hb : 10 ≤ B) (A : lwA y lw) (sub : EX l ad l' ad' adK adV τ y lw f 6 o mX10_primary B) : EX l ad l' ad' adK adV τ y lw f 5 o mX10_product (B + 1) := by
  refine ex_gen (by decide) (by decide) (by decide) hb A sub (fun d h Q H => bX10_product_0 _ H) (lp_gen (mop := fun s w => s = 3 ∧ (w = 42 ∨ w = 47)) (pv := fun w => w) (by decide) hb A sub ?_ ?_ (fun k v s w t => dec5 t))
  · intro d h Q hn qq
    refine bX10_product_4 _ (m_isSn (fun z z2 z3 => absurd ⟨z2, Or.inl z3⟩ (hn z)) (fun _ => ⟨fun z => absurd rfl z, fun _ => m_isSn (fun z z2 z3 => absurd ⟨z2, Or.inr z3⟩ (hn z)) (fun _ => ⟨fun _ => qq, fun z => absurd rfl z⟩)⟩))
  · intro d h Q h0 m H
    refine bX10_product_4 _ (m_isSn (fun z z2 z3 => ⟨fun _ => bX10_product_22 _ H, fun z => absurd z (by decide)⟩) (fun n1 => ⟨fun z => absurd rfl z, fun _ => m_isSn (fun z z2 z3 => ⟨fun z => absurd z (by decide), fun _ => bX10_product_22 _ H⟩) (fun n2 => ?_)⟩))
    exfalso
    rcases m.2 with e | e
    · exact n1 h0 ⟨m.1, e⟩
    · exact n2 h0 ⟨m.1, e⟩
theorem ex_sum (hb : 10 ≤ B) (A : lwA y lw) (sub : EX l ad l' ad' adK adV τ y lw f 5 o mX10_product B) : EX l ad l' ad' adK adV τ y lw f 4 o mX10_sum (B + 1) := by
  refine ex_gen (by decide) (by decide) (by decide) hb A sub (fun d h Q H => bX10_sum_0 _ H) (lp_gen (mop := fun s w => s = 3 ∧ (w = 43 ∨ w = 45)) (pv := fun w => w) (by decide) hb A sub ?_ ?_ (fun k v s w t => dec4 t))
  · intro d h Q hn qq
    refine bX10_sum_4 _ (m_isSn (fun z z2 z3 => absurd ⟨z2, Or.inl z3⟩ (hn z)) (fun _ => ⟨fun z => absurd rfl z, fun _ => m_isSn (fun z z2 z3 => absurd ⟨z2, Or.inr z3⟩ (hn z)) (fun _ => ⟨fun _ => qq, fun z => absurd rfl z⟩)⟩))
  · intro d h Q h0 m H
    refine bX10_sum_4 _ (m_isSn (fun z z2 z3 => ⟨fun _ => bX10_sum_22 _ H, fun z => absurd z (by decide)⟩) (fun n1 => ⟨fun z => absurd rfl z, fun _ => m_isSn (fun z z2 z3 => ⟨fun z => absurd z (by decide), fun _ => bX10_sum_22 _ H⟩) (fun n2 => ?_)⟩))
    exfalso
    rcases m.2 with e | e
    · exact n1 h0 ⟨m.1, e⟩
    · exact n2 h0 ⟨m.1, e⟩
theorem ex_conj (hb : 10 ≤ B) (A : lwA y lw) (sub : EX l ad l' ad' adK adV τ y lw f 2 o mX10_negation B) : EX l ad l' ad' adK adV τ y lw f 1 o mX10_conjunction (B + 1) := by
  refine ex_gen (by decide) (by decide) (by decide) hb A sub (fun d h Q H => bX10_conjunction_0 _ H) (lp_gen (mop := fun s w => s = 0 ∧ w = 12) (pv := fun _ => 261) (by decide) hb A sub ?_ ?_ (fun k v s w t => dec1 t))
  · intro d h Q hn qq
    exact bX10_conjunction_4 _ (m_isW (fun z z2 z3 => absurd ⟨z2, z3⟩ (hn z)) (fun _ => ⟨fun _ => qq, fun z => absurd rfl z⟩))
  · intro d h Q h0 m H
    exact bX10_conjunction_4 _ (m_isW (fun z z2 z3 => ⟨fun z => absurd z (by decide), fun _ => H⟩) (fun n1 => absurd m (n1 h0)))
theorem ex_expr (hb : 10 ≤ B) (A : lwA y lw) (sub : EX l ad l' ad' adK adV τ y lw f 1 o mX10_conjunction B) : EX l ad l' ad' adK adV τ y lw f 0 o mX10_expression (B + 1) := by
  refine ex_gen (by decide) (by decide) (by decide) hb A sub (fun d h Q H => bX10_expression_0 _ H) (lp_gen (mop := fun s w => s = 0 ∧ w = 11) (pv := fun _ => 262) (by decide) hb A sub ?_ ?_ (fun k v s w t => dec0 t))
  · intro d h Q hn qq
    exact bX10_expression_4 _ (m_isW (fun z z2 z3 => absurd ⟨z2, z3⟩ (hn z)) (fun _ => ⟨fun _ => qq, fun z => absurd rfl z⟩))
  · intro d h Q h0 m H
    exact bX10_expression_4 _ (m_isW (fun z z2 z3 => ⟨fun z => absurd z (by decide), fun _ => H⟩) (fun n1 => absurd m (n1 h0)))
/-- what the reference does behind its nots -/
def ngT (l' : Launch) (ad' adK adV : Nat → Nat) (d : Nat) (h : aH) (R : aH → Prop) : Prop := AW (GM adK adV) l' ad' d mX10_sum 0 [(0, .ref (ad' 0))] [] h (qv fun h3 => (¬ (h3.1 0 29) = 0 → (R h3)) ∧ ((h3.1 0 29) = 0 → ((¬ (h3.1 0 27) = (3 : Int32) → (R h3)) ∧ ((h3.1 0 27) = (3 : Int32) → (((h3.1 0 28) = (60 : Int32) → (AW (GM adK adV) l' ad' (d + 1) mX10_negation 87 [(0, .ref (ad' 0))] [] h3 (qv R))) ∧ (¬ (h3.1 0 28) = (60 : Int32) → (((h3.1 0 28) = (62 : Int32) → (AW (GM adK adV) l' ad' (d + 1) mX10_negation 87 [(0, .ref (ad' 0))] [] h3 (qv R))) ∧ (¬ (h3.1 0 28) = (62 : Int32) → (((h3.1 0 28) = (61 : Int32) → (AW (GM adK adV) l' ad' (d + 1) mX10_negation 87 [(0, .ref (ad' 0))] [] h3 (qv R))) ∧ (¬ (h3.1 0 28) = (61 : Int32) → (((256 : Int32) ≤ (h3.1 0 28) → (AW (GM adK adV) l' ad' (d + 1) mX10_negation 87 [(0, .ref (ad' 0))] [] h3 (qv R))) ∧ (¬ (256 : Int32) ≤ (h3.1 0 28) → (R h3)))))))))))))
theorem ex_cmp (hb : 10 ≤ B) (A : lwA y lw) (sub : EX l ad l' ad' adK adV τ y lw f 4 o mX10_sum B) : ∀ K0 p s hC hM, hC.2.2 2 1 = y → GL τ y lw f K0 p s o hC hM → ∃ hC' hM', lC y lw hC hC' ∧ lM f hM hM' ∧ xC l ad lw 3 o (8 + 8 * (8 - o)) hC hC' ∧ (∀ d, B + (65 - K0) ≤ d → ∀ Q : aH → Prop, Q hM' → ngT l' ad' adK adV d hM Q) ∧ GL τ y lw f (K0 + 1) p (s + 1) o hC' hM' := by
  have HL := lwA_L A
  have fin : ∀ {d : Nat} {h : aH} {Q : aH → Prop}, Q h → AW GC l ad (d + 1) mX3_readLevel 112 [(3, .ref (ad lw)), (4, .int (0 : Int32)), (6, .int (0 : Int32))] [] h (qv Q) := fun qq => bX3_readLevel_112 lw HL _ _ _ ⟨fun _ => qq, fun z => absurd (Int32.le_refl _) z⟩
  have hd3 : ∀ {d : Nat} {h h1 : aH} {Q : aH → Prop}, 8 + 8 * (8 - o) ≤ d + 1 → xC l ad lw 4 o (5 + (6 - 4) + 8 * (8 - o)) h h1 → AW GC l ad (d + 1) mX3_readLevel 53 [(0, .ref (ad 2)), (1, .int (nI 3)), (2, .int (nI o)), (3, .ref (ad lw)), (4, .int (0 : Int32)), (5, .int (1 : Int32)), (6, .int (0 : Int32))] [] h1 (qv Q) → AW GC l ad (d + 1) mX3_readLevel 0 [(0, .ref (ad 2)), (1, .int (nI 3)), (2, .int (nI o)), (3, .ref (ad lw))] [] h (qv Q) := by
    intro d h h1 Q hd r H
    refine bX3_readLevel_0 lw HL _ _ _ ⟨fun _ => ⟨fun _ => bX3_readLevel_26 lw HL _ _ _ _ ?_, fun z => absurd z (by decide)⟩, fun z => absurd (nI_lt (a := 3) (b := 6) (by decide) (by decide)) z⟩
    rw [nI_1]
    exact r _ (by omega) _ ⟨fun z => absurd rfl z, fun _ => H⟩
  intro K0 p s hC hM ey g
  obtain ⟨hC1, hM1, c1, m1, r1, r2, g1⟩ := sub _ _ _ _ _ ey g
  have ey1 : hC1.2.2 2 1 = y := by rw [c1.1]; exact ey
  rcases g1 with ⟨i, q, K, hK, R, Li⟩ | b
  · rcases dec3 (rd_tm R) with ⟨d1, d2, d3⟩ | ⟨d1, d2⟩
    · have n1 : ¬ lvl (hC1.1 4 i) = -1 := by rw [d1]; decide
      have k36 : ¬ hC1.1 4 i = 36 := fun z => n1 (by rw [z]; decide)
      obtain ⟨bp, bb⟩ := lvl_bin n1
      obtain ⟨hC2, hMa, hM2, c2, m2, r3, r4, r5, g2⟩ := j_knt (adK := adK) (adV := adV) A ey1 hK R Li k36
      have ey2 : hC2.2.2 2 1 = y := by rw [c2.1]; exact ey1
      obtain ⟨hC3, hM3, c3, m3, r6, r7, g3⟩ := sub _ _ _ _ _ ey2 g2
      obtain ⟨hC4, hM4, c4, m4, r8, r9, g4⟩ := j_put (adK := adK) (adV := adV) A d3 (by omega) (fun _ => bb) g3
      rw [bp, show s + 1 + 1 + 1 - 2 = s + 1 by omega] at g4
      refine ⟨hC4, hM4, lC_tr c1 (lC_tr c2 (lC_tr c3 c4)), lM_tr m1 (lM_tr m2 (lM_tr m3 m4)), fun d hd Q qq => ?_, fun d hd Q qq => ?_, gl_m (by omega) g4⟩
      · obtain ⟨e, rfl⟩ : ∃ e, d = e + 1 + 1 := ⟨d - 2, by omega⟩
        refine hd3 hd r1 (bX3_readLevel_53 lw HL _ _ _ _ _ _ ⟨fun z => absurd z (by decide), fun _ => ⟨fun z => absurd (rd_c0 R) z, fun _ => c_kind R.1 (sp_lvl ⟨fun z => absurd d1 z, fun _ => c_kind R.1 ?_⟩)⟩⟩)
        rw [nI_1]
        exact r3 (r6 _ (by omega) _ (r8 (bX3_readLevel_53 lw HL _ _ _ _ _ _ ⟨fun _ => fin qq, fun z => absurd (by decide) z⟩)))
      · obtain ⟨e, rfl⟩ : ∃ e, d = e + 6 := ⟨d - 6, by omega⟩
        have n87 : AW (GM adK adV) l' ad' (e + 6 + 1) mX10_negation 87 [(0, .ref (ad' 0))] [] hM1 (qv Q) := bX10_negation_87 _ (r4 (r5 (r7 _ (by omega) _ (r9 qq))))
        refine r2 _ (by omega) _ ⟨fun z => absurd (rd_m0 R) z, fun _ => ⟨fun z => absurd d2.1 z, fun _ => ⟨fun _ => n87, fun e1 => ⟨fun _ => n87, fun e2 => ⟨fun _ => n87, fun e3 => ⟨fun _ => n87, fun e4 => ?_⟩⟩⟩⟩⟩⟩
        exfalso
        rcases d2.2 with w | w | w | w
        · exact e1 w
        · exact e2 w
        · exact e3 w
        · exact e4 w
    · refine ⟨hC1, hM1, c1, m1, fun d hd Q qq => ?_, fun d hd Q qq => ?_, Or.inl ⟨i, q, K, hK, R, Li⟩⟩
      · obtain ⟨e, rfl⟩ : ∃ e, d = e + 1 := ⟨d - 1, by omega⟩
        exact hd3 hd r1 (bX3_readLevel_53 lw HL _ _ _ _ _ _ ⟨fun _ => fin qq, fun _ => ⟨fun _ => fin qq, fun _ => c_kind R.1 (sp_lvl ⟨fun _ => fin qq, fun z => absurd z d1⟩)⟩⟩)
      · exact r2 _ (by omega) _ ⟨fun _ => qq, fun _ => ⟨fun _ => qq, fun z => ⟨fun w => absurd ⟨z, Or.inl w⟩ d2, fun _ => ⟨fun w => absurd ⟨z, Or.inr (Or.inl w)⟩ d2, fun _ => ⟨fun w => absurd ⟨z, Or.inr (Or.inr (Or.inl w))⟩ d2, fun _ => ⟨fun w => absurd ⟨z, Or.inr (Or.inr (Or.inr w))⟩ d2, fun _ => qq⟩⟩⟩⟩⟩⟩
  · refine ⟨hC1, hM1, c1, m1, fun d hd Q qq => ?_, fun d hd Q qq => ?_, Or.inr b⟩
    · obtain ⟨e, rfl⟩ : ∃ e, d = e + 1 := ⟨d - 1, by omega⟩
      exact hd3 hd r1 (bX3_readLevel_53 lw HL _ _ _ _ _ _ ⟨fun _ => fin qq, fun _ => ⟨fun _ => fin qq, fun z => absurd z b.1.1⟩⟩)
    · exact r2 _ (by omega) _ ⟨fun _ => qq, fun z => absurd z (bd_m b.1)⟩
/-- r nots are written down -/
def AD (l : Launch) (ad : Nat → Nat) (lw r : Nat) (h h' : aH) : Prop := ∀ d j N (Q : aH → Prop), j + r ≤ N → N ≤ 100 → AW GC l ad (d + 1) mX3_readLevel 112 [(3, .ref (ad lw)), (4, .int (nI N)), (6, .int (nI (j + r)))] [] h' (qv Q) → AW GC l ad (d + 1) mX3_readLevel 112 [(3, .ref (ad lw)), (4, .int (nI N)), (6, .int (nI j))] [] h (qv Q)
theorem ng (hb : 10 ≤ B) (A : lwA y lw) (sub : EX l ad l' ad' adK adV τ y lw f 4 o mX10_sum B) : ∀ fu K0 it p s hC hM, 65 ≤ K0 + fu → it ≤ K0 → it ≤ 65 → hC.2.2 2 1 = y → GL τ y lw f K0 p s o hC hM → ∃ r hC1 hC2 hC3 hM', it + r ≤ 65 ∧ lC y lw hC hC3 ∧ lM f hM hM' ∧ (∀ d (Q : Int32 → aH → Prop), Q (nI (it + r)) hC1 → AW GC l ad (d + 2) mX3_takeNots 2 [(0, .ref (ad 2)), (1, .int (nI it))] [] hC (qi Q)) ∧ xC l ad lw 3 o (8 + 8 * (8 - o)) hC1 hC2 ∧ ((∃ i c, atT hC2 i c) ∨ ¬ hC2.1 2 3 = 0) ∧ AD l ad lw r hC2 hC3 ∧ xM l' ad' adK adV mX10_negation (B + 1 + (65 - K0)) hM hM' ∧ GL τ y lw f (K0 + 1) p (s + 1) o hC3 hM' := by
  have HL := lwA_L A
  have base : ∀ K0 it p s hC hM, it ≤ 65 → hC.2.2 2 1 = y → GL τ y lw f K0 p s o hC hM → (∀ d (Q : Int32 → aH → Prop), Q (nI it) hC → AW GC l ad (d + 2) mX3_takeNots 2 [(0, .ref (ad 2)), (1, .int (nI it))] [] hC (qi Q)) → (hM.1 0 29 = 0 → ¬ (hM.1 0 27 = 0 ∧ hM.1 0 28 = 13)) → ∃ r hC1 hC2 hC3 hM', it + r ≤ 65 ∧ lC y lw hC hC3 ∧ lM f hM hM' ∧ (∀ d (Q : Int32 → aH → Prop), Q (nI (it + r)) hC1 → AW GC l ad (d + 2) mX3_takeNots 2 [(0, .ref (ad 2)), (1, .int (nI it))] [] hC (qi Q)) ∧ xC l ad lw 3 o (8 + 8 * (8 - o)) hC1 hC2 ∧ ((∃ i c, atT hC2 i c) ∨ ¬ hC2.1 2 3 = 0) ∧ AD l ad lw r hC2 hC3 ∧ xM l' ad' adK adV mX10_negation (B + 1 + (65 - K0)) hM hM' ∧ GL τ y lw f (K0 + 1) p (s + 1) o hC3 hM' := by
    intro K0 it p s hC hM hi ey g hn nw
    obtain ⟨hC2, hM', c2, m2, r1, r2, g2⟩ := ex_cmp hb A sub _ _ _ _ _ ey g
    refine ⟨0, hC, hC2, hC2, hM', hi, c2, m2, hn, r1, ?_, fun d j N Q _ _ H => H, fun d hd Q qq => ?_, g2⟩
    · rcases g2 with ⟨i, q, K, hK, R, Li⟩ | b
      · exact Or.inl ⟨_, _, R.1⟩
      · exact Or.inr b.1.1
    · obtain ⟨e, rfl⟩ : ∃ e, d = e + 1 := ⟨d - 1, by omega⟩
      exact bX10_negation_0 _ (m_isW (fun z z2 z3 => absurd ⟨z2, z3⟩ (nw z)) (fun _ => ⟨fun _ => r2 _ (by omega) Q qq, fun z => absurd rfl z⟩))
  have bad : ∀ {it : Nat} {hC hM : aH}, BL lw hC hM → (∀ d (Q : Int32 → aH → Prop), Q (nI it) hC → AW GC l ad (d + 2) mX3_takeNots 2 [(0, .ref (ad 2)), (1, .int (nI it))] [] hC (qi Q)) ∧ (hM.1 0 29 = 0 → ¬ (hM.1 0 27 = 0 ∧ hM.1 0 28 = 13)) := fun b => ⟨fun d Q qq => bX3_takeNots_2 _ _ ⟨fun _ => qq, fun _ => ⟨fun _ => qq, fun z => absurd z b.1.1⟩⟩, fun z => absurd z (bd_m b.1)⟩
  intro fu
  induction fu with
  | zero =>
    intro K0 it p s hC hM hf hi hi2 ey g
    rcases g with ⟨i, q, K, hK, R, Li⟩ | b
    · exfalso
      have := Li.2.2.2.2.2.2.1
      omega
    · exact base _ _ _ _ _ _ hi2 ey (Or.inr b) (bad (it := it) b).1 (bad (it := it) b).2
  | succ fu ih =>
    intro K0 it p s hC hM hf hi hi2 ey g
    rcases g with ⟨i, q, K, hK, R, Li⟩ | b
    · have hk := Li.2.2.2.2.2.2.1
      rcases dec11 (rd_tm R) with ⟨d1, d2, d3⟩ | ⟨d1, d2⟩
      · obtain ⟨hCa, hMa, hMb, c1, m1, r1, r2, r3, g1⟩ := j_knt (adK := adK) (adV := adV) A ey hK R Li (by rw [d1]; decide)
        have ey1 : hCa.2.2 2 1 = y := by rw [c1.1]; exact ey
        obtain ⟨r, hC1, hC2, hC3, hM3, i1, i3, i4, i5, i6, i7, i8, i9, g2⟩ := ih _ (it + 1) _ _ _ _ (by omega) (by omega) (by omega) ey1 g1
        have p11 : partsN 11 = 1 := by decide
        have p11le : partsN 11 ≤ s + 1 := by omega
        obtain ⟨hC4, hM4, c4, m4, r8, r9, g4⟩ := j_put (adK := adK) (adV := adV) (c := 11) (u := 2) (v := 260) A (Or.inr (Or.inr (Or.inl ⟨rfl, rfl, rfl⟩))) p11le (fun z => absurd z (by decide)) g2
        rw [p11, show s + 1 + 1 - 1 = s + 1 by omega] at g4
        refine ⟨r + 1, hC1, hC2, hC4, hM4, by omega, lC_tr c1 (lC_tr i3 c4), lM_tr m1 (lM_tr i4 m4), fun d Q qq => ?_, i6, i7, fun d j N Q hj hN H => ?_, fun d hd Q qq => ?_, gl_m (by omega) g4⟩
        · refine bX3_takeNots_2 _ _ ⟨fun z => absurd z (nI_nlt (a := 64) (by omega) (by decide)), fun _ => ⟨fun z => absurd (rd_c0 R) z, fun _ => c_kind R.1 ⟨fun z => absurd d1 z, fun _ => r1 ?_⟩⟩⟩
          rw [nI_1]
          refine i5 d Q ?_
          rw [show it + 1 + r = it + (r + 1) by omega]
          exact qq
        · refine i8 d j N Q (by omega) hN (bX3_readLevel_112 lw HL _ _ _ ⟨fun z => absurd z (nI_ge (by omega) (by omega)), fun _ => r8 ?_⟩)
          rw [nI_1]
          exact H
        · obtain ⟨e, rfl⟩ : ∃ e, d = e + 6 + 1 := ⟨d - 7, by omega⟩
          exact bX10_negation_0 _ (m_isW (fun _ _ _ => ⟨fun z => absurd z (by decide), fun _ => r2 (r3 (i9 _ (by omega) _ (r9 qq)))⟩) (fun z => absurd ⟨d2, d3⟩ (z (rd_m0 R))))
      · exact base _ _ _ _ _ _ hi2 ey (Or.inl ⟨i, q, K, hK, R, Li⟩) (fun d Q qq => bX3_takeNots_2 _ _ ⟨fun _ => qq, fun _ => ⟨fun _ => qq, fun _ => c_kind R.1 ⟨fun _ => qq, fun z => absurd z d1⟩⟩⟩) (fun _ => d2)
    · exact base _ _ _ _ _ _ hi2 ey (Or.inr b) (bad (it := it) b).1 (bad (it := it) b).2
theorem ex_neg (hb : 10 ≤ B) (A : lwA y lw) (sub : EX l ad l' ad' adK adV τ y lw f 4 o mX10_sum B) : EX l ad l' ad' adK adV τ y lw f 2 o mX10_negation (B + 1) := by
  have HL := lwA_L A
  intro K0 p s hC hM ey g
  obtain ⟨r, hC1, hC2, hC3, hM3, i1, i3, i4, i5, i6, i7, i8, i9, g2⟩ := ng hb A sub 65 K0 0 p s hC hM (by omega) (by omega) (by omega) ey g
  refine ⟨hC3, hM3, i3, i4, fun d hd Q qq => ?_, i9, g2⟩
  obtain ⟨e, rfl⟩ : ∃ e, d = e + 2 + 1 := ⟨d - 3, by omega⟩
  have f112 : AW GC l ad (e + 2 + 1) mX3_readLevel 112 [(3, .ref (ad lw)), (4, .int (nI (0 + r))), (6, .int (0 : Int32))] [] hC2 (qv Q) := i8 (e + 2) 0 (0 + r) Q (Nat.le_refl _) (by omega) (bX3_readLevel_112 lw HL _ _ _ ⟨fun _ => qq, fun z => absurd (Int32.le_refl _) z⟩)
  have f53 : AW GC l ad (e + 2 + 1) mX3_readLevel 53 [(0, .ref (ad 2)), (1, .int (nI 2)), (2, .int (nI o)), (3, .ref (ad lw)), (4, .int (nI (0 + r))), (5, .int (64 : Int32)), (6, .int (0 : Int32))] [] hC2 (qv Q) := by
    refine bX3_readLevel_53 lw HL _ _ _ _ _ _ ⟨fun _ => f112, fun _ => ⟨fun _ => f112, fun z => ?_⟩⟩
    rcases i7 with ⟨i, c, T⟩ | b
    · exact c_kind T (sp_lvl ⟨fun _ => f112, fun z => absurd z (lvl_ne2 _)⟩)
    · exact absurd z b
  refine bX3_readLevel_0 lw HL _ _ _ ⟨fun _ => ⟨fun z => absurd rfl z, fun _ => bX3_takeNots_0 _ (i5 _ _ (bX3_readLevel_26 lw HL _ _ _ _ ?_))⟩, fun z => absurd (nI_lt (a := 2) (b := 6) (by decide) (by decide)) z⟩
  rw [nI_1]
  exact i6 _ (by omega) _ ⟨fun _ => f53, fun z => absurd z (by decide)⟩
end LV3
