/-! ===== lines: a debt ===== -/
section LN5
variable {l l' : Launch} {ad ad' adK adV : Nat → Nat} {τ : tX} {i y m t n D K : Nat} {hC hM h hC1 hM1 : aH} {T : Int32}
theorem c_tkB {hh : aH} (Y : y = 8 ∨ y = 37) (hb : ¬ hh.1 2 3 = 0) (hy : hh.2.2 2 1 = y) : ∃ h', stX hh h' ∧ (∀ {l : Launch} {ad : Nat → Nat} {d : Nat} {x : Int32} {Q : Int32 → aH → Prop}, Q (-1) h' → AW GC l ad (d + 3) mX3_takeTusk 0 [(0, .ref (ad 2)), (1, .int x)] [] hh (qi Q)) ∧ ∀ {l : Launch} {ad : Nat → Nat} {d : Nat} {x : Int32} {Q : Int32 → aH → Prop}, Q (-1) h' → AW GC l ad (d + 3) mX3_takeMan 0 [(0, .ref (ad 2)), (1, .int x)] [] hh (qi Q) := by
  have HS := yS Y
  obtain ⟨h', s1, s2⟩ := c_stepX hh
  exact ⟨h', s1, fun q => bX3_takeTusk_0 _ _ (mref hy ⟨HS, bX3_takeToldName_0 _ _ (HS.2.1 1 (by decide)) _ _ _ (bX3_toldIndex_0 _ _ (HS.2.1 1 (by decide)) _ _ ⟨fun z => absurd z hb, fun _ => ⟨fun _ => bX3_takeToldName_25 _ _ (HS.2.1 1 (by decide)) _ _ (s2 q), fun z => absurd rfl z⟩⟩)⟩), fun q => bX3_takeMan_0 _ _ (mref hy ⟨HS, bX3_takeToldName_0 _ _ (HS.2.1 0 (by decide)) _ _ _ (bX3_toldIndex_0 _ _ (HS.2.1 0 (by decide)) _ _ ⟨fun z => absurd z hb, fun _ => ⟨fun _ => bX3_takeToldName_25 _ _ (HS.2.1 0 (by decide)) _ _ (s2 q), fun z => absurd rfl z⟩⟩)⟩)⟩
theorem stX_y {h' : aH} (s : stX h h') (e : h.2.2 2 1 = y) : h'.2.2 2 1 = y := by
  rcases s with rfl | ⟨v, rfl⟩
  · exact e
  · exact e
theorem ln_debt (Y : y = 8 ∨ y = 37) (ey : hC.2.2 2 1 = y) (R : RD τ i hC hM) (Z : SR y hC hM m t n D K) (hk : hC.1 4 i = nI 2) : LNR l ad l' ad' adK adV τ y i mX3_readDebt hC hM := by
  have HS := yS Y
  have h2y : 2 < y ∨ y + 29 ≤ 2 := by omega
  obtain ⟨s0, v0⟩ := rd_w (w := 2) (by decide) R hk
  have g0 := rd_m0 R
  obtain ⟨ZQ, z34, z18, z33⟩ := Z
  have n1 : hC.1 (y + 17) 11 = nI D := ZQ.1.2.2.2.2.2.2.1
  have n2 : hM.1 2 9 = nI D := ZQ.1.2.2.2.2.2.2.2.1
  have n3 : D ≤ 8 := ZQ.1.2.2.2.2.2.2.2.2.1
  have m6 : m ≤ 6 := ZQ.1.2.2.1
  have t6 : t ≤ 6 := ZQ.1.2.2.2.2.2.1
  by_cases w : D = 8
  · subst w
    have B := j_ref (x := 2) R (by decide)
    obtain ⟨hA, sA, -, rA⟩ := c_tkB (hh := rfC hC i 2) Y B.1 ey
    have BA := stX_bd sA B
    have eA := stX_y (y := y) sA ey
    obtain ⟨hB, sB, -, rB⟩ := c_tkB (hh := hA) Y BA.1 eA
    have BB := stX_bd sB BA
    have eB := stX_y (y := y) sB eA
    obtain ⟨hD, sD, rD, -⟩ := c_tkB (hh := hB) Y BB.1 eB
    have BDD := stX_bd sD BB
    refine ⟨hD, rfM hM 2, fC_tr rfC_f (fC_tr (stX_fC sA) (fC_tr (stX_fC sB) (stX_fC sD))), rfM_f, fun q => ?_, fun q1 _ => ml_full (w := 2) (by decide) g0 s0 v0 (Or.inr (Or.inr (Or.inl ⟨rfl, n2⟩))) (q1 (bd_m B)), Or.inr BDD⟩
    refine bX3_readDebt_0 _ (mref ey ⟨HS, fun _ => bX3_readDebt_21 _ _ (c_lw0 (c_ref R (rA (rB (bX3_takeNumber_0 _ _ _ ⟨fun z => absurd z BB.1, fun _ => rD (bX3_takeNumber_0 _ _ _ ⟨fun z => absurd z BDD.1, fun _ => ⟨fun _ => q, fun z => absurd z BDD.1⟩⟩)⟩))))), fun z => ?_⟩)
    rw [n1] at z
    exact absurd (Int32.le_refl _) z
  · have hm : D < 8 := by omega
    have R0 : RD τ i hC (sI hM 0 22 (hM.1 0 22 ||| ((1 : Int32) <<< (nI 2 &&& 31)))) := rd_m R (by omega)
    obtain ⟨hM1, a1, a2, a3, a4⟩ := j_adv (adK := adK) (adV := adV) R0 (by rw [hk]; decide)
    have e22 : ∀ j, j ≠ 22 → ¬ (25 ≤ j ∧ j ≤ 28) → hM1.1 0 j = hM.1 0 j := fun j h1 h2 => (a2.2 0 j (by omega)).trans (sI_k h1)
    have eS1 : sH hM1 = sH hM := (sHf a2).trans (sHo (by omega))
    have eW1 : wd (sI hC 2 2 (nI (i + 1))) y = wd hC y := wdo h2y
    have hr1 := hrM ZQ eW1 (fun a k _ => congrFun (congrFun eS1 a) k)
    have n2' : hM1.1 2 9 = nI D := (a2.2 2 9 (by decide)).trans ((sI_c (by decide)).trans n2)
    have le8 : ∀ a, 9 ≤ a → a ≤ 13 → 2 ≤ a ∧ a ≤ 20 ∧ hf a ≤ 8 + D := fun a h1 h2 => by
      have : hf a = 8 := by unfold hf; rw [if_neg (by omega), if_neg (by omega), if_pos h2]
      omega
    obtain ⟨z, w1, hC2, hMa, hM2, f2, g2, r1, r2, r2', P1⟩ := j_tlA (adK := adK) (adV := adV) (y := y) (a := y + 1) (A := 3) (q := m) (aw := 9) (p := 8 + D) (x2 := (sI hC 2 2 (nI (i + 1))).1 y 11) (x3 := hM1.1 2 7) (HS.2.1 0 (by decide)) rfl m6 (le8 9 (by decide) (by decide)) (Or.inl a1) (fun _ => hr1)
    have ey1 : (sI hC 2 2 (nI (i + 1))).2.2 2 1 = y := ey
    have ey2 : hC2.2.2 2 1 = y := by rw [f2.1]; exact ey
    have J2 : RD τ (i + 1 + 1) hC2 hM2 ∨ BD hC2 hM2 := by
      rcases P1 with P | B
      · exact Or.inl P.2.1
      · exact Or.inr B
    have I2 : RD τ (i + 1 + 1) hC2 hM2 → wd hC2 y = wd hC y ∧ (∀ a k, ¬ (a = 9 ∧ k = D) → sH hM2 a k = sH hM a k) ∧ z = hM2.1 9 (8 + D) ∧ (∀ j, j ≠ 22 → ¬ (25 ≤ j ∧ j ≤ 28) → hM2.1 0 j = hM.1 0 j) ∧ hM2.1 0 22 = hM.1 0 22 ||| ((1 : Int32) <<< (nI 2 &&& 31)) ∧ ∃ x, x < m ∧ z = nI x := fun Rx => by
      rcases P1 with ⟨Ra, Rb, eC2, fr2, x, hx, ez, ew⟩ | B
      · refine ⟨by rw [eC2, wdo h2y, eW1], fun a k h1 => ?_, ?_, fun j h1 h2 => (fr2.2 0 j (by omega)).trans ((sI_c (by decide)).trans (e22 j h1 h2)), (fr2.2 0 22 (by decide)).trans ((sI_c (by decide)).trans ((a2.2 0 22 (by decide)).trans sI_s)), x, hx, ez⟩
        · rw [sHf fr2]
          exact (sHs (a0 := 9) (k0 := D) h1).trans (congrFun (congrFun eS1 a) k)
        · rw [fr2.2 _ _ (by omega), sI_s, ez, ew]
      · exact (rd_bd Rx B).elim
    obtain ⟨z2, w2, hC3, hMb, hMx, hM3, f3, gb, g3, r3, r4, rb, r5, r6, r7, P2⟩ := j_tlB (adK := adK) (adV := adV) (y := y) (a := y + 1) (A := 3) (q := m) (aw := 10) (p := 8 + D) (x2 := hC2.1 y 11) (x3 := hM2.1 2 7) (x4 := z) (w0 := hM2.1 9 (8 + D)) (HS.2.1 0 (by decide)) rfl m6 (le8 10 (by decide) (by decide)) J2 (fun Rx => hrM ZQ (I2 Rx).1 (fun a k h => (I2 Rx).2.1 a k (by omega))) (fun Rx => (I2 Rx).2.2.1)
    have J3 : RD τ (i + 1 + 1 + 1) hC3 hM3 ∨ BD hC3 hM3 := by
      rcases P2 with P | B
      · exact Or.inl P.2.1
      · exact Or.inr B
    have I3 : RD τ (i + 1 + 1 + 1) hC3 hM3 → wd hC3 y = wd hC y ∧ (∀ a k, ¬ ((a = 9 ∨ a = 10) ∧ k = D) → sH hM3 a k = sH hM a k) ∧ (∀ j, j ≠ 22 → ¬ (25 ≤ j ∧ j ≤ 28) → hM3.1 0 j = hM.1 0 j) ∧ hM3.1 0 22 = hM.1 0 22 ||| ((1 : Int32) <<< (nI 2 &&& 31)) ∧ ∃ x x', x < m ∧ x' < m ∧ x ≠ x' ∧ z = nI x ∧ z2 = nI x' ∧ sH hM3 9 D = nI x ∧ sH hM3 10 D = nI x' := fun Rx => by
      rcases P2 with ⟨Rc, Rd, eC3, fr3, ne, x', hx', ez', ew'⟩ | B
      · obtain ⟨eW2, eS2, e9, eM2, eT2, x, hx, ez⟩ := I2 Rc
        refine ⟨by rw [eC3, wdo h2y, eW2], fun a k h1 => ?_, fun j h1 h2 => (fr3.2 0 j (by omega)).trans ((sI_c (by decide)).trans (eM2 j h1 h2)), (fr3.2 0 22 (by decide)).trans ((sI_c (by decide)).trans eT2), x, x', hx, hx', fun c => ?_, ez, ez', ?_, ?_⟩
        · rw [sHf fr3]
          exact (sHs (a0 := 10) (k0 := D) (by omega)).trans (eS2 a k (by omega))
        · apply ne
          rw [ew', ← e9, ez, c]
        · rw [sHf fr3]
          refine (sHs (a0 := 10) (k0 := D) (by omega)).trans ?_
          exact e9.symm.trans ez
        · rw [sHf fr3]
          exact (sHe (a0 := 10) (k0 := D) (by decide) (by decide)).trans ew'
      · exact (rd_bd Rx B).elim
    have ey3 : hC3.2.2 2 1 = y := by rw [f3.1]; exact ey2
    obtain ⟨z3, w3, hC4, hM4, f4, g4, r8, r9, P3⟩ := j_num (adK := adK) (adV := adV) (y := y) (x1 := 1) (x2 := 99) (lo := 1) (hi := 99) rfl rfl (by decide) (by decide) J3
    have ey4 : hC4.2.2 2 1 = y := by rw [f4.1]; exact ey3
    have J4 : RD τ (i + 1 + 1 + 1 + 1) hC4 (sI hM4 11 (8 + D) w3) ∨ BD hC4 (sI hM4 11 (8 + D) w3) := by
      rcases P3 with P | B
      · exact Or.inl (rd_m P.2.1 (by omega))
      · exact Or.inr (bd_mw B (by omega))
    have I4 : RD τ (i + 1 + 1 + 1 + 1) hC4 (sI hM4 11 (8 + D) w3) → wd hC4 y = wd hC y ∧ (∀ a k, ¬ ((a = 9 ∨ a = 10 ∨ a = 11) ∧ k = D) → sH (sI hM4 11 (8 + D) w3) a k = sH hM a k) ∧ (∀ j, j ≠ 22 → ¬ (25 ≤ j ∧ j ≤ 28) → (sI hM4 11 (8 + D) w3).1 0 j = hM.1 0 j) ∧ (sI hM4 11 (8 + D) w3).1 0 22 = hM.1 0 22 ||| ((1 : Int32) <<< (nI 2 &&& 31)) ∧ ∃ x x' v, x < m ∧ x' < m ∧ x ≠ x' ∧ v ≤ 99 ∧ z = nI x ∧ z2 = nI x' ∧ z3 = nI v ∧ sH (sI hM4 11 (8 + D) w3) 9 D = nI x ∧ sH (sI hM4 11 (8 + D) w3) 10 D = nI x' ∧ sH (sI hM4 11 (8 + D) w3) 11 D = nI v := fun Rx => by
      rcases P3 with ⟨Rc, Rd, eC4, fr4, v, v1, v2, ev, ew⟩ | B
      · obtain ⟨eW3, eS3, eM3, eT3, x, x', hx, hx', hne, ez, ez', e9, e10⟩ := I3 Rc
        refine ⟨by rw [eC4, wdo h2y, eW3], fun a k h1 => (sHs (a0 := 11) (k0 := D) (by omega)).trans ?_, fun j h1 h2 => (sI_c (by decide)).trans ((fr4.2 0 j (by omega)).trans (eM3 j h1 h2)), (sI_c (by decide)).trans ((fr4.2 0 22 (by decide)).trans eT3), x, x', v, hx, hx', hne, v2, ez, ez', ev, (sHs (a0 := 11) (k0 := D) (by omega)).trans ?_, (sHs (a0 := 11) (k0 := D) (by omega)).trans ?_, (sHe (a0 := 11) (k0 := D) (by decide) (by decide)).trans ew⟩
        · rw [sHf fr4]; exact eS3 a k (by omega)
        · rw [sHf fr4]; exact e9
        · rw [sHf fr4]; exact e10
      · exact (rd_bd Rx (bd_mw B (by omega))).elim
    obtain ⟨z4, w4, hC5, hMe, hM5, f5, g5, r10, r11, r11', P4⟩ := j_tlA (adK := adK) (adV := adV) (y := y) (a := y + 2) (A := 5) (q := t) (aw := 12) (p := 8 + D) (x2 := hC4.1 y 12) (x3 := (sI hM4 11 (8 + D) w3).1 2 8) (HS.2.1 1 (by decide)) rfl t6 (le8 12 (by decide) (by decide)) J4 (fun Rx => hrT ZQ (I4 Rx).1 (fun a k h => (I4 Rx).2.1 a k (by omega)))
    have ey5 : hC5.2.2 2 1 = y := by rw [f5.1]; exact ey4
    have J5 : RD τ (i + 1 + 1 + 1 + 1 + 1) hC5 hM5 ∨ BD hC5 hM5 := by
      rcases P4 with P | B
      · exact Or.inl P.2.1
      · exact Or.inr B
    obtain ⟨z5, w5, hC6, hM6, f6, g6, r12, r13, P5⟩ := j_num (adK := adK) (adV := adV) (y := y) (x1 := 0) (x2 := 99) (lo := 0) (hi := 99) rfl rfl (by decide) (by decide) J5
    have ey6 : hC6.2.2 2 1 = y := by rw [f6.1]; exact ey5
    have fC6 : fC y hC hC6 := fC_tr (fC_s fC_rfl (by omega)) (fC_tr f2 (fC_tr f3 (fC_tr f4 (fC_tr f5 f6))))
    have fM6 : fM hM hM6 := fM_tr (fM_s fM_rfl (Or.inl ⟨rfl, Or.inl rfl⟩)) (fM_tr (fM_fr a2) (fM_tr g2 (fM_tr g3 (fM_tr g4 (fM_tr (fM_s fM_rfl (Or.inr (le8 11 (by decide) (by decide)))) (fM_tr g5 g6))))))
    have i8 : (8 : Int32) + nI D = nI (8 + D) := nI_add 8 D
    have c8 : (nI (8 + D)).toNatClampNeg = 8 + D := nI_clamp (by omega)
    have v16 : vp_in (nI (8 + D)) 16 := vp_in_nI (by omega) (by decide)
    have cpre : ∀ {l : Launch} {ad : Nat → Nat} {d : Nat} {Q : aH → Prop}, ((¬ (hC6.1 2 3) = 0 → (Q hC6)) ∧ ((hC6.1 2 3) = 0 → (∀ y13 : Nat, y13 = hC6.2.2 2 1 → isS GC y13 ∧ (AW GC l ad (d + 79) mX8_addDebt 0 [(0, .ref (ad (y13 + 17))), (1, .int z), (2, .int z2), (3, .int z3), (4, .int z4), (5, .int z5)] [] hC6 (qv fun h14 => Q h14))))) → AW GC l ad (d + 80) mX3_readDebt 0 [(0, .ref (ad 2))] [] hC (qv Q) := by
      intro l ad d Q H
      refine bX3_readDebt_0 _ (mref ey ⟨HS, fun z => ?_, fun _ => bX3_readDebt_21 _ _ (c_lw1 (a3 (bX3_takeMan_0 _ _ (mref ey1 ⟨HS, r1 (bX3_takeMan_0 _ _ (mref ey2 ⟨HS, r3 (r8 (bX3_takeTusk_0 _ _ (mref ey4 ⟨HS, r10 (r12 H)⟩)))⟩))⟩))))⟩)
      rw [n1] at z
      exact absurd z (nI_ge (b := 8) hm (by decide))
    have mrun : ∀ {l : Launch} {ad : Nat → Nat} {d : Nat} {Q : aH → Prop}, AW (GM adK adV) l ad (d + 150) mX10_line 348 [(0, .ref (ad 0))] [] (sI (sI hM6 13 (8 + D) w5) 2 9 (hM6.1 2 9 + 1)) (qv Q) → AW (GM adK adV) l ad (d + 150) mX10_line 0 [(0, .ref (ad 0))] [] hM (qv Q) := by
      intro l ad d Q H
      refine ml_go (w := 2) (by decide) s0 v0 (fun z => ?_) (fun z => absurd z (by decide)) (bX10_line_71 _ _ ⟨fun _ => a4 ⟨fun z => absurd z (by decide), fun z => absurd z (by decide), fun _ => ?_, fun z => absurd z (by decide), fun z => absurd z (by decide), fun z => absurd z (by decide), fun z => absurd z (by decide), fun _ _ z => absurd rfl z⟩, fun z => absurd g0 z⟩)
      · unfold fl at z
        rcases z with ⟨z, -⟩ | ⟨z, -⟩ | ⟨-, z⟩ | ⟨z, -⟩
        · omega
        · omega
        · rw [n2] at z
          exact absurd ((nI_eq (b := 8) (by omega) (by decide)).mp z) w
        · omega
      · refine m_frs (k := 2) rfl (by decide) ?_
        rw [show hM1.1 2 (7 + 2) = nI D from n2', i8]
        refine bX10_debtLine_0 _ _ (m_mnH (r2 ?_))
        rw [c8]
        refine ⟨v16, r2' (m_mnH (r4 ?_))⟩
        have f51 : AW (GM adK adV) l ad (d + 149) mX10_debtLine 51 [(0, .ref (ad 0)), (1, .int (nI (8 + D)))] [] hMx (qv fun h38 => AW (GM adK adV) l ad (d + 150) mX10_line 348 [(0, .ref (ad 0))] [] h38 (qv Q)) := by
          refine bX10_debtLine_51 _ _ (r7 (r9 ⟨v16, ?_⟩))
          rw [c8]
          refine m_tkH (r11 (r11' (r13 (m_frs (k := 2) rfl (by decide) (m_rds (k := 2) rfl (by decide) ?_)))))
          rw [sI_c (show 2 ≠ 13 by decide)]
          exact H
        have e0 : (sI hMb 10 (8 + D) w2).1 0 29 = hMb.1 0 29 := sI_c (by decide)
        have e15 : (sI hMb 10 (8 + D) w2).1 10 (8 + D) = w2 := sI_s
        have e14 : (sI hMb 10 (8 + D) w2).1 9 (8 + D) = hMb.1 9 (8 + D) := sI_c (by decide)
        rw [e0, e15, e14]
        refine ⟨fun q => ?_, fun q => ⟨fun q2 => ?_, fun q2 => r5 q ?_ f51⟩⟩
        · rw [← r6 (fun c => q c.1)]; exact f51
        · rw [← r6 (fun c => q2 (by rw [rb q]; exact c.2))]; exact f51
        · rw [rb q] at q2; exact q2
    have fM7 : fM hM (sI (sI hM6 13 (8 + D) w5) 2 9 (hM6.1 2 9 + 1)) := fM_s (fM_s fM6 (Or.inr (le8 13 (by decide) (by decide)))) (Or.inr ⟨by decide, by decide, by decide⟩)
    rcases P5 with ⟨Ra, Rb, eC6, fr6, u, u1, u2, eu, eu'⟩ | B
    · rcases P4 with ⟨Rc, Rd, eC5, fr5, e, he, ee, ee'⟩ | B2
      · obtain ⟨eW4, eS4, eM4, eT4, x, x', v, hx, hx', hne, hv, ez, ez', ev, e9, e10, e11⟩ := I4 Rc
        have eW : wd hC6 y = wd hC y := by rw [eC6, wdo h2y, eC5, wdo h2y, eW4]
        have eS6 : sH hM6 = sH (sI (sI hM4 11 (8 + D) w3) 12 (hf 12 + D) w4) := (sHf fr6).trans (sHf fr5)
        have eM : ∀ j, j ≠ 22 → ¬ (25 ≤ j ∧ j ≤ 28) → (sI (sI hM6 13 (8 + D) w5) 2 9 (hM6.1 2 9 + 1)).1 0 j = hM.1 0 j := fun j h1 h2 => (sI_c (by decide)).trans ((sI_c (by decide)).trans ((fr6.2 0 j (by omega)).trans ((fr5.2 0 j (by omega)).trans ((sI_c (by decide)).trans (eM4 j h1 h2)))))
        have eT : (sI (sI hM6 13 (8 + D) w5) 2 9 (hM6.1 2 9 + 1)).1 0 22 = hM.1 0 22 ||| ((1 : Int32) <<< (nI 2 &&& 31)) := (sI_c (by decide)).trans ((sI_c (by decide)).trans ((fr6.2 0 22 (by decide)).trans ((fr5.2 0 22 (by decide)).trans ((sI_c (by decide)).trans eT4))))
        have e7 : hM6.1 2 9 = nI D := (fr6.2 2 9 (by decide)).trans ((fr5.2 2 9 (by decide)).trans ((sI_c (by decide)).trans ((eS4 2 2 (by omega)).trans n2)))
        have nC : hC6.1 (y + 17) 11 = nI D := (congrFun (congrFun eW 17) 11).trans n1
        refine ⟨sI (sI (sI (sI (sI (sI (sI (sI (sI (sI hC6 (y + 20) D z) (y + 21) D z2) (y + 22) D z3) (y + 23) D z4) (y + 24) D z5) (y + 25) D 0) (y + 26) D 0) (y + 27) D 0) (y + 28) D 0) (y + 17) 11 (nI (D + 1)), _, fC_s (fC_s (fC_s (fC_s (fC_s (fC_s (fC_s (fC_s (fC_s (fC_s fC6 (by omega)) (by omega)) (by omega)) (by omega)) (by omega)) (by omega)) (by omega)) (by omega)) (by omega)) (by omega), fM7, fun q => cpre ⟨fun z => absurd (rd_c0 Rb) z, fun _ => mref ey6 ⟨HS, bX8_addDebt_0 (y + 17) HS.2.2.2.2.2 _ _ _ _ _ _ ?_⟩⟩, fun q1 q2 => mrun (k348 q1 q2), Or.inl ⟨i + 1 + 1 + 1 + 1 + 1 + 1, m, t, n, D + 1, K, by omega, rd_m (rd_m (rd_c (rd_c (rd_c (rd_c (rd_c (rd_c (rd_c (rd_c (rd_c (rd_c Rb (by omega)) (by omega)) (by omega)) (by omega)) (by omega)) (by omega)) (by omega)) (by omega)) (by omega)) (by omega)) (by omega)) (by omega), ?_, (eM 34 (by decide) (by decide)).trans z34, ?_, (eM 33 (by decide) (by decide)).trans z33⟩⟩
        · have k1 : ∀ {h : aH} {b : Nat} {v : Int32}, b ≠ y + 17 → h.1 (y + 17) 11 = nI D → (sI h b D v).1 (y + 17) 11 = nI D := fun hb hh => (sI_c (Ne.symm hb)).trans hh
          have e1 := k1 (b := y + 17 + 3) (v := z) (by omega) nC
          have e2 := k1 (b := y + 17 + 4) (v := z2) (by omega) e1
          have e3 := k1 (b := y + 17 + 5) (v := z3) (by omega) e2
          have e4 := k1 (b := y + 17 + 6) (v := z4) (by omega) e3
          have e5 := k1 (b := y + 17 + 7) (v := z5) (by omega) e4
          have e6 := k1 (b := y + 17 + 8) (v := 0) (by omega) e5
          have e7 := k1 (b := y + 17 + 9) (v := 0) (by omega) e6
          have e8 := k1 (b := y + 17 + 10) (v := 0) (by omega) e7
          have e9 := k1 (b := y + 17 + 11) (v := 0) (by omega) e8
          have cD : (nI D).toNatClampNeg = D := nI_clamp (by omega)
          have vD : vp_in (nI D) 8 := vp_in_nI hm (by decide)
          rw [nC, cD, e1, cD]
          refine ⟨fun _ => ⟨vD, vD, href ?_⟩, fun z => absurd (nI_lt (b := 8) hm (by decide)) z⟩
          rw [e2, cD, e3, cD]
          refine ⟨vD, vD, href ?_⟩
          rw [e4, cD, e5, cD]
          refine ⟨vD, vD, href ?_⟩
          rw [e6, cD, e7, cD]
          refine ⟨vD, vD, href ?_⟩
          rw [e8, cD, e9, nI_1]
          exact ⟨vp_in_nI (by omega) (by decide), href q⟩
        · have W : ∀ {h : aH} {j0 : Nat} {j k : Nat} {v : Int32}, ¬ (j = j0 ∧ k = D) → wd (sI h (y + j0) D v) y j k = wd h y j k := fun hne => wds hne
          refine sq_debt (a := x) (b := x') (v := v) (e := e) (x := u) ZQ hm hx hx' hne hv he ?_ ?_ ?_ ?_ ?_ ?_ ?_ ?_ ?_ (fun j k h1 h2 => ?_) ?_ ?_ ?_ ?_ ?_ ?_ (fun a k h1 h2 => ?_) ?_
          · rw [wds (by omega), W (by omega), W (by omega), W (by omega), W (by omega), W (by omega), W (by omega), W (by omega), W (by omega), wde (by decide)]; exact ez
          · rw [wds (by omega), W (by omega), W (by omega), W (by omega), W (by omega), W (by omega), W (by omega), W (by omega), wde (by decide)]; exact ez'
          · rw [wds (by omega), W (by omega), W (by omega), W (by omega), W (by omega), W (by omega), W (by omega), wde (by decide)]; exact ev
          · rw [wds (by omega), W (by omega), W (by omega), W (by omega), W (by omega), W (by omega), wde (by decide)]; exact ee
          · rw [wds (by omega), W (by omega), W (by omega), W (by omega), W (by omega), wde (by decide)]; exact eu
          · rw [wds (by omega), W (by omega), W (by omega), W (by omega), wde (by decide)]
          · rw [wds (by omega), W (by omega), W (by omega), wde (by decide)]
          · rw [wds (by omega), wde (by decide)]
          · rw [wde (by decide)]
          · rw [wds h2, W (by omega), W (by omega), W (by omega), W (by omega), W (by omega), W (by omega), W (by omega), W (by omega), W (by omega), eW]
          · refine (sHs (a0 := 2) (k0 := 2) (by omega)).trans ((sHs (a0 := 13) (k0 := D) (by omega)).trans ?_)
            rw [eS6, sHs (by omega)]; exact e9
          · refine (sHs (a0 := 2) (k0 := 2) (by omega)).trans ((sHs (a0 := 13) (k0 := D) (by omega)).trans ?_)
            rw [eS6, sHs (by omega)]; exact e10
          · refine (sHs (a0 := 2) (k0 := 2) (by omega)).trans ((sHs (a0 := 13) (k0 := D) (by omega)).trans ?_)
            rw [eS6, sHs (by omega)]; exact e11
          · refine (sHs (a0 := 2) (k0 := 2) (by omega)).trans ((sHs (a0 := 13) (k0 := D) (by omega)).trans ?_)
            rw [eS6, sHe (by decide) (by decide)]; exact ee'
          · exact (sHs (a0 := 2) (k0 := 2) (by omega)).trans ((sHe (a0 := 13) (k0 := D) (by decide) (by decide)).trans eu')
          · refine (sHe (a0 := 2) (k0 := 2) (by decide) (by decide)).trans ?_
            rw [e7, nI_1]
          · refine (sHs (a0 := 2) (k0 := 2) h2).trans ((sHs (a0 := 13) (k0 := D) (by omega)).trans ?_)
            rw [eS6, sHs (by omega)]
            exact eS4 a k (by omega)
          · rw [eT]; exact bS_or (w := 2) (by decide) (by decide) (by decide) (by decide)
        · have W : ∀ {h : aH} {j0 : Nat} {j k : Nat} {v : Int32}, ¬ (j = j0 ∧ k = D) → wd (sI h (y + j0) D v) y j k = wd h y j k := fun hne => wds hne
          rw [eM 23 (by decide) (by decide), ← z18, wds (by omega), W (by omega), W (by omega), W (by omega), W (by omega), W (by omega), W (by omega), W (by omega), W (by omega), W (by omega), eW]
      · exact absurd (rd_c0 Ra) B2.1
    · exact ⟨hC6, _, fC6, fM7, fun q => cpre ⟨fun _ => q, fun z => absurd z B.1⟩, fun q1 q2 => mrun (k348 q1 q2), Or.inr (bd_mw (bd_mw B (by omega)) (by omega))⟩
end LN5
