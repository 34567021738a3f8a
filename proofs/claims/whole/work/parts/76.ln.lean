/-! ===== lines: an elephant, a rate, a number to begin with ===== -/
section LN3
variable {l l' : Launch} {ad ad' adK adV : Nat → Nat} {τ : tX} {i y m t n D K : Nat} {hC hM h hC1 hM1 : aH} {T : Int32}
theorem hrT (Z : SQ (wd hC y) (sH hM) T m t n D K) (e1 : wd hC1 y = wd hC y) (e2 : ∀ a k, a < 9 → sH hM1 a k = sH hM a k) : hC1.1 y 12 = nI t ∧ hM1.1 2 8 = nI t ∧ ∀ p, p < t → hM1.1 5 (6 + p) = hC1.1 (y + 2) p :=
  ⟨(congrFun (congrFun e1 0) 12).trans Z.1.2.2.2.1, (e2 2 1 (by decide)).trans Z.1.2.2.2.2.1, fun p hp => ((e2 5 p (by decide)).trans (Z.2.2.1 p hp).1).trans (congrFun (congrFun e1 2) p).symm⟩
theorem hrM (Z : SQ (wd hC y) (sH hM) T m t n D K) (e1 : wd hC1 y = wd hC y) (e2 : ∀ a k, a < 9 → sH hM1 a k = sH hM a k) : hC1.1 y 11 = nI m ∧ hM1.1 2 7 = nI m ∧ ∀ p, p < m → hM1.1 3 (6 + p) = hC1.1 (y + 1) p :=
  ⟨(congrFun (congrFun e1 0) 11).trans Z.1.1, (e2 2 0 (by decide)).trans Z.1.2.1, fun p hp => ((e2 3 p (by decide)).trans (Z.2.1 p hp).1).trans (congrFun (congrFun e1 1) p).symm⟩
theorem ln_tusk (Y : y = 8 ∨ y = 37) (ey : hC.2.2 2 1 = y) (R : RD τ i hC hM) (Z : SR y hC hM m t n D K) (hk : hC.1 4 i = nI 1) : LNR l ad l' ad' adK adV τ y i mX3_readTusk hC hM := by
  have HS := yS Y
  obtain ⟨s0, v0⟩ := rd_w (w := 1) (by decide) R hk
  have g0 := rd_m0 R
  obtain ⟨ZQ, z34, z18, z33⟩ := Z
  have n1 : hC.1 y 12 = nI t := ZQ.1.2.2.2.1
  have n2 : hM.1 2 8 = nI t := ZQ.1.2.2.2.2.1
  have n3 : t ≤ 6 := ZQ.1.2.2.2.2.2.1
  by_cases w : t = 6
  · subst w
    have b3 := rf3 R (x := 2) (by decide)
    refine ⟨rfC hC i 2, rfM hM 2, rfC_f, rfM_f, fun q => ?_, fun q1 _ => ml_full (w := 1) (by decide) g0 s0 v0 (Or.inr (Or.inl ⟨rfl, n2⟩)) (q1 (bd_m (j_ref R (by decide)))), Or.inr (j_ref R (by decide))⟩
    refine bX3_readTusk_0 _ (mref ey ⟨HS, fun _ => bX3_readTusk_18 _ _ (c_lw0 (c_ref R (mref ey ⟨HS, bX3_takeNewName_0 _ _ (HS.2.1 1 (by decide)) _ _ ⟨fun z => absurd z b3, fun _ => bX3_takeNumber_0 _ _ _ ⟨fun z => absurd z b3, fun _ => bX3_takeNumber_0 _ _ _ ⟨fun z => absurd z b3, fun _ => ⟨fun _ => q, fun z => absurd z b3⟩⟩⟩⟩⟩))), fun z => ?_⟩)
    rw [n1] at z
    exact absurd (Int32.le_refl _) z
  · have hm : t < 6 := by omega
    have R0 : RD τ i hC (sI hM 0 22 (hM.1 0 22 ||| ((1 : Int32) <<< (nI 1 &&& 31)))) := rd_m R (by omega)
    obtain ⟨hM1, a1, a2, a3, a4⟩ := j_adv (adK := adK) (adV := adV) R0 (by rw [hk]; decide)
    have e22 : ∀ j, j ≠ 22 → ¬ (25 ≤ j ∧ j ≤ 28) → hM1.1 0 j = hM.1 0 j := fun j h1 h2 => (a2.2 0 j (by omega)).trans (sI_k h1)
    have eS1 : sH hM1 = sH hM := (sHf a2).trans (sHo (by omega))
    have eW1 : wd (sI hC 2 2 (nI (i + 1))) y = wd hC y := wdo (by omega)
    obtain ⟨n1', n2', nn'⟩ := hrT ZQ eW1 (fun a k _ => congrFun (congrFun eS1 a) k)
    obtain ⟨z, w1, hC2, hM2, f2, g2, r1, r2, P1⟩ := j_new (adK := adK) (adV := adV) (y := y) (a := y + 2) (A := 5) (q := t) (HS.2.1 1 (by decide)) rfl n3 n1' n2' nn' a1
    have J2 : RD τ (i + 1 + 1) hC2 (sI hM2 5 (6 + t) w1) ∨ BD hC2 (sI hM2 5 (6 + t) w1) := by
      rcases P1 with P | B
      · exact Or.inl (rd_m P.1 (by omega))
      · exact Or.inr (bd_mw B (by omega))
    obtain ⟨z2, w2, hC3, hM3, f3, g3, r3, r4, P2⟩ := j_num (adK := adK) (adV := adV) (y := y) (x1 := 0) (x2 := 99) (lo := 0) (hi := 99) rfl rfl (by decide) (by decide) J2
    have J3 : RD τ (i + 1 + 1 + 1) hC3 (sI hM3 6 (6 + t) w2) ∨ BD hC3 (sI hM3 6 (6 + t) w2) := by
      rcases P2 with P | B
      · exact Or.inl (rd_m P.2.1 (by omega))
      · exact Or.inr (bd_mw B (by omega))
    obtain ⟨z3, w3, hC4, hM4, f4, g4, r5, r6, P3⟩ := j_num (adK := adK) (adV := adV) (y := y) (x1 := 0) (x2 := 9) (lo := 0) (hi := 9) rfl rfl (by decide) (by decide) J3
    have ey2 : (sI hC 2 2 (nI (i + 1))).2.2 2 1 = y := ey
    have ey4 : hC4.2.2 2 1 = y := by rw [f4.1, f3.1, f2.1]; exact ey
    have fC4 : fC y hC hC4 := fC_tr (fC_s fC_rfl (by omega)) (fC_tr f2 (fC_tr f3 f4))
    have i6 : (6 : Int32) + nI t = nI (6 + t) := nI_add 6 t
    have cpre : ∀ {l : Launch} {ad : Nat → Nat} {d : Nat} {Q : aH → Prop}, ((¬ (hC4.1 2 3) = 0 → (Q hC4)) ∧ ((hC4.1 2 3) = 0 → (∀ y8 : Nat, y8 = hC4.2.2 2 1 → isS GC y8 ∧ (AW GC l ad (d + 79) mX6_addTusk 0 [(0, .ref (ad y8)), (1, .int z), (2, .int z2), (3, .int z3)] [] hC4 (qv fun h9 => Q h9))))) → AW GC l ad (d + 80) mX3_readTusk 0 [(0, .ref (ad 2))] [] hC (qv Q) := by
      intro l ad d Q H
      refine bX3_readTusk_0 _ (mref ey ⟨HS, fun z => ?_, fun _ => bX3_readTusk_18 _ _ (c_lw1 (a3 (mref ey2 ⟨HS, r1 (r3 (r5 H))⟩)))⟩)
      rw [n1] at z
      exact absurd z (nI_ge (b := 6) hm (by decide))
    have mrun : ∀ {l : Launch} {ad : Nat → Nat} {d : Nat} {Q : aH → Prop}, AW (GM adK adV) l ad (d + 150) mX10_line 348 [(0, .ref (ad 0))] [] (sI (sI (sI hM4 7 (6 + t) w3) 8 (6 + t) (-1)) 2 8 (hM4.1 2 8 + 1)) (qv Q) → AW (GM adK adV) l ad (d + 150) mX10_line 0 [(0, .ref (ad 0))] [] hM (qv Q) := by
      intro l ad d Q H
      refine ml_go (w := 1) (by decide) s0 v0 (fun z => ?_) (fun z => absurd z (by decide)) (bX10_line_71 _ _ ⟨fun _ => a4 ⟨fun z => absurd z (by decide), fun _ => ?_, fun z => absurd z (by decide), fun z => absurd z (by decide), fun z => absurd z (by decide), fun z => absurd z (by decide), fun z => absurd z (by decide), fun _ z => absurd rfl z⟩, fun z => absurd g0 z⟩)
      · unfold fl at z
        rcases z with ⟨z, -⟩ | ⟨-, z⟩ | ⟨z, -⟩ | ⟨z, -⟩
        · omega
        · rw [n2] at z
          exact absurd ((nI_eq (b := 6) (by omega) (by decide)).mp z) w
        all_goals omega
      · refine m_frs (k := 1) rfl (by decide) (m_frs (k := 1) rfl (by decide) (r2 ?_))
        rw [show hM1.1 2 (7 + 1) = nI t from n2', i6, nI_clamp (by omega)]
        refine ⟨vp_in_nI (by omega) (by decide), r4 (r6 (m_frs (k := 1) rfl (by decide) (m_rds (k := 1) rfl (by decide) ?_)))⟩
        rw [sI_c (show 2 ≠ 8 by decide), sI_c (show 2 ≠ 7 by decide)]
        exact H
    have le6 : ∀ a, 3 ≤ a → a ≤ 8 → hf a ≤ 6 + t := fun a h1 h2 => by
      have : hf a = 6 := by unfold hf; rw [if_neg (by omega), if_pos h2]
      omega
    have fM5 : fM hM (sI (sI (sI hM4 7 (6 + t) w3) 8 (6 + t) (-1)) 2 8 (hM4.1 2 8 + 1)) :=
      fM_s (fM_s (fM_s (fM_tr (fM_s fM_rfl (Or.inl ⟨rfl, Or.inl rfl⟩)) (fM_tr (fM_fr a2) (fM_tr g2 (fM_tr (fM_s fM_rfl (Or.inr ⟨by decide, by decide, le6 5 (by decide) (by decide)⟩)) (fM_tr g3 (fM_tr (fM_s fM_rfl (Or.inr ⟨by decide, by decide, le6 6 (by decide) (by decide)⟩)) g4)))))) (Or.inr ⟨by decide, by decide, le6 7 (by decide) (by decide)⟩)) (Or.inr ⟨by decide, by decide, le6 8 (by decide) (by decide)⟩)) (Or.inr ⟨by decide, by decide, by decide⟩)
    rcases P3 with ⟨Ra, Rb, eC4, fr4, x', x1', x2', ez', ew'⟩ | B
    · rcases P2 with ⟨Rc, Rd, eC3, fr3, x, x1, x2, ez, ew⟩ | B2
      · rcases P1 with ⟨Re, eC2, fr2, ezw⟩ | B1
        · have eW : wd hC4 y = wd hC y := by
            rw [eC4, wdo (by omega), eC3, wdo (by omega), eC2, wdo (by omega), wdo (by omega)]
          have eS2 : sH hM2 = sH hM := (sHf fr2).trans eS1
          have eS3 : sH hM3 = sH (sI hM2 5 (hf 5 + t) w1) := sHf fr3
          have eS4 : sH hM4 = sH (sI hM3 6 (hf 6 + t) w2) := sHf fr4
          have eM : ∀ j, j ≠ 22 → ¬ (25 ≤ j ∧ j ≤ 28) → (sI (sI (sI hM4 7 (6 + t) w3) 8 (6 + t) (-1)) 2 8 (hM4.1 2 8 + 1)).1 0 j = hM.1 0 j := fun j h1 h2 => (sI_c (by decide)).trans ((sI_c (by decide)).trans ((sI_c (by decide)).trans ((fr4.2 0 j (by omega)).trans ((sI_c (by decide)).trans ((fr3.2 0 j (by omega)).trans ((sI_c (by decide)).trans ((fr2.2 0 j (by omega)).trans (e22 j h1 h2))))))))
          have eT : (sI (sI (sI hM4 7 (6 + t) w3) 8 (6 + t) (-1)) 2 8 (hM4.1 2 8 + 1)).1 0 22 = hM.1 0 22 ||| ((1 : Int32) <<< (nI 1 &&& 31)) := (sI_c (by decide)).trans ((sI_c (by decide)).trans ((sI_c (by decide)).trans ((fr4.2 0 22 (by decide)).trans ((sI_c (by decide)).trans ((fr3.2 0 22 (by decide)).trans ((sI_c (by decide)).trans ((fr2.2 0 22 (by decide)).trans ((a2.2 0 22 (by decide)).trans sI_s))))))))
          have e7 : hM4.1 2 8 = nI t := (fr4.2 2 8 (by decide)).trans ((sI_c (by decide)).trans ((fr3.2 2 8 (by decide)).trans ((sI_c (by decide)).trans ((fr2.2 2 8 (by decide)).trans n2'))))
          have nC : hC4.1 y 12 = nI t := (congrFun (congrFun eW 0) 12).trans n1
          have nA : hC4.1 (y + 17) 12 = nI (2 ^ t - 1) := (congrFun (congrFun eW 17) 12).trans ZQ.1.2.2.2.2.2.2.2.2.2.2.2.2.2.2.2
          refine ⟨sI (sI (sI (sI (sI (sI hC4 (y + 2) t z) (y + 19) t z2) (y + 3) t z3) (y + 4) t (-1)) (y + 17) 12 (nI (2 ^ (t + 1) - 1))) y 12 (nI (t + 1)), _, fC_s (fC_s (fC_s (fC_s (fC_s (fC_s fC4 (by omega)) (by omega)) (by omega)) (by omega)) (by omega)) (by omega), fM5, fun q => cpre ⟨fun z => absurd (rd_c0 Rb) z, fun _ => mref ey4 ⟨HS, bX6_addTusk_0 y HS _ _ _ _ ?_⟩⟩, fun q1 q2 => mrun (k348 q1 q2), Or.inl ⟨i + 1 + 1 + 1 + 1, m, t + 1, n, D, K, by omega, rd_m (rd_m (rd_m (rd_c (rd_c (rd_c (rd_c (rd_c (rd_c Rb (by omega)) (by omega)) (by omega)) (by omega)) (by omega)) (by omega)) (by omega)) (by omega)) (by omega), ?_, (eM 34 (by decide) (by decide)).trans z34, ?_, (eM 33 (by decide) (by decide)).trans z33⟩⟩
          · have e1 : (sI hC4 (y + 2) t z).1 y 12 = nI t := (sI_c (by omega)).trans nC
            have e2 : (sI (sI hC4 (y + 2) t z) (y + 19) t z2).1 y 12 = nI t := (sI_c (by omega)).trans e1
            have e3 : (sI (sI (sI hC4 (y + 2) t z) (y + 19) t z2) (y + 3) t z3).1 y 12 = nI t := (sI_c (by omega)).trans e2
            have e4 : (sI (sI (sI (sI hC4 (y + 2) t z) (y + 19) t z2) (y + 3) t z3) (y + 4) t (-1)).1 y 12 = nI t := (sI_c (by omega)).trans e3
            have e5 : (sI (sI (sI (sI hC4 (y + 2) t z) (y + 19) t z2) (y + 3) t z3) (y + 4) t (-1)).1 (y + 17) 12 = nI (2 ^ t - 1) := (sI_c (by omega)).trans ((sI_c (by omega)).trans ((sI_c (by omega)).trans ((sI_c (by omega)).trans nA)))
            have e6 : (sI (sI (sI (sI (sI hC4 (y + 2) t z) (y + 19) t z2) (y + 3) t z3) (y + 4) t (-1)) (y + 17) 12 (nI (2 ^ (t + 1) - 1))).1 y 12 = nI t := (sI_c (by omega)).trans e4
            rw [nC, nI_clamp (by omega), e1, nI_clamp (by omega)]
            refine ⟨fun z => absurd z (nI_ge (b := 6) hm (by decide)), fun _ => ⟨vp_in_nI hm (by decide), vp_in_nI hm (by decide), href ?_⟩⟩
            rw [e2, nI_clamp (by omega), e3, nI_clamp (by omega)]
            refine ⟨vp_in_nI hm (by decide), vp_in_nI hm (by decide), href (href ?_)⟩
            rw [e5, e4, pow_or t hm, e6, nI_1]
            exact q
          · refine sq_tusk (nm := z) (bu := z3) (ag := x) ZQ hm x2 ?_ ?_ ?_ ?_ ?_ ?_ (fun j k h1 h2 h3 => ?_) ?_ ?_ ?_ ?_ ?_ (fun a k h1 h2 => ?_) ?_
            · exact (wds (j0 := 0) (k0 := 12) (by omega)).trans ((wds (j0 := 17) (k0 := 12) (by omega)).trans ((wds (j0 := 4) (k0 := t) (by omega)).trans ((wds (j0 := 3) (k0 := t) (by omega)).trans ((wds (j0 := 19) (k0 := t) (by omega)).trans (wde (j0 := 2) (by decide))))))
            · exact (wds (j0 := 0) (k0 := 12) (by omega)).trans ((wds (j0 := 17) (k0 := 12) (by omega)).trans ((wds (j0 := 4) (k0 := t) (by omega)).trans ((wds (j0 := 3) (k0 := t) (by omega)).trans ((wde (j0 := 19) (by decide)).trans ez))))
            · exact (wds (j0 := 0) (k0 := 12) (by omega)).trans ((wds (j0 := 17) (k0 := 12) (by omega)).trans ((wds (j0 := 4) (k0 := t) (by omega)).trans (wde (j0 := 3) (by decide))))
            · exact (wds (j0 := 0) (k0 := 12) (by omega)).trans ((wds (j0 := 17) (k0 := 12) (by omega)).trans (wde (j0 := 4) (by decide)))
            · exact (wds (j0 := 0) (k0 := 12) (by omega)).trans (wde (j0 := 17) (by decide))
            · exact wde (j0 := 0) (by decide)
            · exact (wds (j0 := 0) (k0 := 12) h3).trans ((wds (j0 := 17) (k0 := 12) h2).trans ((wds (j0 := 4) (k0 := t) (by omega)).trans ((wds (j0 := 3) (k0 := t) (by omega)).trans ((wds (j0 := 19) (k0 := t) (by omega)).trans ((wds (j0 := 2) (k0 := t) (by omega)).trans (congrFun (congrFun eW j) k))))))
            · refine (sHs (a0 := 2) (k0 := 1) (by omega)).trans ((sHs (a0 := 8) (k0 := t) (by omega)).trans ((sHs (a0 := 7) (k0 := t) (by omega)).trans ?_))
              rw [eS4, sHs (by omega), eS3, ezw]
              exact sHe (by decide) (by decide)
            · refine (sHs (a0 := 2) (k0 := 1) (by omega)).trans ((sHs (a0 := 8) (k0 := t) (by omega)).trans ((sHs (a0 := 7) (k0 := t) (by omega)).trans ?_))
              rw [eS4, sHe (by decide) (by decide)]
              exact ew
            · refine (sHs (a0 := 2) (k0 := 1) (by omega)).trans ((sHs (a0 := 8) (k0 := t) (by omega)).trans ((sHe (a0 := 7) (k0 := t) (by decide) (by decide)).trans ?_))
              rw [ew', ez']
            · exact (sHs (a0 := 2) (k0 := 1) (by omega)).trans (sHe (a0 := 8) (k0 := t) (by decide) (by decide))
            · refine (sHe (a0 := 2) (k0 := 1) (by decide) (by decide)).trans ?_
              rw [e7, nI_1]
            · refine (sHs (a0 := 2) (k0 := 1) h2).trans ((sHs (a0 := 8) (k0 := t) (by omega)).trans ((sHs (a0 := 7) (k0 := t) (by omega)).trans ?_))
              rw [eS4, sHs (by omega), eS3, sHs (by omega), eS2]
            · rw [eT]; exact bS_or (w := 1) (by decide) (by decide) (by decide) (by decide)
          · rw [eM 23 (by decide) (by decide), ← z18]
            exact (wds (j0 := 0) (k0 := 12) (by omega)).trans ((wds (j0 := 17) (k0 := 12) (by omega)).trans ((wds (j0 := 4) (k0 := t) (by omega)).trans ((wds (j0 := 3) (k0 := t) (by omega)).trans ((wds (j0 := 19) (k0 := t) (by omega)).trans ((wds (j0 := 2) (k0 := t) (by omega)).trans (congrFun (congrFun eW 0) 18))))))
        · exact absurd (rd_c0 Rc) B1.1
      · exact absurd (rd_c0 Ra) B2.1
    · exact ⟨hC4, _, fC4, fM5, fun q => cpre ⟨fun _ => q, fun z => absurd z B.1⟩, fun q1 q2 => mrun (k348 q1 q2), Or.inr (bd_mw (bd_mw (bd_mw B (by omega)) (by omega)) (by omega))⟩
theorem nfl {w : Nat} (h : 4 ≤ w) : ¬ fl hM w := fun z => by unfold fl at z; omega
theorem ln_rate (Y : y = 8 ∨ y = 37) (ey : hC.2.2 2 1 = y) (R : RD τ i hC hM) (Z : SR y hC hM m t n D K) (hk : hC.1 4 i = nI 5) : LNR l ad l' ad' adK adV τ y i mX3_readRate hC hM := by
  have HS := yS Y
  obtain ⟨s0, v0⟩ := rd_w (w := 5) (by decide) R hk
  have g0 := rd_m0 R
  obtain ⟨ZQ, z34, z18, z33⟩ := Z
  have QB : bt (hM.1 0 22) 5 = true ↔ ¬ hC.1 y 15 = 0 := ZQ.2.2.2.2.2.2.1.1
  by_cases w : bt (hM.1 0 22) 5 = true
  · have b3 := rf3 R (x := 3) (by decide)
    refine ⟨sI (sI (rfC hC i 3) y 14 0) y 15 1, rfM hM 3, fC_s (fC_s rfC_f (by omega)) (by omega), rfM_f, fun q => ?_, fun q1 _ => ml_told (w := 5) (by decide) g0 s0 v0 w (q1 (bd_m (j_ref R (by decide)))), Or.inr (bd_cw (bd_cw (j_ref R (by decide)) (by omega)) (by omega))⟩
    exact bX3_readRate_0 _ (mref ey ⟨HS, fun _ => bX3_readRate_16 _ _ (c_lw0 (c_ref R (mref ey ⟨HS, bX3_takeNumber_0 _ _ _ ⟨fun z => absurd z b3, fun _ => mref ey ⟨HS, q⟩⟩⟩))), fun z => absurd z (QB.mp w)⟩)
  · have R0 : RD τ i hC (sI hM 0 22 (hM.1 0 22 ||| ((1 : Int32) <<< (nI 5 &&& 31)))) := rd_m R (by omega)
    obtain ⟨hM1, a1, a2, a3, a4⟩ := j_adv (adK := adK) (adV := adV) R0 (by rw [hk]; decide)
    obtain ⟨z, w1, hC2, hM2, f2, g2, r1, r2, P1⟩ := j_num (adK := adK) (adV := adV) (y := y) (x1 := 0) (x2 := 100) (lo := 0) (hi := 100) rfl rfl (by decide) (by decide) (Or.inl a1)
    have ey1 : (sI hC 2 2 (nI (i + 1))).2.2 2 1 = y := ey
    have ey2 : hC2.2.2 2 1 = y := by rw [f2.1]; exact ey
    have fC2 : fC y hC hC2 := fC_tr (fC_s fC_rfl (by omega)) f2
    have hw : hC.1 y 15 = 0 := Decidable.byContradiction (fun q => w (QB.mpr q))
    refine ⟨sI (sI hC2 y 14 z) y 15 1, sI hM2 2 11 w1, fC_s (fC_s fC2 (by omega)) (by omega), fM_s (fM_tr (fM_s fM_rfl (Or.inl ⟨rfl, Or.inl rfl⟩)) (fM_tr (fM_fr a2) g2)) (Or.inr ⟨by decide, by decide, by decide⟩), fun q => ?_, fun q1 q2 => ?_, ?_⟩
    · exact bX3_readRate_0 _ (mref ey ⟨HS, fun z => absurd hw z, fun _ => bX3_readRate_16 _ _ (c_lw1 (a3 (mref ey1 ⟨HS, r1 (mref ey2 ⟨HS, q⟩)⟩)))⟩)
    · refine ml_go (w := 5) (by decide) s0 v0 (nfl (by decide)) (fun _ => by simpa using w) (bX10_line_71 _ _ ⟨fun _ => a4 ⟨fun z => absurd z (by decide), fun z => absurd z (by decide), fun z => absurd z (by decide), fun z => absurd z (by decide), fun z => absurd z (by decide), fun _ => r2 (m_rds (k := 4) rfl (by decide) (k348 q1 q2)), fun z => absurd z (by decide), fun _ _ _ _ _ z => absurd rfl z⟩, fun z => absurd g0 z⟩)
    · rcases P1 with ⟨Ra, Rb, eC2, fr2, x, x1, x2, ez, ew⟩ | B
      · have eW : wd hC2 y = wd hC y := by rw [eC2, wdo (by omega), wdo (by omega)]
        have eS2 : sH hM2 = sH hM := (sHf fr2).trans ((sHf a2).trans (sHo (by omega)))
        have eM : ∀ j, j ≠ 22 → ¬ (25 ≤ j ∧ j ≤ 28) → (sI hM2 2 11 w1).1 0 j = hM.1 0 j := fun j h1 h2 => (sI_c (by decide)).trans ((fr2.2 0 j (by omega)).trans ((a2.2 0 j (by omega)).trans (sI_k h1)))
        have eT : (sI hM2 2 11 w1).1 0 22 = hM.1 0 22 ||| ((1 : Int32) <<< (nI 5 &&& 31)) := (sI_c (by decide)).trans ((fr2.2 0 22 (by decide)).trans ((a2.2 0 22 (by decide)).trans sI_s))
        refine Or.inl ⟨i + 1 + 1, m, t, n, D, K, by omega, rd_m (rd_c (rd_c Rb (by omega)) (by omega)) (by omega), ?_, (eM 34 (by decide) (by decide)).trans z34, ?_, (eM 33 (by decide) (by decide)).trans z33⟩
        · refine sq_rate (r := x) ZQ x2 ?_ ?_ (fun j k h1 => ?_) ?_ (fun a k h1 => ?_) ?_ ?_ (fun k hk => ?_)
          · exact (wds (j0 := 0) (k0 := 15) (by omega)).trans ((wde (j0 := 0) (by decide)).trans ez)
          · exact wde (j0 := 0) (by decide)
          · exact (wds (j0 := 0) (k0 := 15) (by omega)).trans ((wds (j0 := 0) (k0 := 14) (by omega)).trans (congrFun (congrFun eW j) k))
          · exact (sHe (a0 := 2) (k0 := 4) (by decide) (by decide)).trans ew
          · exact (sHs (a0 := 2) (k0 := 4) h1).trans (congrFun (congrFun eS2 a) k)
          · rw [eT, bt_or, bt_one (by decide) (by decide)]; exact Bool.or_true _
          · rw [eT, bt_or, bt_one (by decide) (by decide), decide_eq_false (by decide), Bool.or_false]
          · rw [eT, bt_or, bt_one (by decide) (by omega), decide_eq_false (by omega), Bool.or_false]
        · rw [eM 23 (by decide) (by decide), ← z18]
          exact (wds (j0 := 0) (k0 := 15) (by omega)).trans ((wds (j0 := 0) (k0 := 14) (by omega)).trans (congrFun (congrFun eW 0) 18))
      · exact Or.inr (bd_mw (bd_cw (bd_cw B (by omega)) (by omega)) (by omega))
theorem ln_seed (Y : y = 8 ∨ y = 37) (ey : hC.2.2 2 1 = y) (R : RD τ i hC hM) (Z : SR y hC hM m t n D K) (hk : hC.1 4 i = nI 6) : LNR l ad l' ad' adK adV τ y i mX3_readSeed hC hM := by
  have HS := yS Y
  obtain ⟨s0, v0⟩ := rd_w (w := 6) (by decide) R hk
  have g0 := rd_m0 R
  obtain ⟨ZQ, z34, z18, z33⟩ := Z
  have QB : bt (hM.1 0 22) 6 = true ↔ ¬ hC.1 y 16 = 0 := ZQ.2.2.2.2.2.2.1.2.1
  by_cases w : bt (hM.1 0 22) 6 = true
  · have b3 := rf3 R (x := 3) (by decide)
    refine ⟨sI (sI (rfC hC i 3) (y + 17) 14 0) y 16 1, rfM hM 3, fC_s (fC_s rfC_f (by omega)) (by omega), rfM_f, fun q => ?_, fun q1 _ => ml_told (w := 6) (by decide) g0 s0 v0 w (q1 (bd_m (j_ref R (by decide)))), Or.inr (bd_cw (bd_cw (j_ref R (by decide)) (by omega)) (by omega))⟩
    exact bX3_readSeed_0 _ (mref ey ⟨HS, fun _ => bX3_readSeed_16 _ _ (c_lw0 (c_ref R (mref ey ⟨HS, bX3_takeNumber_0 _ _ _ ⟨fun z => absurd z b3, fun _ => mref ey ⟨HS, q⟩⟩⟩))), fun z => absurd z (QB.mp w)⟩)
  · have R0 : RD τ i hC (sI hM 0 22 (hM.1 0 22 ||| ((1 : Int32) <<< (nI 6 &&& 31)))) := rd_m R (by omega)
    obtain ⟨hM1, a1, a2, a3, a4⟩ := j_adv (adK := adK) (adV := adV) R0 (by rw [hk]; decide)
    obtain ⟨z, w1, hC2, hM2, f2, g2, r1, r2, P1⟩ := j_num (adK := adK) (adV := adV) (y := y) (x1 := 0) (x2 := 99999) (lo := 0) (hi := 99999) rfl rfl (by decide) (by decide) (Or.inl a1)
    have ey1 : (sI hC 2 2 (nI (i + 1))).2.2 2 1 = y := ey
    have ey2 : hC2.2.2 2 1 = y := by rw [f2.1]; exact ey
    have fC2 : fC y hC hC2 := fC_tr (fC_s fC_rfl (by omega)) f2
    have hw : hC.1 y 16 = 0 := Decidable.byContradiction (fun q => w (QB.mpr q))
    refine ⟨sI (sI hC2 (y + 17) 14 z) y 16 1, sI hM2 2 12 w1, fC_s (fC_s fC2 (by omega)) (by omega), fM_s (fM_tr (fM_s fM_rfl (Or.inl ⟨rfl, Or.inl rfl⟩)) (fM_tr (fM_fr a2) g2)) (Or.inr ⟨by decide, by decide, by decide⟩), fun q => ?_, fun q1 q2 => ?_, ?_⟩
    · exact bX3_readSeed_0 _ (mref ey ⟨HS, fun z => absurd hw z, fun _ => bX3_readSeed_16 _ _ (c_lw1 (a3 (mref ey1 ⟨HS, r1 (mref ey2 ⟨HS, q⟩)⟩)))⟩)
    · refine ml_go (w := 6) (by decide) s0 v0 (nfl (by decide)) (fun _ => by simpa using w) (bX10_line_71 _ _ ⟨fun _ => a4 ⟨fun z => absurd z (by decide), fun z => absurd z (by decide), fun z => absurd z (by decide), fun z => absurd z (by decide), fun z => absurd z (by decide), fun z => absurd z (by decide), fun _ => r2 (m_rds (k := 5) rfl (by decide) (k348 q1 q2)), fun _ _ _ _ _ _ z => absurd rfl z⟩, fun z => absurd g0 z⟩)
    · rcases P1 with ⟨Ra, Rb, eC2, fr2, x, x1, x2, ez, ew⟩ | B
      · have eW : wd hC2 y = wd hC y := by rw [eC2, wdo (by omega), wdo (by omega)]
        have eS2 : sH hM2 = sH hM := (sHf fr2).trans ((sHf a2).trans (sHo (by omega)))
        have eM : ∀ j, j ≠ 22 → ¬ (25 ≤ j ∧ j ≤ 28) → (sI hM2 2 12 w1).1 0 j = hM.1 0 j := fun j h1 h2 => (sI_c (by decide)).trans ((fr2.2 0 j (by omega)).trans ((a2.2 0 j (by omega)).trans (sI_k h1)))
        have eT : (sI hM2 2 12 w1).1 0 22 = hM.1 0 22 ||| ((1 : Int32) <<< (nI 6 &&& 31)) := (sI_c (by decide)).trans ((fr2.2 0 22 (by decide)).trans ((a2.2 0 22 (by decide)).trans sI_s))
        refine Or.inl ⟨i + 1 + 1, m, t, n, D, K, by omega, rd_m (rd_c (rd_c Rb (by omega)) (by omega)) (by omega), ?_, (eM 34 (by decide) (by decide)).trans z34, ?_, (eM 33 (by decide) (by decide)).trans z33⟩
        · refine sq_seed (v := nI x) ZQ ?_ ?_ (fun j k h1 h2 => ?_) ?_ (fun a k h1 => ?_) ?_ ?_ (fun k hk => ?_)
          · exact (wds (j0 := 0) (k0 := 16) (by omega)).trans ((wde (j0 := 17) (by decide)).trans ez)
          · exact wde (j0 := 0) (by decide)
          · exact (wds (j0 := 0) (k0 := 16) h2).trans ((wds (j0 := 17) (k0 := 14) h1).trans (congrFun (congrFun eW j) k))
          · exact (sHe (a0 := 2) (k0 := 5) (by decide) (by decide)).trans ew
          · exact (sHs (a0 := 2) (k0 := 5) h1).trans (congrFun (congrFun eS2 a) k)
          · rw [eT, bt_or, bt_one (by decide) (by decide), decide_eq_false (by decide), Bool.or_false]
          · rw [eT, bt_or, bt_one (by decide) (by decide)]; exact Bool.or_true _
          · rw [eT, bt_or, bt_one (by decide) (by omega), decide_eq_false (by omega), Bool.or_false]
        · rw [eM 23 (by decide) (by decide), ← z18]
          exact (wds (j0 := 0) (k0 := 16) (by omega)).trans ((wds (j0 := 17) (k0 := 14) (by omega)).trans (congrFun (congrFun eW 0) 18))
      · exact Or.inr (bd_mw (bd_cw (bd_cw B (by omega)) (by omega)) (by omega))
end LN3
