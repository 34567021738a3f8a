/-! ===== lines: a death, a leaning, a debt ===== -/
section LN4
variable {l l' : Launch} {ad ad' adK adV : Nat → Nat} {τ : tX} {i y m t n D K : Nat} {hC hM h hC1 hM1 : aH} {T : Int32}
theorem m_tkH {l : Launch} {ad : Nat → Nat} {d : Nat} {Q : Int32 → aH → Prop} (H : AW (GM adK adV) l ad d mX10_atHand 0 [(0, .ref (ad 0)), (1, .ref (ad 5)), (2, .int (6 : Int32)), (3, .int (h.1 2 8))] [] h (qi Q)) : AW (GM adK adV) l ad (d + 1) mX10_tuskAtHand 0 [(0, .ref (ad 0))] [] h (qi Q) := bX10_tuskAtHand_0 _ (m_frs (k := 1) rfl (by decide) H)
theorem m_mnH {l : Launch} {ad : Nat → Nat} {d : Nat} {Q : Int32 → aH → Prop} (H : AW (GM adK adV) l ad d mX10_atHand 0 [(0, .ref (ad 0)), (1, .ref (ad 3)), (2, .int (6 : Int32)), (3, .int (h.1 2 7))] [] h (qi Q)) : AW (GM adK adV) l ad (d + 1) mX10_manAtHand 0 [(0, .ref (ad 0))] [] h (qi Q) := bX10_manAtHand_0 _ (m_frs (k := 0) rfl (by decide) H)
theorem ln_dies (Y : y = 8 ∨ y = 37) (ey : hC.2.2 2 1 = y) (R : RD τ i hC hM) (Z : SR y hC hM m t n D K) (hk : hC.1 4 i = nI 4) : LNR l ad l' ad' adK adV τ y i mX3_readDeath hC hM := by
  have HS := yS Y
  obtain ⟨s0, v0⟩ := rd_w (w := 4) (by decide) R hk
  have g0 := rd_m0 R
  obtain ⟨ZQ, z34, z18, z33⟩ := Z
  have n3 : t ≤ 6 := ZQ.1.2.2.2.2.2.1
  have R0 : RD τ i hC (sI hM 0 22 (hM.1 0 22 ||| ((1 : Int32) <<< (nI 4 &&& 31)))) := rd_m R (by omega)
  obtain ⟨hM1, a1, a2, a3, a4⟩ := j_adv (adK := adK) (adV := adV) R0 (by rw [hk]; decide)
  have e22 : ∀ j, j ≠ 22 → ¬ (25 ≤ j ∧ j ≤ 28) → hM1.1 0 j = hM.1 0 j := fun j h1 h2 => (a2.2 0 j (by omega)).trans (sI_k h1)
  have eS1 : sH hM1 = sH hM := (sHf a2).trans (sHo (by omega))
  have eW1 : wd (sI hC 2 2 (nI (i + 1))) y = wd hC y := wdo (by omega)
  obtain ⟨n1', n2', nn'⟩ := hrT ZQ eW1 (fun a k _ => congrFun (congrFun eS1 a) k)
  obtain ⟨z, w1, hC2, hM2, f2, g2, r1, r2, P1⟩ := j_ind (adK := adK) (adV := adV) (y := y) (a := y + 2) (A := 5) (q := t) (x2 := (sI hC 2 2 (nI (i + 1))).1 y 12) (x3 := hM1.1 2 8) (HS.2.1 1 (by decide)) rfl n3 (Or.inl a1) (fun _ => ⟨n1', n2', nn'⟩)
  have ey1 : (sI hC 2 2 (nI (i + 1))).2.2 2 1 = y := ey
  have ey2 : hC2.2.2 2 1 = y := by rw [f2.1]; exact ey
  have fC2 : fC y hC hC2 := fC_tr (fC_s fC_rfl (by omega)) f2
  have fM2 : fM hM hM2 := fM_tr (fM_s fM_rfl (Or.inl ⟨rfl, Or.inl rfl⟩)) (fM_tr (fM_fr a2) g2)
  have cpre : ∀ {l : Launch} {ad : Nat → Nat} {d : Nat} {Q : aH → Prop}, ((z < 0 → (AW GC l ad (d + 80) mX3_readDeath 37 [(0, .ref (ad 2)), (1, .int z)] [] hC2 (qv Q))) ∧ (¬ z < 0 → (((6 : Int32) ≤ z → (AW GC l ad (d + 80) mX3_readDeath 37 [(0, .ref (ad 2)), (1, .int z)] [] hC2 (qv Q))) ∧ (¬ (6 : Int32) ≤ z → (AW GC l ad (d + 80) mX3_readDeath 38 [(0, .ref (ad 2)), (1, .int z)] [.int (1 : Int32)] hC2 (qv Q)))))) → AW GC l ad (d + 80) mX3_readDeath 0 [(0, .ref (ad 2))] [] hC (qv Q) := fun H => bX3_readDeath_0 _ (a3 (mref ey1 ⟨HS, r1 H⟩))
  have mpre : ∀ {l : Launch} {ad : Nat → Nat} {d : Nat} {Q : aH → Prop}, ((¬ (hM2.1 0 29) = 0 → (AW (GM adK adV) l ad (d + 149) mX10_diesLine 30 [(0, .ref (ad 0)), (1, .int w1)] [] hM2 (qv Q))) ∧ ((hM2.1 0 29) = 0 → (vp_in ((6 : Int32) + w1) 12 ∧ (((hM2.1 8 ((6 : Int32) + w1).toNatClampNeg) = (-1 : Int32) → (AW (GM adK adV) l ad (d + 149) mX10_diesLine 30 [(0, .ref (ad 0)), (1, .int w1)] [] hM2 (qv Q))) ∧ (¬ (hM2.1 8 ((6 : Int32) + w1).toNatClampNeg) = (-1 : Int32) → (AW (GM adK adV) l ad (d + 148) mX10_wrong 0 [(0, .ref (ad 0)), (1, .int (3 : Int32))] [] hM2 (qv fun h4 => AW (GM adK adV) l ad (d + 149) mX10_diesLine 30 [(0, .ref (ad 0)), (1, .int w1)] [] h4 (qv Q)))))))) → AW (GM adK adV) l ad (d + 149) mX10_diesLine 0 [(0, .ref (ad 0))] [] hM1 (qv Q) := fun H => bX10_diesLine_0 _ (m_tkH (r2 H))
  have mgo : ∀ {l : Launch} {ad : Nat → Nat} {d : Nat} {Q : aH → Prop}, AW (GM adK adV) l ad (d + 149) mX10_diesLine 0 [(0, .ref (ad 0))] [] hM1 (qv fun h40 => AW (GM adK adV) l ad (d + 150) mX10_line 348 [(0, .ref (ad 0))] [] h40 (qv Q)) → AW (GM adK adV) l ad (d + 150) mX10_line 0 [(0, .ref (ad 0))] [] hM (qv Q) := fun H => ml_go (w := 4) (by decide) s0 v0 (nfl (by decide)) (fun z => absurd z (by decide)) (bX10_line_71 _ _ ⟨fun _ => a4 ⟨fun z => absurd z (by decide), fun z => absurd z (by decide), fun z => absurd z (by decide), fun z => absurd z (by decide), fun _ => H, fun z => absurd z (by decide), fun z => absurd z (by decide), fun _ _ _ _ z => absurd rfl z⟩, fun z => absurd g0 z⟩)
  rcases P1 with ⟨Ra, eC2, eM2, k35, x, hx, ez, ew⟩ | ⟨B, ez⟩
  · have z0 : ¬ z < 0 := by rw [ez]; exact nI_pos (by omega)
    have z6 : ¬ (6 : Int32) ≤ z := by rw [ez]; exact nI_ge (b := 6) (by omega) (by decide)
    have cz : z.toNatClampNeg = x := by rw [ez]; exact nI_clamp (by omega)
    have vz : vp_in z 6 := by rw [ez]; exact vp_in_nI (by omega) (by decide)
    have a6 : (6 : Int32) + w1 = nI (6 + x) := by rw [ew]; exact nI_add 6 x
    have c6 : ((6 : Int32) + w1).toNatClampNeg = 6 + x := by rw [a6]; exact nI_clamp (by omega)
    have v6 : vp_in ((6 : Int32) + w1) 12 := by rw [a6]; exact vp_in_nI (by omega) (by decide)
    have ed : hM2.1 8 (6 + x) = hC2.1 (y + 4) x := by
      rw [eM2, eC2]
      exact ((congrFun (congrFun eS1 8) x).trans (ZQ.2.2.1 x hx).2.2.2.1).trans (congrFun (congrFun eW1 4) x).symm
    have R2 : RD τ (i + 1) hC2 hM2 := by rw [eC2, eM2]; exact Ra
    have k2 : hC2.1 4 (i + 1) = 35 := by rw [eC2]; exact k35
    by_cases w : hC2.1 (y + 4) x = -1
    · obtain ⟨hM3, b1, b2, b3, b4⟩ := j_adv (adK := adK) (adV := adV) R2 (by rw [k2]; decide)
      obtain ⟨z2, w2, hC4, hM4, f4, g4, r3, r4, P2⟩ := j_num (adK := adK) (adV := adV) (y := y) (x1 := 0) (x2 := 99) (lo := 0) (hi := 99) rfl rfl (by decide) (by decide) (Or.inl b1)
      have ey4 : hC4.2.2 2 1 = y := by rw [f4.1]; exact ey2
      have fC4 : fC y hC hC4 := fC_tr fC2 (fC_tr (fC_s fC_rfl (by omega)) f4)
      have fM4 : fM hM hM4 := fM_tr fM2 (fM_tr (fM_fr b2) g4)
      have cp2 : ∀ {l : Launch} {ad : Nat → Nat} {d : Nat} {Q : aH → Prop}, ((¬ (hC4.1 2 3) = 0 → (Q hC4)) ∧ ((hC4.1 2 3) = 0 → Q (sI hC4 (y + 4) x z2))) → AW GC l ad (d + 80) mX3_readDeath 0 [(0, .ref (ad 2))] [] hC (qv Q) := by
        intro l ad d Q H
        have f61 : AW GC l ad (d + 80) mX3_readDeath 61 [(0, .ref (ad 2)), (1, .int z), (2, .int (1 : Int32))] [] hC2 (qv Q) := by
          refine bX3_readDeath_61 _ _ _ (b3 (r3 ⟨H.1, fun q => ⟨fun q => absurd q (by decide), fun _ => mref ey4 ⟨HS, vz, ?_⟩⟩⟩))
          rw [cz]; exact H.2 q
        refine cpre ⟨fun q => absurd q z0, fun _ => ⟨fun q => absurd q z6, fun _ => bX3_readDeath_38 _ _ _ ⟨fun q => absurd q (by decide), fun _ => mref ey2 ⟨HS, vz, ?_⟩⟩⟩⟩
        rw [cz]
        exact ⟨fun _ => f61, fun q => absurd w q⟩
      have mp2 : ∀ {l : Launch} {ad : Nat → Nat} {d : Nat} {Q : aH → Prop}, ((¬ (hM4.1 0 29) = 0 → (Q hM4)) ∧ ((hM4.1 0 29) = 0 → Q (sI hM4 8 (6 + x) w2))) → AW (GM adK adV) l ad (d + 149) mX10_diesLine 0 [(0, .ref (ad 0))] [] hM1 (qv Q) := by
        intro l ad d Q H
        have f30 : AW (GM adK adV) l ad (d + 149) mX10_diesLine 30 [(0, .ref (ad 0)), (1, .int w1)] [] hM2 (qv Q) := by
          refine bX10_diesLine_30 _ _ (bX10_goOn_0 _ ⟨fun q => absurd (rd_m0 R2) q, fun _ => b4 (r4 ?_)⟩)
          rw [c6]
          exact ⟨H.1, fun q => ⟨v6, H.2 q⟩⟩
        refine mpre ⟨fun q => absurd (rd_m0 R2) q, fun _ => ⟨v6, ?_⟩⟩
        rw [c6, ed]
        exact ⟨fun _ => f30, fun q => absurd w q⟩
      rcases P2 with ⟨Rc, Rd, eC4, fr4, x', x1', x2', ez', ew'⟩ | B
      · have eW : wd hC4 y = wd hC y := by rw [eC4, wdo (by omega), wdo (by omega), eC2, eW1]
        have eS4 : sH hM4 = sH hM := (sHf fr4).trans ((sHf b2).trans (by rw [eM2]; exact eS1))
        have eM : ∀ j, j ≠ 22 → ¬ (25 ≤ j ∧ j ≤ 28) → (sI hM4 8 (6 + x) w2).1 0 j = hM.1 0 j := fun j h1 h2 => (sI_c (by decide)).trans ((fr4.2 0 j (by omega)).trans ((b2.2 0 j (by omega)).trans (by rw [eM2]; exact e22 j h1 h2)))
        have eT : (sI hM4 8 (6 + x) w2).1 0 22 = hM.1 0 22 ||| ((1 : Int32) <<< (nI 4 &&& 31)) := (sI_c (by decide)).trans ((fr4.2 0 22 (by decide)).trans ((b2.2 0 22 (by decide)).trans (by rw [eM2]; exact (a2.2 0 22 (by decide)).trans sI_s)))
        refine ⟨sI hC4 (y + 4) x z2, sI hM4 8 (6 + x) w2, fC_s fC4 (by omega), fM_s fM4 (Or.inr ⟨by decide, by decide, show 6 ≤ 6 + x by omega⟩), fun q => cp2 ⟨fun q2 => absurd (rd_c0 Rd) q2, fun _ => q⟩, fun q1 q2 => mgo (mp2 ⟨fun q => absurd (rd_m0 Rd) q, fun _ => k348 q1 q2⟩), Or.inl ⟨i + 1 + 1 + 1, m, t, n, D, K, by omega, rd_m (rd_c Rd (by omega)) (by omega), ?_, (eM 34 (by decide) (by decide)).trans z34, ?_, (eM 33 (by decide) (by decide)).trans z33⟩⟩
        · refine sq_cell (e := x) (x := nI x') ZQ hx ?_ (fun j k h1 => ?_) ?_ (fun a k h1 => ?_) ?_
          · exact (wde (j0 := 4) (by decide)).trans ez'
          · exact (wds (j0 := 4) (k0 := x) h1).trans (congrFun (congrFun eW j) k)
          · exact (sHe (a0 := 8) (k0 := x) (by decide) (by decide)).trans ew'
          · exact (sHs (a0 := 8) (k0 := x) h1).trans (congrFun (congrFun eS4 a) k)
          · rw [eT]; exact bS_or (w := 4) (by decide) (by decide) (by decide) (by decide)
        · rw [eM 23 (by decide) (by decide), ← z18]
          exact (wds (j0 := 4) (k0 := x) (by omega)).trans (congrFun (congrFun eW 0) 18)
      · exact ⟨hC4, hM4, fC4, fM4, fun q => cp2 ⟨fun _ => q, fun q2 => absurd q2 B.1⟩, fun q1 q2 => mgo (mp2 ⟨fun _ => k348 q1 q2, fun q => absurd q (bd_m B)⟩), Or.inr B⟩
    · obtain ⟨hC4, s1, s2⟩ := c_stepX (rfC hC2 (i + 1) 3)
      have B3 := j_ref (x := 3) R2 (by decide)
      have B4 := stX_bd s1 B3
      refine ⟨hC4, rfM hM2 3, fC_tr fC2 (fC_tr rfC_f (stX_fC s1)), fM_tr fM2 rfM_f, fun q => ?_, fun q1 q2 => ?_, Or.inr B4⟩
      · refine cpre ⟨fun q => absurd q z0, fun _ => ⟨fun q => absurd q z6, fun _ => bX3_readDeath_38 _ _ _ ⟨fun q => absurd q (by decide), fun _ => mref ey2 ⟨HS, vz, ?_⟩⟩⟩⟩
        rw [cz]
        exact ⟨fun q => absurd q w, fun _ => c_ref R2 (bX3_readDeath_61 _ _ _ (s2 (bX3_takeNumber_0 _ _ _ ⟨fun q => absurd q B4.1, fun _ => ⟨fun _ => q, fun q => absurd q B4.1⟩⟩)))⟩
      · refine mgo (mpre ⟨fun q => absurd (rd_m0 R2) q, fun _ => ⟨v6, ?_⟩⟩)
        rw [c6, ed]
        exact ⟨fun q => absurd q w, fun _ => m_wrg (rd_m0 R2) (bX10_diesLine_30 _ _ (m_goB (bd_m B3) (bX10_numeral_0 _ _ _ ⟨fun q => absurd q (bd_m B3), fun _ => ⟨fun _ => k348 q1 q2, fun q => absurd q (bd_m B3)⟩⟩)))⟩
  · obtain ⟨hC4, s1, s2⟩ := c_stepX hC2
    have B4 := stX_bd s1 B
    refine ⟨hC4, hM2, fC_tr fC2 (stX_fC s1), fM2, fun q => ?_, fun q1 q2 => ?_, Or.inr B4⟩
    · refine cpre ⟨fun _ => bX3_readDeath_37 _ _ (bX3_readDeath_38 _ _ _ ⟨fun _ => bX3_readDeath_61 _ _ _ (s2 (bX3_takeNumber_0 _ _ _ ⟨fun q => absurd q B4.1, fun _ => ⟨fun _ => q, fun q => absurd q B4.1⟩⟩)), fun q => absurd rfl q⟩), fun q => absurd (by rw [ez]; decide) q⟩
    · exact mgo (mpre ⟨fun _ => bX10_diesLine_30 _ _ (m_goB (bd_m B) (bX10_numeral_0 _ _ _ ⟨fun q => absurd q (bd_m B), fun _ => ⟨fun _ => k348 q1 q2, fun q => absurd q (bd_m B)⟩⟩)), fun q => absurd q (bd_m B)⟩)
theorem ln_lean (Y : y = 8 ∨ y = 37) (ey : hC.2.2 2 1 = y) (R : RD τ i hC hM) (Z : SR y hC hM m t n D K) (hk : hC.1 4 i = nI 3) : LNR l ad l' ad' adK adV τ y i mX3_readLeaning hC hM := by
  have HS := yS Y
  obtain ⟨s0, v0⟩ := rd_w (w := 3) (by decide) R hk
  have g0 := rd_m0 R
  obtain ⟨ZQ, z34, z18, z33⟩ := Z
  have n1 : hC.1 y 13 = nI n := ZQ.1.2.2.2.2.2.2.2.2.2.1
  have n2 : hM.1 2 10 = nI n := ZQ.1.2.2.2.2.2.2.2.2.2.2.1
  have n3 : n ≤ 10 := ZQ.1.2.2.2.2.2.2.2.2.2.2.2.1
  have t6 : t ≤ 6 := ZQ.1.2.2.2.2.2.1
  by_cases w : n = 10
  · subst w
    have B := j_ref (x := 2) R (by decide)
    have tk : ∀ {hh : aH}, ¬ hh.1 2 3 = 0 → hh.2.2 2 1 = y → ∃ h', stX hh h' ∧ ∀ {l : Launch} {ad : Nat → Nat} {d : Nat} {x : Int32} {Q : Int32 → aH → Prop}, Q (-1) h' → AW GC l ad (d + 3) mX3_takeTusk 0 [(0, .ref (ad 2)), (1, .int x)] [] hh (qi Q) := by
      intro hh hb hy
      obtain ⟨h', s1, s2⟩ := c_stepX hh
      exact ⟨h', s1, fun q => bX3_takeTusk_0 _ _ (mref hy ⟨HS, bX3_takeToldName_0 _ _ (HS.2.1 1 (by decide)) _ _ _ (bX3_toldIndex_0 _ _ (HS.2.1 1 (by decide)) _ _ ⟨fun z => absurd z hb, fun _ => ⟨fun _ => bX3_takeToldName_25 _ _ (HS.2.1 1 (by decide)) _ _ (s2 q), fun z => absurd rfl z⟩⟩)⟩)⟩
    obtain ⟨hA, sA, rA⟩ := tk (hh := rfC hC i 2) B.1 ey
    have BA := stX_bd sA B
    obtain ⟨hB, sB, rB⟩ := tk (hh := hA) BA.1 (by rcases sA with e | ⟨v, e⟩ <;> rw [e] <;> exact ey)
    have BB := stX_bd sB BA
    refine ⟨hB, rfM hM 2, fC_tr rfC_f (fC_tr (stX_fC sA) (stX_fC sB)), rfM_f, fun q => ?_, fun q1 _ => ml_full (w := 3) (by decide) g0 s0 v0 (Or.inr (Or.inr (Or.inr ⟨rfl, n2⟩))) (q1 (bd_m B)), Or.inr BB⟩
    refine bX3_readLeaning_0 _ (mref ey ⟨HS, fun _ => bX3_readLeaning_18 _ _ (c_lw0 (c_ref R (rA (rB (bX3_takeNumber_0 _ _ _ ⟨fun z => absurd z BB.1, fun _ => ⟨fun _ => q, fun z => absurd z BB.1⟩⟩))))), fun z => ?_⟩)
    rw [n1] at z
    exact absurd (Int32.le_refl _) z
  · have hm : n < 10 := by omega
    have R0 : RD τ i hC (sI hM 0 22 (hM.1 0 22 ||| ((1 : Int32) <<< (nI 3 &&& 31)))) := rd_m R (by omega)
    obtain ⟨hM1, a1, a2, a3, a4⟩ := j_adv (adK := adK) (adV := adV) R0 (by rw [hk]; decide)
    have e22 : ∀ j, j ≠ 22 → ¬ (25 ≤ j ∧ j ≤ 28) → hM1.1 0 j = hM.1 0 j := fun j h1 h2 => (a2.2 0 j (by omega)).trans (sI_k h1)
    have eS1 : sH hM1 = sH hM := (sHf a2).trans (sHo (by omega))
    have eW1 : wd (sI hC 2 2 (nI (i + 1))) y = wd hC y := wdo (by omega)
    have hr1 := hrT ZQ eW1 (fun a k _ => congrFun (congrFun eS1 a) k)
    have n2' : hM1.1 2 10 = nI n := (a2.2 2 10 (by decide)).trans ((sI_c (by decide)).trans n2)
    have le10 : ∀ a, 14 ≤ a → a ≤ 16 → 2 ≤ a ∧ a ≤ 20 ∧ hf a ≤ 10 + n := fun a h1 h2 => by
      have : hf a = 10 := by unfold hf; rw [if_neg (by omega), if_neg (by omega), if_neg (by omega), if_pos h2]
      omega
    obtain ⟨z, w1, hC2, hMa, hM2, f2, g2, r1, r2, r2', P1⟩ := j_tlA (adK := adK) (adV := adV) (y := y) (a := y + 2) (A := 5) (q := t) (aw := 14) (p := 10 + n) (x2 := (sI hC 2 2 (nI (i + 1))).1 y 12) (x3 := hM1.1 2 8) (HS.2.1 1 (by decide)) rfl t6 (le10 14 (by decide) (by decide)) (Or.inl a1) (fun _ => hr1)
    have ey1 : (sI hC 2 2 (nI (i + 1))).2.2 2 1 = y := ey
    have ey2 : hC2.2.2 2 1 = y := by rw [f2.1]; exact ey
    have J2 : RD τ (i + 1 + 1) hC2 hM2 ∨ BD hC2 hM2 := by
      rcases P1 with P | B
      · exact Or.inl P.2.1
      · exact Or.inr B
    have I2 : RD τ (i + 1 + 1) hC2 hM2 → wd hC2 y = wd hC y ∧ (∀ a k, ¬ (a = 14 ∧ k = n) → sH hM2 a k = sH hM a k) ∧ z = hM2.1 14 (10 + n) ∧ (∀ j, j ≠ 22 → ¬ (25 ≤ j ∧ j ≤ 28) → hM2.1 0 j = hM.1 0 j) ∧ hM2.1 0 22 = hM.1 0 22 ||| ((1 : Int32) <<< (nI 3 &&& 31)) ∧ ∃ x, x < t ∧ z = nI x := fun Rx => by
      rcases P1 with ⟨Ra, Rb, eC2, fr2, x, hx, ez, ew⟩ | B
      · refine ⟨by rw [eC2, wdo (by omega), eW1], fun a k h1 => ?_, ?_, fun j h1 h2 => (fr2.2 0 j (by omega)).trans ((sI_c (by decide)).trans (e22 j h1 h2)), (fr2.2 0 22 (by decide)).trans ((sI_c (by decide)).trans ((a2.2 0 22 (by decide)).trans sI_s)), x, hx, ez⟩
        · rw [sHf fr2]
          exact (sHs (a0 := 14) (k0 := n) h1).trans (congrFun (congrFun eS1 a) k)
        · rw [fr2.2 _ _ (by omega), sI_s, ez, ew]
      · exact (rd_bd Rx B).elim
    obtain ⟨z2, w2, hC3, hMb, hMx, hM3, f3, gb, g3, r3, r4, rb, r5, r6, r7, P2⟩ := j_tlB (adK := adK) (adV := adV) (y := y) (a := y + 2) (A := 5) (q := t) (aw := 15) (p := 10 + n) (x2 := hC2.1 y 12) (x3 := hM2.1 2 8) (x4 := z) (w0 := hM2.1 14 (10 + n)) (HS.2.1 1 (by decide)) rfl t6 (le10 15 (by decide) (by decide)) J2 (fun Rx => hrT ZQ (I2 Rx).1 (fun a k h => (I2 Rx).2.1 a k (by omega))) (fun Rx => (I2 Rx).2.2.1)
    have J3 : RD τ (i + 1 + 1 + 1) hC3 hM3 ∨ BD hC3 hM3 := by
      rcases P2 with P | B
      · exact Or.inl P.2.1
      · exact Or.inr B
    obtain ⟨z3, w3, hC4, hM4, f4, g4, r8, r9, P3⟩ := j_num (adK := adK) (adV := adV) (y := y) (x1 := 0) (x2 := 99) (lo := 0) (hi := 99) rfl rfl (by decide) (by decide) J3
    have ey3 : hC3.2.2 2 1 = y := by rw [f3.1]; exact ey2
    have ey4 : hC4.2.2 2 1 = y := by rw [f4.1]; exact ey3
    have fC4 : fC y hC hC4 := fC_tr (fC_s fC_rfl (by omega)) (fC_tr f2 (fC_tr f3 f4))
    have fM3 : fM hM hM4 := fM_tr (fM_s fM_rfl (Or.inl ⟨rfl, Or.inl rfl⟩)) (fM_tr (fM_fr a2) (fM_tr g2 (fM_tr g3 g4)))
    have i10 : (10 : Int32) + nI n = nI (10 + n) := nI_add 10 n
    have cpre : ∀ {l : Launch} {ad : Nat → Nat} {d : Nat} {Q : aH → Prop}, ((¬ (hC4.1 2 3) = 0 → (Q hC4)) ∧ ((hC4.1 2 3) = 0 → (∀ y9 : Nat, y9 = hC4.2.2 2 1 → isS GC y9 ∧ (AW GC l ad (d + 79) mX6_addLeaning 0 [(0, .ref (ad y9)), (1, .int z), (2, .int z2), (3, .int z3)] [] hC4 (qv fun h10 => Q h10))))) → AW GC l ad (d + 80) mX3_readLeaning 0 [(0, .ref (ad 2))] [] hC (qv Q) := by
      intro l ad d Q H
      refine bX3_readLeaning_0 _ (mref ey ⟨HS, fun z => ?_, fun _ => bX3_readLeaning_18 _ _ (c_lw1 (a3 (bX3_takeTusk_0 _ _ (mref ey1 ⟨HS, r1 (bX3_takeTusk_0 _ _ (mref ey2 ⟨HS, r3 (r8 H)⟩))⟩))))⟩)
      rw [n1] at z
      exact absurd z (nI_ge (b := 10) hm (by decide))
    have c10 : (nI (10 + n)).toNatClampNeg = 10 + n := nI_clamp (by omega)
    have v20 : vp_in (nI (10 + n)) 20 := vp_in_nI (by omega) (by decide)
    have mrun : ∀ {l : Launch} {ad : Nat → Nat} {d : Nat} {Q : aH → Prop}, AW (GM adK adV) l ad (d + 150) mX10_line 348 [(0, .ref (ad 0))] [] (sI (sI hM4 16 (10 + n) w3) 2 10 (hM4.1 2 10 + 1)) (qv Q) → AW (GM adK adV) l ad (d + 150) mX10_line 0 [(0, .ref (ad 0))] [] hM (qv Q) := by
      intro l ad d Q H
      refine ml_go (w := 3) (by decide) s0 v0 (fun z => ?_) (fun z => absurd z (by decide)) (bX10_line_71 _ _ ⟨fun _ => a4 ⟨fun z => absurd z (by decide), fun z => absurd z (by decide), fun z => absurd z (by decide), fun _ => ?_, fun z => absurd z (by decide), fun z => absurd z (by decide), fun z => absurd z (by decide), fun _ _ _ z => absurd rfl z⟩, fun z => absurd g0 z⟩)
      · unfold fl at z
        rcases z with ⟨z, -⟩ | ⟨z, -⟩ | ⟨z, -⟩ | ⟨-, z⟩
        · omega
        · omega
        · omega
        · rw [n2] at z
          exact absurd ((nI_eq (b := 10) (by omega) (by decide)).mp z) w
      · refine m_frs (k := 3) rfl (by decide) ?_
        rw [show hM1.1 2 (7 + 3) = nI n from n2', i10]
        refine bX10_leanLine_0 _ _ (m_tkH (r2 ?_))
        rw [c10]
        refine ⟨v20, r2' (m_tkH (r4 ?_))⟩
        have f51 : AW (GM adK adV) l ad (d + 149) mX10_leanLine 51 [(0, .ref (ad 0)), (1, .int (nI (10 + n)))] [] hMx (qv fun h38 => AW (GM adK adV) l ad (d + 150) mX10_line 348 [(0, .ref (ad 0))] [] h38 (qv Q)) := by
          refine bX10_leanLine_51 _ _ (r7 (r9 ⟨v20, ?_⟩))
          rw [c10]
          refine m_frs (k := 3) rfl (by decide) (m_rds (k := 3) rfl (by decide) ?_)
          rw [sI_c (show 2 ≠ 16 by decide)]
          exact H
        have e0 : (sI hMb 15 (10 + n) w2).1 0 29 = hMb.1 0 29 := sI_c (by decide)
        have e15 : (sI hMb 15 (10 + n) w2).1 15 (10 + n) = w2 := sI_s
        have e14 : (sI hMb 15 (10 + n) w2).1 14 (10 + n) = hMb.1 14 (10 + n) := sI_c (by decide)
        rw [e0, e15, e14]
        refine ⟨fun q => ?_, fun q => ⟨fun q2 => ?_, fun q2 => r5 q ?_ f51⟩⟩
        · rw [← r6 (fun c => q c.1)]; exact f51
        · rw [← r6 (fun c => q2 (by rw [rb q]; exact c.2.symm))]; exact f51
        · rw [rb q] at q2; exact q2.symm
    have fM5 : fM hM (sI (sI hM4 16 (10 + n) w3) 2 10 (hM4.1 2 10 + 1)) := fM_s (fM_s fM3 (Or.inr (le10 16 (by decide) (by decide)))) (Or.inr ⟨by decide, by decide, by decide⟩)
    rcases P3 with ⟨Ra, Rb, eC4, fr4, x', x1', x2', ez', ew'⟩ | B
    · rcases P2 with ⟨Rc, Rd, eC3, fr3, ne, x, hx, ez, ew⟩ | B2
      · obtain ⟨eW2, eS2, -, eM2, eT2, x0, hx0, ez0⟩ := I2 Rc
        have eW : wd hC4 y = wd hC y := by rw [eC4, wdo (by omega), eC3, wdo (by omega), eW2]
        have eS4 : sH hM4 = sH (sI hM2 15 (hf 15 + n) w2) := (sHf fr4).trans (sHf fr3)
        have e14 : sH hM2 14 n = nI x0 := by
          have := (I2 Rc).2.2.1
          rw [ez0] at this
          exact this.symm
        have eM : ∀ j, j ≠ 22 → ¬ (25 ≤ j ∧ j ≤ 28) → (sI (sI hM4 16 (10 + n) w3) 2 10 (hM4.1 2 10 + 1)).1 0 j = hM.1 0 j := fun j h1 h2 => (sI_c (by decide)).trans ((sI_c (by decide)).trans ((fr4.2 0 j (by omega)).trans ((fr3.2 0 j (by omega)).trans ((sI_c (by decide)).trans (eM2 j h1 h2)))))
        have eT : (sI (sI hM4 16 (10 + n) w3) 2 10 (hM4.1 2 10 + 1)).1 0 22 = hM.1 0 22 ||| ((1 : Int32) <<< (nI 3 &&& 31)) := (sI_c (by decide)).trans ((sI_c (by decide)).trans ((fr4.2 0 22 (by decide)).trans ((fr3.2 0 22 (by decide)).trans ((sI_c (by decide)).trans eT2))))
        have e7 : hM4.1 2 10 = nI n := (fr4.2 2 10 (by decide)).trans ((fr3.2 2 10 (by decide)).trans ((sI_c (by decide)).trans ((eS2 2 3 (by omega)).trans n2)))
        have nC : hC4.1 y 13 = nI n := (congrFun (congrFun eW 0) 13).trans n1
        refine ⟨sI (sI (sI (sI hC4 (y + 5) n z) (y + 6) n z2) (y + 7) n z3) y 13 (nI (n + 1)), _, fC_s (fC_s (fC_s (fC_s fC4 (by omega)) (by omega)) (by omega)) (by omega), fM5, fun q => cpre ⟨fun z => absurd (rd_c0 Rb) z, fun _ => mref ey4 ⟨HS, bX6_addLeaning_0 y HS _ _ _ _ ?_⟩⟩, fun q1 q2 => mrun (k348 q1 q2), Or.inl ⟨i + 1 + 1 + 1 + 1, m, t, n + 1, D, K, by omega, rd_m (rd_m (rd_c (rd_c (rd_c (rd_c Rb (by omega)) (by omega)) (by omega)) (by omega)) (by omega)) (by omega), ?_, (eM 34 (by decide) (by decide)).trans z34, ?_, (eM 33 (by decide) (by decide)).trans z33⟩⟩
        · have e1 : (sI hC4 (y + 5) n z).1 y 13 = nI n := (sI_c (by omega)).trans nC
          have e2 : (sI (sI hC4 (y + 5) n z) (y + 6) n z2).1 y 13 = nI n := (sI_c (by omega)).trans e1
          have e3 : (sI (sI (sI hC4 (y + 5) n z) (y + 6) n z2) (y + 7) n z3).1 y 13 = nI n := (sI_c (by omega)).trans e2
          rw [nC, nI_clamp (by omega), e1, nI_clamp (by omega)]
          refine ⟨fun z => absurd z (nI_ge (b := 10) hm (by decide)), fun _ => ⟨vp_in_nI hm (by decide), vp_in_nI hm (by decide), href ?_⟩⟩
          rw [e2, nI_clamp (by omega)]
          refine ⟨vp_in_nI hm (by decide), href ?_⟩
          rw [e3, nI_1]
          exact q
        · refine sq_lean (a := x0) (b := x) (x := x') ZQ hm hx0 hx ?_ ?_ ?_ ?_ (fun j k h1 h2 => ?_) ?_ ?_ ?_ ?_ (fun a k h1 h2 => ?_) ?_
          · exact (wds (j0 := 0) (k0 := 13) (by omega)).trans ((wds (j0 := 7) (k0 := n) (by omega)).trans ((wds (j0 := 6) (k0 := n) (by omega)).trans ((wde (j0 := 5) (by decide)).trans ez0)))
          · exact (wds (j0 := 0) (k0 := 13) (by omega)).trans ((wds (j0 := 7) (k0 := n) (by omega)).trans ((wde (j0 := 6) (by decide)).trans ez))
          · exact (wds (j0 := 0) (k0 := 13) (by omega)).trans ((wde (j0 := 7) (by decide)).trans ez')
          · exact wde (j0 := 0) (by decide)
          · exact (wds (j0 := 0) (k0 := 13) h2).trans ((wds (j0 := 7) (k0 := n) (by omega)).trans ((wds (j0 := 6) (k0 := n) (by omega)).trans ((wds (j0 := 5) (k0 := n) (by omega)).trans (congrFun (congrFun eW j) k))))
          · refine (sHs (a0 := 2) (k0 := 3) (by omega)).trans ((sHs (a0 := 16) (k0 := n) (by omega)).trans ?_)
            rw [eS4, sHs (by omega)]
            exact e14
          · refine (sHs (a0 := 2) (k0 := 3) (by omega)).trans ((sHs (a0 := 16) (k0 := n) (by omega)).trans ?_)
            rw [eS4, sHe (by decide) (by decide)]
            exact ew
          · exact (sHs (a0 := 2) (k0 := 3) (by omega)).trans ((sHe (a0 := 16) (k0 := n) (by decide) (by decide)).trans ew')
          · refine (sHe (a0 := 2) (k0 := 3) (by decide) (by decide)).trans ?_
            rw [e7, nI_1]
          · refine (sHs (a0 := 2) (k0 := 3) h2).trans ((sHs (a0 := 16) (k0 := n) (by omega)).trans ?_)
            rw [eS4, sHs (by omega)]
            exact eS2 a k (by omega)
          · rw [eT]; exact bS_or (w := 3) (by decide) (by decide) (by decide) (by decide)
        · rw [eM 23 (by decide) (by decide), ← z18]
          exact (wds (j0 := 0) (k0 := 13) (by omega)).trans ((wds (j0 := 7) (k0 := n) (by omega)).trans ((wds (j0 := 6) (k0 := n) (by omega)).trans ((wds (j0 := 5) (k0 := n) (by omega)).trans (congrFun (congrFun eW 0) 18))))
      · exact absurd (rd_c0 Ra) B2.1
    · exact ⟨hC4, _, fC4, fM5, fun q => cpre ⟨fun _ => q, fun z => absurd z B.1⟩, fun q1 q2 => mrun (k348 q1 q2), Or.inr (bd_mw (bd_mw B (by omega)) (by omega))⟩
end LN4
