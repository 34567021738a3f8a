/-! ===== calls: law, lend, feed ===== -/
section LW
variable {adK adV : Nat → Nat} {l l' : Launch} {ad ad' : Nat → Nat} {d d' b : Nat} {hC hM hC' hM' h : aH} {sy m t n D0 D : Nat} {ω β σ : wT} {way deaf : Int32} {J0 : Nat → Nat → Int64} {n0 : Int32}
theorem m_goesVN {R : Int32 → aH → Prop} {k j : Nat} {nm : Nat → Int64} (L : ML h σ k j) (hk : k < 3) (hz : ¬ ix (σ j 2) = 0) (hnm : ∀ k, k < 7 → ¬ nm k = ERR) (hJ0 : ∀ k, k < 7 → J0 21 k = nm k) (H1 : ¬ lwV σ j nm = ERR → ∀ J' n', (∀ k, k < 7 → J' 21 k = nm k) → J' 22 0 = lwV σ j nm → R 1 (pB (hS h J' n') b β)) (H0 : lwV σ j nm = ERR → ∀ J' n', (∀ k, k < 7 → J' 21 k = nm k) → R 0 (pB (hS h J' n') b β)) : AW (GM adK adV) l ad (d + 2) mX10_goes 0 [(0, .ref (ad 0)), (1, .int (nI k))] [] (pB (hS h J0 n0) b β) (qi R) := by
  obtain ⟨f, q, h1, h2, h3, h4, h5, h6⟩ := L
  have eq : ix (σ j 2) = q := by rw [h4, ix_nI (by omega)]
  unfold lwV at H1 H0
  rw [eq] at H1 H0 hz
  rw [← hS_pB]
  refine m_goesN (h := pB h b β) hk (by rw [pB_lo (by decide)]; exact h1) (by rw [pB_lo (by decide)]; exact h2) h3 h5 hz hnm (fun i hi => by rw [pB_lo (by decide), pB_lo (by decide)]; exact h6 i hi) hJ0 (fun z J' n' hN e => ?_) (fun z J' n' hN => ?_)
  · rw [hS_pB]; exact H1 z J' n' hN e
  · rw [hS_pB]; exact H0 z J' n' hN
theorem m_mortalN {R : Int32 → aH → Prop} {e : Nat} (C : MC h σ m t n) (hb : b < 23) (wf : WFw m t D ω) (r : RelW m t D ω β) (he : e < t) (H : ∀ J n', (∀ k, k < 7 → J 21 k = nmT ω (ω 2 e) (bcS (knByS ω e D)) k) → R (oddS σ ω D e (ω 2 e)) (pB (hS h J n') b β)) : AW (GM adK adV) l ad (d + 3) mX10_mortal 0 [(0, .ref (ad 0)), (1, .int (nI b)), (2, .int (nI e))] [] (pB (hS h J0 n0) b β) (qi R) := by
  have ht := wf.2.1
  have K : dieV σ ω D e (ω 2 e) = ERR → ∀ J n', (∀ k, k < 7 → J 21 k = nmT ω (ω 2 e) (bcS (knByS ω e D)) k) → AW (GM adK adV) l ad (d + 3) mX10_mortal 100 [(0, .ref (ad 0)), (1, .int (nI b)), (2, .int (nI e))] [] (pB (hS h J n') b β) (qi R) := by
    intro z J n' hN
    refine bX10_mortal_100 _ _ _ ?_
    rw [i6, nI_clamp (by omega), pB_get (a28 (by omega)), r.2.2.2.2.2.1 e he]
    have := H J n' hN
    unfold oddS at this
    rw [if_pos z] at this
    exact ⟨vp_in_nI (by omega) (by omega), this⟩
  refine bX10_mortal_0 _ _ _ ?_
  rw [i6, nI_clamp (by omega), pB_get (a29 (by omega)), ← knBy_eq wf r he]
  refine ⟨vp_in_nI (by omega) (by omega), m_bitsOf (href ?_)⟩
  rw [sJ_pB, sJ_hS, pB_get (a28 (by omega)), r.2.2.2.2.2.1 e he, sJ_pB, sJ_hS]
  refine ⟨vp_in_nI hb (by omega), href ?_⟩
  rw [sJ_pB, sJ_hS, sJ_pB, sJ_hS, sJ_pB, sJ_hS, sJ_pB, sJ_hS, nI_clamp (by omega), pB_get a23, r.2.2.1, sJ_pB, sJ_hS]
  have L := C.2.2.2.2.2.2.2.2
  refine m_hasLawV (k := 2) (ml_S L) (by decide) ?_
  by_cases hz : ix (σ 14 2) = 0
  · rw [if_pos hz]
    refine ⟨fun _ => K (lwV_0 hz) _ _ (fun k hk => ?_), fun z => absurd rfl z⟩
    match k, hk with
    | 0, _ => rfl
    | 1, _ => rfl
    | 2, _ => rfl
    | 3, _ => rfl
    | 4, _ => rfl
    | 5, _ => rfl
    | 6, _ => rfl
  · rw [if_neg hz]
    refine ⟨fun z => absurd z (by decide), fun _ => ?_⟩
    refine m_goesVN (k := 2) (nm := nmT ω (ω 2 e) (bcS (knByS ω e D))) L (by decide) hz nmT_ne (fun k hk => ?_) (fun z J' n' hN ev => ?_) (fun z J' n' hN => ?_)
    · match k, hk with
      | 0, _ => rfl
      | 1, _ => rfl
      | 2, _ => rfl
      | 3, _ => rfl
      | 4, _ => rfl
      | 5, _ => rfl
      | 6, _ => rfl
    · refine ⟨fun _ => ?_, fun z => absurd z (by decide)⟩
      have e2 : (pB (hS h J' n') b β).2.1 22 0 = dieV σ ω D e (ω 2 e) := ev
      rw [e2]
      have := H J' n' hN
      unfold oddS at this
      rw [if_neg (show ¬ dieV σ ω D e (ω 2 e) = ERR from z)] at this
      exact this
    · exact ⟨fun z => absurd rfl z, fun _ => K z _ _ hN⟩
theorem kC_foll {w : Nat} : kC hC (foll hC sy w way deaf) := ⟨fun c k hc => foll_o (by omega), fun c k hc => foll_R hc⟩
theorem kC_fJ {J : Nat → Nat → Int64} : kC hC (pW (hJ (foll hC sy 66 way deaf) J) 66 (wq (foll hC sy 66 way deaf) 66)) := by
  refine ⟨fun c k hc => ?_, fun c k hc => foll_R (h := hC) (sy := sy) (w := 66) (way := way) (deaf := deaf) hc⟩
  show (pW (foll hC sy 66 way deaf) 66 (wq (foll hC sy 66 way deaf) 66)).1 c k = hC.1 c k
  rw [pW_wq]
  exact foll_o (by omega)
theorem kM_hS {J : Nat → Nat → Int64} {n' : Int32} : kM hM (pB (hS hM J n') 0 (bkT hM 0)) := by
  rw [← hS_pB, pB_bk]
  intro c k h1 h2 h3
  by_cases q : c = 0
  · subst q; exact hS_k (h1 rfl).2.1
  · exact hS_o q
theorem m_law91 {R : Int64 → aH → Prop} {k j : Nat} {nm : Nat → Int64} (L : ML hM σ k j) (hk : k < 3) (hz : ¬ ix (σ j 2) = 0) (hnm : ∀ k, k < 7 → ¬ nm k = ERR) (hJ0 : ∀ k, k < 7 → J0 21 k = nm k) (H : ∀ hM', kM hM hM' → R (lwV σ j nm) hM') : AW (GM adK adV) l ad (d + 3) mX10_law 91 [(0, .ref (ad 0)), (1, .int (nI k))] [] (pB (hS hM J0 n0) 0 (bkT hM 0)) (ql R) := by
  refine bX10_law_91 _ _ (m_goesV L hk hz hnm hJ0 (fun z J' n' e => ⟨fun q => absurd q (by decide), fun _ => ?_⟩) (fun z J' n' => ⟨fun _ => ?_, fun q => absurd rfl q⟩))
  · have := H _ (kM_hS (J := J') (n' := n'))
    rw [← e] at this
    exact this
  · have := H _ (kM_hS (J := J') (n' := n'))
    rw [z] at this
    exact this
theorem j_law {x1 x2 x3 : Int32} (g : GR hC hM) : AW GC l ad (d + 3) mX9_law 0 [(0, .ref (ad 0)), (1, .int x1), (2, .int x2), (3, .int x3)] [] hC (ql (jl l' ad' (d' + 4) adK adV mX10_law [(0, .ref (ad' 0)), (1, .int x1), (2, .int x2), (3, .int x3)] hM)) := by
  obtain ⟨sy, m, t, n, D0, D, g⟩ := g
  have g2 := g_thr g
  obtain ⟨e1, e2, e3, e4, e5, e6, hm, ht, hD⟩ := g_S g2
  obtain ⟨I, r, N⟩ := g2.2.1
  have S := g2.1.2.2.2.1
  have C := g2.1.2.2.2.2.1
  have hsy := g_sy g2
  have gf : GQ (foll hC sy 66 (-1) 0) (sI hM 0 0 0) sy m t n D0 D := gq_frame kC_foll kM_rfl g2
  have CTf : CT (foll hC sy 66 (-1) 0) 66 sy (-1) 0 := ct_foll e2 isW_66 (by omega) (by decide)
  have ew : wd (foll hC sy 66 (-1) 0) sy = wd hC sy := wd_foll hsy
  have eq : wq (foll hC sy 66 (-1) 0) 66 = wq hC 66 := wq_foll (by decide)
  have wf : WFw m t D (wq (foll hC sy 66 (-1) 0) 66) := by rw [eq]; exact I.1
  have kt : ∀ hM', kM (sI hM 0 0 0) hM' → kM hM hM' := fun hM' q => kM_tr kM_t0 q
  by_cases z0 : x1 = 0
  · subst z0
    refine j_ql (if isIn x2 D && isIn x3 t then passV (wd hC sy) (wq hC 66) D (ix x2) (ix x3) else ERR) g (fun R H => ?_) (fun R H => ?_)
    · refine bX9_law_0 _ _ _ _ (mref e1 ⟨e2, c_follow g isW_66 ⟨fun q => absurd rfl q, fun _ => c_isDebt gf ?_⟩⟩)
      have F : (isIn x2 D && isIn x3 t) = false → AW GC l ad (d + 3) mX9_law 47 [(0, .ref (ad 0)), (1, .int (0 : Int32)), (2, .int x2), (3, .int x3)] [] (foll hC sy 66 (-1) 0) (ql R) := by
        intro q
        rw [q] at H
        exact bX9_law_47 _ _ _ _ ⟨fun _ => bX9_law_69 _ _ _ ⟨fun _ => H _ kC_foll, fun q => absurd q (by decide)⟩, fun q => absurd q (by decide)⟩
      cases h1 : isIn x2 D
      · exact ⟨fun _ => F (by rw [h1]; rfl), fun q => absurd rfl q⟩
      refine ⟨fun q => absurd q (by decide), fun _ => c_isTusk gf ?_⟩
      cases h2 : isIn x3 t
      · exact ⟨fun _ => F (by rw [h1, h2]; rfl), fun q => absurd rfl q⟩
      refine ⟨fun q => absurd q (by decide), fun _ => ?_⟩
      rw [h1, h2] at H
      obtain ⟨i, hi, rfl⟩ := isIn_of (by omega) h1
      obtain ⟨q, hq, rfl⟩ := isIn_of (by omega) h2
      rw [ix_nI (by omega), ix_nI (by omega)] at H
      refine cH (w := 66) (sp_passValue CTf wf (by rw [ew]; exact S.2.2.2.2.2.2.1) hi (by omega) (fun J => ?_))
      rw [ew, eq]
      have := H _ (kC_fJ (sy := sy) (way := -1) (deaf := 0) (J := J))
      rw [eq] at this
      exact this
    · refine bX10_law_0 _ _ _ _ ⟨fun q => absurd q (by decide), fun _ => ⟨fun q => absurd q (by decide), fun _ => mH (b := 0) (m_hasLawV (k := 0) C.2.2.2.2.2.2.1 (by decide) ?_)⟩⟩
      rw [pB_bk]
      by_cases hz : ix (wd hC sy 8 2) = 0
      · rw [if_pos hz]
        refine ⟨fun q => absurd rfl q, fun _ => ?_⟩
        have := H _ (kt _ kM_rfl)
        have e : passV (wd hC sy) (wq hC 66) D (ix x2) (ix x3) = ERR := lwV_0 hz
        rw [e, ite_self] at this
        exact this
      rw [if_neg hz]
      refine ⟨fun _ => ⟨fun q => absurd q (by decide), fun _ => m_isDebt g2 ?_⟩, fun q => absurd q (by decide)⟩
      cases h1 : isIn x2 D
      · rw [h1] at H
        exact ⟨fun _ => H _ (kt _ kM_rfl), fun q => absurd rfl q⟩
      refine ⟨fun q => absurd q (by decide), fun _ => bX10_law_39 _ _ _ _ ⟨fun q => absurd q (by decide), fun _ => m_isTusk g2 ?_⟩⟩
      cases h2 : isIn x3 t
      · rw [h1, h2] at H
        exact ⟨fun q => absurd rfl q, fun _ => H _ (kt _ kM_rfl)⟩
      rw [h1, h2] at H
      obtain ⟨i, hi, rfl⟩ := isIn_of (by omega) h1
      obtain ⟨q, hq, rfl⟩ := isIn_of (by omega) h2
      rw [ix_nI (by omega), ix_nI (by omega)] at H
      refine ⟨fun _ => bX10_law_56 _ _ _ _ ⟨fun q => absurd rfl q, fun _ => mHS (b := 0) (m_callsPass (b := 0) C (by decide) I.1 r I.2.1 hi hq (fun J hJ => ?_))⟩, fun q => absurd q (by decide)⟩
      exact m_law91 (k := 0) C.2.2.2.2.2.2.1 (by decide) hz nmS_ne hJ (fun hM' km => H _ (kt _ km))
  by_cases z1 : x1 = 1
  · subst z1
    refine j_ql (if isIn x2 D then payV (wd hC sy) (wq hC 66) (ix x2) else ERR) g (fun R H => ?_) (fun R H => ?_)
    · refine bX9_law_0 _ _ _ _ (mref e1 ⟨e2, c_follow g isW_66 ⟨fun _ => bX9_law_47 _ _ _ _ ⟨fun q => absurd rfl q, fun _ => c_isDebt gf ?_⟩, fun q => absurd q (by decide)⟩⟩)
      cases h1 : isIn x2 D
      · rw [h1] at H
        exact ⟨fun _ => bX9_law_69 _ _ _ ⟨fun _ => H _ kC_foll, fun q => absurd q (by decide)⟩, fun q => absurd rfl q⟩
      refine ⟨fun q => absurd q (by decide), fun _ => ?_⟩
      rw [h1] at H
      obtain ⟨i, hi, rfl⟩ := isIn_of (by omega) h1
      rw [ix_nI (by omega)] at H
      refine cH (w := 66) (sp_payValue CTf wf (by rw [ew]; exact S.2.2.2.2.2.2.2.1) hi (fun J => ?_))
      rw [ew, eq]
      have := H _ (kC_fJ (sy := sy) (way := -1) (deaf := 0) (J := J))
      rw [eq] at this
      exact this
    · refine bX10_law_0 _ _ _ _ ⟨fun q => absurd q (by decide), fun _ => ⟨fun q => absurd q (by decide), fun _ => mH (b := 0) (m_hasLawV (k := 1) C.2.2.2.2.2.2.2.1 (by decide) ?_)⟩⟩
      rw [pB_bk]
      by_cases hz : ix (wd hC sy 11 2) = 0
      · rw [if_pos hz]
        refine ⟨fun q => absurd rfl q, fun _ => ?_⟩
        have := H _ (kt _ kM_rfl)
        have e : payV (wd hC sy) (wq hC 66) (ix x2) = ERR := lwV_0 hz
        rw [e, ite_self] at this
        exact this
      rw [if_neg hz]
      refine ⟨fun _ => ⟨fun q => absurd q (by decide), fun _ => m_isDebt g2 ?_⟩, fun q => absurd q (by decide)⟩
      cases h1 : isIn x2 D
      · rw [h1] at H
        exact ⟨fun _ => H _ (kt _ kM_rfl), fun q => absurd rfl q⟩
      rw [h1] at H
      obtain ⟨i, hi, rfl⟩ := isIn_of (by omega) h1
      rw [ix_nI (by omega)] at H
      refine ⟨fun q => absurd q (by decide), fun _ => bX10_law_39 _ _ _ _ ⟨fun _ => bX10_law_56 _ _ _ _ ⟨fun _ => ⟨fun q => absurd rfl q, fun _ => mHS (b := 0) (m_callsPay (b := 0) C (by decide) I.1 r I.2.1 hi (fun J hJ => ?_))⟩, fun q => absurd q (by decide)⟩, fun q => absurd rfl q⟩⟩
      exact m_law91 (k := 1) C.2.2.2.2.2.2.2.1 (by decide) hz nmS_ne hJ (fun hM' km => H _ (kt _ km))
  by_cases z2 : x1 = 2
  · subst z2
    refine j_ql (if isIn x3 t then dieV (wd hC sy) (wq hC 66) D (ix x3) (wq hC 66 2 (ix x3)) else ERR) g (fun R H => ?_) (fun R H => ?_)
    · refine bX9_law_0 _ _ _ _ (mref e1 ⟨e2, c_follow g isW_66 ⟨fun _ => bX9_law_47 _ _ _ _ ⟨fun _ => bX9_law_69 _ _ _ ⟨fun q => absurd rfl q, fun _ => c_isTusk gf ?_⟩, fun q => absurd q (by decide)⟩, fun q => absurd q (by decide)⟩⟩)
      cases h1 : isIn x3 t
      · rw [h1] at H
        exact ⟨fun _ => H _ kC_foll, fun q => absurd rfl q⟩
      refine ⟨fun q => absurd q (by decide), fun _ => ?_⟩
      rw [h1] at H
      obtain ⟨i, hi, rfl⟩ := isIn_of (by omega) h1
      rw [ix_nI (by omega)] at H
      refine ⟨vp_in_nI (by omega) (by decide), ?_⟩
      have ea : (foll hC sy 66 (-1) 0).1 68 (nI i).toNatClampNeg = wq hC 66 2 i := by
        rw [nI_clamp (by omega), foll_o (by decide), wq_at (w := 66) (j := 2) (by decide)]
      rw [ea]
      refine cH (w := 66) (sp_dieValue CTf wf (by rw [ew]; exact S.2.2.2.2.2.2.2.2) (fun J => ?_))
      rw [ew, eq]
      have := H _ (kC_fJ (sy := sy) (way := -1) (deaf := 0) (J := J))
      rw [eq] at this
      exact this
    · refine bX10_law_0 _ _ _ _ ⟨fun q => absurd q (by decide), fun _ => ⟨fun q => absurd q (by decide), fun _ => mH (b := 0) (m_hasLawV (k := 2) C.2.2.2.2.2.2.2.2 (by decide) ?_)⟩⟩
      rw [pB_bk]
      by_cases hz : ix (wd hC sy 14 2) = 0
      · rw [if_pos hz]
        refine ⟨fun q => absurd rfl q, fun _ => ?_⟩
        have := H _ (kt _ kM_rfl)
        have e : dieV (wd hC sy) (wq hC 66) D (ix x3) (wq hC 66 2 (ix x3)) = ERR := lwV_0 hz
        rw [e, ite_self] at this
        exact this
      rw [if_neg hz]
      refine ⟨fun _ => ⟨fun _ => bX10_law_39 _ _ _ _ ⟨fun q => absurd q (by decide), fun _ => m_isTusk g2 ?_⟩, fun q => absurd rfl q⟩, fun q => absurd q (by decide)⟩
      cases h1 : isIn x3 t
      · rw [h1] at H
        exact ⟨fun q => absurd rfl q, fun _ => H _ (kt _ kM_rfl)⟩
      rw [h1] at H
      obtain ⟨i, hi, rfl⟩ := isIn_of (by omega) h1
      rw [ix_nI (by omega)] at H
      refine ⟨fun _ => bX10_law_56 _ _ _ _ ⟨fun _ => ⟨fun _ => mHS (b := 0) (m_mortalN (b := 0) C (by decide) I.1 r hi (fun J n' hJ => ?_)), fun q => absurd q (by decide)⟩, fun q => absurd q (by decide)⟩, fun q => absurd q (by decide)⟩
      exact m_law91 (k := 2) C.2.2.2.2.2.2.2.2 (by decide) hz nmT_ne hJ (fun hM' km => H _ (kt _ km))
  · refine j_ql ERR g (fun R H => ?_) (fun R H => ?_)
    · exact bX9_law_0 _ _ _ _ (mref e1 ⟨e2, c_follow g isW_66 ⟨fun _ => bX9_law_47 _ _ _ _ ⟨fun _ => bX9_law_69 _ _ _ ⟨fun _ => H _ kC_foll, fun q => absurd q z2⟩, fun q => absurd q z1⟩, fun q => absurd q z0⟩⟩)
    · refine bX10_law_0 _ _ _ _ ⟨fun _ => H _ (kt _ kM_rfl), fun q => ⟨fun _ => H _ (kt _ kM_rfl), fun q2 => ?_⟩⟩
      exfalso
      obtain ⟨k, hk, rfl⟩ := nI_of q
      have : k ≤ 2 := Nat.le_of_not_lt (fun w => q2 ((nI_ltI (a := 2) (b := k) (by decide) hk).mpr w))
      match k, this with
      | 0, _ => exact z0 rfl
      | 1, _ => exact z1 rfl
      | 2, _ => exact z2 rfl
      | (k + 3), w => omega
/-- a debt more, to come -/
def addW (ω : wT) (D : Nat) (x1 x2 x3 x4 x5 : Int32) : wT := u2 (u2 (u2 (u2 (u2 (u2 (u2 (u2 (u2 (u2 ω 3 D x1) 4 D x2) 5 D x3) 6 D x4) 7 D x5) 8 D 0) 9 D 0) 10 D 0) 11 D 0) 0 11 (nI (D + 1))
theorem sp_addDebt {R : aH → Prop} {w : Nat} {x1 x2 x3 x4 x5 : Int32} (hw : isW GC w) (hD : D < 8) (eD : ω 0 11 = nI D) (H : R (pW h w (addW ω D x1 x2 x3 x4 x5))) : AW GC l ad d mX8_addDebt 0 [(0, .ref (ad w)), (1, .int x1), (2, .int x2), (3, .int x3), (4, .int x4), (5, .int x5)] [] (pW h w ω) (qv R) := by
  have hc : (nI D).toNatClampNeg = D := nI_clamp (by omega)
  have hv : vp_in (nI D) 8 := vp_in_nI hD (by decide)
  refine bX8_addDebt_0 w hw _ _ _ _ _ _ ?_
  rw [pW_get0, eD, hc, sI_pW (by decide), pW_get0, u2_j (by decide), eD, hc, sI_pW (by decide)]
  refine ⟨fun _ => ⟨hv, hv, href ?_⟩, fun z => absurd (nI_lt (a := D) (b := 8) hD (by decide)) z⟩
  simp only [pW_get0, u2_j (show (0 : Nat) ≠ 3 by decide), u2_j (show (0 : Nat) ≠ 4 by decide), eD, hc]
  rw [sI_pW (by decide), pW_get0, u2_j (by decide), u2_j (by decide), u2_j (by decide), eD, hc, sI_pW (by decide)]
  refine ⟨hv, hv, href ?_⟩
  simp only [pW_get0, u2_j (show (0 : Nat) ≠ 3 by decide), u2_j (show (0 : Nat) ≠ 4 by decide), u2_j (show (0 : Nat) ≠ 5 by decide), u2_j (show (0 : Nat) ≠ 6 by decide), eD, hc]
  rw [sI_pW (by decide), pW_get0, u2_j (by decide), u2_j (by decide), u2_j (by decide), u2_j (by decide), u2_j (by decide), eD, hc, sI_pW (by decide)]
  refine ⟨hv, hv, href ?_⟩
  simp only [pW_get0, u2_j (show (0 : Nat) ≠ 3 by decide), u2_j (show (0 : Nat) ≠ 4 by decide), u2_j (show (0 : Nat) ≠ 5 by decide), u2_j (show (0 : Nat) ≠ 6 by decide), u2_j (show (0 : Nat) ≠ 7 by decide), u2_j (show (0 : Nat) ≠ 8 by decide), eD, hc]
  rw [sI_pW (by decide), pW_get0, u2_j (by decide), u2_j (by decide), u2_j (by decide), u2_j (by decide), u2_j (by decide), u2_j (by decide), u2_j (by decide), eD, hc, sI_pW (by decide)]
  refine ⟨hv, hv, href ?_⟩
  simp only [pW_get0, u2_j (show (0 : Nat) ≠ 3 by decide), u2_j (show (0 : Nat) ≠ 4 by decide), u2_j (show (0 : Nat) ≠ 5 by decide), u2_j (show (0 : Nat) ≠ 6 by decide), u2_j (show (0 : Nat) ≠ 7 by decide), u2_j (show (0 : Nat) ≠ 8 by decide), u2_j (show (0 : Nat) ≠ 9 by decide), u2_j (show (0 : Nat) ≠ 10 by decide), eD, hc]
  refine ⟨vp_in_nI (by omega) (by decide), href ?_⟩
  rw [sI_pW (by decide), pW_get0, u2_j (by decide), u2_j (by decide), u2_j (by decide), u2_j (by decide), u2_j (by decide), u2_j (by decide), u2_j (by decide), u2_j (by decide), u2_j (by decide), eD, sI_pW0, nI_1]
  exact H
theorem addW_o {x1 x2 x3 x4 x5 : Int32} {j k : Nat} (h : k ≠ D) (h2 : j = 0 → k ≠ 11) : addW ω D x1 x2 x3 x4 x5 j k = ω j k := by
  unfold addW
  by_cases z : j = 0
  · subst z
    rw [u2_k (h2 rfl)]
    rw [u2_j (by decide), u2_j (by decide), u2_j (by decide), u2_j (by decide), u2_j (by decide), u2_j (by decide), u2_j (by decide), u2_j (by decide), u2_j (by decide)]
  · rw [u2_j z, u2_k h, u2_k h, u2_k h, u2_k h, u2_k h, u2_k h, u2_k h, u2_k h, u2_k h]
theorem addW_l {x1 x2 x3 x4 x5 : Int32} {j k : Nat} (h : j = 1 ∨ j = 2 ∨ j = 0 ∧ k ≠ 11) : addW ω D x1 x2 x3 x4 x5 j k = ω j k := by
  unfold addW u2
  rcases h with rfl | rfl | ⟨rfl, h⟩ <;> simp_all
theorem inv_add {a b e : Nat} {x3 x5 : Int32} (hD : D < 8) (I : Inv m t D ω) (ha : a < m) (hb : b < m) (he : e < t) : Inv m t (D + 1) (addW ω D (nI a) (nI b) x3 (nI e) x5) := by
  obtain ⟨⟨w1, w2, w3, w4, w5, w6⟩, ⟨v1, v2⟩, ik⟩ := I
  refine ⟨⟨w1, w2, hD, by simp [addW, u2], ?_, fun i hi => ?_⟩, ⟨fun i hi => ?_, fun e he => ?_⟩, fun i hi e he q => ?_⟩
  · rw [addW_l (Or.inr (Or.inr ⟨rfl, by decide⟩))]; exact w5
  · by_cases z : i = D
    · subst z
      exact ⟨⟨a, ha, by simp [addW, u2]⟩, ⟨b, hb, by simp [addW, u2]⟩, ⟨e, he, by simp [addW, u2]⟩, ⟨0, Nat.two_pow_pos _, by simp [addW, u2]; rfl⟩⟩
    · rw [addW_o z (by omega), addW_o z (by omega), addW_o z (by omega), addW_o z (by omega)]
      exact w6 i (by omega)
  · by_cases z : i = D
    · subst z
      exact ⟨fun q => absurd (show addW ω i (nI a) (nI b) x3 (nI e) x5 8 i = 0 by simp [addW, u2]) (by rw [q]; decide), fun _ => ⟨by simp [addW, u2], by simp [addW, u2]⟩⟩
    · rw [addW_o z (by omega), addW_o z (by omega), addW_o z (by omega), addW_o z (by omega), addW_o z (by omega)]
      exact v1 i (by omega)
  · rw [addW_l (Or.inr (Or.inl rfl))]; exact v2 e he
  · rw [addW_l (Or.inr (Or.inr ⟨rfl, by decide⟩))]
    by_cases z : i = D
    · subst z
      rw [show addW ω i (nI a) (nI b) x3 (nI _) x5 11 i = 0 by simp [addW, u2], bt_0] at q
      cases q
    · rw [addW_o z (by omega)] at q
      exact ik i (by omega) e he q
theorem openW_89 {i a b : Nat} {x y s f : Int32} : openW (u2 (u2 ω 8 i x) 9 i y) i a b s f = openW ω i a b s f := by
  funext j k
  unfold openW u2
  by_cases h8 : j = 8 ∧ k = i
  · obtain ⟨rfl, rfl⟩ := h8; simp
  · by_cases h9 : j = 9 ∧ k = i
    · obtain ⟨rfl, rfl⟩ := h9; simp
    · simp [h8, h9]
def addB (β : wT) (D : Nat) (x1 x2 x3 x4 x5 : Int32) : wT := u2 (u2 (u2 (u2 (u2 (u2 β 3 D x1) 4 D x2) 5 D x3) 6 D x4) 7 D x5) 0 11 (nI (D + 1))
theorem rel_add {x1 x2 x3 x4 x5 : Int32} (ht : t ≤ 6) (hD : D < 8) (r : RelW m t D ω β) : RelW m t (D + 1) (u2 (u2 (addW ω D x1 x2 x3 x4 x5) 8 D (β 8 D)) 9 D (β 9 D)) (addB β D x1 x2 x3 x4 x5) := by
  obtain ⟨r1, r2, r3, r4, r5, r6, r7, r8⟩ := r
  refine ⟨by simp [addB, u2], ?_, ?_, ?_, fun p hp => ?_, fun e he => ?_, fun i hi j h1 h2 => ?_, fun e he => ?_⟩
  · rw [u2_j (by decide), u2_j (by decide), addW_l (Or.inr (Or.inr ⟨rfl, by decide⟩)), ← r2]; simp [addB, u2]
  · rw [u2_j (by decide), u2_j (by decide), addW_l (Or.inr (Or.inr ⟨rfl, by decide⟩)), ← r3]; simp [addB, u2]
  · rw [u2_j (by decide), u2_j (by decide), addW_l (Or.inr (Or.inr ⟨rfl, by decide⟩)), ← r4]; simp [addB, u2]
  · rw [u2_j (by decide), u2_j (by decide), addW_l (Or.inl rfl), ← r5 p hp]; simp [addB, u2]
  · rw [u2_j (by decide), u2_j (by decide), addW_l (Or.inr (Or.inl rfl)), ← r6 e he]; simp [addB, u2]
  · by_cases z : i = D
    · subst z
      have : j = 3 ∨ j = 4 ∨ j = 5 ∨ j = 6 ∨ j = 7 ∨ j = 8 ∨ j = 9 := by omega
      rcases this with rfl | rfl | rfl | rfl | rfl | rfl | rfl <;> simp [addB, addW, u2]
    · rw [u2_k z, u2_k z, addW_o z (by omega), ← r7 i (by omega) j h1 h2]
      simp [addB, u2, z]
      omega
  · obtain ⟨⟨k, hk, ek⟩, a2⟩ := r8 e he
    have eb : addB β D x1 x2 x3 x4 x5 12 e = β 12 e := by simp [addB, u2]
    rw [eb]
    refine ⟨⟨k, Nat.lt_of_lt_of_le hk (Nat.pow_le_pow_right (by decide) (by omega)), ek⟩, fun i hi => ?_⟩
    rw [u2_j (by decide), u2_j (by decide)]
    by_cases z : i = D
    · subst z
      rw [show addW ω i x1 x2 x3 x4 x5 11 i = 0 by simp [addW, u2], bt_0, ek, bt_hi hk (Nat.le_refl _)]
    · rw [addW_o z (by omega)]
      exact a2 i (by omega)
theorem m_opensL {R : aH → Prop} {i a q w : Nat} (C : MC h σ m t n) (T : MT h t way deaf 0) (hb : b < 23) (wf : WFw m t D ω) (r : RelW m t D ω β) (hi : i < D) (h11 : ω 11 i = 0) (ha : a < m) (hq : q < m) (hw : w < t) (ea : ω 3 i = nI a) (eq : ω 4 i = nI q) (ew : ω 6 i = nI w) (hal : bt (ω 0 12) w = true) (z2 : ¬ ω 1 a < ω 5 i + σ 3 w) (H : ∀ β', RelW m t D (openW ω i a q (σ 3 w) deaf) β' → R (pB h b β')) : AW (GM adK adV) l ad (d + 1) mX10_opens 0 [(0, .ref (ad 0)), (1, .int (nI b)), (2, .int (nI i))] [] (pB h b β) (qv R) := by
  have hm := wf.1
  have ht := wf.2.1
  have hD := wf.2.2.1
  refine bX10_opens_0 _ _ _ ?_
  rw [i8, nI_clamp (by omega), pB_get (a30 (j := 3) (by omega) (by decide) (by decide)), pB_get (a30 (j := 5) (by omega) (by decide) (by decide)), pB_get (a30 (j := 6) (by omega) (by decide) (by decide)), row r hi 3 (by decide) (by decide), row r hi 5 (by decide) (by decide), row r hi 6 (by decide) (by decide), ea, ew, i6, nI_clamp (by omega), pB_lo (by decide), (C.2.2.2.2.1 w hw).1]
  refine ⟨vp_in_nI (by omega) (by omega), fun t2 e2 => ⟨vp_in_nI (by omega) (by omega), fun t4 e4 => m_isAlive hb (by omega) ?_⟩⟩
  subst e2
  rw [r.2.1, hal]
  refine ⟨fun z => absurd z (by decide), fun _ => ⟨vp_in_nI (by omega) (by omega), ?_⟩⟩
  rw [nI_clamp (by omega), pB_get (a27 (by omega)), r.2.2.2.2.1 a ha]
  refine ⟨fun z => ?_, fun z => absurd (by rw [e4]; exact Int32.not_lt.mp z2) z⟩
  refine href ?_
  rw [sI_pB (a30 (j := 8) (by omega) (by decide) (by decide)), pB_get (a27 (by omega)), sI_pB (a27 (by omega)), pB_get (a30 (j := 4) (by omega) (by decide) (by decide)), u2_j (j' := 4) (by decide), u2_j (j' := 4) (by decide), u2_j (j' := 1) (j := 8) (by decide), r.2.2.2.2.1 a ha, row r hi 4 (by decide) (by decide), eq, i6, nI_clamp (by omega), pB_get (a27 (by omega)), sI_pB (a27 (by omega)), pB_get (a30 (j := 5) (by omega) (by decide) (by decide)), u2_j (j' := 5) (by decide), u2_j (j' := 5) (by decide), row r hi 5 (by decide) (by decide)]
  refine ⟨vp_in_nI (by omega) (by omega), href ?_⟩
  rw [pB_get (a30 (j := 5) (by omega) (by decide) (by decide)), sI_pB (a30 (j := 9) (by omega) (by decide) (by decide)), pB_get (a30 (j := 6) (by omega) (by decide) (by decide)), u2_j (j' := 5) (by decide), u2_j (j' := 5) (by decide), u2_j (j' := 5) (by decide), row r hi 5 (by decide) (by decide), u2_j (j' := 6) (by decide), u2_j (j' := 6) (by decide), u2_j (j' := 6) (by decide), u2_j (j' := 6) (by decide), row r hi 6 (by decide) (by decide), ew]
  refine m_learns T hb ht hw (H _ ?_)
  rw [u2_comm (j := 8) (j' := 1) (by decide), u2_comm (j := 8) (j' := 1) (by decide), u2_j (j' := 1) (j := 8) (by decide), u2_eq (r.2.2.2.2.1 q hq), e4, i32_a]
  have r5 := rel_10 (rel_u (rel_u (rel_p (rel_p r (p := a) (v := ω 1 a + (-(ω 5 i) - σ 3 w))) (p := q) (v := u2 ω 1 a (ω 1 a + (-(ω 5 i) - σ 3 w)) 1 q + ω 5 i)) (j := 8) (by decide) (by decide) (i := i) (v := 1)) (j := 9) (by decide) (by decide) (i := i) (v := ω 5 i)) (i := i) (v := ω 0 13)
  have r6 := rel_lrn (deaf := deaf) ht hD r5 hi hw
  rw [u2_j (j' := 11) (j := 10) (by decide), u2_j (j' := 11) (j := 9) (by decide), u2_j (j' := 11) (j := 8) (by decide), u2_j (j' := 11) (j := 1) (by decide), u2_j (j' := 11) (j := 1) (by decide), h11, Int32.zero_or] at r6
  unfold openW
  rw [ew]
  exact r6
theorem j_lend {x1 x2 x3 x4 : Int32} (g : GR hC hM) : AW GC l ad (d + 3) mX9_lend 0 [(0, .ref (ad 0)), (1, .int x1), (2, .int x2), (3, .int x3), (4, .int x4)] [] hC (qi (jq l' ad' (d' + 2) adK adV mX10_lend [(0, .ref (ad' 0)), (1, .int x1), (2, .int x2), (3, .int x3), (4, .int x4)] hM)) := by
  obtain ⟨sy, m, t, n, D0, D, g⟩ := g
  have g2 := g_thr g
  have G : GR hC (sI hM 0 0 0) := ⟨_, _, _, _, _, _, g2⟩
  obtain ⟨e1, e2, e3, e4, e5, e6, hm, ht, hD⟩ := g_S g2
  obtain ⟨eD1, eD2⟩ := g_D g2
  obtain ⟨I, r, N⟩ := g2.2.1
  have C := g2.1.2.2.2.2.1
  have hsy := g_sy g2
  refine bX9_lend_0 _ _ _ _ _ (c_isMan g ?_)
  cases hx1 : isIn x1 m
  · refine ⟨fun _ => bX10_lend_0 _ _ _ _ _ (m_isMan g2 ?_), fun z => absurd rfl z⟩
    rw [hx1]; exact ⟨fun _ => ⟨rfl, G⟩, fun z => absurd rfl z⟩
  refine ⟨fun z => absurd z (by decide), fun _ => c_isMan g ?_⟩
  cases hx2 : isIn x2 m
  · refine ⟨fun _ => bX10_lend_0 _ _ _ _ _ (m_isMan g2 ?_), fun z => absurd rfl z⟩
    rw [hx1]; refine ⟨fun z => absurd z (by decide), fun _ => m_isMan g2 ?_⟩
    rw [hx2]; exact ⟨fun _ => ⟨rfl, G⟩, fun z => absurd rfl z⟩
  refine ⟨fun z => absurd z (by decide), fun _ => ⟨fun z => ?_, fun z12 => c_isTusk g ?_⟩⟩
  · refine bX10_lend_0 _ _ _ _ _ (m_isMan g2 ?_)
    rw [hx1]; refine ⟨fun z => absurd z (by decide), fun _ => m_isMan g2 ?_⟩
    rw [hx2]; exact ⟨fun z => absurd z (by decide), fun _ => ⟨fun _ => ⟨rfl, G⟩, fun q => absurd z q⟩⟩
  -- the reference behind its first tests
  have M0 : ∀ (R : Int32 → aH → Prop), (x3 < 1 → R (-1) (sI hM 0 0 0)) → (99 < x3 → R (-1) (sI hM 0 0 0)) → (isIn x4 t = false → R (-1) (sI hM 0 0 0)) → (nI D = 8 → R (-1) (sI hM 0 0 0)) → (¬ x3 < 1 → ¬ 99 < x3 → isIn x4 t = true → ¬ nI D = 8 → AW (GM adK adV) l' ad' (d' + 1) mX10_isAlive 0 [(0, .ref (ad' 0)), (1, .int (0 : Int32)), (2, .int x4)] [] (sI hM 0 0 0) (qi fun z8 h7 => (z8 = 0 → (R (-2 : Int32) h7)) ∧ (¬ z8 = 0 → (vp_in x1 138 ∧ (vp_in x4 12 ∧ (((x3 + (h7.1 7 x4.toNatClampNeg)) ≤ (h7.1 27 x1.toNatClampNeg) → (AW (GM adK adV) l' ad' (d' + 1) mX10_keepNow 0 [(0, .ref (ad' 0))] [] h7 (qv fun h11 => vp_in (h11.1 25 0) 184 ∧ (∀ h14 : aH, h14 = (sI (sI (sI h11 30 (h11.1 25 0).toNatClampNeg x1) 31 (h11.1 25 0).toNatClampNeg x2) 32 (h11.1 25 0).toNatClampNeg x3) → (∀ h15 : aH, h15 = (sI (sI h14 33 (h11.1 25 0).toNatClampNeg x4) 34 (h11.1 25 0).toNatClampNeg ((sI h14 33 (h11.1 25 0).toNatClampNeg x4).1 23 0)) → (AW (GM adK adV) l' ad' (d' + 1) mX10_opens 0 [(0, .ref (ad' 0)), (1, .int (0 : Int32)), (2, .int (h11.1 25 0))] [] (sI h15 25 0 ((h15.1 25 0) + (1 : Int32))) (qv fun h16 => R (h11.1 25 0) h16))))))) ∧ (¬ (x3 + (h7.1 7 x4.toNatClampNeg)) ≤ (h7.1 27 x1.toNatClampNeg) → (R (-2 : Int32) h7)))))))) → AW (GM adK adV) l' ad' (d' + 2) mX10_lend 0 [(0, .ref (ad' 0)), (1, .int x1), (2, .int x2), (3, .int x3), (4, .int x4)] [] hM (qi R) := by
    intro R k1 k2 k3 k4 k5
    refine bX10_lend_0 _ _ _ _ _ (m_isMan g2 ?_)
    rw [hx1]; refine ⟨fun z => absurd z (by decide), fun _ => m_isMan g2 ?_⟩
    rw [hx2]; refine ⟨fun z => absurd z (by decide), fun _ => ⟨fun q => absurd q z12, fun _ => ⟨k1, fun q1 => ⟨k2, fun q2 => m_isTusk g2 ?_⟩⟩⟩⟩
    rw [eD2]
    cases hx4 : isIn x4 t
    · exact ⟨fun _ => k3 hx4, fun z => absurd rfl z⟩
    · exact ⟨fun z => absurd z (by decide), fun _ => ⟨fun q => k5 q1 q2 hx4 q, fun q => k4 q⟩⟩
  have B : ∀ (hb : x3 < 1 ∨ 99 < x3 ∨ isIn x4 t = false ∨ nI D = 8), AW (GM adK adV) l' ad' (d' + 2) mX10_lend 0 [(0, .ref (ad' 0)), (1, .int x1), (2, .int x2), (3, .int x3), (4, .int x4)] [] hM (qi fun z' hM' => z' = -1 ∧ GR hC hM') := by
    intro hb
    refine M0 _ (fun _ => ⟨rfl, G⟩) (fun _ => ⟨rfl, G⟩) (fun _ => ⟨rfl, G⟩) (fun _ => ⟨rfl, G⟩) (fun q1 q2 q3 q4 => ?_)
    exfalso
    rcases hb with q | q | q | q
    · exact q1 q
    · exact q2 q
    · rw [q] at q3; cases q3
    · exact q4 q
  cases hx4 : isIn x4 t
  · exact ⟨fun z => absurd rfl z, fun _ => B (Or.inr (Or.inr (Or.inl hx4)))⟩
  refine ⟨fun _ => ⟨fun z => B (Or.inl z), fun z1 => ⟨fun z => B (Or.inr (Or.inl z)), fun z2 => ?_⟩⟩, fun z => absurd z (by decide)⟩
  rw [eD1]
  by_cases hD8 : D = 8
  · subst hD8
    exact ⟨fun z => absurd z (by decide), fun _ => B (Or.inr (Or.inr (Or.inr rfl)))⟩
  have hD7 : D < 8 := by omega
  have nD8 : ¬ nI D = 8 := fun q => hD8 ((nI_eq (b := 8) (by omega) (by decide)).mp q)
  obtain ⟨a, ha, rfl⟩ := isIn_of (by omega) hx1
  obtain ⟨q, hq, rfl⟩ := isIn_of (by omega) hx2
  obtain ⟨w, hw, rfl⟩ := isIn_of (by omega) hx4
  have haq : a ≠ q := fun z => z12 (by rw [z])
  refine ⟨fun _ => cH (w := 66) (sp_isAlive isW_66 (by omega) ?_), fun z => absurd (nI_lt (a := D) (b := 8) hD7 (by decide)) z⟩
  rw [pW_wq]
  have e7 : (sI hM 0 0 0).1 7 (nI w).toNatClampNeg = wd hC sy 3 w := by rw [nI_clamp (by omega)]; exact (C.2.2.2.2.1 w hw).1
  have e27 : (sI hM 0 0 0).1 27 (nI a).toNatClampNeg = wq hC 66 1 a := by rw [nI_clamp (by omega)]; exact rd1 r hm ha
  have M1 : ∀ (R : Int32 → aH → Prop), (bt (wq hC 66 0 12) w = false → R (-2) (sI hM 0 0 0)) → (¬ x3 + wd hC sy 3 w ≤ wq hC 66 1 a → R (-2) (sI hM 0 0 0)) → (bt (wq hC 66 0 12) w = true → x3 + wd hC sy 3 w ≤ wq hC 66 1 a → AW (GM adK adV) l' ad' (d' + 1) mX10_keepNow 0 [(0, .ref (ad' 0))] [] (sI hM 0 0 0) (qv fun h11 => vp_in (h11.1 25 0) 184 ∧ (∀ h14 : aH, h14 = (sI (sI (sI h11 30 (h11.1 25 0).toNatClampNeg (nI a)) 31 (h11.1 25 0).toNatClampNeg (nI q)) 32 (h11.1 25 0).toNatClampNeg x3) → (∀ h15 : aH, h15 = (sI (sI h14 33 (h11.1 25 0).toNatClampNeg (nI w)) 34 (h11.1 25 0).toNatClampNeg ((sI h14 33 (h11.1 25 0).toNatClampNeg (nI w)).1 23 0)) → (AW (GM adK adV) l' ad' (d' + 1) mX10_opens 0 [(0, .ref (ad' 0)), (1, .int (0 : Int32)), (2, .int (h11.1 25 0))] [] (sI h15 25 0 ((h15.1 25 0) + (1 : Int32))) (qv fun h16 => R (h11.1 25 0) h16)))))) → AW (GM adK adV) l' ad' (d' + 2) mX10_lend 0 [(0, .ref (ad' 0)), (1, .int (nI a)), (2, .int (nI q)), (3, .int x3), (4, .int (nI w))] [] hM (qi R) := by
    intro R k1 k2 k3
    refine M0 R (fun w => absurd w z1) (fun w => absurd w z2) (fun w => by rw [hx4] at w; cases w) (fun w => absurd w nD8) (fun _ _ _ _ => mH (b := 0) (m_isAlive (b := 0) (by decide) (by omega) ?_))
    rw [r.2.1, pB_bk, e7, e27]
    cases hal : bt (wq hC 66 0 12) w
    · exact ⟨fun _ => k1 hal, fun z => absurd rfl z⟩
    · exact ⟨fun z => absurd z (by decide), fun _ => ⟨vp_in_nI (by omega) (by decide), vp_in_nI (by omega) (by decide), fun z => k3 hal z, fun z => k2 z⟩⟩
  cases hal : bt (wq hC 66 0 12) w
  · refine ⟨fun _ => M1 _ (fun _ => ⟨rfl, G⟩) (fun _ => ⟨rfl, G⟩) (fun z => ?_), fun z => absurd rfl z⟩
    rw [hal] at z; cases z
  refine ⟨fun z => absurd z (by decide), fun _ => cH (w := 66) (sp_purseOf isW_66 (by omega) ?_)⟩
  rw [pW_wq]
  refine mref e1 ⟨e2, vp_in_nI (by omega) (by decide), ?_⟩
  have eb : hC.1 (sy + 3) (nI w).toNatClampNeg = wd hC sy 3 w := by rw [nI_clamp (by omega), wd_at (by decide)]
  rw [eb]
  refine ⟨fun zp => ?_, fun zp => M1 _ (fun z => by rw [hal] at z; cases z) (fun _ => ⟨rfl, G⟩) (fun _ z => absurd z zp)⟩
  obtain ⟨c, c1, c2, c3, P⟩ := g_P g2
  refine sp_store c2 c1 P (fun hC' ps => ?_)
  have ps' := ps
  obtain ⟨c1', -, -, -, -, -, p6, p7, -, -, -⟩ := ps'
  have e66 : wq hC' 66 = wq hC 66 := wq_ext (fun j k hj => p7 _ _ (by omega))
  have ewd : wd hC' sy = wd hC sy := by
    funext j k
    unfold wd
    by_cases hj : j < 29
    · rw [if_pos hj, if_pos hj, p7 _ _ (by omega)]
    · rw [if_neg hj, if_neg hj]
  have e11 : hC'.1 66 11 = nI D := (p7 _ _ (by omega)).trans eD1
  have e13 : hC'.1 66 13 = wq hC 66 0 13 := (p7 _ _ (by omega)).trans (wq_at (w := 66) (j := 0) (by decide)).symm
  rw [e11, e13]
  refine cH (w := 66) (sp_addDebt isW_66 hD7 (by rw [e66]; exact I.1.2.2.2.1) (mref ((p6 _ _ (by decide)).trans e1) ⟨e2, ?_⟩))
  have eb2 : (pW hC' 66 (addW (wq hC' 66) D (nI a) (nI q) x3 (nI w) (wq hC 66 0 13))).1 (sy + 3) (nI w).toNatClampNeg = wd hC sy 3 w := by
    rw [nI_clamp (by omega), pW_off (by omega), ← ewd, wd_at (by decide)]
  rw [eb2]
  refine sp_open isW_66 hD7 (a := a) (b := q) (by omega) (by omega) (by simp [addW, u2]) (by simp [addW, u2]) ?_
  refine M1 _ (fun z => by rw [hal] at z; cases z) (fun z => absurd zp z) (fun _ _ => m_keepNow c3 c1 (fun hM' kn => ?_))
  have g3 := gq_store g2 c2 c1 ps kn
  have C3 := g3.1.2.2.2.2.1
  obtain ⟨I3, r3, N3⟩ := g3.2.1
  have eDM := (g_D g3).2
  rw [ewd] at C3
  have hc : (nI D).toNatClampNeg = D := nI_clamp (by omega)
  rw [eDM, hc]
  refine ⟨vp_in_nI (by omega) (by decide), fun h14 e14 h15 e15 => ?_⟩
  have aD : ∀ j, 3 ≤ j → j ≤ 9 → adr 0 (27 + j) D = some (j, D) := by
    intro j h1 h2
    have := a30 (b := 0) (j := j) (i := D) (by omega) h1 h2
    rwa [Nat.mul_zero, Nat.zero_add] at this
  have e14' : h14 = pB hM' 0 (u2 (u2 (u2 (bkT hM' 0) 3 D (nI a)) 4 D (nI q)) 5 D x3) := by
    rw [e14]
    conv => lhs; rw [← pB_bk hM' 0]
    rw [sI_pB (aD 3 (by decide) (by decide)), sI_pB (aD 4 (by decide) (by decide)), sI_pB (aD 5 (by decide) (by decide))]
  have e15' : h15 = pB hM' 0 (u2 (u2 (u2 (u2 (u2 (bkT hM' 0) 3 D (nI a)) 4 D (nI q)) 5 D x3) 6 D (nI w)) 7 D (wq hC 66 0 13)) := by
    rw [e15, e14', sI_pB (aD 6 (by decide) (by decide)), pB_get (a23 (b := 0)), u2_j (by decide), u2_j (by decide), u2_j (by decide), u2_j (by decide), r3.2.2.1, e66, sI_pB (aD 7 (by decide) (by decide))]
  have e25 : h15.1 25 0 = nI D := by
    rw [e15', pB_get (a25 (b := 0)), u2_j (by decide), u2_j (by decide), u2_j (by decide), u2_j (by decide), u2_j (by decide)]
    exact r3.1
  rw [e25, nI_1, e15', sI_pB (a25 (b := 0))]
  rw [e66] at I3 r3 N3
  have rA := rel_add (x1 := nI a) (x2 := nI q) (x3 := x3) (x4 := nI w) (x5 := wq hC 66 0 13) ht hD7 r3
  have IA := inv_add (x3 := x3) (x5 := wq hC 66 0 13) hD7 I3 ha hq hw
  have wfA : WFw m t (D + 1) (u2 (u2 (addW (wq hC 66) D (nI a) (nI q) x3 (nI w) (wq hC 66 0 13)) 8 D (bkT hM' 0 8 D)) 9 D (bkT hM' 0 9 D)) := wf_u (wf_u IA.1 (by decide) (by decide) (by decide) (by decide) (by decide)) (by decide) (by decide) (by decide) (by decide) (by decide)
  refine m_opensL (b := 0) (i := D) (a := a) (q := q) (w := w) C3 (mt_0 g3.2.2.2.2.2.2.2.2.1) (by decide) wfA rA (by omega) (by simp [addW, u2]) ha hq hw (by simp [addW, u2]) (by simp [addW, u2]) (by simp [addW, u2]) ?_ ?_ (fun β' r' => ?_)
  · rw [u2_j (by decide), u2_j (by decide), addW_l (Or.inr (Or.inr ⟨rfl, by decide⟩))]; exact hal
  · rw [u2_j (by decide), u2_j (by decide), u2_j (by decide), u2_j (by decide), addW_l (Or.inl rfl), show addW (wq hC 66) D (nI a) (nI q) x3 (nI w) (wq hC 66 0 13) 5 D = x3 by simp [addW, u2]]
    exact Int32.not_lt.mpr zp
  · rw [openW_89] at r'
    rw [e66]
    refine ⟨rfl, sy, m, t, n, D0, D + 1, ?_⟩
    have IO : Inv m t (D + 1) (openW (addW (wq hC 66) D (nI a) (nI q) x3 (nI w) (wq hC 66 0 13)) D a q (wd hC sy 3 w) 0) := by
      refine inv_open IA ?_ (fun _ => ?_)
      · rw [addW_l (Or.inr (Or.inr ⟨rfl, by decide⟩))]; simp [addW, u2]
      · rw [addW_l (Or.inr (Or.inr ⟨rfl, by decide⟩)), show addW (wq hC 66) D (nI a) (nI q) x3 (nI w) (wq hC 66 0 13) 6 D = nI w by simp [addW, u2], ix_nI (by omega)]
        exact hal
    refine gq_now g3 (kC0_pW (J := hC'.2.1)) kM0_pB1 (gN_mk IO r' (fun i hi => ?_))
    have o3 : ∀ j, j = 3 ∨ j = 4 → openW (addW (wq hC 66) D (nI a) (nI q) x3 (nI w) (wq hC 66 0 13)) D a q (wd hC sy 3 w) 0 j i = addW (wq hC 66) D (nI a) (nI q) x3 (nI w) (wq hC 66 0 13) j i := fun j hj => o34 hj
    rw [o3 3 (Or.inl rfl), o3 4 (Or.inr rfl)]
    have oA : O9 (addW (wq hC 66) D (nI a) (nI q) x3 (nI w) (wq hC 66 0 13)) i := by
      unfold O9
      by_cases z : i = D
      · subst z
        obtain ⟨v, v1, v2, v3⟩ := i32_pos (a := 99) (by decide) z1 z2
        rw [show addW (wq hC 66) i (nI a) (nI q) x3 (nI w) (wq hC 66 0 13) 9 i = 0 by simp [addW, u2], show addW (wq hC 66) i (nI a) (nI q) x3 (nI w) (wq hC 66 0 13) 5 i = x3 by simp [addW, u2]]
        exact ⟨⟨0, by decide, rfl⟩, v, v2, v3⟩
      · rw [addW_o z (by omega), addW_o z (by omega)]
        exact (N3 i (by omega)).2.2
    by_cases z : i = D
    · subst z
      refine ⟨?_, ?_, p9_open i oA⟩
      · rw [show addW (wq hC 66) i (nI a) (nI q) x3 (nI w) (wq hC 66 0 13) 3 i = nI a by simp [addW, u2], show addW (wq hC 66) i (nI a) (nI q) x3 (nI w) (wq hC 66 0 13) 4 i = nI q by simp [addW, u2]]
        exact fun z => haq ((nI_eq (by omega) (by omega)).mp z)
      · refine t8_nn (t8_open (Or.inl ?_)) ?_
        · simp [addW, u2]
        · rw [show addW (wq hC 66) i (nI a) (nI q) x3 (nI w) (wq hC 66 0 13) 8 i = 0 by simp [addW, u2]]; decide
    · rw [addW_o z (by omega), addW_o z (by omega)]
      refine ⟨(N3 i (by omega)).1, t8_nn (t8_open (Or.inl ?_)) ?_, p9_open i oA⟩
      · simp [addW, u2]
      · rw [addW_o z (by omega)]; exact (N3 i (by omega)).2.1
end LW
