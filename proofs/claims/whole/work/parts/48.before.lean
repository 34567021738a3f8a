/-! ===== calls: before ===== -/
section BF
variable {adK adV : Nat → Nat} {l l' : Launch} {ad ad' : Nat → Nat} {d d' b : Nat} {hC hM hC' hM' h : aH} {sy m t n D0 D : Nat} {ω β : wT} {way deaf : Int32}
theorem foll_372 {J : Nat → Nat → Int64} {e : Nat} {v : Int32} : sI (pW (hJ (foll hC sy 78 way deaf) J) 78 ω) 372 e v = pW (hJ (foll (sI hC 372 e v) sy 78 way deaf) J) 78 ω := by
  rw [sI_pWo (Or.inr (by decide))]
  congr 1
  refine Prod.ext ?_ rfl
  funext c k
  show (if c = 372 ∧ k = e then v else if c = 344 ∧ k = 4 then deaf else if c = 344 ∧ k = 3 then way else hC.1 c k) = if c = 344 ∧ k = 4 then deaf else if c = 344 ∧ k = 3 then way else if c = 372 ∧ k = e then v else hC.1 c k
  by_cases z : c = 372 ∧ k = e
  · rw [if_pos z, if_neg (fun q => by omega), if_neg (fun q => by omega), if_pos z]
  · rw [if_neg z, if_neg z]
theorem kC_372 {e : Nat} {v : Int32} : kC hC (sI hC 372 e v) := ⟨fun c k hc => sI_c (by omega), fun _ _ _ => rfl⟩
/-- a rumour of each elephant -/
def rmW (al : Int32) (e : Nat) (ω : wT) : wT := u2 ω 11 (8 + e) (((1 : Int32) <<< (nI e &&& 31)) &&& al)
theorem rmI_o {al : Int32} : ∀ q (ω : wT) j k, (j ≠ 11 ∨ k < 8 ∨ 8 + q ≤ k) → itR (rmW al) q ω j k = ω j k
  | 0, _, _, _, _ => rfl
  | q + 1, ω, j, k, h => by
    rw [← rmI_o q ω j k (by omega)]
    show u2 (itR (rmW al) q ω) 11 (8 + q) _ j k = _
    by_cases z : j = 11
    · rw [u2_k (by omega)]
    · rw [u2_j z]
theorem rmI_at {al : Int32} {e : Nat} : ∀ q (ω : wT), e < q → itR (rmW al) q ω 11 (8 + e) = ((1 : Int32) <<< (nI e &&& 31)) &&& al
  | 0, _, h => absurd h (Nat.not_lt_zero _)
  | q + 1, ω, h => by
    show u2 (itR (rmW al) q ω) 11 (8 + q) (((1 : Int32) <<< (nI q &&& 31)) &&& al) 11 (8 + e) = _
    by_cases z : e = q
    · subst z; rw [u2_s]
    · rw [u2_k (by omega), rmI_at q ω (by omega)]
theorem inv_rm {al : Int32} (I : Inv m t D ω) : ∀ q, Inv m t D (itR (rmW al) q ω)
  | 0 => I
  | q + 1 => by
    have J := inv_rm (al := al) I q
    have hD := I.1.2.2.1
    refine inv_11 J (fun z => absurd z (by omega)) (fun z => absurd z (by omega)) (fun z => absurd z (by omega))
theorem rel_rm {al : Int32} (hD : D ≤ 8) (r : RelW m t D ω β) {q : Nat} : RelW m t D (itR (rmW al) q ω) β := by
  refine rel_kn r (fun j k hj => rmI_o q ω j k (Or.inl hj)) (fun _ _ _ => rfl) (fun e he => ⟨(r.2.2.2.2.2.2.2 e he).1, fun i hi => ?_⟩)
  rw [rmI_o q ω 11 i (by omega)]
  exact (r.2.2.2.2.2.2.2 e he).2 i hi
theorem c_fl {R : aH → Prop} (g : GQ hC hM sy m t n D0 D) (H : ∀ hC', kC hC hC' → (∀ e, e < t → hC'.1 372 e = LL (fun q => daysW (wd hC sy) t D n 0 0 q (itR (rmW (wq hC 66 0 12)) t (nz (wq hC 66)))) e 99) → R hC') : AW GC l ad (d + 6) mX9_findLastings 0 [(0, .ref (ad 0))] [] hC (qv R) := by
  obtain ⟨e1, e2, e3, e4, e5, e6, hm, ht, hD⟩ := g_S g
  obtain ⟨I, r, N⟩ := g.2.1
  have hsy := g.1.1
  have hsy2 := g_sy g
  have S := g.1.2.2.2.1
  have I0 : Inv m t D (nz (wq hC 66)) := inv_cp I
  have IR := inv_rm (al := wq hC 66 0 12) I0 t
  -- readings of a heap of the kind that is met
  have eR : ∀ hC1 J ω, kC hC hC1 → (pW (hJ (foll hC1 sy 78 0 0) J) 78 ω).2.2 0 3 = sy := fun hC1 J ω kc => (foll_R (h := hC1) (sy := sy) (w := 78) (way := 0) (deaf := 0) (c := 0) (k := 3) (by decide)).trans ((kc.2 0 3 (by decide)).trans e1)
  have eT : ∀ hC1 J ω, kC hC hC1 → (pW (hJ (foll hC1 sy 78 0 0) J) 78 ω).1 sy 12 = nI t := fun hC1 J ω kc => by
    rw [pW_off (by omega)]
    exact (foll_o (h := hC1) (sy := sy) (w := 78) (way := 0) (deaf := 0) (by omega)).trans ((kc.1 sy 12 (by omega)).trans e4)
  have eA : ∀ hC1 J ω, kC hC hC1 → (pW (hJ (foll hC1 sy 78 0 0) J) 78 ω).1 66 12 = wq hC 66 0 12 := fun hC1 J ω kc => by
    rw [pW_off (by omega)]
    exact (foll_o (h := hC1) (sy := sy) (w := 78) (way := 0) (deaf := 0) (by omega)).trans ((kc.1 66 12 (by omega)).trans (wq_at (w := 66) (j := 0) (by decide)).symm)
  refine bX9_findLastings_0 _ (c_trial g (c_tr0 ?_))
  refine up_ind (P := fun e => ∀ hC1 J, kC hC hC1 → (∀ q, q < e → hC1.1 372 q = 0) → AW GC l ad (d + 6) mX9_findLastings 8 [(0, .ref (ad 0)), (1, .int (nI e))] [] (pW (hJ (foll hC1 sy 78 0 0) J) 78 (itR (rmW (wq hC 66 0 12)) e (nz (wq hC 66)))) (qv R)) t (fun hC1 J kc hz => ?_) (fun e he ih hC1 J kc hz => ?_) hC _ kC_rfl (fun q hq => absurd hq (Nat.not_lt_zero _))
  · refine bX9_findLastings_8 _ _ (mref (eR hC1 J _ kc) ⟨e2, ?_⟩)
    rw [eT hC1 J _ kc]
    refine ⟨fun _ => ?_, fun z => absurd (Int32.le_refl _) z⟩
    generalize itR (rmW (wq hC 66 0 12)) t (nz (wq hC 66)) = ω1 at IR H
    refine up_ind (P := fun k => ∀ hC1 J, kC hC hC1 → (∀ e, e < t → hC1.1 372 e = LL (fun q => daysW (wd hC sy) t D n 0 0 q ω1) e k) → AW GC l ad (d + 6) mX9_findLastings 60 [(0, .ref (ad 0)), (1, .int (nI (k + 1)))] [] (pW (hJ (foll hC1 sy 78 0 0) J) 78 (daysW (wd hC sy) t D n 0 0 k ω1)) (qv R)) 99 (fun hC1 J kc hl => ?_) (fun k hk ih hC1 J kc hl => ?_) hC1 J kc hz
    · refine bX9_findLastings_60 _ _ ⟨fun _ => H _ (kC_tr kc kC_trial) (fun e he => ?_), fun z => absurd (by decide) z⟩
      rw [pW_off (by omega)]
      exact (foll_o (h := hC1) (sy := sy) (w := 78) (way := 0) (deaf := 0) (by omega)).trans (hl e he)
    · refine bX9_findLastings_60 _ _ ⟨fun z => absurd ((nI_ltI (a := 99) (b := k + 1) (by decide) (by omega)).mp z) (by omega), fun _ => ?_⟩
      refine up_ind (P := fun e => ∀ hC1 J, kC hC hC1 → (∀ q, q < t → hC1.1 372 q = LL (fun q => daysW (wd hC sy) t D n 0 0 q ω1) q (if q < e then k + 1 else k)) → AW GC l ad (d + 6) mX9_findLastings 68 [(0, .ref (ad 0)), (1, .int (nI (k + 1))), (2, .int (nI e))] [] (pW (hJ (foll hC1 sy 78 0 0) J) 78 (daysW (wd hC sy) t D n 0 0 k ω1)) (qv R)) t (fun hC1 J kc hl => ?_) (fun e he ih2 hC1 J kc hl => ?_) hC1 J kc (fun q hq => by rw [if_neg (Nat.not_lt_zero _)]; exact hl q hq)
      · refine bX9_findLastings_68 _ _ _ (mref (eR hC1 J _ kc) ⟨e2, ?_⟩)
        rw [eT hC1 J _ kc, nI_1]
        refine ⟨fun _ => ?_, fun z => absurd (Int32.le_refl _) z⟩
        have g1 := gq_frame kc kM_rfl g
        have ew := wd_kC kc hsy
        refine c_day g1 (inv_daysW S IR k) (fun J' => ?_)
        rw [ew]
        refine ih hC1 J' kc (fun e he => ?_)
        have := hl e he
        rw [if_pos he] at this
        exact this
      · have e89 : (pW (hJ (foll hC1 sy 78 0 0) J) 78 (daysW (wd hC sy) t D n 0 0 k ω1)).1 89 ((8 : Int32) + nI e).toNatClampNeg = daysW (wd hC sy) t D n 0 0 k ω1 11 (8 + e) := by
          rw [show (8 : Int32) + nI e = nI (8 + e) from nI_add 8 e, nI_clamp (by omega)]
          exact pW_get (w := 78) (j := 11) (by decide)
        refine bX9_findLastings_68 _ _ _ (mref (eR hC1 J _ kc) ⟨e2, ?_⟩)
        rw [eT hC1 J _ kc, nI_1 e, e89, nI_clamp (by omega), foll_372]
        refine ⟨fun z => absurd z (nI_ge he (by omega)), fun _ => ⟨by rw [show (8 : Int32) + nI e = nI (8 + e) from nI_add 8 e]; exact vp_in_nI (by omega) (by decide), fun z => ih2 hC1 J kc (fun q hq => ?_), fun z => ⟨vp_in_nI (by omega) (by decide), ih2 _ J (kC_tr kc kC_372) (fun q hq => ?_)⟩⟩⟩
        · rw [hl q hq]
          by_cases w : q = e
          · subst w
            rw [if_neg (Nat.lt_irrefl _), if_pos (Nat.lt_succ_self _)]
            show _ = (if daysW (wd hC sy) t D n 0 0 k ω1 11 (8 + q) = 0 then _ else _)
            rw [if_pos z]
            rfl
          · by_cases w2 : q < e
            · rw [if_pos w2, if_pos (show q < e + 1 by omega)]
            · rw [if_neg w2, if_neg (show ¬ q < e + 1 by omega)]
        · by_cases w : q = e
          · subst w
            rw [sI_s, if_pos (Nat.lt_succ_self _)]
            show _ = (if daysW (wd hC sy) t D n 0 0 k ω1 11 (8 + q) = 0 then _ else _)
            rw [if_neg z]
          · rw [sI_k w, hl q hq]
            by_cases w2 : q < e
            · rw [if_pos w2, if_pos (show q < e + 1 by omega)]
            · rw [if_neg w2, if_neg (show ¬ q < e + 1 by omega)]
  · refine bX9_findLastings_8 _ _ (mref (eR hC1 J _ kc) ⟨e2, ?_⟩)
    rw [eT hC1 J _ kc, eA hC1 J _ kc, nI_1, show (8 : Int32) + nI e = nI (8 + e) from nI_add 8 e, nI_clamp (by omega), nI_clamp (by omega), sI_pW (w := 78) (j := 11) (by decide), foll_372]
    refine ⟨fun z => absurd z (nI_ge he (by omega)), fun _ => ⟨vp_in_nI (by omega) (by decide), vp_in_nI (by omega) (by decide), href ?_⟩⟩
    refine ih _ J (kC_tr kc kC_372) (fun q hq => ?_)
    by_cases w : q = e
    · subst w; exact sI_s
    · rw [sI_k w]; exact hz q (by omega)
theorem m_lb {R : Int32 → aH → Prop} {e : Nat} (g : GQ hC hM sy m t n D0 D) (he : e < t) (I1 : Inv m t D ω) (h0 : RelW m t D ω (bkT hM 0)) (hs : ω 11 (8 + e) &&& ω 0 12 = ω 11 (8 + e)) (ho : ω 11 (8 + e) = (1 : Int32) <<< (nI e &&& 31)) (H : ∀ hM', kM hM hM' → R (lsV (fun q => daysW (wd hC sy) t D n 0 0 q ω) e 0 99) hM') : AW (GM adK adV) l ad (d + 7) mX10_lastsBefore 0 [(0, .ref (ad 0)), (1, .int (nI e))] [] hM (qi R) := by
  obtain ⟨e1, e2, e3, e4, e5, e6, hm, ht, hD⟩ := g_S g
  have S := g.1.2.2.2.1
  have C := g.1.2.2.2.2.1
  have hn : n ≤ 10 := S.2.2.2.1
  have e23 : hM.1 2 3 = nI n := C.2.2.1
  have hsig : ∀ k, k < n → ix (wd hC sy 6 k) < 32 := by
    intro k hk
    obtain ⟨a, ha, ea⟩ := S.2.2.2.2.2.1 k hk
    rw [ea, ix_nI (by omega)]; omega
  refine bX10_lastsBefore_0 _ _ (m_copies (x := 1) (y := 0) (by decide) (by decide) (by decide) ?_)
  have eh : pB hM 1 (bkT hM 0) = pB (hS hM hM.2.1 (hM.1 0 37)) 1 (bkT hM 0) := by rw [hS_self]
  rw [eh, ← ho]
  have key : ∀ q k, k + q = 99 → (∀ hM', kM hM hM' → R (lsV (fun q => daysW (wd hC sy) t D n 0 0 q ω) e k q) hM') → ∀ β J n', RelW m t D (daysW (wd hC sy) t D n 0 0 k ω) β → AW (GM adK adV) l ad (d + 7) mX10_lastsBefore 12 [(0, .ref (ad 0)), (2, .int (daysW (wd hC sy) t D n 0 0 k ω 11 (8 + e))), (3, .int (nI k))] [] (pB (hS hM J n') 1 β) (qi R) := by
    intro q
    induction q with
    | zero =>
      intro k hk H β J n' r
      have : k = 99 := by omega
      subst this
      exact bX10_lastsBefore_12 _ _ _ ⟨fun _ => H _ kM_pB1, fun z => absurd (Int32.le_refl _) z⟩
    | succ q ih =>
      intro k hk H β J n' r
      have Ik := inv_daysW (way := 0) (deaf := 0) S I1 k
      have sk := rum_sub (σ := wd hC sy) (ω := ω) (t := t) (n := n) hD hsig (show e < 6 by omega) hs k
      have en : daysW (wd hC sy) t D n 0 0 (k + 1) ω = dayW (wd hC sy) t D n 0 0 (daysW (wd hC sy) t D n 0 0 k ω) := rfl
      have dr := day_rum (σ := wd hC sy) (t := t) (n := n) hD hsig (show e < 6 by omega) sk
      rw [← en] at dr
      unfold lsV at H
      refine bX10_lastsBefore_12 _ _ _ ⟨fun z => absurd z (nI_ge (b := 99) (by omega) (by decide)), fun _ => ?_⟩
      refine up_ind (P := fun i => AW (GM adK adV) l ad (d + 7) mX10_lastsBefore 21 [(0, .ref (ad 0)), (2, .int (itR (rtS (wd hC sy) (daysW (wd hC sy) t D n 0 0 k ω 0 13) (daysW (wd hC sy) t D n 0 0 k ω 0 12)) i (daysW (wd hC sy) t D n 0 0 k ω 11 (8 + e)))), (3, .int (nI k)), (4, .int (nI i))] [] (pB (hS hM J n') 1 β) (qi R)) n ?_ (fun i hi ih2 => ?_)
      · refine bX10_lastsBefore_21 _ _ _ _ ?_
        rw [pB_off (a_off (by omega)), hS_o (by decide), e23]
        refine ⟨fun _ => m_passes (b := 1) C S (mt_0 g.2.2.2.2.2.2.2.2.1) (by decide) Ik r (fun β' J' n2 r' => ?_), fun z => absurd (Int32.le_refl _) z⟩
        rw [pB_get (a26 (b := 1)), r'.2.1, nI_1, ← en, ← dr]
        rw [← en] at r'
        refine ⟨fun z => ih (k + 1) (by omega) (fun hM' km => ?_) β' J' n2 r', fun z => ?_⟩
        · have := H hM' km
          rw [if_neg z] at this
          exact this
        · have := H _ (kM_pB1 (J := J') (n' := n2) (β := β'))
          rw [if_pos z] at this
          exact this
      · have es : itR (rtS (wd hC sy) (daysW (wd hC sy) t D n 0 0 k ω 0 13) (daysW (wd hC sy) t D n 0 0 k ω 0 12)) (i + 1) (daysW (wd hC sy) t D n 0 0 k ω 11 (8 + e)) = rtS (wd hC sy) (daysW (wd hC sy) t D n 0 0 k ω 0 13) (daysW (wd hC sy) t D n 0 0 k ω 0 12) i (itR (rtS (wd hC sy) (daysW (wd hC sy) t D n 0 0 k ω 0 13) (daysW (wd hC sy) t D n 0 0 k ω 0 12)) i (daysW (wd hC sy) t D n 0 0 k ω 11 (8 + e))) := rfl
        rw [es] at ih2
        clear es dr sk ih H
        generalize itR (rtS (wd hC sy) (daysW (wd hC sy) t D n 0 0 k ω 0 13) (daysW (wd hC sy) t D n 0 0 k ω 0 12)) i (daysW (wd hC sy) t D n 0 0 k ω 11 (8 + e)) = x at ih2 ⊢
        obtain ⟨c14, c15, c16⟩ := C.2.2.2.2.2.1 i hi
        obtain ⟨a, ha, ea⟩ := S.2.2.2.2.1 i hi
        obtain ⟨b2, hb2, eb⟩ := S.2.2.2.2.2.1 i hi
        unfold rtS at ih2
        rw [ea, eb, ix_nI (by omega), ix_nI (by omega)] at ih2
        have h14 : (pB (hS hM J n') 1 β).1 14 (nI i).toNatClampNeg = nI a := by rw [nI_clamp (by omega), pB_off (a_off (by omega)), hS_o (by decide), c14, ea]
        have h15 : (pB (hS hM J n') 1 β).1 15 (nI i).toNatClampNeg = nI b2 := by rw [nI_clamp (by omega), pB_off (a_off (by omega)), hS_o (by decide), c15, eb]
        have h16 : (pB (hS hM J n') 1 β).1 16 (nI i).toNatClampNeg = wd hC sy 7 i := by rw [nI_clamp (by omega), pB_off (a_off (by omega)), hS_o (by decide), c16]
        have SK : AW (GM adK adV) l ad (d + 7) mX10_lastsBefore 21 [(0, .ref (ad 0)), (2, .int x), (3, .int (nI k)), (4, .int (nI (i + 1)))] [] (pB (hS hM J n') 1 β) (qi R) → AW (GM adK adV) l ad (d + 7) mX10_lastsBefore 82 [(0, .ref (ad 0)), (2, .int x), (3, .int (nI k)), (4, .int (nI i))] [] (pB (hS hM J n') 1 β) (qi R) := by
          intro K
          refine bX10_lastsBefore_82 _ _ _ _ (bX10_lastsBefore_83 _ _ _ _ _ ⟨fun _ => ?_, fun z => absurd rfl z⟩)
          rw [nI_1]
          exact K
        refine bX10_lastsBefore_21 _ _ _ _ ?_
        rw [pB_off (a_off (by omega)), hS_o (by decide), e23, h14, h16, pB_get (a23 (b := 1)), r.2.2.1]
        refine ⟨fun z => absurd z (nI_ge hi (by omega)), fun _ => ⟨vp_in_nI (by omega) (by decide), fun z => ?_, fun z => m_isAlive (b := 1) (by decide) (by omega) ?_⟩⟩
        · rw [if_neg z] at ih2; exact SK ih2
        · rw [if_pos z] at ih2
          rw [r.2.1, h15]
          cases h1 : bt (daysW (wd hC sy) t D n 0 0 k ω 0 12) a
          · rw [h1] at ih2
            exact ⟨fun _ => SK ih2, fun z => absurd rfl z⟩
          · rw [h1, if_pos rfl] at ih2
            refine ⟨fun z => absurd z (by decide), fun _ => m_isAlive (b := 1) (by decide) (by omega) ?_⟩
            rw [r.2.1]
            cases h2 : bt (daysW (wd hC sy) t D n 0 0 k ω 0 12) b2
            · rw [h2] at ih2
              exact ⟨fun _ => SK ih2, fun z => absurd rfl z⟩
            · rw [h2, if_pos rfl] at ih2
              refine ⟨fun z => absurd z (by decide), fun _ => bX10_lastsBefore_83 _ _ _ _ _ ⟨fun z => absurd z (by decide), fun _ => ?_⟩⟩
              rw [h14, h15, bt_shr _ (by omega), nI_1]
              refine ⟨vp_in_nI (by omega) (by decide), fun z => ?_, fun z t2 et => ?_⟩
              · cases h3 : bt x a
                · rw [h3] at ih2; exact ih2
                · rw [h3] at z; exact absurd rfl z
              · cases h3 : bt x a
                · rw [h3] at z; exact absurd z (by decide)
                · rw [h3, if_pos rfl] at ih2
                  rw [et]; exact ih2
  exact key 99 0 (by omega) H _ _ _ h0
theorem c_b22 {R : Int32 → aH → Prop} {x1 : Int32} {L : Nat → Int32} (g : GQ hC hM sy m t n D0 D) (hl : ∀ e, e < t → hC.1 372 e = L e) (H : R (bfV (itR (bfS (bt (wq hC 66 0 12)) L (wd hC sy 3)) t none) x1) hC) : AW GC l ad (d + 1) mX9_before 22 [(0, .ref (ad 0)), (1, .int x1), (2, .int (-1 : Int32)), (3, .int (0 : Int32)), (4, .int (0 : Int32))] [] hC (qi R) := by
  obtain ⟨e1, e2, e3, e4, e5, e6, hm, ht, hD⟩ := g_S g
  refine up_ind (P := fun e => AW GC l ad (d + 1) mX9_before 22 [(0, .ref (ad 0)), (1, .int x1), (2, .int ((itR (bfS (bt (wq hC 66 0 12)) L (wd hC sy 3)) e none).elim (-1) (fun p => nI p.1))), (3, .int ((itR (bfS (bt (wq hC 66 0 12)) L (wd hC sy 3)) e none).elim 0 (fun p => p.2))), (4, .int (nI e))] [] hC (qi R)) t ?_ (fun e he ih => ?_)
  · refine bX9_before_22 _ _ _ _ _ (mref e1 ⟨e2, ?_⟩)
    rw [e4]
    refine ⟨fun _ => ?_, fun z => absurd (Int32.le_refl _) z⟩
    have lt := bf_lt (al := bt (wq hC 66 0 12)) (L := L) (bu := wd hC sy 3) t
    generalize itR (bfS (bt (wq hC 66 0 12)) L (wd hC sy 3)) t none = s at H lt ⊢
    match s, H, lt with
    | none, H, _ => exact ⟨fun z => absurd rfl z, fun _ => H⟩
    | some p, H, lt =>
      have := lt p rfl
      refine ⟨fun _ => ⟨fun z => ?_, fun z => ?_⟩, fun z => ?_⟩
      · have H : R (if x1 = 0 then nI p.1 else p.2) hC := H
        rw [if_neg z] at H; exact H
      · have H : R (if x1 = 0 then nI p.1 else p.2) hC := H
        rw [if_pos z] at H; exact H
      · have z : nI p.1 = -1 := z
        exact absurd (by rw [z]; decide) (nI_pos (n := p.1) (by omega))
  · have lt := bf_lt (al := bt (wq hC 66 0 12)) (L := L) (bu := wd hC sy 3) e
    have es : itR (bfS (bt (wq hC 66 0 12)) L (wd hC sy 3)) (e + 1) none = bfS (bt (wq hC 66 0 12)) L (wd hC sy 3) e (itR (bfS (bt (wq hC 66 0 12)) L (wd hC sy 3)) e none) := rfl
    rw [es] at ih
    clear es H
    generalize itR (bfS (bt (wq hC 66 0 12)) L (wd hC sy 3)) e none = s at ih lt ⊢
    have A84 : ∀ s0 x2 x3 : Int32, (bt (wq hC 66 0 12) e = false → AW GC l ad (d + 1) mX9_before 22 [(0, .ref (ad 0)), (1, .int x1), (2, .int x2), (3, .int x3), (4, .int (nI (e + 1)))] [] hC (qi R)) → (bt (wq hC 66 0 12) e = true → ((¬ s0 = 0 ∨ ¬ L e ≤ x3) → AW GC l ad (d + 1) mX9_before 22 [(0, .ref (ad 0)), (1, .int x1), (2, .int (nI e)), (3, .int (L e)), (4, .int (nI (e + 1)))] [] hC (qi R)) ∧ (s0 = 0 → L e ≤ x3 → AW GC l ad (d + 1) mX9_before 22 [(0, .ref (ad 0)), (1, .int x1), (2, .int x2), (3, .int x3), (4, .int (nI (e + 1)))] [] hC (qi R))) → AW GC l ad (d + 1) mX9_before 84 [(0, .ref (ad 0)), (1, .int x1), (2, .int x2), (3, .int x3), (4, .int (nI e)), (5, .int (L e))] [.int s0] hC (qi R) := by
      intro s0 x2 x3 k0 k1
      refine bX9_before_84 _ _ _ _ _ _ _ (cH (w := 66) (sp_isAlive isW_66 (by omega) ?_))
      rw [pW_wq, nI_1]
      cases hal : bt (wq hC 66 0 12) e
      · exact ⟨fun _ => k0 hal, fun z => absurd rfl z⟩
      · exact ⟨fun z => absurd z (by decide), fun _ => ⟨fun z => (k1 hal).1 (Or.inl z), fun z => ⟨fun z2 => (k1 hal).2 z z2, fun z2 => (k1 hal).1 (Or.inr z2)⟩⟩⟩
    refine bX9_before_22 _ _ _ _ _ (mref e1 ⟨e2, ?_⟩)
    rw [e4, nI_clamp (by omega), hl e he]
    refine ⟨fun z => absurd z (nI_ge he (by omega)), fun _ => ⟨vp_in_nI (by omega) (by decide), fun z => ?_, fun z => ?_⟩⟩
    · refine bX9_before_79 _ _ _ _ _ _ (A84 1 _ _ (fun hal => ?_) (fun hal => ⟨fun _ => ?_, fun q => absurd q (by decide)⟩))
      · unfold bfS at ih; rw [hal] at ih; exact ih
      · unfold bfS at ih
        rw [hal] at ih
        match s, lt, z, ih with
        | none, _, _, ih => exact ih
        | some p, lt, z, _ =>
          have := lt p rfl
          have z : nI p.1 = -1 := z
          exact absurd (by rw [z]; decide) (nI_pos (n := p.1) (by omega))
    · match s, lt, z, ih with
      | none, _, z, _ => exact absurd rfl z
      | some p, lt, _, ih =>
        have hp := lt p rfl
        show (¬ L e = p.2 → _) ∧ (L e = p.2 → _)
        have K0 : bt (wq hC 66 0 12) e = false → AW GC l ad (d + 1) mX9_before 22 [(0, .ref (ad 0)), (1, .int x1), (2, .int (nI p.1)), (3, .int p.2), (4, .int (nI (e + 1)))] [] hC (qi R) := by
          intro hal
          unfold bfS at ih; rw [hal] at ih; exact ih
        refine ⟨fun z => bX9_before_83 _ _ _ _ _ _ (A84 0 _ _ K0 (fun hal => ⟨fun w => ?_, fun _ w => ?_⟩)), fun z => ⟨vp_in_nI (by omega) (by decide), ?_⟩⟩
        · unfold bfS at ih
          rw [hal] at ih
          have ih : AW GC l ad (d + 1) mX9_before 22 [(0, .ref (ad 0)), (1, .int x1), (2, .int ((if L e = p.2 then (if wd hC sy 3 e < wd hC sy 3 p.1 then some (e, L e) else some p) else if p.2 < L e then some (e, L e) else some p).elim (-1) (fun p => nI p.1))), (3, .int ((if L e = p.2 then (if wd hC sy 3 e < wd hC sy 3 p.1 then some (e, L e) else some p) else if p.2 < L e then some (e, L e) else some p).elim 0 (fun p => p.2))), (4, .int (nI (e + 1)))] [] hC (qi R) := ih
          have w : ¬ L e ≤ p.2 := w.elim (fun q => absurd rfl q) id
          rw [if_neg z, if_pos (Int32.not_le.mp w)] at ih
          exact ih
        · unfold bfS at ih
          rw [hal] at ih
          have ih : AW GC l ad (d + 1) mX9_before 22 [(0, .ref (ad 0)), (1, .int x1), (2, .int ((if L e = p.2 then (if wd hC sy 3 e < wd hC sy 3 p.1 then some (e, L e) else some p) else if p.2 < L e then some (e, L e) else some p).elim (-1) (fun p => nI p.1))), (3, .int ((if L e = p.2 then (if wd hC sy 3 e < wd hC sy 3 p.1 then some (e, L e) else some p) else if p.2 < L e then some (e, L e) else some p).elim 0 (fun p => p.2))), (4, .int (nI (e + 1)))] [] hC (qi R) := ih
          have w : L e ≤ p.2 := w
          rw [if_neg z, if_neg (Int32.not_lt.mpr w)] at ih
          exact ih
        · have b1 : hC.1 (sy + 3) (nI p.1).toNatClampNeg = wd hC sy 3 p.1 := by rw [nI_clamp (by omega), wd_at (by decide)]
          have b2 : hC.1 (sy + 3) e = wd hC sy 3 e := (wd_at (by decide)).symm
          show (hC.1 (sy + 3) (nI p.1).toNatClampNeg ≤ hC.1 (sy + 3) e → _) ∧ (¬ hC.1 (sy + 3) (nI p.1).toNatClampNeg ≤ hC.1 (sy + 3) e → _)
          rw [b1, b2]
          refine ⟨fun w => bX9_before_83 _ _ _ _ _ _ (A84 0 _ _ K0 (fun hal => ⟨fun q => ?_, fun _ _ => ?_⟩)), fun w => bX9_before_79 _ _ _ _ _ _ (A84 1 _ _ K0 (fun hal => ⟨fun _ => ?_, fun q => absurd q (by decide)⟩))⟩
          · exact absurd (by rw [z]; exact Int32.le_refl _) (q.elim (fun q => absurd rfl q) id)
          · unfold bfS at ih
            rw [hal] at ih
            have ih : AW GC l ad (d + 1) mX9_before 22 [(0, .ref (ad 0)), (1, .int x1), (2, .int ((if L e = p.2 then (if wd hC sy 3 e < wd hC sy 3 p.1 then some (e, L e) else some p) else if p.2 < L e then some (e, L e) else some p).elim (-1) (fun p => nI p.1))), (3, .int ((if L e = p.2 then (if wd hC sy 3 e < wd hC sy 3 p.1 then some (e, L e) else some p) else if p.2 < L e then some (e, L e) else some p).elim 0 (fun p => p.2))), (4, .int (nI (e + 1)))] [] hC (qi R) := ih
            rw [if_pos z, if_neg (Int32.not_lt.mpr w)] at ih
            exact ih
          · unfold bfS at ih
            rw [hal] at ih
            have ih : AW GC l ad (d + 1) mX9_before 22 [(0, .ref (ad 0)), (1, .int x1), (2, .int ((if L e = p.2 then (if wd hC sy 3 e < wd hC sy 3 p.1 then some (e, L e) else some p) else if p.2 < L e then some (e, L e) else some p).elim (-1) (fun p => nI p.1))), (3, .int ((if L e = p.2 then (if wd hC sy 3 e < wd hC sy 3 p.1 then some (e, L e) else some p) else if p.2 < L e then some (e, L e) else some p).elim 0 (fun p => p.2))), (4, .int (nI (e + 1)))] [] hC (qi R) := ih
            rw [if_pos z, if_pos (Int32.not_le.mp w)] at ih
            exact ih
theorem m_b25 {R : Int32 → aH → Prop} {x1 : Int32} {L : Nat → Int32} (g : GQ hC hM sy m t n D0 D) (hl : ∀ hM', kM hM hM' → ∀ e, e < t → bt (wq hC 66 0 12) e = true → ∀ R : Int32 → aH → Prop, (∀ hM'', kM hM hM'' → R (L e) hM'') → AW (GM adK adV) l ad (d + 7) mX10_lastsBefore 0 [(0, .ref (ad 0)), (1, .int (nI e))] [] hM' (qi R)) (H : ∀ hM', kM hM hM' → R (bfV (itR (bfS (bt (wq hC 66 0 12)) L (wd hC sy 3)) t none) x1) hM') : AW (GM adK adV) l ad (d + 8) mX10_before 25 [(0, .ref (ad 0)), (1, .int x1), (2, .int (-2 : Int32)), (3, .int (-2 : Int32)), (4, .int (0 : Int32))] [] hM (qi R) := by
  obtain ⟨e1, e2, e3, e4, e5, e6, hm, ht, hD⟩ := g_S g
  obtain ⟨I, r, N⟩ := g.2.1
  have C := g.1.2.2.2.2.1
  refine up_ind (P := fun e => ∀ hM', kM hM hM' → AW (GM adK adV) l ad (d + 8) mX10_before 25 [(0, .ref (ad 0)), (1, .int x1), (2, .int ((itR (bfS (bt (wq hC 66 0 12)) L (wd hC sy 3)) e none).elim (-2) (fun p => nI p.1))), (3, .int ((itR (bfS (bt (wq hC 66 0 12)) L (wd hC sy 3)) e none).elim (-2) (fun p => p.2))), (4, .int (nI e))] [] hM' (qi R)) t (fun hM' km => ?_) (fun e he ih hM' km => ?_) hM kM_rfl
  · have e6' : hM'.1 2 1 = nI t := (kM_at km (by omega) (by omega)).trans e6
    refine bX10_before_25 _ _ _ _ _ ?_
    rw [e6']
    refine ⟨fun _ => ?_, fun z => absurd (Int32.le_refl _) z⟩
    have H := H _ km
    generalize itR (bfS (bt (wq hC 66 0 12)) L (wd hC sy 3)) t none = s at H ⊢
    match s, H with
    | none, H => exact ⟨fun _ => H, fun _ => H⟩
    | some p, H =>
      have H : R (if x1 = 0 then nI p.1 else p.2) hM' := H
      exact ⟨fun z => by rw [if_neg z] at H; exact H, fun z => by rw [if_pos z] at H; exact H⟩
  · have e6' : hM'.1 2 1 = nI t := (kM_at km (by omega) (by omega)).trans e6
    have lt := bf_lt (al := bt (wq hC 66 0 12)) (L := L) (bu := wd hC sy 3) e
    have es : itR (bfS (bt (wq hC 66 0 12)) L (wd hC sy 3)) (e + 1) none = bfS (bt (wq hC 66 0 12)) L (wd hC sy 3) e (itR (bfS (bt (wq hC 66 0 12)) L (wd hC sy 3)) e none) := rfl
    rw [es] at ih
    clear es H
    generalize itR (bfS (bt (wq hC 66 0 12)) L (wd hC sy 3)) e none = s at ih lt ⊢
    refine bX10_before_25 _ _ _ _ _ ?_
    rw [e6', nI_1]
    have b0 : bkT hM' 0 = bkT hM 0 := kM_bk km (by decide)
    refine ⟨fun z => absurd z (nI_ge he (by omega)), fun _ => mH (b := 0) (m_isAlive (b := 0) (by decide) (by omega) ?_)⟩
    rw [pB_bk, b0, r.2.1]
    unfold bfS at ih
    cases hal : bt (wq hC 66 0 12) e
    · rw [hal] at ih
      exact ⟨fun z => absurd rfl z, fun _ => ih _ km⟩
    · rw [hal] at ih
      refine ⟨fun _ => hl _ km e he hal _ (fun hM'' km2 => ?_), fun z => absurd z (by decide)⟩
      match s, lt, ih with
      | none, _, ih => exact ⟨fun _ => ih _ km2, fun z => absurd rfl z⟩
      | some p, lt, ih =>
        have hp := lt p rfl
        have ih : ∀ hM', kM hM hM' → AW (GM adK adV) l ad (d + 8) mX10_before 25 [(0, .ref (ad 0)), (1, .int x1), (2, .int ((if L e = p.2 then (if wd hC sy 3 e < wd hC sy 3 p.1 then some (e, L e) else some p) else if p.2 < L e then some (e, L e) else some p).elim (-2) (fun p => nI p.1))), (3, .int ((if L e = p.2 then (if wd hC sy 3 e < wd hC sy 3 p.1 then some (e, L e) else some p) else if p.2 < L e then some (e, L e) else some p).elim (-2) (fun p => p.2))), (4, .int (nI (e + 1)))] [] hM' (qi R) := ih
        have ih := ih _ km2
        have b1 : hM''.1 7 (nI e).toNatClampNeg = wd hC sy 3 e := by rw [nI_clamp (by omega), kM_at km2 (by omega) (by omega)]; exact (C.2.2.2.2.1 e he).1
        have b2 : hM''.1 7 (nI p.1).toNatClampNeg = wd hC sy 3 p.1 := by rw [nI_clamp (by omega), kM_at km2 (by omega) (by omega)]; exact (C.2.2.2.2.1 p.1 (by omega)).1
        show (nI p.1 = -2 → _) ∧ (¬ nI p.1 = -2 → (L e < p.2 → _) ∧ (¬ L e < p.2 → (¬ L e = p.2 → _) ∧ (L e = p.2 → vp_in (nI e) 12 ∧ vp_in (nI p.1) 12 ∧ ((hM''.1 7 (nI e).toNatClampNeg < hM''.1 7 (nI p.1).toNatClampNeg → _) ∧ (¬ hM''.1 7 (nI e).toNatClampNeg < hM''.1 7 (nI p.1).toNatClampNeg → _)))))
        rw [b1, b2]
        refine ⟨fun z => absurd (by rw [z]; decide) (nI_pos (n := p.1) (by omega)), fun _ => ⟨fun z => ?_, fun z => ⟨fun z2 => ?_, fun z2 => ⟨vp_in_nI (by omega) (by decide), vp_in_nI (by omega) (by decide), fun z3 => ?_, fun z3 => ?_⟩⟩⟩⟩
        · rw [if_neg (fun w => Int32.lt_irrefl (a := p.2) (by rw [w] at z; exact z)), if_neg (Int32.not_lt.mpr (Int32.le_of_lt z))] at ih
          exact ih
        · rw [if_neg z2, if_pos (Int32.lt_of_le_of_ne (Int32.not_lt.mp z) (Ne.symm z2))] at ih
          exact ih
        · rw [if_pos z2, if_pos z3] at ih
          exact ih
        · rw [if_pos z2, if_neg z3] at ih
          exact ih
theorem j_before {x1 : Int32} (g : GR hC hM) : AW GC l ad (d + 7) mX9_before 0 [(0, .ref (ad 0)), (1, .int x1)] [] hC (qi (jq l' ad' (d' + 8) adK adV mX10_before [(0, .ref (ad' 0)), (1, .int x1)] hM)) := by
  obtain ⟨sy, m, t, n, D0, D, g⟩ := g
  have g2 := g_thr g
  have G : GR hC (sI hM 0 0 0) := ⟨_, _, _, _, _, _, g2⟩
  obtain ⟨e1, e2, e3, e4, e5, e6, hm, ht, hD⟩ := g_S g2
  obtain ⟨I, r, N⟩ := g2.2.1
  have hsy := g2.1.1
  have S := g2.1.2.2.2.1
  have hsig : ∀ k, k < n → ix (wd hC sy 6 k) < 32 := by
    intro k hk
    obtain ⟨a, ha, ea⟩ := S.2.2.2.2.2.1 k hk
    rw [ea, ix_nI (by omega)]; omega
  refine bX9_before_0 _ _ ⟨fun z => bX10_before_0 _ _ ⟨fun _ => ⟨rfl, G⟩, fun q => absurd z q⟩, fun z => ⟨fun z2 => ?_, fun z2 => bX10_before_0 _ _ ⟨fun q => absurd q z, fun _ => ⟨fun q => absurd q z2, fun _ => ⟨rfl, G⟩⟩⟩⟩⟩
  have I0 : Inv m t D (nz (wq hC 66)) := inv_cp I
  have e12 : nz (wq hC 66) 0 12 = wq hC 66 0 12 := cpW_at (Or.inl ⟨rfl, by decide, by decide⟩)
  have I1 := inv_rm (al := wq hC 66 0 12) I0 t
  have r1 : RelW m t D (itR (rmW (wq hC 66 0 12)) t (nz (wq hC 66))) (bkT (sI hM 0 0 0) 0) := rel_rm hD (rel_cp I r)
  have a12 : itR (rmW (wq hC 66 0 12)) t (nz (wq hC 66)) 0 12 = wq hC 66 0 12 := (rmI_o _ _ _ _ (Or.inl (by decide))).trans e12
  have sb : ∀ e, e < t → itR (rmW (wq hC 66 0 12)) t (nz (wq hC 66)) 11 (8 + e) &&& itR (rmW (wq hC 66 0 12)) t (nz (wq hC 66)) 0 12 = itR (rmW (wq hC 66 0 12)) t (nz (wq hC 66)) 11 (8 + e) := by
    intro e he
    rw [a12, rmI_at _ _ he, Int32.and_assoc, Int32.and_self]
  have ho : ∀ e, e < t → bt (wq hC 66 0 12) e = true → itR (rmW (wq hC 66 0 12)) t (nz (wq hC 66)) 11 (8 + e) = (1 : Int32) <<< (nI e &&& 31) := by
    intro e he hal
    rw [rmI_at _ _ he]
    refine bt_ext (fun i hi => ?_)
    rw [bt_and, bt_one (by omega) hi]
    by_cases w : i = e
    · subst w; rw [hal]; simp
    · simp [w]
  refine c_fl g (fun hC' kc hl => ?_)
  have g' := gq_frame kc kM_rfl g2
  refine c_b22 (L := fun e => LL (fun q => daysW (wd hC sy) t D n 0 0 q (itR (rmW (wq hC 66 0 12)) t (nz (wq hC 66)))) e 99) g' hl ?_
  rw [kC_66 kc, wd_kC kc hsy]
  rw [bf_ext (n := t) (L' := fun e => lsV (fun q => daysW (wd hC sy) t D n 0 0 q (itR (rmW (wq hC 66 0 12)) t (nz (wq hC 66)))) e 0 99) (fun e he hal => ?_) t (Nat.le_refl _)]
  · refine bX10_before_0 _ _ ⟨fun q => absurd q z, fun _ => ⟨fun _ => ?_, fun q => absurd z2 q⟩⟩
    refine m_b25 g2 (fun hM' km e he hal R H => ?_) (fun hM' km => ⟨rfl, _, _, _, _, _, _, gq_frame kc km g2⟩)
    have gm := gq_frame kC_rfl km g2
    exact m_lb gm he I1 (by rw [kM_bk km (by decide)]; exact r1) (sb e he) (ho e he hal) (fun hM'' km2 => H _ (kM_tr km km2))
  · have nz0 : ¬ itR (rmW (wq hC 66 0 12)) t (nz (wq hC 66)) 11 (8 + e) = 0 := by
      intro q
      rw [ho e he hal] at q
      have := congrArg (fun x => bt x e) q
      simp only [bt_0] at this
      rw [bt_one (by omega) (by omega)] at this
      simp at this
    have h0 : ∀ q, (fun q => daysW (wd hC sy) t D n 0 0 q (itR (rmW (wq hC 66 0 12)) t (nz (wq hC 66)))) q 11 (8 + e) = 0 → (fun q => daysW (wd hC sy) t D n 0 0 q (itR (rmW (wq hC 66 0 12)) t (nz (wq hC 66)))) (q + 1) 11 (8 + e) = 0 := fun q hq => rum_0 hD hsig (by omega) (sb e he) hq
    generalize hf : (fun q => daysW (wd hC sy) t D n 0 0 q (itR (rmW (wq hC 66 0 12)) t (nz (wq hC 66)))) = f at h0
    have nz1 : ¬ f 0 11 (8 + e) = 0 := by rw [← hf]; exact nz0
    exact LL_ls h0 99 0 (Nat.zero_add _) nz1 (fun w => absurd w (by decide))
end BF
