/-! ===== calls: lean, go, undo, image, back ===== -/
def foll (h : aH) (sy w : Nat) (way deaf : Int32) : aH := sI (sI (sR (sR h 344 1 sy) 344 2 w) 344 3 way) 344 4 deaf
section FO
variable {h : aH} {sy w : Nat} {way deaf : Int32}
theorem ct_foll (hS : isS GC sy) (hw : isW GC w) (h1 : sy + 29 ≤ w) (h2 : w + 12 ≤ 344) : CT (foll h sy w way deaf) w sy way deaf := by
  refine ⟨?_, ?_, ?_, ?_, hw, hS, h1, h2⟩
  · show (if 344 = 344 ∧ 1 = 2 then w else if 344 = 344 ∧ 1 = 1 then sy else h.2.2 344 1) = sy
    rw [if_neg (by decide), if_pos ⟨rfl, rfl⟩]
  · show (if 344 = 344 ∧ 2 = 2 then w else if 344 = 344 ∧ 2 = 1 then sy else h.2.2 344 2) = w
    rw [if_pos ⟨rfl, rfl⟩]
  · show (sI (sI (sR (sR h 344 1 sy) 344 2 w) 344 3 way) 344 4 deaf).1 344 3 = way
    rw [sI_k (by decide), sI_s]
  · exact sI_s
theorem foll_o {c k : Nat} (hc : c ≠ 344) : (foll h sy w way deaf).1 c k = h.1 c k := by
  unfold foll; rw [sI_c hc, sI_c hc]; rfl
theorem foll_R {c k : Nat} (hc : c ≠ 344) : (foll h sy w way deaf).2.2 c k = h.2.2 c k := by
  show (if c = 344 ∧ k = 2 then w else if c = 344 ∧ k = 1 then sy else h.2.2 c k) = _
  rw [if_neg (fun q => hc q.1), if_neg (fun q => hc q.1)]
theorem foll_J : (foll h sy w way deaf).2.1 = h.2.1 := rfl
theorem wd_foll {s : Nat} (hs : s ≤ 37) : wd (foll h sy w way deaf) s = wd h s := by
  funext j k
  unfold wd
  by_cases hj : j < 29
  · rw [if_pos hj, if_pos hj, foll_o (by omega)]
  · rw [if_neg hj, if_neg hj]
theorem wq_foll {s : Nat} (hs : s + 12 ≤ 344) : wq (foll h sy w way deaf) s = wq h s := wq_ext (fun j k hj => foll_o (by omega))
theorem kC0_foll {J : Nat → Nat → Int64} {ω : wT} : kC0 h (pW (hJ (foll h sy w way deaf) J) 66 ω) := ⟨fun c k hc => by rw [pW_off (by omega)]; exact foll_o (by omega), fun c k hc => foll_R (h := h) (sy := sy) (w := w) (way := way) (deaf := deaf) hc⟩
end FO
section DO2
variable {adK adV : Nat → Nat} {l l' : Launch} {ad ad' : Nat → Nat} {d d' b : Nat} {hC hM hC' hM' h : aH} {sy m t n D0 D : Nat} {ω β : wT}
theorem g_sy (g : GQ hC hM sy m t n D0 D) : sy ≤ 37 := by
  rcases g.1.1 with q | q <;> omega
theorem c_follow {R : aH → Prop} {w : Nat} {way deaf : Int32} (g : GQ hC hM sy m t n D0 D) (hw : isW GC w) (H : R (foll h sy w way deaf)) : AW GC l ad d mX0_follow 0 [(0, .ref (ad 344)), (1, .ref (ad sy)), (2, .ref (ad w)), (3, .int way), (4, .int deaf)] [] h (qv R) := bX0_follow_0 sy w (g_S g).2.1 hw way deaf h H
theorem j_lean {x y : Int32} (g : GR hC hM) : AW GC l ad (d + 4) mX9_lean 0 [(0, .ref (ad 0)), (1, .int x), (2, .int y)] [] hC (qi (jq l' ad' (d' + 4) adK adV mX10_lean [(0, .ref (ad' 0)), (1, .int x), (2, .int y)] hM)) := by
  obtain ⟨sy, m, t, n, D0, D, g⟩ := g
  have g2 := g_thr g
  have G : GR hC (sI hM 0 0 0) := ⟨_, _, _, _, _, _, g2⟩
  obtain ⟨e1, e2, e3, e4, e5, e6, hm, ht, hD⟩ := g_S g2
  obtain ⟨I, r, N⟩ := g2.2.1
  have hsy := g_sy g2
  refine bX9_lean_0 _ _ _ (c_isTusk g ?_)
  cases hx : isIn x t
  · refine ⟨fun _ => bX10_lean_0 _ _ _ (m_isTusk g2 ?_), fun z => absurd rfl z⟩
    rw [hx]
    exact ⟨fun _ => ⟨rfl, G⟩, fun z => absurd rfl z⟩
  obtain ⟨a, ha, rfl⟩ := isIn_of (by omega) hx
  refine ⟨fun z => absurd z (by decide), fun _ => c_isTusk g ?_⟩
  have M0 : ∀ (R : Int32 → aH → Prop), AW (GM adK adV) l' ad' (d' + 3) mX10_isTusk 0 [(0, .ref (ad' 0)), (1, .int y)] [] (sI hM 0 0 0) (qi fun z4 h3 => (z4 = 0 → (R (-1 : Int32) h3)) ∧ (¬ z4 = 0 → ((nI a = y → (R (-1 : Int32) h3)) ∧ (¬ nI a = y → (AW (GM adK adV) l' ad' (d' + 3) mX10_isAlive 0 [(0, .ref (ad' 0)), (1, .int (0 : Int32)), (2, .int (nI a))] [] h3 (qi fun z6 h5 => (z6 = 0 → (R (-1 : Int32) h5)) ∧ (¬ z6 = 0 → (AW (GM adK adV) l' ad' (d' + 3) mX10_isAlive 0 [(0, .ref (ad' 0)), (1, .int (0 : Int32)), (2, .int y)] [] h5 (qi fun z8 h7 => (¬ z8 = 0 → (AW (GM adK adV) l' ad' (d' + 3) mX10_keepNow 0 [(0, .ref (ad' 0))] [] h7 (qv fun h9 => AW (GM adK adV) l' ad' (d' + 3) mX10_leans 0 [(0, .ref (ad' 0)), (1, .int (0 : Int32)), (2, .int (nI a)), (3, .int y)] [] h9 (qi fun z12 h11 => R z12 h11)))) ∧ (z8 = 0 → (R (-1 : Int32) h7))))))))))) → AW (GM adK adV) l' ad' (d' + 4) mX10_lean 0 [(0, .ref (ad' 0)), (1, .int (nI a)), (2, .int y)] [] hM (qi R) := by
    intro R k
    refine bX10_lean_0 _ _ _ (m_isTusk g2 ?_)
    rw [hx]
    exact ⟨fun z => absurd z (by decide), fun _ => k⟩
  cases hy : isIn y t
  · refine ⟨fun _ => M0 _ (m_isTusk g2 ?_), fun z => absurd rfl z⟩
    rw [hy]
    exact ⟨fun _ => ⟨rfl, G⟩, fun z => absurd rfl z⟩
  obtain ⟨q, hq, rfl⟩ := isIn_of (by omega) hy
  refine ⟨fun z => absurd z (by decide), fun _ => ⟨fun z => M0 _ (m_isTusk g2 ?_), fun z => cH (w := 66) (sp_isAlive isW_66 (by omega) ?_)⟩⟩
  · rw [hy]
    exact ⟨fun w => absurd w (by decide), fun _ => ⟨fun _ => ⟨rfl, G⟩, fun w => absurd z w⟩⟩
  rw [pW_wq]
  have r12 := r.2.1
  cases hal : bt (wq hC 66 0 12) a
  · refine ⟨fun _ => M0 _ (m_isTusk g2 ?_), fun z => absurd rfl z⟩
    rw [hy]
    refine ⟨fun w => absurd w (by decide), fun _ => ⟨fun w => absurd w z, fun _ => mH (b := 0) (m_isAlive (b := 0) (by decide) (by omega) ?_)⟩⟩
    rw [r12, hal, pB_bk]
    exact ⟨fun _ => ⟨rfl, G⟩, fun w => absurd rfl w⟩
  refine ⟨fun w => absurd w (by decide), fun _ => cH (w := 66) (sp_isAlive isW_66 (by omega) ?_)⟩
  rw [pW_wq]
  have M1 : ∀ (R : Int32 → aH → Prop), AW (GM adK adV) l' ad' (d' + 3) mX10_isAlive 0 [(0, .ref (ad' 0)), (1, .int (0 : Int32)), (2, .int (nI q))] [] (sI hM 0 0 0) (qi fun z8 h7 => (¬ z8 = 0 → (AW (GM adK adV) l' ad' (d' + 3) mX10_keepNow 0 [(0, .ref (ad' 0))] [] h7 (qv fun h9 => AW (GM adK adV) l' ad' (d' + 3) mX10_leans 0 [(0, .ref (ad' 0)), (1, .int (0 : Int32)), (2, .int (nI a)), (3, .int (nI q))] [] h9 (qi fun z12 h11 => R z12 h11)))) ∧ (z8 = 0 → (R (-1 : Int32) h7))) → AW (GM adK adV) l' ad' (d' + 4) mX10_lean 0 [(0, .ref (ad' 0)), (1, .int (nI a)), (2, .int (nI q))] [] hM (qi R) := by
    intro R k
    refine M0 R (m_isTusk g2 ?_)
    rw [hy]
    refine ⟨fun w => absurd w (by decide), fun _ => ⟨fun w => absurd w z, fun _ => mH (b := 0) (m_isAlive (b := 0) (by decide) (by omega) ?_)⟩⟩
    rw [r12, hal, pB_bk]
    exact ⟨fun w => absurd w (by decide), fun _ => k⟩
  cases hal2 : bt (wq hC 66 0 12) q
  · refine ⟨fun z => absurd rfl z, fun _ => M1 _ (mH (b := 0) (m_isAlive (b := 0) (by decide) (by omega) ?_))⟩
    rw [r12, hal2, pB_bk]
    exact ⟨fun w => absurd rfl w, fun _ => ⟨rfl, G⟩⟩
  refine ⟨fun _ => ?_, fun w => absurd w (by decide)⟩
  obtain ⟨c, c1, c2, c3, P⟩ := g_P g2
  refine sp_store c2 c1 P (fun hC' ps => ?_)
  have ps' := ps
  obtain ⟨c1', -, -, -, -, -, p6, p7, -, -, -⟩ := ps'
  have e66 : wq hC' 66 = wq hC 66 := wq_ext (fun j k hj => p7 _ _ (by omega))
  have ewd : wd hC' sy = wd hC sy := by
    funext j k
    unfold wd
    by_cases hj : j < 29
    · rw [if_pos hj, if_pos hj, p7 _ _ (by omega)]
    · rw [if_neg hj, if_neg hj]
  refine mref (b := sy) ((p6 _ _ (by decide)).trans e1) ⟨e2, c_follow g isW_66 ?_⟩
  refine cH (w := 66) ?_
  rw [wq_foll (by decide), e66]
  have CTf : CT (foll hC' sy 66 (-1) 0) 66 sy (-1) 0 := ct_foll e2 isW_66 (by omega) (by decide)
  have ew : wd (foll hC' sy 66 (-1) 0) sy = wd hC sy := (wd_foll hsy).trans ewd
  have S := g2.1.2.2.2.1
  refine sp_passOn CTf I.1 (by rw [ew]; exact S.2.2.2.2.2.2.1) (by omega) hq (fun J => ?_)
  rw [ew]
  refine M1 _ (mH (b := 0) (m_isAlive (b := 0) (by decide) (by omega) ?_))
  rw [r12, hal2, pB_bk]
  refine ⟨fun _ => m_keepNow c3 c1 (fun hM' kn => ?_), fun w => absurd w (by decide)⟩
  have g3 := gq_store g2 c2 c1 ps kn
  have C3 := g3.1.2.2.2.2.1
  obtain ⟨I3, r3, N3⟩ := g3.2.1
  rw [e66] at I3 r3 N3
  rw [ewd] at C3
  refine mHS (b := 0) (m_leans (b := 0) C3 (mt_0 g3.2.2.2.2.2.2.2.2.1) (by decide) I3 r3 ha hq hal2 (fun β' J' n' z' r' hz => ?_))
  refine ⟨hz (bt_0 q), sy, m, t, n, D0, D, ?_⟩
  refine gq_now g3 kC0_foll kM0_pB (gN_mk (inv_passIt (bit_ok ht hq) ha (lean_bit ht hq hal2) I3 D (Nat.le_refl _)).1 r' (fun i hi => ?_))
  unfold O9
  rw [pass34 (Or.inl rfl), pass34 (Or.inr rfl), pass8, pass_o (by decide), pass_o (by decide)]
  exact N3 i hi
theorem j_go1 {R : Int32 → aH → Prop} {k : Nat} (hk : k ≤ 99) (g : GQ hC hM sy m t n D0 D) (H : ∀ z hC', AW (GM adK adV) l' ad' (d' + 7) mX10_go 42 [(0, .ref (ad' 0)), (1, .int (nI k)), (2, .int 0)] [] hM (qi fun z' hM' => z' = z ∧ GR hC' hM') → R z hC') : AW GC l ad (d + 7) mX9_go 39 [(0, .ref (ad 0)), (1, .int (nI k))] [] hC (qi R) := by
  obtain ⟨e1, e2, e3, e4, e5, e6, hm, ht, hD⟩ := g_S g
  obtain ⟨I, r, N⟩ := g.2.1
  have hsy := g_sy g
  have S := g.1.2.2.2.1
  have C := g.1.2.2.2.2.1
  have CTf : CT (foll hC sy 66 (-1) 0) 66 sy (-1) 0 := ct_foll e2 isW_66 (by omega) (by decide)
  have ew : wd (foll hC sy 66 (-1) 0) sy = wd hC sy := wd_foll hsy
  refine bX9_go_39 _ _ (mref e1 ⟨e2, c_follow g isW_66 (cH (w := 66) ?_)⟩)
  rw [wq_foll (by decide)]
  refine sp_run hk CTf (by rw [ew]; exact S) I.1 (fun J => ?_)
  rw [ew, pW_get0]
  refine H _ _ ?_
  have key := up_ind (P := fun i => ∀ β J' n', RelW m t D (daysW (wd hC sy) t D n (-1) 0 i (wq hC 66)) β → AW (GM adK adV) l' ad' (d' + 7) mX10_go 42 [(0, .ref (ad' 0)), (1, .int (nI k)), (2, .int (nI i))] [] (pB (hS hM J' n') 0 β) (qi fun z' hM' => z' = daysW (wd hC sy) t D n (-1) 0 k (wq hC 66) 0 13 ∧ GR (pW (hJ (foll hC sy 66 (-1) 0) J) 66 (daysW (wd hC sy) t D n (-1) 0 k (wq hC 66))) hM')) k (fun β J' n' r' => ?_) (fun i hi ih β J' n' r' => ?_)
  · exact mHS (b := 0) (key (bkT hM 0) hM.2.1 (hM.1 0 37) r)
  · refine bX10_go_42 _ _ _ ⟨fun _ => ⟨?_, sy, m, t, n, D0, D, ?_⟩, fun z => absurd (Int32.le_refl _) z⟩
    · rw [pB_get a23]; exact r'.2.2.1
    · exact gq_now g kC0_foll kM0_pB (gN_mk (inv_daysW S I k) r' (invN_days (g_rate g) N))
  · refine bX10_go_42 _ _ _ ⟨fun z => absurd z (nI_ge hi (by omega)), fun _ => ?_⟩
    rw [nI_1]
    exact m_passes (b := 0) C S (mt_1 g.2.2.2.2.2.2.2.2.1) (by decide) (inv_daysW S I i) r' (fun β' J2 n2 r2 => ih β' J2 n2 r2)
theorem j_go {x : Int32} (g : GR hC hM) : AW GC l ad (d + 7) mX9_go 0 [(0, .ref (ad 0)), (1, .int x)] [] hC (qi (jq l' ad' (d' + 7) adK adV mX10_go [(0, .ref (ad' 0)), (1, .int x)] hM)) := by
  obtain ⟨sy, m, t, n, D0, D, g⟩ := g
  have g2 := g_thr g
  have G : GR hC (sI hM 0 0 0) := ⟨_, _, _, _, _, _, g2⟩
  obtain ⟨I, r, N⟩ := g2.2.1
  have e13 : (sI hM 0 0 0).1 23 0 = hC.1 66 13 := by
    have := r.2.2.1
    rw [bk13, wq_at (by decide)] at this
    exact this
  refine bX9_go_0 _ _ ⟨fun z => ?_, fun z => ⟨fun z2 => ?_, fun z2 => ⟨fun z3 => ?_, fun z3 => ?_⟩⟩⟩
  · exact bX10_go_0 _ _ ⟨fun _ => ⟨rfl, G⟩, fun q => absurd z q⟩
  · exact bX10_go_0 _ _ ⟨fun q => absurd q z, fun _ => ⟨fun _ => ⟨rfl, G⟩, fun q => absurd z2 q⟩⟩
  · obtain ⟨k, hk, rfl⟩ := nI_of z
    have hk99 : k ≤ 99 := Nat.le_of_not_lt (fun q => z2 ((nI_ltI (a := 99) (b := k) (by decide) hk).mpr q))
    have M : ∀ (R : Int32 → aH → Prop), (nI k ≤ 0 → AW (GM adK adV) l' ad' (d' + 7) mX10_go 42 [(0, .ref (ad' 0)), (1, .int (nI k)), (2, .int 0)] [] (sI hM 0 0 0) (qi R)) → (¬ nI k ≤ 0 → AW (GM adK adV) l' ad' (d' + 7) mX10_go 42 [(0, .ref (ad' 0)), (1, .int (nI k)), (2, .int 0)] [] (sI (sI hM 0 0 0) 0 53 0) (qi R)) → AW (GM adK adV) l' ad' (d' + 7) mX10_go 0 [(0, .ref (ad' 0)), (1, .int (nI k))] [] hM (qi R) := by
      intro R k1 k2
      refine bX10_go_0 _ _ ⟨fun q => absurd q z, fun _ => ⟨fun q => absurd q z2, fun _ => ?_⟩⟩
      rw [e13]
      exact ⟨fun _ => ⟨k1, k2⟩, fun q => absurd z3 q⟩
    refine ⟨fun z4 => ?_, fun z4 => ?_⟩
    · exact j_go1 hk99 g2 (fun z hC' h1 => M _ (fun _ => h1) (fun q => absurd z4 q))
    · exact j_go1 hk99 (gq_P0 g2) (fun z hC' h1 => M _ (fun q => absurd q z4) (fun _ => h1))
  · refine bX10_go_0 _ _ ⟨fun q => absurd q z, fun _ => ⟨fun q => absurd q z2, fun _ => ?_⟩⟩
    rw [e13]
    exact ⟨fun q => absurd q z3, fun _ => ⟨rfl, G⟩⟩
end DO2
