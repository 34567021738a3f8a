/-! ===== pictures alike where a cell has places; a trial on both sides; undo, image, back ===== -/
def vpl (G : aG) (c k : Nat) : Prop := match G.2.2.2.1[c]? with
  | some (.inl ci) => k < (G.1[ci]?).elim 0 (fun r => r.2.2) ∧ match G.2.1 ci k with
    | .object _ => False
    | .array _ => False
    | .long => False
    | _ => True
  | some (.inr (_, n)) => k < n
  | none => False
theorem aw_ext {G : aG} {l : Launch} {ad : Nat → Nat} {d : Nat} {M : aM} {pc : Nat} {ls : List (Nat × Value)} {st : List Value} {h : aH} {f : Nat → Nat → Int32} {Q : Option Value → aH → Prop} (E : ∀ c k, vpl G c k → f c k = h.1 c k) (K : AW G l ad d M pc ls st (f, h.2) Q) : AW G l ad d M pc ls st h Q := by
  intro p e s m args below meth c0 H locs A D aC la X hP hD hS hZ hl
  refine K p e s m args below meth c0 H locs A D aC la X (fun k q hq => ?_) (awl_D hD) hS hZ hl
  obtain ⟨x, hx, rfl⟩ := awl_inv hq
  have h0 := hP k _ (awl_get (ad := ad) (aC := aC) (h := h) hx)
  have hv : ∀ i, vpl G k i → f k i = h.1 k i := fun i => E k i
  unfold vpl at hv
  rw [hx] at hv
  match x, hx, h0, hv with
  | .inl ci, hx, h0, hv =>
    have e1 : afs G ad (f, h.2) k ci = afs G ad h k ci := by
      unfold afs
      refine List.map_congr_left (fun i hir => ?_)
      have hi := fun q => hv i ⟨List.mem_range.mp hir, q⟩
      unfold afv
      dsimp only at hi ⊢
      cases hT : G.2.1 ci i <;> rw [hT] at hi <;> first | rfl | (show Value.int (f k i) = Value.int (h.1 k i); rw [hi trivial])
    show va_at D G.1 (ad k, .inr (ci, afs G ad (f, h.2) k ci)) H
    rw [e1]
    exact h0
  | .inr (t, n), hx, h0, hv =>
    have hv : ∀ i, i < n → f k i = h.1 k i := hv
    have e1 : ∀ cA : ClassId, vp_cell cA (n, .inl (f k)) = vp_cell cA (n, .inl (h.1 k)) := by
      intro cA
      rw [vp_cell_i, vp_cell_i]
      unfold arrV
      congr 1
      congr 1
      funext j
      show Value.int (f k j.val) = Value.int (h.1 k j.val)
      rw [hv j.val j.isLt]
    cases t <;> first | exact h0 | (show H[ad k]? = some (vp_cell _ (n, .inl (f k))); rw [e1]; exact h0)
theorem cE {l : Launch} {ad : Nat → Nat} {d w : Nat} {M : aM} {pc : Nat} {ls : List (Nat × Value)} {st : List Value} {h : aH} {ω ω' : wT} {Q : Option Value → aH → Prop} (hw : isW GC w) (E : ∀ j k, vlW j k → ω' j k = ω j k) (K : AW GC l ad d M pc ls st (pW h w ω') Q) : AW GC l ad d M pc ls st (pW h w ω) Q := by
  refine aw_ext (f := (pW h w ω').1) (fun c k hv => ?_) K
  by_cases hc : w ≤ c ∧ c < w + 12
  · obtain ⟨j, rfl⟩ : ∃ j, c = w + j := ⟨c - w, by omega⟩
    have hj : j < 12 := by omega
    rw [pW_get hj, pW_get hj]
    refine E j k ?_
    unfold vpl at hv
    match j, hj, hv with
    | 0, _, hv =>
      rw [Nat.add_zero, hw.1] at hv
      have hk : k < 15 := hv.1
      have hv := hv.2
      refine Or.inl ⟨rfl, ?_⟩
      refine Decidable.byContradiction (fun z => ?_)
      match k, hk, z, hv with
      | 0, _, _, hv => exact hv
      | 1, _, _, hv => exact hv
      | 2, _, _, hv => exact hv
      | 3, _, _, hv => exact hv
      | 4, _, _, hv => exact hv
      | 5, _, _, hv => exact hv
      | 6, _, _, hv => exact hv
      | 7, _, _, hv => exact hv
      | 8, _, _, hv => exact hv
      | 9, _, _, hv => exact hv
      | 10, _, _, hv => exact hv
      | (q + 15), hk, _, _ => omega
      | 11, _, z, _ => exact z (by omega)
      | 12, _, z, _ => exact z (by omega)
      | 13, _, z, _ => exact z (by omega)
      | 14, _, z, _ => exact z (by omega)
    | (j + 1), hj, hv =>
      rw [hw.2 j (by omega)] at hv
      have hv : k < awN j := hv
      unfold vlW
      match j, hj, hv with
      | 0, _, hv => exact Or.inr (Or.inl ⟨Or.inl rfl, hv⟩)
      | 1, _, hv => exact Or.inr (Or.inl ⟨Or.inr rfl, hv⟩)
      | 2, _, hv => exact Or.inr (Or.inr (Or.inl ⟨by omega, by omega, hv⟩))
      | 3, _, hv => exact Or.inr (Or.inr (Or.inl ⟨by omega, by omega, hv⟩))
      | 4, _, hv => exact Or.inr (Or.inr (Or.inl ⟨by omega, by omega, hv⟩))
      | 5, _, hv => exact Or.inr (Or.inr (Or.inl ⟨by omega, by omega, hv⟩))
      | 6, _, hv => exact Or.inr (Or.inr (Or.inl ⟨by omega, by omega, hv⟩))
      | 7, _, hv => exact Or.inr (Or.inr (Or.inl ⟨by omega, by omega, hv⟩))
      | 8, _, hv => exact Or.inr (Or.inr (Or.inl ⟨by omega, by omega, hv⟩))
      | 9, _, hv => exact Or.inr (Or.inr (Or.inl ⟨by omega, by omega, hv⟩))
      | 10, _, hv => exact Or.inr (Or.inr (Or.inr ⟨by omega, hv⟩))
      | (j + 11), hj, _ => omega
  · rw [pW_off (by omega), pW_off (by omega)]
theorem sI_pWo {h : aH} {w c k : Nat} {ω : wT} {v : Int32} (hc : c < w ∨ w + 12 ≤ c) : sI (pW h w ω) c k v = pW (sI h c k v) w ω := by
  unfold sI pW
  refine Prod.ext ?_ rfl
  funext c' k'
  show (if c' = c ∧ k' = k then v else if w ≤ c' ∧ c' < w + 12 then ω (c' - w) k' else h.1 c' k') = if w ≤ c' ∧ c' < w + 12 then ω (c' - w) k' else (if c' = c ∧ k' = k then v else h.1 c' k')
  by_cases h1 : w ≤ c' ∧ c' < w + 12
  · rw [if_pos h1, if_pos h1, if_neg (by omega)]
  · rw [if_neg h1, if_neg h1]
theorem foll_pW {h : aH} {sy w v : Nat} {way deaf : Int32} {ω : wT} (hw : w + 12 ≤ 344) : foll (pW h w ω) sy v way deaf = pW (foll h sy v way deaf) w ω := by
  unfold foll
  show sI (sI (pW (sR (sR h 344 1 sy) 344 2 v) w ω) 344 3 way) 344 4 deaf = _
  rw [sI_pWo (Or.inr hw), sI_pWo (Or.inr hw)]
def nz (γ : wT) : wT := cpW (fun _ _ => 0) γ
theorem nz_E {ω γ : wT} : ∀ j k, vlW j k → nz γ j k = cpW ω γ j k := fun j k h => by unfold nz; rw [cpW_at h, cpW_at h]
section TR
variable {adK adV : Nat → Nat} {l l' : Launch} {ad ad' : Nat → Nat} {d d' b : Nat} {hC hM hC' hM' h : aH} {sy m t n D0 D : Nat} {ω β : wT} {way deaf : Int32}
theorem c_trial {R : aH → Prop} (g : GQ hC hM sy m t n D0 D) (H : R (pW (foll hC sy 78 way deaf) 78 (cpW (wq hC 78) (wq hC 66)))) : AW GC l ad (d + 2) mX9_startTrial 0 [(0, .ref (ad 0)), (1, .int way), (2, .int deaf)] [] hC (qv R) := by
  refine bX9_startTrial_0 _ _ _ (sp_copyFrom isW_78 isW_66 (Or.inl (by decide)) (mref (b := sy) (g_S g).1 ⟨(g_S g).2.1, c_follow g isW_78 ?_⟩))
  rw [foll_pW (by decide)]
  exact H
theorem kC_trial {J : Nat → Nat → Int64} : kC hC (pW (hJ (foll hC sy 78 way deaf) J) 78 ω) := ⟨fun c k hc => by rw [pW_off (by omega)]; exact foll_o (by omega), fun c k hc => foll_R (h := hC) (sy := sy) (w := 78) (way := way) (deaf := deaf) hc⟩
theorem wq66_t {J : Nat → Nat → Int64} : wq (pW (hJ (foll hC sy 78 way deaf) J) 78 ω) 66 = wq hC 66 := wq_ext (fun j k hj => by rw [pW_off (by omega)]; exact foll_o (by omega))
theorem ct_tr (g : GQ hC hM sy m t n D0 D) : CT (foll hC sy 78 way deaf) 78 sy way deaf := ct_foll (g_S g).2.1 isW_78 (by have := g_sy g; omega) (by decide)
theorem kM_pB1 {J : Nat → Nat → Int64} {n' : Int32} : kM hM (pB (hS hM J n') 1 β) := by
  intro c k h1 h2 h3
  rw [pB_off h3]
  by_cases q : c = 0
  · subst q; exact hS_k (h1 rfl).2.1
  · exact hS_o q
theorem bk0_t {J : Nat → Nat → Int64} {n' : Int32} : bkT (pB (hS hM J n') 1 β) 0 = bkT hM 0 := by
  rw [bk_o (by decide)]
  exact bk_ext (fun c q p e => hS_o (fun z => by subst z; unfold adr at e; simp at e))
theorem j_q {dc dm : Nat} {Mc Mm : aM} {lsC lsM : List (Nat × Value)} (v : Int32) (g : GQ hC hM sy m t n D0 D) (c : ∀ R : Int32 → aH → Prop, (∀ hC', kC hC hC' → R v hC') → AW GC l ad dc Mc 0 lsC [] hC (qi R)) (mm : ∀ R : Int32 → aH → Prop, (∀ hM', kM hM hM' → R v hM') → AW (GM adK adV) l' ad' dm Mm 0 lsM [] hM (qi R)) : AW GC l ad dc Mc 0 lsC [] hC (qi (jq l' ad' dm adK adV Mm lsM hM)) :=
  c _ (fun hC' kc => mm _ (fun hM' km => ⟨rfl, _, _, _, _, _, _, gq_frame kc km g⟩))
theorem j_ql {dc dm : Nat} {Mc Mm : aM} {lsC lsM : List (Nat × Value)} (v : Int64) (g : GQ hC hM sy m t n D0 D) (c : ∀ R : Int64 → aH → Prop, (∀ hC', kC hC hC' → R v hC') → AW GC l ad dc Mc 0 lsC [] hC (ql R)) (mm : ∀ R : Int64 → aH → Prop, (∀ hM', kM hM hM' → R v hM') → AW (GM adK adV) l' ad' dm Mm 0 lsM [] hM (ql R)) : AW GC l ad dc Mc 0 lsC [] hC (ql (jl l' ad' dm adK adV Mm lsM hM)) :=
  c _ (fun hC' kc => mm _ (fun hM' km => ⟨rfl, _, _, _, _, _, _, gq_frame kc km g⟩))
theorem kM_t0 : kM hM (sI hM 0 0 0) := kM_s0 (Or.inl rfl)
theorem gq_Pc {c c' : Nat} (g : GQ hC hM sy m t n D0 D) (hc : hC.1 102 1 = nI c) (h20 : c ≤ 20) (hcc : c' ≤ c) : GQ (sI hC 102 1 (nI c')) (sI hM 0 53 (nI c')) sy m t n D0 D := by
  obtain ⟨g1, g2, g3, g4, g5, g6, g7⟩ := g
  refine ⟨gS_ext (fun c k h1 h2 => sI_c (by omega)) rfl rfl (fun c k h1 h2 => sI_c (by omega)) g1, gW_ext (fun j k hj => sI_c (by omega)) bk_s0 g2, ?_, ?_, gE_ext (fun c k h1 h2 => sI_c (by omega)) (sI_k (by decide)) (sI_k (by decide)) (fun c k h1 h2 => sI_c (by omega)) g5, gT_ext (sI_c (by decide)) (fun k => sI_c (by decide)) (sI_k (by decide)) (fun k => sI_c (by decide)) g6, gF_ext (sI_c (by decide)) (sI_c (by decide)) (fun k => sI_c (by decide)) (sI_c (by decide)) (sI_k (by decide)) (sI_k (by decide)) (sI_k (by decide)) g7⟩
  · obtain ⟨i1, i2⟩ := g3
    refine ⟨by rw [sI_c (by decide), sI_k (by decide)]; exact i1, fun z => ?_⟩
    rw [sI_c (by decide)] at z
    obtain ⟨D, g⟩ := i2 z
    exact ⟨D, gW_ext (fun j k hj => sI_c (by omega)) bk_s0 g⟩
  · obtain ⟨P, c0, q1, q2, q3, q4⟩ := g4
    have ec : c0 = c := (nI_eq (by omega) (by omega)).mp (q2.symm.trans hc)
    subst ec
    refine ⟨P, c', by omega, sI_s, sI_s, fun i hi => ?_⟩
    obtain ⟨D, g⟩ := q4 i (by omega)
    obtain ⟨w1, w2, w3⟩ := PR_w P (i := i) (by omega)
    refine ⟨D, ?_⟩
    show gW _ _ m t (hC.2.2 103 i) (3 + i) D
    exact gW_ext (fun j k hj => sI_c (by omega)) bk_s0 g
theorem j_undo (g : GR hC hM) : AW GC l ad (d + 3) mX9_undo 0 [(0, .ref (ad 0))] [] hC (qi (jq l' ad' (d' + 1) adK adV mX10_undo [(0, .ref (ad' 0))] hM)) := by
  obtain ⟨sy, m, t, n, D0, D, g⟩ := g
  have g2 := g_thr g
  have G : GR hC (sI hM 0 0 0) := ⟨_, _, _, _, _, _, g2⟩
  obtain ⟨c, c1, c2, c3, P⟩ := g_P g2
  refine bX9_undo_0 _ ?_
  rw [c2]
  by_cases hz : c = 0
  · subst hz
    refine ⟨fun z => absurd rfl z, fun _ => bX10_undo_0 _ ?_⟩
    rw [c3]
    exact ⟨fun z => absurd rfl z, fun _ => ⟨rfl, G⟩⟩
  · have hnz : ¬ nI c = 0 := fun q => hz ((nI_eq (b := 0) (by omega) (by omega)).mp q)
    obtain ⟨c', rfl⟩ : ∃ c', c = c' + 1 := ⟨c - 1, by omega⟩
    refine ⟨fun _ => bX2_restore_0 66 isW_66 _ ?_, fun z => absurd z hnz⟩
    rw [c2, nI_pred, sI_s, nI_clamp (by omega)]
    obtain ⟨w1, w2, w3⟩ := PR_w P (i := c') (by omega)
    refine ⟨fun z => absurd ((nI_leI (a := c' + 1) (b := 0) (by omega) (by omega)).mp z) (by omega), fun _ => ⟨fun z => absurd ((nI_ltI (a := 20) (b := c' + 1) (by omega) (by omega)).mp z) (by omega), fun _ => ⟨vp_in_nI (by omega) (by omega), fun w ew => ?_⟩⟩⟩
    have ew : w = hC.2.2 103 c' := ew
    subst ew
    refine ⟨w1, sp_copyFrom isW_66 w1 (Or.inr (by omega)) ?_⟩
    refine bX10_undo_0 _ ?_
    rw [c3, nI_pred, sI_s]
    refine ⟨fun _ => ?_, fun z => absurd z hnz⟩
    rw [show (3 : Int32) + nI c' = nI (3 + c') from nI_add 3 c']
    refine m_copies (x := 0) (y := 3 + c') (by decide) (by omega) (by omega) ?_
    have g3 := gq_Pc g2 c2 c1 (c' := c') (by omega)
    obtain ⟨D', I', r', N'⟩ : ∃ D', gW (sI hC 102 1 (nI c')) (sI (sI hM 0 0 0) 0 53 (nI c')) m t (hC.2.2 103 c') (3 + c') D' := by
      obtain ⟨-, c0, q1, q2, q3, q4⟩ := g2.2.2.2.1
      have ec : c0 = c' + 1 := (nI_eq (by omega) (by omega)).mp (q2.symm.trans c2)
      subst ec
      obtain ⟨D', g⟩ := q4 c' (by omega)
      exact ⟨D', gW_ext (fun j k hj => sI_c (by omega)) bk_s0 g⟩
    refine ⟨?_, sy, m, t, n, D0, D', gq_now g3 (kC0_pW (J := hC.2.1)) kM0_pB1 (gN_mk (inv_cp I') (rel_cp I' r') (invN_cp I'.1.2.2.1 N'))⟩
    rw [pB_off (a_off (by omega)), sI_s, pW_off (by omega), sI_s]
theorem j_image (g : GR hC hM) : AW GC l ad (d + 2) mX9_image 0 [(0, .ref (ad 0))] [] hC (qi (jq l' ad' (d' + 1) adK adV mX10_image [(0, .ref (ad' 0))] hM)) := by
  obtain ⟨sy, m, t, n, D0, D, g⟩ := g
  have g2 := g_thr g
  refine bX9_image_0 _ (sp_copyFrom isW_90 isW_66 (Or.inl (by decide)) ?_)
  refine bX10_image_0 _ (m_copies (x := 2) (y := 0) (by decide) (by decide) (by decide) ?_)
  generalize sI hM 0 0 0 = hM at g2 ⊢
  obtain ⟨g1, gw, g3, g4, g5, g6, g7⟩ := g2
  have aC : ∀ c k, c < 90 ∨ 102 ≤ c → (c = 0 → k ≠ 7) → (sI (pW hC 90 (cpW (wq hC 90) (wq hC 66))) 0 7 1).1 c k = hC.1 c k := by
    intro c k h1 h2
    have : (sI (pW hC 90 (cpW (wq hC 90) (wq hC 66))) 0 7 1).1 c k = (pW hC 90 (cpW (wq hC 90) (wq hC 66))).1 c k := by
      by_cases q : c = 0
      · exact sI_k (h2 q)
      · exact sI_c q
    rw [this, pW_off (by omega)]
  have aM : ∀ c k, c < 23 ∨ 36 < c → (c = 0 → k ≠ 52) → (sI (pB hM 2 (bkT hM 0)) 0 52 1).1 c k = hM.1 c k := by
    intro c k h1 h2
    have : (sI (pB hM 2 (bkT hM 0)) 0 52 1).1 c k = (pB hM 2 (bkT hM 0)).1 c k := by
      by_cases q : c = 0
      · exact sI_k (h2 q)
      · exact sI_c q
    rw [this, pB_off (a_off (by omega))]
  have bM : ∀ b, b ≠ 2 → bkT (sI (pB hM 2 (bkT hM 0)) 0 52 1) b = bkT hM b := fun b hb => by rw [bk_s0, bk_o hb]
  refine ⟨?_, sy, m, t, n, D0, D, gS_ext (fun c k h1 h2 => aC _ _ (by omega) (by omega)) rfl rfl (fun c k h1 h2 => aM _ _ (by omega) (by omega)) g1, gW_ext (fun j k hj => aC _ _ (by omega) (by omega)) (bM 0 (by decide)) gw, ⟨sI_s.trans sI_s.symm, fun _ => ⟨D, ?_⟩⟩, gP_ext (fun c k h1 h2 => aC _ _ (by omega) (by omega)) (fun k => rfl) (aM _ _ (by omega) (by omega)) (fun i hi => bM _ (by omega)) g4, gE_ext (fun c k h1 h2 => aC _ _ (by omega) (by omega)) (aM _ _ (by omega) (by omega)) (aM _ _ (by omega) (by omega)) (fun c k h1 h2 => aM _ _ (by omega) (by omega)) g5, gT_ext (aC _ _ (by omega) (by omega)) (fun k => aC _ _ (by omega) (by omega)) (aM _ _ (by omega) (by omega)) (fun k => aM _ _ (by omega) (by omega)) g6, gF_ext (aC _ _ (by omega) (by omega)) (aC _ _ (by omega) (by omega)) (fun k => aC _ _ (by omega) (by omega)) (aC _ _ (by omega) (by omega)) (aM _ _ (by omega) (by omega)) (aM _ _ (by omega) (by omega)) (aM _ _ (by omega) (by omega)) g7⟩
  · have := gw.2.1.2.2.1
    rw [bk13, wq_at (by decide)] at this
    rw [aC 66 13 (by omega) (by omega), sI_c (by decide), pB_off (a_other a23 (by decide))]
    exact this
  · obtain ⟨I, r, N⟩ := gw
    have hv : ∀ j k, vlW j k → wq (sI (pW hC 90 (cpW (wq hC 90) (wq hC 66))) 0 7 1) 90 j k = wq hC 66 j k := by
      intro j k hv
      have hj : j < 12 := by unfold vlW at hv; omega
      rw [wq_at hj, sI_c (by omega), pW_get hj, cpW_at hv]
    refine ⟨inv_ext I hv, ?_, invN_ext I.1.2.2.1 N hv⟩
    rw [bk_s0, bk_cp]
    exact rel_extL I.1.1 I.1.2.1 I.1.2.2.1 r hv
theorem j_back (g : GR hC hM) : AW GC l ad (d + 2) mX9_back 0 [(0, .ref (ad 0))] [] hC (qi (jq l' ad' (d' + 1) adK adV mX10_back [(0, .ref (ad' 0))] hM)) := by
  obtain ⟨sy, m, t, n, D0, D, g⟩ := g
  have g2 := g_thr g
  have G : GR hC (sI hM 0 0 0) := ⟨_, _, _, _, _, _, g2⟩
  obtain ⟨i1, i2⟩ := g2.2.2.1
  refine bX9_back_0 _ ⟨fun z => sp_copyFrom isW_66 isW_90 (Or.inr (by decide)) ?_, fun z => bX10_back_0 _ ?_⟩
  · refine bX10_back_0 _ ?_
    rw [← i1]
    refine ⟨fun _ => m_copies (x := 0) (y := 2) (by decide) (by decide) (by decide) ?_, fun q => absurd q z⟩
    obtain ⟨D', I', r', N'⟩ := i2 z
    rw [sI_pWo (by omega), sI_pBo (a_off (by omega))]
    refine ⟨?_, sy, m, t, n, D0, D', gq_now (gq_P0 g2) (kC0_pW (J := hC.2.1)) kM0_pB1 (gN_mk (inv_cp I') (rel_cp I' r') (invN_cp I'.1.2.2.1 N'))⟩
    rw [pB_get a23, pW_get0, cpW_at (Or.inl ⟨rfl, by decide, by decide⟩)]
    exact r'.2.2.1
  · rw [← i1]
    exact ⟨fun q => absurd z q, fun _ => ⟨rfl, G⟩⟩
end TR
