/-! ===== what is past, on both sides ===== -/
theorem bk_nv {h : aH} {b j i : Nat} (hv : ¬ vlB j i) : bkT h b j i = 0 := by
  unfold vlB at hv
  unfold bkT
  by_cases h0 : j = 0
  · rw [if_pos h0, if_neg (by omega), if_neg (by omega), if_neg (by omega), if_neg (by omega)]
  rw [if_neg h0]
  by_cases h1 : j = 1
  · rw [if_pos h1, if_neg (by omega)]
  rw [if_neg h1]
  by_cases h2 : j = 2
  · rw [if_pos h2, if_neg (by omega)]
  rw [if_neg h2]
  by_cases h3 : j = 12
  · rw [if_pos h3, if_neg (by omega)]
  rw [if_neg h3]
  by_cases h4 : 3 ≤ j ∧ j ≤ 9
  · rw [if_pos h4, if_neg (by omega)]
  · rw [if_neg h4]
theorem bk_cp {h g : aH} {x y : Nat} : bkT (pB h x (bkT g y)) x = bkT g y := by
  funext j i
  by_cases hv : vlB j i
  · exact bk_pB hv
  · rw [bk_nv hv, bk_nv hv]
/-- the reference's now kept: as PSt -/
def KNt (h h' : aH) (c : Nat) : Prop := ∃ c', c' ≤ 19 ∧ c' ≤ c ∧ (c' = c ∨ c = 20 ∧ c' = 19) ∧ h'.1 0 53 = nI (c' + 1) ∧ h'.2 = h.2 ∧ (∀ a k, a < 23 ∨ 36 < a → (a = 0 → k ≠ 53) → h'.1 a k = h.1 a k) ∧ (∀ i, i < c' → bkT h' (3 + i) = bkT h (3 + i + (c - c'))) ∧ bkT h' (3 + c') = bkT h 0 ∧ ∀ b, b < 3 → bkT h' b = bkT h b
section KN
variable {adK adV : Nat → Nat} {l l' : Launch} {ad ad' : Nat → Nat} {d d' b : Nat} {hC hM hC' hM' h : aH} {sy m t n D0 D : Nat} {ω β : wT}
theorem bk_s0 {h : aH} {k b : Nat} {v : Int32} : bkT (sI h 0 k v) b = bkT h b := bk_ext (fun c q p e => sI_c (fun z => by subst z; unfold adr at e; simp at e))
theorem m_kn45 {R : aH → Prop} {c : Nat} (hc : h.1 0 53 = nI c) (h20 : c < 20) (H : R (sI (pB h (3 + c) (bkT h 0)) 0 53 (nI (c + 1)))) : AW (GM adK adV) l ad (d + 1) mX10_keepNow 45 [(0, .ref (ad 0))] [] h (qv R) := by
  refine bX10_keepNow_45 _ ?_
  rw [hc]
  have e3 : (3 : Int32) + nI c = nI (3 + c) := nI_add 3 c
  rw [e3]
  refine m_copies (x := 3 + c) (y := 0) (by omega) (by decide) (by omega) ?_
  rw [pB_off (a_off (by omega)), hc, nI_1]
  exact H
theorem m_keepNow {R : aH → Prop} {c : Nat} (hc : h.1 0 53 = nI c) (h20 : c ≤ 20) (H : ∀ h', KNt h h' c → R h') : AW (GM adK adV) l ad (d + 1) mX10_keepNow 0 [(0, .ref (ad 0))] [] h (qv R) := by
  refine bX10_keepNow_0 _ ?_
  rw [hc]
  refine ⟨fun z => ?_, fun z => ?_⟩
  · have hlt : c < 20 := by
      refine Decidable.byContradiction (fun q => z ?_)
      have : c = 20 := by omega
      rw [this]; rfl
    refine m_kn45 hc hlt (H _ ⟨c, by omega, Nat.le_refl _, Or.inl rfl, sI_s, rfl, fun a k h1 h2 => ?_, fun i hi => ?_, ?_, fun b hb => ?_⟩)
    · by_cases q : a = 0
      · rw [sI_k (h2 q), pB_off (a_off (by omega))]
      · rw [sI_c q, pB_off (a_off (by omega))]
    · rw [bk_s0, bk_o (by omega), Nat.sub_self]; rfl
    · rw [bk_s0, bk_cp]
    · rw [bk_s0, bk_o (by omega)]
  · have e20 : c = 20 := (nI_eq (a := c) (b := 20) (by omega) (by omega)).mp z
    subst e20
    have key := up_ind (P := fun i => ∀ g : aH, g.2 = h.2 → (∀ a k, a < 23 ∨ 36 < a → g.1 a k = h.1 a k) → (∀ q, q < i → bkT g (3 + q) = bkT h (3 + q + 1)) → (∀ q, i ≤ q → q < 20 → bkT g (3 + q) = bkT h (3 + q)) → (∀ b, b < 3 → bkT g b = bkT h b) → AW (GM adK adV) l ad (d + 1) mX10_keepNow 11 [(0, .ref (ad 0)), (1, .int (nI (i + 1)))] [] g (qv R)) 19 ?_ (fun i hi ih => ?_)
    · exact key h rfl (fun _ _ _ => rfl) (fun q hq => absurd hq (Nat.not_lt_zero _)) (fun _ _ _ => rfl) (fun _ _ => rfl)
    · intro g g1 g2 g3 g4 g5
      refine bX10_keepNow_11 _ _ ⟨fun _ => ?_, fun z => absurd (by decide) z⟩
      rw [g2 _ _ (Or.inl (by decide)), hc, show nI 20 - 1 = nI 19 from nI_pred 19]
      refine m_kn45 (c := 19) sI_s (by decide) (H _ ⟨19, by omega, by omega, Or.inr ⟨rfl, rfl⟩, sI_s, g1, fun a k h1 h2 => ?_, fun i hi => ?_, ?_, fun b hb => ?_⟩)
      · by_cases q : a = 0
        · rw [sI_k (h2 q), pB_off (a_off (by omega)), sI_k (h2 q)]; exact g2 a k h1
        · rw [sI_c q, pB_off (a_off (by omega)), sI_c q]; exact g2 a k h1
      · rw [bk_s0, bk_o (by omega), bk_s0]; exact g3 i hi
      · rw [bk_s0, bk_cp, bk_s0]; exact g5 0 (by decide)
      · rw [bk_s0, bk_o (by omega), bk_s0]; exact g5 b hb
    · intro g g1 g2 g3 g4 g5
      refine bX10_keepNow_11 _ _ ⟨fun z => absurd z (nI_ge (b := 20) (by omega) (by omega)), fun _ => ?_⟩
      have e3 : (3 : Int32) + nI (i + 1) = nI (3 + i + 1) := nI_add 3 (i + 1)
      rw [e3, nI_pred, nI_1]
      refine m_copies (x := 3 + i) (y := 3 + i + 1) (by omega) (by omega) (by omega) ?_
      refine ih _ g1 (fun a k h1 => ?_) (fun q hq => ?_) (fun q h1 h2 => ?_) (fun b hb => ?_)
      · rw [pB_off (a_off (by omega))]; exact g2 a k h1
      · by_cases q1 : q = i
        · subst q1
          rw [bk_cp]; exact g4 (q + 1) (by omega) (by omega)
        · rw [bk_o (by omega)]; exact g3 q (by omega)
      · rw [bk_o (by omega)]; exact g4 q (by omega) h2
      · rw [bk_o (by omega)]; exact g5 b hb
/-- both have kept their now -/
theorem gq_store {c : Nat} (g : GQ hC hM sy m t n D0 D) (hc : hC.1 102 1 = nI c) (h20 : c ≤ 20) (p : PSt hC hC' c) (k : KNt hM hM' c) : GQ hC' hM' sy m t n D0 D := by
  obtain ⟨g1, g2, g3, g4, g5, g6, g7⟩ := g
  obtain ⟨c1, p1, p2, p3, p4, p5, p6, p7, p8, p9, ω, p10⟩ := p
  obtain ⟨c2, k1, k2, k3, k4, k5, k6, k7, k8, k9⟩ := k
  have ec : c2 = c1 := by omega
  subst ec
  refine ⟨gS_ext (fun c k h1 h2 => p7 _ _ (by omega)) (p6 _ _ (by decide)) (p6 _ _ (by decide)) (fun c k h1 h2 => k6 _ _ (by omega) (by omega)) g1, gW_ext (fun j k hj => p7 _ _ (by omega)) (k9 0 (by decide)) g2, ?_, ?_, gE_ext (fun c k h1 h2 => p7 _ _ (by omega)) (k6 _ _ (by omega) (by omega)) (k6 _ _ (by omega) (by omega)) (fun c k h1 h2 => k6 _ _ (by omega) (by omega)) g5, gT_ext (p7 _ _ (by omega)) (fun k => p7 _ _ (by omega)) (k6 _ _ (by omega) (by omega)) (fun k => k6 _ _ (by omega) (by omega)) g6, gF_ext (p7 _ _ (by omega)) (p7 _ _ (by omega)) (fun k => p7 _ _ (by omega)) (p7 _ _ (by omega)) (k6 _ _ (by omega) (by omega)) (k6 _ _ (by omega) (by omega)) (k6 _ _ (by omega) (by omega)) g7⟩
  · obtain ⟨i1, i2⟩ := g3
    refine ⟨by rw [p7 _ _ (by omega), k6 _ _ (by omega) (by omega)]; exact i1, fun z => ?_⟩
    rw [p7 _ _ (by omega)] at z
    obtain ⟨D, g⟩ := i2 z
    exact ⟨D, gW_ext (fun j k hj => p7 _ _ (by omega)) (k9 2 (by decide)) g⟩
  · obtain ⟨P, c0, q1, q2, q3, q4⟩ := g4
    have ec : c0 = c := (nI_eq (by omega) (by omega)).mp (q2.symm.trans hc)
    subst ec
    refine ⟨p8, c2 + 1, by omega, p4, k4, fun i hi => ?_⟩
    by_cases hic : i < c2
    · obtain ⟨D, g⟩ := q4 (i + (c0 - c2)) (by omega)
      refine ⟨D, ?_⟩
      unfold gW at g ⊢
      rw [p9 i hic, k7 i hic]
      have e : 3 + i + (c0 - c2) = 3 + (i + (c0 - c2)) := by omega
      rw [e]
      exact g
    · have : i = c2 := by omega
      subst this
      refine ⟨D, ?_⟩
      obtain ⟨I, r, N⟩ := g2
      have hv : ∀ j k, vlW j k → wq hC' (hC'.2.2 103 i) j k = wq hC 66 j k := by
        intro j k hv
        rw [p10 j k (by unfold vlW at hv; omega), cpW_at hv]
      refine ⟨inv_ext I hv, ?_, invN_ext I.1.2.2.1 N hv⟩
      rw [k8]
      exact rel_extL I.1.1 I.1.2.1 I.1.2.2.1 r hv
/-- now alone changes -/
def kC0 (h h' : aH) : Prop := (∀ c k, c < 66 ∨ 90 ≤ c ∧ c < 344 ∨ 346 ≤ c ∧ c < 351 ∨ c = 354 ∧ k = 0 → h'.1 c k = h.1 c k) ∧ ∀ c k, c ≠ 344 → h'.2.2 c k = h.2.2 c k
def kM0 (h h' : aH) : Prop := ∀ c k, (c = 0 → k ≠ 0 ∧ k ≠ 37 ∧ k ≠ 55 ∧ k ≠ 60 ∧ k ≠ 61) → (c ≤ 36 ∨ 41 ≤ c ∧ c ≤ 44) → adr 1 c k = none → adr 0 c k = none → h'.1 c k = h.1 c k
theorem gq_now {D' : Nat} (g : GQ hC hM sy m t n D0 D) (a : kC0 hC hC') (b : kM0 hM hM') (w : gN hC' hM' m t D') : GQ hC' hM' sy m t n D0 D' := by
  have b0 : ∀ {k : Nat}, k ≠ 0 ∧ k ≠ 37 ∧ k ≠ 55 ∧ k ≠ 60 ∧ k ≠ 61 → hM'.1 0 k = hM.1 0 k := fun {k} hk => b 0 k (fun _ => hk) (by omega) (a_off (by omega)) (a_off (by omega))
  have b1 : ∀ {c k : Nat}, 1 ≤ c → (c ≤ 22 ∨ 41 ≤ c ∧ c ≤ 44) → hM'.1 c k = hM.1 c k := fun {c k} h1 h2 => b c k (fun q => by omega) (by omega) (a_off (by omega)) (a_off (by omega))
  have hb : ∀ {b' : Nat}, 2 ≤ b' → bkT hM' b' = bkT hM b' := fun {b'} h2 => bk_ext (fun c k p e => b c k (fun q => by subst q; unfold adr at e; simp at e) (by
    refine Decidable.byContradiction (fun z => ?_)
    rw [a_off (by omega)] at e
    cases e) (a_other e (by omega)) (a_other e (by omega)))
  obtain ⟨g1, g2, g3, g4, g5, g6, g7⟩ := g
  refine ⟨gS_ext (fun c k h1 h2 => a.1 _ _ (by omega)) (a.2 _ _ (by decide)) (a.2 _ _ (by decide)) (fun c k h1 h2 => b1 (by omega) (by omega)) g1, w, ?_, gP_ext (fun c k h1 h2 => a.1 _ _ (by omega)) (fun k => a.2 _ _ (by decide)) (b0 (by omega)) (fun i hi => hb (by omega)) g4, gE_ext (fun c k h1 h2 => a.1 _ _ (by omega)) (b0 (by omega)) (b0 (by omega)) (fun c k h1 h2 => b1 (by omega) (by omega)) g5, gT_ext (a.1 _ _ (by omega)) (fun k => a.1 _ _ (by omega)) (b0 (by omega)) (fun k => b1 (by omega) (by omega)) g6, gF_ext (a.1 _ _ (by omega)) (a.1 _ _ (by omega)) (fun k => a.1 _ _ (by omega)) (a.1 _ _ (by omega)) (b0 (by omega)) (b0 (by omega)) (b0 (by omega)) g7⟩
  obtain ⟨i1, i2⟩ := g3
  refine ⟨by rw [a.1 _ _ (by omega), b0 (by omega)]; exact i1, fun z => ?_⟩
  rw [a.1 _ _ (by omega)] at z
  obtain ⟨D, g⟩ := i2 z
  exact ⟨D, gW_ext (fun j k hj => a.1 _ _ (by omega)) (hb (by decide)) g⟩
/-- nothing of the past is left -/
theorem gq_P0 (g : GQ hC hM sy m t n D0 D) : GQ (sI hC 102 1 0) (sI hM 0 53 0) sy m t n D0 D := by
  obtain ⟨g1, g2, g3, g4, g5, g6, g7⟩ := g
  have b1 : ∀ {c k : Nat}, c ≠ 0 → (sI hM 0 53 0).1 c k = hM.1 c k := fun hc => sI_c hc
  refine ⟨gS_ext (fun c k h1 h2 => sI_c (by omega)) rfl rfl (fun c k h1 h2 => sI_c (by omega)) g1, gW_ext (fun j k hj => sI_c (by omega)) bk_s0 g2, ?_, ⟨g4.1, 0, by decide, sI_s, sI_s, fun i hi => absurd hi (Nat.not_lt_zero _)⟩, gE_ext (fun c k h1 h2 => sI_c (by omega)) (sI_k (by decide)) (sI_k (by decide)) (fun c k h1 h2 => sI_c (by omega)) g5, gT_ext (sI_c (by decide)) (fun k => sI_c (by decide)) (sI_k (by decide)) (fun k => sI_c (by decide)) g6, gF_ext (sI_c (by decide)) (sI_c (by decide)) (fun k => sI_c (by decide)) (sI_c (by decide)) (sI_k (by decide)) (sI_k (by decide)) (sI_k (by decide)) g7⟩
  obtain ⟨i1, i2⟩ := g3
  refine ⟨by rw [sI_c (by decide), sI_k (by decide)]; exact i1, fun z => ?_⟩
  rw [sI_c (by decide)] at z
  obtain ⟨D, g⟩ := i2 z
  exact ⟨D, gW_ext (fun j k hj => sI_c (by omega)) bk_s0 g⟩
theorem mt_0 (h54 : hM.1 0 54 = 0) : MT hM t 0 0 0 := by
  unfold MT
  rw [h54]
  refine ⟨by decide, by decide, by decide, by decide, fun e he => ?_⟩
  rw [bt_0]
  exact ⟨fun q => Bool.noConfusion q, fun q => absurd q.1 (by decide)⟩
theorem mt_1 (h54 : hM.1 0 54 = 0) : MT hM t (-1) 0 1 := by
  unfold MT
  rw [h54]
  refine ⟨by decide, by decide, by decide, by decide, fun e he => ?_⟩
  rw [bt_0]
  exact ⟨fun q => Bool.noConfusion q, fun q => absurd q.1 (by decide)⟩
/-- a world written, a book written -/
theorem kC0_pW {J : Nat → Nat → Int64} {ω : wT} : kC0 hC (pW (hJ hC J) 66 ω) := ⟨fun c k h => by rw [pW_off (by omega)]; rfl, fun _ _ _ => rfl⟩
theorem kM0_pB {J : Nat → Nat → Int64} {n' : Int32} {β : wT} : kM0 hM (pB (hS hM J n') 0 β) := by
  intro c k h1 h2 h3 h4
  rw [pB_off h4]
  by_cases q : c = 0
  · subst q; exact hS_k (h1 rfl).2.1
  · exact hS_o q
theorem kM0_pB1 {β : wT} : kM0 hM (pB hM 0 β) := by
  intro c k h1 h2 h3 h4
  rw [pB_off h4]
theorem gN_mk {D' : Nat} (I : Inv m t D' ω) (r : RelW m t D' ω β) (N : InvN D' ω) {g h : aH} : gN (pW g 66 ω) (pB h 0 β) m t D' := by
  have hv : ∀ j k, vlW j k → wq (pW g 66 ω) 66 j k = ω j k := fun j k hv => wq_pW (by unfold vlW at hv; omega)
  exact ⟨inv_ext I hv, rel_extL I.1.1 I.1.2.1 I.1.2.2.1 (rel_bk I.1.1 I.1.2.1 I.1.2.2.1 r) hv, invN_ext I.1.2.2.1 N hv⟩
end KN
