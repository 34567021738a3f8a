/-! ===== calls: see, out ===== -/
section SE
variable {adK adV : Nat → Nat} {l l' : Launch} {ad ad' : Nat → Nat} {d d' b : Nat} {hC hM hC' hM' h : aH} {sy m t n D0 D : Nat} {ω β : wT}
theorem sI_cc {h : aH} {c k a b : Nat} {v : Int32} : (sI h c k v).1 a b = if a = c ∧ b = k then v else h.1 a b := rfl
theorem c_add {R : Int32 → aH → Prop} {x1 x2 x3 x4 : Int32} {c : Nat} (hc : h.1 346 5 = nI c) (h24 : c ≤ 24) (hb : vp_nar .boolean x3 = x3) (H0 : c = 24 → R (-1) h) (H1 : c < 24 → R (nI c) (sI (sI (sI (sI (sI h 347 c x1) 348 c x2) 349 c x3) 350 c x4) 346 5 (nI (c + 1)))) : AW GC l ad d mX5_add 0 [(0, .ref (ad 346)), (1, .int x1), (2, .int x2), (3, .int x3), (4, .int x4)] [] h (qi R) := by
  refine bX5_add_0 _ _ _ _ _ ?_
  rw [hc, hb]
  refine ⟨fun z => ?_, fun z => H0 ?_⟩
  · have hlt : c < 24 := (nI_ltI (a := c) (b := 24) (by omega) (by omega)).mp z
    have H1 := H1 hlt
    have e : ∀ {a k' v} (g : aH), a ≠ 346 → g.1 346 5 = nI c → (sI g a k' v).1 346 5 = nI c := fun g ha hg => (sI_c (Ne.symm ha)).trans hg
    rw [nI_clamp (by omega), e h (by decide) hc, nI_clamp (by omega)]
    refine ⟨vp_in_nI hlt (by omega), vp_in_nI hlt (by omega), href ?_⟩
    rw [e _ (by decide) (e h (by decide) hc), nI_clamp (by omega), e _ (by decide) (e _ (by decide) (e h (by decide) hc)), nI_clamp (by omega)]
    refine ⟨vp_in_nI hlt (by omega), vp_in_nI hlt (by omega), href ?_⟩
    rw [sI_s, e _ (by decide) (e _ (by decide) (e _ (by decide) (e h (by decide) hc))), nI_1, nI_pred]
    exact H1
  · have : ¬ c < 24 := fun q => z ((nI_ltI (a := c) (b := 24) (by omega) (by omega)).mpr q)
    omega
theorem i32_pos {x : Int32} {a : Nat} (ha : a < 2 ^ 31) (z1 : ¬ x < 1) (z2 : ¬ nI a < x) : ∃ k, 1 ≤ k ∧ k ≤ a ∧ x = nI k := by
  have h0 : ¬ x < 0 := by
    intro q
    apply z1
    rw [Int32.lt_iff_toInt_lt] at q ⊢
    rw [show (0 : Int32).toInt = 0 by decide] at q
    rw [show (1 : Int32).toInt = 1 by decide]
    omega
  obtain ⟨k, hk, rfl⟩ := nI_of h0
  refine ⟨k, Nat.lt_of_not_le (fun q => z1 ?_), Nat.le_of_not_lt (fun q => z2 ((nI_ltI ha hk).mpr q)), rfl⟩
  exact (nI_ltI (a := k) (b := 1) hk (by decide)).mpr (by omega)
/-- one more is noted on both sides -/
theorem gE_more {c : Nat} {x1 x2 x3 x4 : Int32} (g : gE hC hM D0) (hc : hC.1 346 5 = nI c) (h24 : c < 24) (hM41 : hM'.1 41 = (fun k => if k = c ∧ x4 = -1 then x1 else hM.1 41 k)) (hM42 : hM'.1 42 = (fun k => if k = c ∧ x4 = -1 then x2 else hM.1 42 k)) (hM43 : hM'.1 43 = (fun k => if k = c ∧ x4 = -1 then x3 else hM.1 43 k)) (hM44 : hM'.1 44 = (fun k => if k = c then x4 else hM.1 44 k)) (h62 : hM'.1 0 62 = nI (c + 1)) (h63 : hM'.1 0 63 = hM.1 0 63) (hx : (x4 = -1 ∧ (∃ a, 1 ≤ a ∧ a ≤ 40 ∧ x1 = nI a) ∧ (∃ i, i < D0 ∧ x2 = nI i) ∧ (x3 = 0 ∨ x3 = 1)) ∨ ∃ q, q < c ∧ x4 = nI q) : gE (sI (sI (sI (sI (sI hC 347 c x1) 348 c x2) 349 c x3) 350 c x4) 346 5 (nI (c + 1))) hM' D0 := by
  obtain ⟨c0, h1, h2, h3, h4, h5, h6⟩ := g
  have : c0 = c := (nI_eq (by omega) (by omega)).mp (h2.symm.trans hc)
  subst this
  refine ⟨c0 + 1, by omega, sI_s, h62, ?_, ?_, fun k hk => ?_⟩
  · rw [h63]; exact h4
  · rw [h63]
    rcases h5 with q | ⟨q, q1, q2⟩
    · exact Or.inl q
    · exact Or.inr ⟨q, by omega, q2⟩
  · rw [hM41, hM42, hM43, hM44]
    dsimp only
    have f350 : (sI (sI (sI (sI (sI hC 347 c0 x1) 348 c0 x2) 349 c0 x3) 350 c0 x4) 346 5 (nI (c0 + 1))).1 350 k = if k = c0 then x4 else hC.1 350 k := by
      rw [sI_c (by decide), sI_cc]
      by_cases q : k = c0
      · rw [if_pos ⟨rfl, q⟩, if_pos q]
      · rw [if_neg (fun w => q w.2), if_neg q, sI_c (by decide), sI_c (by decide), sI_c (by decide)]
    have f347 : (sI (sI (sI (sI (sI hC 347 c0 x1) 348 c0 x2) 349 c0 x3) 350 c0 x4) 346 5 (nI (c0 + 1))).1 347 k = if k = c0 then x1 else hC.1 347 k := by
      rw [sI_c (by decide), sI_c (by decide), sI_c (by decide), sI_c (by decide), sI_cc]
      by_cases q : k = c0
      · rw [if_pos ⟨rfl, q⟩, if_pos q]
      · rw [if_neg (fun w => q w.2), if_neg q]
    have f348 : (sI (sI (sI (sI (sI hC 347 c0 x1) 348 c0 x2) 349 c0 x3) 350 c0 x4) 346 5 (nI (c0 + 1))).1 348 k = if k = c0 then x2 else hC.1 348 k := by
      rw [sI_c (by decide), sI_c (by decide), sI_c (by decide), sI_cc]
      by_cases q : k = c0
      · rw [if_pos ⟨rfl, q⟩, if_pos q]
      · rw [if_neg (fun w => q w.2), if_neg q, sI_c (by decide)]
    have f349 : (sI (sI (sI (sI (sI hC 347 c0 x1) 348 c0 x2) 349 c0 x3) 350 c0 x4) 346 5 (nI (c0 + 1))).1 349 k = if k = c0 then x3 else hC.1 349 k := by
      rw [sI_c (by decide), sI_c (by decide), sI_cc]
      by_cases q : k = c0
      · rw [if_pos ⟨rfl, q⟩, if_pos q]
      · rw [if_neg (fun w => q w.2), if_neg q, sI_c (by decide), sI_c (by decide)]
    rw [f350, f347, f348, f349]
    by_cases q : k = c0
    · subst q
      rw [if_pos rfl, if_pos rfl, if_pos rfl, if_pos rfl, if_pos rfl]
      rcases hx with ⟨q1, q2⟩ | ⟨q, q1, q2⟩
      · rw [if_pos ⟨rfl, q1⟩, if_pos ⟨rfl, q1⟩, if_pos ⟨rfl, q1⟩]
        exact ⟨rfl, Or.inl ⟨q1, rfl, rfl, rfl, q2⟩⟩
      · exact ⟨rfl, Or.inr ⟨q, q1, q2⟩⟩
    · rw [if_neg q, if_neg q, if_neg q, if_neg q, if_neg q, if_neg (fun w => q w.1), if_neg (fun w => q w.1), if_neg (fun w => q w.1)]
      exact h6 k (by omega)
theorem j_see {x1 x2 x3 : Int32} (hb : x3 = 0 ∨ x3 = 1) (g : GR hC hM) : AW GC l ad (d + 1) mX9_see 0 [(0, .ref (ad 0)), (1, .int x1), (2, .int x2), (3, .int x3)] [] hC (qi (jq l' ad' d' adK adV mX10_see [(0, .ref (ad' 0)), (1, .int x1), (2, .int x2), (3, .int x3)] hM)) := by
  obtain ⟨sy, m, t, n, D0, D, g⟩ := g
  have hbn : vp_nar .boolean x3 = x3 := by rcases hb with rfl | rfl <;> rfl
  have g2 := g_thr g
  have G : GR hC (sI hM 0 0 0) := ⟨_, _, _, _, _, _, g2⟩
  obtain ⟨e1, e2, e3, e4, e5, e6, hm, ht, hD⟩ := g_S g2
  obtain ⟨s1, s2, s3, s4, C, s6⟩ := g2.1
  have gE2 := g2.2.2.2.2.1
  obtain ⟨c, h1, h2, h3, h4, h5, h6⟩ := g2.2.2.2.2.1
  have hD0 := s6.2.2.2.2.2.2.1.1.2.2.1
  have eD0 : hC.1 (sy + 17) 11 = nI D0 := by
    have := s6.2.2.2.2.2.2.1.1.2.2.2.1
    rw [stW_at (by decide), wd_at (by decide)] at this
    exact this
  have eM0 : (sI hM 0 0 0).1 2 2 = nI D0 := s6.2.2.1
  refine bX9_see_0 _ _ _ _ ⟨fun z => ?_, fun z => ⟨fun z2 => ?_, fun z2 => ⟨fun z3 => ?_, fun z3 => mref e1 ⟨e2, ?_⟩⟩⟩⟩
  · exact bX10_see_0 _ _ _ _ ⟨fun _ => ⟨rfl, G⟩, fun q => absurd z q⟩
  · exact bX10_see_0 _ _ _ _ ⟨fun q => absurd q z, fun _ => ⟨fun _ => ⟨rfl, G⟩, fun q => absurd z2 q⟩⟩
  · exact bX10_see_0 _ _ _ _ ⟨fun q => absurd q z, fun _ => ⟨fun q => absurd q z2, fun _ => ⟨fun _ => ⟨rfl, G⟩, fun q => absurd z3 q⟩⟩⟩
  · rw [eD0]
    refine ⟨fun z4 => c_add h2 h1 hbn (fun q => ?_) (fun q => ?_), fun z4 => ?_⟩
    · refine bX10_see_0 _ _ _ _ ⟨fun q => absurd q z, fun _ => ⟨fun q => absurd q z2, fun _ => ⟨fun q => absurd q z3, fun _ => ?_⟩⟩⟩
      rw [eM0, h3, q]
      exact ⟨fun q => absurd z4 (Int32.not_lt.mpr q), fun _ => ⟨fun q => absurd rfl q, fun _ => ⟨rfl, G⟩⟩⟩
    · refine bX10_see_0 _ _ _ _ ⟨fun q => absurd q z, fun _ => ⟨fun q => absurd q z2, fun _ => ⟨fun q => absurd q z3, fun _ => ?_⟩⟩⟩
      rw [eM0, h3]
      refine ⟨fun q => absurd z4 (Int32.not_lt.mpr q), fun _ => ⟨fun _ => ?_, fun w => absurd ((nI_eq (b := 24) (by omega) (by decide)).mp w) (by omega)⟩⟩
      have e : ∀ {a k' v} (g : aH), a ≠ 0 → g.1 0 62 = nI c → (sI g a k' v).1 0 62 = nI c := fun g ha hg => (sI_c (Ne.symm ha)).trans hg
      generalize hh : sI hM 0 0 0 = hM0 at *
      rw [hbn, nI_clamp (by omega), e hM0 (by decide) h3, nI_clamp (by omega)]
      refine ⟨vp_in_nI q (by omega), vp_in_nI q (by omega), href ?_⟩
      rw [e _ (by decide) (e hM0 (by decide) h3), nI_clamp (by omega), e _ (by decide) (e _ (by decide) (e hM0 (by decide) h3)), nI_clamp (by omega)]
      refine ⟨vp_in_nI q (by omega), vp_in_nI q (by omega), href ?_⟩
      rw [sI_s, e _ (by decide) (e _ (by decide) (e _ (by decide) (e hM0 (by decide) h3))), nI_1, nI_pred]
      refine ⟨rfl, sy, m, t, n, D0, D, gq_E g2 (fun c k hc => ?_) rfl (fun c' k h1 h2 => ?_) ?_⟩
      · rw [sI_c (by omega), sI_c (by omega), sI_c (by omega), sI_c (by omega), sI_c (by omega)]
      · have : (sI (sI (sI (sI (sI hM0 41 c x1) 42 c x2) 43 c x3) 44 c (-1)) 0 62 (nI (c + 1))).1 c' k = (sI (sI (sI (sI hM0 41 c x1) 42 c x2) 43 c x3) 44 c (-1)).1 c' k := by
          by_cases q : c' = 0
          · exact sI_k (by have := h1 q; omega)
          · exact sI_c q
        rw [this, sI_c (by omega), sI_c (by omega), sI_c (by omega), sI_c (by omega)]
      · refine gE_more gE2 h2 q ?_ ?_ ?_ ?_ ?_ ?_ (Or.inl ⟨rfl, i32_pos (a := 40) (by decide) z z2, ?_, hb⟩)
        · funext k
          rw [sI_c (by decide), sI_c (by decide), sI_c (by decide), sI_c (by decide), sI_cc]
          simp
        · funext k
          rw [sI_c (by decide), sI_c (by decide), sI_c (by decide), sI_cc, sI_c (by decide)]
          simp
        · funext k
          rw [sI_c (by decide), sI_c (by decide), sI_cc, sI_c (by decide), sI_c (by decide)]
          simp
        · funext k
          rw [sI_c (by decide), sI_cc, sI_c (by decide), sI_c (by decide), sI_c (by decide)]
          simp
        · exact sI_s
        · rw [sI_k (by decide), sI_c (by decide), sI_c (by decide), sI_c (by decide), sI_c (by decide)]
        · obtain ⟨j, hj, rfl⟩ := nI_of z3
          exact ⟨j, (nI_ltI hj (by omega)).mp z4, rfl⟩
    · refine bX10_see_0 _ _ _ _ ⟨fun q => absurd q z, fun _ => ⟨fun q => absurd q z2, fun _ => ⟨fun q => absurd q z3, fun _ => ?_⟩⟩⟩
      rw [eM0]
      exact ⟨fun _ => ⟨rfl, G⟩, fun q => absurd (Int32.not_lt.mp z4) q⟩
theorem j_out {x1 : Int32} (g : GR hC hM) : AW GC l ad (d + 1) mX9_out 0 [(0, .ref (ad 0)), (1, .int x1)] [] hC (qi (jq l' ad' d' adK adV mX10_out [(0, .ref (ad' 0)), (1, .int x1)] hM)) := by
  obtain ⟨sy, m, t, n, D0, D, g⟩ := g
  have g2 := g_thr g
  have G : GR hC (sI hM 0 0 0) := ⟨_, _, _, _, _, _, g2⟩
  have gE2 := g2.2.2.2.2.1
  obtain ⟨c, h1, h2, h3, h4, h5, h6⟩ := g2.2.2.2.2.1
  refine bX9_out_0 _ _ ?_
  rw [h2]
  refine ⟨fun z => ?_, fun z => ⟨fun z2 => c_add h2 h1 rfl (fun q => ?_) (fun q => ?_), fun z2 => ?_⟩⟩
  · exact bX10_out_0 _ _ ⟨fun _ => ⟨rfl, G⟩, fun q => absurd z q⟩
  · refine bX10_out_0 _ _ ⟨fun q => absurd q z, fun _ => ?_⟩
    rw [h3]
    subst q
    exact ⟨fun q => absurd z2 (Int32.not_lt.mpr q), fun _ => ⟨fun q => absurd rfl q, fun _ => ⟨rfl, G⟩⟩⟩
  · refine bX10_out_0 _ _ ⟨fun q => absurd q z, fun _ => ?_⟩
    rw [h3]
    refine ⟨fun q => absurd z2 (Int32.not_lt.mpr q), fun _ => ⟨fun _ => ?_, fun w => absurd ((nI_eq (b := 24) (by omega) (by decide)).mp w) (by omega)⟩⟩
    generalize hh : sI hM 0 0 0 = hM0 at *
    rw [nI_clamp (by omega), sI_c (by decide), h3, nI_1]
    refine ⟨vp_in_nI q (by omega), href ?_⟩
    rw [sI_s, nI_pred]
    refine ⟨rfl, sy, m, t, n, D0, D, gq_E g2 (fun c k hc => ?_) rfl (fun c' k h1 h2 => ?_) ?_⟩
    · rw [sI_c (by omega), sI_c (by omega), sI_c (by omega), sI_c (by omega), sI_c (by omega)]
    · have : (sI (sI hM0 44 c x1) 0 62 (nI (c + 1))).1 c' k = (sI hM0 44 c x1).1 c' k := by
        by_cases q : c' = 0
        · exact sI_k (by have := h1 q; omega)
        · exact sI_c q
      rw [this, sI_c (by omega)]
    · obtain ⟨j, hj, rfl⟩ := nI_of z
      have hjc : j < c := (nI_ltI hj (by omega)).mp z2
      have hne : ¬ nI j = -1 := by
        intro w
        have := congrArg Int32.toInt w
        rw [nI_toInt (by omega), show (-1 : Int32).toInt = -1 by decide] at this
        omega
      refine gE_more gE2 h2 q ?_ ?_ ?_ ?_ ?_ ?_ (Or.inr ⟨j, hjc, rfl⟩)
      · funext k
        rw [sI_c (by decide), sI_c (by decide), if_neg (fun w => hne w.2)]
      · funext k
        rw [sI_c (by decide), sI_c (by decide), if_neg (fun w => hne w.2)]
      · funext k
        rw [sI_c (by decide), sI_c (by decide), if_neg (fun w => hne w.2)]
      · funext k
        rw [sI_c (by decide), sI_cc]
        simp
      · exact sI_s
      · rw [sI_k (by decide), sI_c (by decide)]
  · refine bX10_out_0 _ _ ⟨fun q => absurd q z, fun _ => ?_⟩
    rw [h3]
    exact ⟨fun _ => ⟨rfl, G⟩, fun q => absurd (Int32.not_lt.mp z2) q⟩
end SE
