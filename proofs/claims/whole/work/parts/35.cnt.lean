/-! ===== calls: count, see, out, known ===== -/
section CN
variable {adK adV : Nat → Nat} {l l' : Launch} {ad ad' : Nat → Nat} {d d' b : Nat} {hC hM hC' hM' h : aH} {sy m t n D0 D : Nat} {ω β : wT}
theorem m_manyOf {R : Int32 → aH → Prop} {k : Int32} (hb : b < 23) (hD : D ≤ 8) (r : RelW m t D ω β) (H : R (cntS ω k D) (pB h b β)) : AW (GM adK adV) l ad d mX10_manyOf 0 [(0, .ref (ad 0)), (1, .int (nI b)), (2, .int k)] [] (pB h b β) (qi R) := by
  refine bX10_manyOf_0 _ _ _ (up_ind (P := fun i => AW (GM adK adV) l ad d mX10_manyOf 5 [(0, .ref (ad 0)), (1, .int (nI b)), (2, .int k), (3, .int (cntS ω k i)), (4, .int (nI i))] [] (pB h b β) (qi R)) D ?_ (fun i hi ih => ?_))
  · refine bX10_manyOf_5 _ _ _ _ _ ⟨vp_in_nI hb (by omega), fun _ => H, fun z => absurd ?_ z⟩
    rw [nI_clamp (by omega), pB_get a25, r.1]
    exact Int32.le_refl _
  · refine bX10_manyOf_5 _ _ _ _ _ ?_
    rw [nI_clamp (by omega), pB_get a25, r.1, i8, nI_clamp (by omega), pB_get (a30 (j := 8) (by omega) (by decide) (by decide)), row r hi 8 (by decide) (by decide), nI_1]
    refine ⟨vp_in_nI hb (by omega), fun z => absurd z (nI_ge hi (by omega)), fun _ => ⟨vp_in_nI (by omega) (by omega), fun t3 e3 => ?_⟩⟩
    rw [e3]
    exact ih
theorem c_ruling {R : Int32 → aH → Prop} (H : R (if h.1 346 6 = -1 then h.1 346 5 else h.1 346 6) h) : AW GC l ad d mX5_ruling 0 [(0, .ref (ad 346))] [] h (qi R) := by
  refine bX5_ruling_0 _ ⟨fun z => ?_, fun z => ?_⟩
  · rw [if_neg z] at H; exact H
  · rw [if_pos z] at H; exact H
theorem m_knownMany {R : Int32 → aH → Prop} (H : R (if h.1 0 63 = -1 then h.1 0 62 else h.1 0 63) h) : AW (GM adK adV) l ad d mX10_knownMany 0 [(0, .ref (ad 0))] [] h (qi R) := by
  refine bX10_knownMany_0 _ ⟨fun z => ?_, fun z => ?_⟩
  · rw [if_neg z] at H; exact H
  · rw [if_pos z] at H; exact H
theorem gE_by (g : gE hC hM D0) : (if hM.1 0 63 = -1 then hM.1 0 62 else hM.1 0 63) = (if hC.1 346 6 = -1 then hC.1 346 5 else hC.1 346 6) := by
  obtain ⟨c, h1, h2, h3, h4, h5, h6⟩ := g
  rw [h2, h3, h4]
theorem j_count {x : Int32} (g : GR hC hM) : AW GC l ad (d + 1) mX9_count 0 [(0, .ref (ad 0)), (1, .int x)] [] hC (qi (jq l' ad' (d' + 1) adK adV mX10_count [(0, .ref (ad' 0)), (1, .int x)] hM)) := by
  obtain ⟨sy, m, t, n, D0, D, g⟩ := g
  have g2 := g_thr g
  have G : GR hC (sI hM 0 0 0) := ⟨_, _, _, _, _, _, g2⟩
  obtain ⟨e1, e2, e3, e4, e5, e6, hm, ht, hD⟩ := g_S g2
  obtain ⟨eD1, eD2⟩ := g_D g2
  obtain ⟨I, r, N⟩ := g2.2.1
  obtain ⟨s1, s2, s3, s4, C, s6⟩ := g2.1
  have gE2 := g2.2.2.2.2.1
  obtain ⟨-, cp, -, cp1, cp2, -⟩ := g2.2.2.2.1
  -- the reference's side, for each number
  have K : ∀ Z : Int32, (∀ (R : Int32 → aH → Prop), R Z (sI hM 0 0 0) → ((x = (0 : Int32) → (R ((sI hM 0 0 0).1 2 0) (sI hM 0 0 0))) ∧ ((x = (1 : Int32) → (R ((sI hM 0 0 0).1 2 1) (sI hM 0 0 0))) ∧ ((x = (2 : Int32) → (R ((sI hM 0 0 0).1 25 0) (sI hM 0 0 0))) ∧ ((x = (3 : Int32) → (R ((sI hM 0 0 0).1 2 6) (sI hM 0 0 0))) ∧ ((x = (4 : Int32) → (R ((sI hM 0 0 0).1 23 0) (sI hM 0 0 0))) ∧ ((x = (5 : Int32) → R (cntS (wq hC 66) 1 D) (sI hM 0 0 0)) ∧ ((x = (6 : Int32) → R (cntS (wq hC 66) 2 D) (sI hM 0 0 0)) ∧ ((x = (7 : Int32) → R (cntS (wq hC 66) 3 D) (sI hM 0 0 0)) ∧ ((x = (8 : Int32) → R (cntS (wq hC 66) 4 D) (sI hM 0 0 0)) ∧ ((x = (9 : Int32) → R (bcS ((sI hM 0 0 0).1 26 0)) (sI hM 0 0 0)) ∧ ((x = (10 : Int32) → R (owedS (wq hC 66) D) (sI hM 0 0 0)) ∧ ((x = (11 : Int32) → R (pursS (wq hC 66) m) (sI hM 0 0 0)) ∧ ((x = (12 : Int32) → (R ((sI hM 0 0 0).1 0 62) (sI hM 0 0 0))) ∧ ((x = (13 : Int32) → R (if (sI hM 0 0 0).1 0 63 = -1 then (sI hM 0 0 0).1 0 62 else (sI hM 0 0 0).1 0 63) (sI hM 0 0 0)) ∧ ((x = (14 : Int32) → (R ((sI hM 0 0 0).1 0 53) (sI hM 0 0 0))) ∧ (¬ x = (0 : Int32) → ¬ x = (1 : Int32) → ¬ x = (2 : Int32) → ¬ x = (3 : Int32) → ¬ x = (4 : Int32) → ¬ x = (5 : Int32) → ¬ x = (6 : Int32) → ¬ x = (7 : Int32) → ¬ x = (8 : Int32) → ¬ x = (9 : Int32) → ¬ x = (10 : Int32) → ¬ x = (11 : Int32) → ¬ x = (12 : Int32) → ¬ x = (13 : Int32) → ¬ x = (14 : Int32) → (R (-1 : Int32) (sI hM 0 0 0))))))))))))))))))) → jq l' ad' (d' + 1) adK adV mX10_count [(0, .ref (ad' 0)), (1, .int x)] hM Z hC := by
    intro Z k
    obtain ⟨k0, k1, k2, k3, k4, k5, k6, k7, k8, k9, k10, k11, k12, k13, k14, k15⟩ := k (fun z' hM' => z' = Z ∧ GR hC hM') ⟨rfl, G⟩
    refine bX10_count_0 _ _ ⟨k0, k1, k2, k3, k4, fun q => mH (b := 0) (m_manyOf (b := 0) (by decide) hD r ?_), fun q => mH (b := 0) (m_manyOf (b := 0) (by decide) hD r ?_), fun q => mH (b := 0) (m_manyOf (b := 0) (by decide) hD r ?_), fun q => mH (b := 0) (m_manyOf (b := 0) (by decide) hD r ?_), fun q => m_bitsOf (k9 q), fun q => ?_, fun q => ?_, k12, fun q => m_knownMany (k13 q), k14, k15⟩
    · rw [pB_bk]; exact k5 q
    · rw [pB_bk]; exact k6 q
    · rw [pB_bk]; exact k7 q
    · rw [pB_bk]; exact k8 q
    · refine up_ind (P := fun i => AW (GM adK adV) l' ad' (d' + 1) mX10_count 160 [(0, .ref (ad' 0)), (2, .int (owedS (wq hC 66) i)), (3, .int (nI i))] [] (sI hM 0 0 0) (qi fun z' hM' => z' = Z ∧ GR hC hM')) D ?_ (fun i hi ih => ?_)
      · refine bX10_count_160 _ _ _ ⟨fun _ => k10 q, fun z => absurd ?_ z⟩
        rw [eD2]; exact Int32.le_refl _
      · refine bX10_count_160 _ _ _ ?_
        rw [eD2, nI_clamp (by omega), rd r hi hD 9 (by decide) (by decide), nI_1]
        exact ⟨fun z => absurd z (nI_ge hi (by omega)), fun _ => ⟨vp_in_nI (by omega) (by omega), ih⟩⟩
    · refine up_ind (P := fun i => AW (GM adK adV) l' ad' (d' + 1) mX10_count 189 [(0, .ref (ad' 0)), (2, .int (pursS (wq hC 66) i)), (3, .int (nI i))] [] (sI hM 0 0 0) (qi fun z' hM' => z' = Z ∧ GR hC hM')) m ?_ (fun i hi ih => ?_)
      · refine bX10_count_189 _ _ _ ⟨fun _ => k11 q, fun z => absurd ?_ z⟩
        rw [e5]; exact Int32.le_refl _
      · refine bX10_count_189 _ _ _ ?_
        rw [e5, nI_clamp (by omega), rd1 r hm hi, nI_1]
        exact ⟨fun z => absurd z (nI_ge hi (by omega)), fun _ => ⟨vp_in_nI (by omega) (by omega), ih⟩⟩
  have ne : ∀ {a b : Int32}, x = a → x = b → a ≠ b → False := fun h1 h2 h3 => h3 (h1.symm.trans h2)
  refine bX9_count_0 _ _ ⟨fun z => mref e1 ⟨e2, ?_⟩, fun z => mref e1 ⟨e2, ?_⟩, fun z => ?_, fun z => mref e1 ⟨e2, ?_⟩, fun z => ?_, fun z => cH (w := 66) (sp_countOf isW_66 hD I.1.2.2.2.1 ?_), fun z => cH (w := 66) (sp_countOf isW_66 hD I.1.2.2.2.1 ?_), fun z => cH (w := 66) (sp_countOf isW_66 hD I.1.2.2.2.1 ?_), fun z => cH (w := 66) (sp_countOf isW_66 hD I.1.2.2.2.1 ?_), fun z => ?_, fun z => cH (w := 66) (sp_owedInSum isW_66 hD I.1.2.2.2.1 ?_), fun z => mref e1 ⟨e2, ?_⟩, fun z => ?_, fun z => c_ruling ?_, fun z => ?_, fun z0 z1 z2 z3 z4 z5 z6 z7 z8 z9 z10 z11 z12 z13 z14 => ?_⟩
  all_goals try rw [pW_wq]
  · refine K _ (fun R H => ?_)
    rw [e3] at H
    subst z
    refine ⟨fun _ => by rw [e5]; exact H, ?_⟩
    refine ⟨fun q => absurd q (by decide), fun q => absurd q (by decide), fun q => absurd q (by decide), fun q => absurd q (by decide), fun q => absurd q (by decide), fun q => absurd q (by decide), fun q => absurd q (by decide), fun q => absurd q (by decide), fun q => absurd q (by decide), fun q => absurd q (by decide), fun q => absurd q (by decide), fun q => absurd q (by decide), fun q => absurd q (by decide), fun q => absurd q (by decide), fun q => absurd rfl q⟩
  · refine K _ (fun R H => ?_)
    rw [e4] at H
    subst z
    exact ⟨fun q => absurd q (by decide), fun _ => by rw [e6]; exact H, fun q => absurd q (by decide), fun q => absurd q (by decide), fun q => absurd q (by decide), fun q => absurd q (by decide), fun q => absurd q (by decide), fun q => absurd q (by decide), fun q => absurd q (by decide), fun q => absurd q (by decide), fun q => absurd q (by decide), fun q => absurd q (by decide), fun q => absurd q (by decide), fun q => absurd q (by decide), fun q => absurd q (by decide), fun _ q => absurd rfl q⟩
  · refine K _ (fun R H => ?_)
    rw [eD1] at H
    subst z
    exact ⟨fun q => absurd q (by decide), fun q => absurd q (by decide), fun _ => by rw [eD2]; exact H, fun q => absurd q (by decide), fun q => absurd q (by decide), fun q => absurd q (by decide), fun q => absurd q (by decide), fun q => absurd q (by decide), fun q => absurd q (by decide), fun q => absurd q (by decide), fun q => absurd q (by decide), fun q => absurd q (by decide), fun q => absurd q (by decide), fun q => absurd q (by decide), fun q => absurd q (by decide), fun _ _ q => absurd rfl q⟩
  · refine K _ (fun R H => ?_)
    have e := s6.2.2.2.2.1
    rw [wd_at (by decide)] at e
    subst z
    exact ⟨fun q => absurd q (by decide), fun q => absurd q (by decide), fun q => absurd q (by decide), fun _ => by rw [e]; exact H, fun q => absurd q (by decide), fun q => absurd q (by decide), fun q => absurd q (by decide), fun q => absurd q (by decide), fun q => absurd q (by decide), fun q => absurd q (by decide), fun q => absurd q (by decide), fun q => absurd q (by decide), fun q => absurd q (by decide), fun q => absurd q (by decide), fun q => absurd q (by decide), fun _ _ _ q => absurd rfl q⟩
  · refine K _ (fun R H => ?_)
    have e := r.2.2.1
    rw [bk13, wq_at (by decide)] at e
    subst z
    exact ⟨fun q => absurd q (by decide), fun q => absurd q (by decide), fun q => absurd q (by decide), fun q => absurd q (by decide), fun _ => by rw [e]; exact H, fun q => absurd q (by decide), fun q => absurd q (by decide), fun q => absurd q (by decide), fun q => absurd q (by decide), fun q => absurd q (by decide), fun q => absurd q (by decide), fun q => absurd q (by decide), fun q => absurd q (by decide), fun q => absurd q (by decide), fun q => absurd q (by decide), fun _ _ _ _ q => absurd rfl q⟩
  · refine K _ (fun R H => ?_)
    subst z
    exact ⟨fun q => absurd q (by decide), fun q => absurd q (by decide), fun q => absurd q (by decide), fun q => absurd q (by decide), fun q => absurd q (by decide), fun _ => H, fun q => absurd q (by decide), fun q => absurd q (by decide), fun q => absurd q (by decide), fun q => absurd q (by decide), fun q => absurd q (by decide), fun q => absurd q (by decide), fun q => absurd q (by decide), fun q => absurd q (by decide), fun q => absurd q (by decide), fun _ _ _ _ _ q => absurd rfl q⟩
  · refine K _ (fun R H => ?_)
    subst z
    exact ⟨fun q => absurd q (by decide), fun q => absurd q (by decide), fun q => absurd q (by decide), fun q => absurd q (by decide), fun q => absurd q (by decide), fun q => absurd q (by decide), fun _ => H, fun q => absurd q (by decide), fun q => absurd q (by decide), fun q => absurd q (by decide), fun q => absurd q (by decide), fun q => absurd q (by decide), fun q => absurd q (by decide), fun q => absurd q (by decide), fun q => absurd q (by decide), fun _ _ _ _ _ _ q => absurd rfl q⟩
  · refine K _ (fun R H => ?_)
    subst z
    exact ⟨fun q => absurd q (by decide), fun q => absurd q (by decide), fun q => absurd q (by decide), fun q => absurd q (by decide), fun q => absurd q (by decide), fun q => absurd q (by decide), fun q => absurd q (by decide), fun _ => H, fun q => absurd q (by decide), fun q => absurd q (by decide), fun q => absurd q (by decide), fun q => absurd q (by decide), fun q => absurd q (by decide), fun q => absurd q (by decide), fun q => absurd q (by decide), fun _ _ _ _ _ _ _ q => absurd rfl q⟩
  · refine K _ (fun R H => ?_)
    subst z
    exact ⟨fun q => absurd q (by decide), fun q => absurd q (by decide), fun q => absurd q (by decide), fun q => absurd q (by decide), fun q => absurd q (by decide), fun q => absurd q (by decide), fun q => absurd q (by decide), fun q => absurd q (by decide), fun _ => H, fun q => absurd q (by decide), fun q => absurd q (by decide), fun q => absurd q (by decide), fun q => absurd q (by decide), fun q => absurd q (by decide), fun q => absurd q (by decide), fun _ _ _ _ _ _ _ _ q => absurd rfl q⟩
  · obtain ⟨a, ha, ea⟩ := I.1.2.2.2.2.1
    have e12 : hC.1 66 12 = nI a := by rw [wq_at (by decide)] at ea; exact ea
    have h64 : 2 ^ t ≤ 64 := Nat.pow_le_pow_right (j := 6) (by decide) ht
    rw [e12]
    refine sp_bitCount (by omega) (K _ (fun R H => ?_))
    have e := r.2.1
    rw [bk12, ea] at e
    subst z
    exact ⟨fun q => absurd q (by decide), fun q => absurd q (by decide), fun q => absurd q (by decide), fun q => absurd q (by decide), fun q => absurd q (by decide), fun q => absurd q (by decide), fun q => absurd q (by decide), fun q => absurd q (by decide), fun q => absurd q (by decide), fun _ => by rw [e]; exact H, fun q => absurd q (by decide), fun q => absurd q (by decide), fun q => absurd q (by decide), fun q => absurd q (by decide), fun q => absurd q (by decide), fun _ _ _ _ _ _ _ _ _ q => absurd rfl q⟩
  · refine K _ (fun R H => ?_)
    subst z
    exact ⟨fun q => absurd q (by decide), fun q => absurd q (by decide), fun q => absurd q (by decide), fun q => absurd q (by decide), fun q => absurd q (by decide), fun q => absurd q (by decide), fun q => absurd q (by decide), fun q => absurd q (by decide), fun q => absurd q (by decide), fun q => absurd q (by decide), fun _ => H, fun q => absurd q (by decide), fun q => absurd q (by decide), fun q => absurd q (by decide), fun q => absurd q (by decide), fun _ _ _ _ _ _ _ _ _ _ q => absurd rfl q⟩
  · rw [e3]
    refine cH (w := 66) (sp_pursesInSum isW_66 hm ?_)
    rw [pW_wq]
    refine K _ (fun R H => ?_)
    subst z
    exact ⟨fun q => absurd q (by decide), fun q => absurd q (by decide), fun q => absurd q (by decide), fun q => absurd q (by decide), fun q => absurd q (by decide), fun q => absurd q (by decide), fun q => absurd q (by decide), fun q => absurd q (by decide), fun q => absurd q (by decide), fun q => absurd q (by decide), fun q => absurd q (by decide), fun _ => H, fun q => absurd q (by decide), fun q => absurd q (by decide), fun q => absurd q (by decide), fun _ _ _ _ _ _ _ _ _ _ _ q => absurd rfl q⟩
  · refine K _ (fun R H => ?_)
    obtain ⟨c, h1, h2, h3, h4, h5, h6⟩ := gE2
    rw [h2] at H
    subst z
    exact ⟨fun q => absurd q (by decide), fun q => absurd q (by decide), fun q => absurd q (by decide), fun q => absurd q (by decide), fun q => absurd q (by decide), fun q => absurd q (by decide), fun q => absurd q (by decide), fun q => absurd q (by decide), fun q => absurd q (by decide), fun q => absurd q (by decide), fun q => absurd q (by decide), fun q => absurd q (by decide), fun _ => by rw [h3]; exact H, fun q => absurd q (by decide), fun q => absurd q (by decide), fun _ _ _ _ _ _ _ _ _ _ _ _ q => absurd rfl q⟩
  · refine K _ (fun R H => ?_)
    rw [← gE_by gE2] at H
    subst z
    exact ⟨fun q => absurd q (by decide), fun q => absurd q (by decide), fun q => absurd q (by decide), fun q => absurd q (by decide), fun q => absurd q (by decide), fun q => absurd q (by decide), fun q => absurd q (by decide), fun q => absurd q (by decide), fun q => absurd q (by decide), fun q => absurd q (by decide), fun q => absurd q (by decide), fun q => absurd q (by decide), fun q => absurd q (by decide), fun _ => H, fun q => absurd q (by decide), fun _ _ _ _ _ _ _ _ _ _ _ _ _ q => absurd rfl q⟩
  · refine K _ (fun R H => ?_)
    rw [cp1] at H
    subst z
    exact ⟨fun q => absurd q (by decide), fun q => absurd q (by decide), fun q => absurd q (by decide), fun q => absurd q (by decide), fun q => absurd q (by decide), fun q => absurd q (by decide), fun q => absurd q (by decide), fun q => absurd q (by decide), fun q => absurd q (by decide), fun q => absurd q (by decide), fun q => absurd q (by decide), fun q => absurd q (by decide), fun q => absurd q (by decide), fun q => absurd q (by decide), fun _ => by rw [cp2]; exact H, fun _ _ _ _ _ _ _ _ _ _ _ _ _ _ q => absurd rfl q⟩
  · refine K _ (fun R H => ⟨fun q => absurd q z0, fun q => absurd q z1, fun q => absurd q z2, fun q => absurd q z3, fun q => absurd q z4, fun q => absurd q z5, fun q => absurd q z6, fun q => absurd q z7, fun q => absurd q z8, fun q => absurd q z9, fun q => absurd q z10, fun q => absurd q z11, fun q => absurd q z12, fun q => absurd q z13, fun q => absurd q z14, fun _ _ _ _ _ _ _ _ _ _ _ _ _ _ _ => H⟩)
theorem gq_E (g : GQ hC hM sy m t n D0 D) (a : ∀ c k, c < 346 ∨ 352 ≤ c → hC'.1 c k = hC.1 c k) (aR : hC'.2.2 = hC.2.2) (b : ∀ c k, (c = 0 → k ≠ 0 ∧ k ≠ 62 ∧ k ≠ 63) → c ≤ 40 → hM'.1 c k = hM.1 c k) (e : gE hC' hM' D0) : GQ hC' hM' sy m t n D0 D := by
  have hb : ∀ b', bkT hM' b' = bkT hM b' := fun b' => bk_ext (fun c k p e => b c k (fun q => by subst q; unfold adr at e; simp at e) (by
    refine Decidable.byContradiction (fun z => ?_)
    rw [a_off (by omega)] at e
    cases e))
  obtain ⟨g1, g2, g3, g4, g5, g6, g7⟩ := g
  refine ⟨gS_ext (fun c k h1 h2 => a _ _ (by omega)) (by rw [aR]) (by rw [aR]) (fun c k h1 h2 => b _ _ (by omega) (by omega)) g1, gW_ext (fun j k hj => a _ _ (by omega)) (hb _) g2, ?_, gP_ext (fun c k h1 h2 => a _ _ (by omega)) (fun k => by rw [aR]) (b _ _ (by omega) (by omega)) (fun i hi => hb _) g4, e, gT_ext (a _ _ (by omega)) (fun k => a _ _ (by omega)) (b _ _ (by omega) (by omega)) (fun k => b _ _ (by omega) (by omega)) g6, gF_ext (a _ _ (by omega)) (a _ _ (by omega)) (fun k => a _ _ (by omega)) (a _ _ (by omega)) (b _ _ (by omega) (by omega)) (b _ _ (by omega) (by omega)) (b _ _ (by omega) (by omega)) g7⟩
  obtain ⟨i1, i2⟩ := g3
  refine ⟨by rw [a _ _ (by omega), b _ _ (by omega) (by omega)]; exact i1, fun z => ?_⟩
  rw [a _ _ (by omega)] at z
  obtain ⟨D, g⟩ := i2 z
  exact ⟨D, gW_ext (fun j k hj => a _ _ (by omega)) (hb _) g⟩
theorem j_known {x : Int32} (g : GR hC hM) : AW GC l ad d mX9_known 0 [(0, .ref (ad 0)), (1, .int x)] [] hC (qi (jq l' ad' d' adK adV mX10_known [(0, .ref (ad' 0)), (1, .int x)] hM)) := by
  obtain ⟨sy, m, t, n, D0, D, g⟩ := g
  have g2 := g_thr g
  have G : GR hC (sI hM 0 0 0) := ⟨_, _, _, _, _, _, g2⟩
  obtain ⟨c, h1, h2, h3, h4, h5, h6⟩ := g2.2.2.2.2.1
  refine bX9_known_0 _ _ ?_
  rw [h2]
  refine ⟨fun z => ?_, fun z => ⟨fun z2 => ?_, fun z2 => ?_⟩⟩
  · exact bX10_known_0 _ _ ⟨fun _ => ⟨rfl, G⟩, fun q => absurd z q⟩
  · refine bX10_known_0 _ _ ?_
    rw [h3]
    refine ⟨fun q => absurd q z, fun _ => ⟨fun _ => ⟨rfl, ?_⟩, fun q => absurd z2 q⟩⟩
    refine ⟨sy, m, t, n, D0, D, gq_E g2 (fun c k hc => sI_c (by omega)) rfl (fun c k h1 h2 => ?_) ?_⟩
    · by_cases q : c = 0
      · exact sI_k (by have := h1 q; omega)
      · exact sI_c q
    · refine ⟨c, h1, (sI_k (by decide)).trans h2, (sI_k (by decide)).trans h3, sI_s.trans sI_s.symm, ?_, fun k hk => ?_⟩
      · rw [sI_s]
        by_cases q : x < 0
        · left
          have q1 := Int32.lt_iff_toInt_lt.mp q
          have q2 : ¬ x.toInt < (-1 : Int32).toInt := fun w => z (Int32.lt_iff_toInt_lt.mpr w)
          rw [show (0 : Int32).toInt = 0 by decide] at q1
          rw [show (-1 : Int32).toInt = -1 by decide] at q2
          apply Int32.toInt_inj.mp
          rw [show (-1 : Int32).toInt = -1 by decide]; omega
        · right
          obtain ⟨j, hj, rfl⟩ := nI_of q
          exact ⟨j, (nI_leI hj (by omega)).mp z2, rfl⟩
      · exact h6 k hk
  · refine bX10_known_0 _ _ ?_
    rw [h3]
    exact ⟨fun q => absurd q z, fun _ => ⟨fun q => absurd q z2, fun _ => ⟨rfl, G⟩⟩⟩
end CN
