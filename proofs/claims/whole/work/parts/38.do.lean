/-! ===== calls: gift, pay, lean, go, undo, image, back ===== -/
section DO
variable {adK adV : Nat → Nat} {l l' : Launch} {ad ad' : Nat → Nat} {d d' b : Nat} {hC hM hC' hM' h : aH} {sy m t n D0 D : Nat} {ω β : wT}
theorem g_P (g : GQ hC hM sy m t n D0 D) : ∃ c, c ≤ 20 ∧ hC.1 102 1 = nI c ∧ hM.1 0 53 = nI c ∧ PRf hC := by
  obtain ⟨-, -, -, ⟨P, c, h1, h2, h3, h4⟩, -⟩ := g
  exact ⟨c, h1, h2, h3, P⟩
theorem j_gift {x y : Int32} (g : GR hC hM) : AW GC l ad (d + 3) mX9_gift 0 [(0, .ref (ad 0)), (1, .int x), (2, .int y)] [] hC (qi (jq l' ad' (d' + 2) adK adV mX10_gift [(0, .ref (ad' 0)), (1, .int x), (2, .int y)] hM)) := by
  obtain ⟨sy, m, t, n, D0, D, g⟩ := g
  have g2 := g_thr g
  have G : GR hC (sI hM 0 0 0) := ⟨_, _, _, _, _, _, g2⟩
  obtain ⟨e1, e2, e3, e4, e5, e6, hm, ht, hD⟩ := g_S g2
  obtain ⟨I, r, N⟩ := g2.2.1
  refine bX9_gift_0 _ _ _ (c_isMan g ?_)
  cases hx : isIn x m
  · refine ⟨fun _ => bX10_gift_0 _ _ _ (m_isMan g2 ?_), fun z => absurd rfl z⟩
    rw [hx]
    exact ⟨fun _ => ⟨rfl, G⟩, fun z => absurd rfl z⟩
  · obtain ⟨p, hp, rfl⟩ := isIn_of (by omega) hx
    refine ⟨fun z => absurd z (by decide), fun _ => ⟨fun z => ?_, fun z => ⟨fun z2 => ?_, fun z2 => cH (w := 66) (sp_purseOf isW_66 (by omega) ?_)⟩⟩⟩
    · refine bX10_gift_0 _ _ _ (m_isMan g2 ?_)
      rw [hx]
      exact ⟨fun z => absurd z (by decide), fun _ => ⟨fun _ => ⟨rfl, G⟩, fun q => absurd z q⟩⟩
    · refine bX10_gift_0 _ _ _ (m_isMan g2 ?_)
      rw [hx]
      exact ⟨fun z => absurd z (by decide), fun _ => ⟨fun q => absurd q z, fun _ => ⟨fun _ => ⟨rfl, G⟩, fun q => absurd z2 q⟩⟩⟩
    · rw [pW_wq]
      refine ⟨fun z3 => ?_, fun z3 => ?_⟩
      · obtain ⟨c, c1, c2, c3, P⟩ := g_P g2
        refine sp_store c2 c1 P (fun hC' ps => ?_)
        refine cH (w := 66) (sp_earn isW_66 (by omega) (sp_purseOf isW_66 (by omega) ?_))
        rw [u2_s]
        refine bX10_gift_0 _ _ _ (m_isMan g2 ?_)
        rw [hx, nI_clamp (by omega), rd1 r hm hp]
        refine ⟨fun z => absurd z (by decide), fun _ => ⟨fun q => absurd q z, fun _ => ⟨fun q => absurd q z2, fun _ => ⟨vp_in_nI (by omega) (by omega), fun _ => ?_, fun q => absurd z3 q⟩⟩⟩⟩
        refine m_keepNow c3 c1 (fun hM' kn => ?_)
        have g3 := gq_store g2 c2 c1 ps kn
        obtain ⟨I3, r3, N3⟩ := g3.2.1
        have e27 : hM'.1 27 p = wq hC' 66 1 p := rd1 r3 hm hp
        rw [sI_s, e27]
        refine ⟨rfl, sy, m, t, n, D0, D, ?_⟩
        have em : sI hM' 27 p (wq hC' 66 1 p + y) = pB hM' 0 (u2 (bkT hM' 0) 1 p (wq hC' 66 1 p + y)) := by
          have := sI_pB (h := hM') (b := 0) (β := bkT hM' 0) (v := wq hC' 66 1 p + y) (a27 (b := 0) (p := p) (by omega))
          rw [pB_bk, Nat.mul_zero, Nat.zero_add] at this
          exact this
        rw [em]
        refine gq_now g3 (kC0_pW (J := hC'.2.1)) kM0_pB1 (gN_mk (inv_u I3 (Or.inl rfl)) (rel_p r3) (fun q hq => ?_))
        unfold O9
        rw [u2_j (by decide), u2_j (by decide), u2_j (by decide), u2_j (by decide), u2_j (by decide)]
        exact N3 q hq
      · refine bX10_gift_0 _ _ _ (m_isMan g2 ?_)
        rw [hx, nI_clamp (by omega), rd1 r hm hp]
        exact ⟨fun z => absurd z (by decide), fun _ => ⟨fun q => absurd q z, fun _ => ⟨fun q => absurd q z2, fun _ => ⟨vp_in_nI (by omega) (by omega), fun q => absurd q z3, fun _ => ⟨rfl, G⟩⟩⟩⟩⟩
theorem j_pay {x : Int32} (g : GR hC hM) : AW GC l ad (d + 3) mX9_pay 0 [(0, .ref (ad 0)), (1, .int x)] [] hC (qi (jq l' ad' (d' + 2) adK adV mX10_pay [(0, .ref (ad' 0)), (1, .int x)] hM)) := by
  obtain ⟨sy, m, t, n, D0, D, g⟩ := g
  have g2 := g_thr g
  have G : GR hC (sI hM 0 0 0) := ⟨_, _, _, _, _, _, g2⟩
  obtain ⟨e1, e2, e3, e4, e5, e6, hm, ht, hD⟩ := g_S g2
  obtain ⟨I, r, N⟩ := g2.2.1
  refine bX9_pay_0 _ _ (c_isDebt g ?_)
  cases hx : isIn x D
  · refine ⟨fun z => absurd rfl z, fun _ => bX10_pay_0 _ _ (m_isDebt g2 ?_)⟩
    rw [hx]
    exact ⟨fun z => absurd rfl z, fun _ => ⟨rfl, G⟩⟩
  · obtain ⟨i, hi, rfl⟩ := isIn_of (by omega) hx
    obtain ⟨q, hq, eq⟩ := (I.1.2.2.2.2.2 i hi).2.1
    have e8 : hC.1 74 i = wq hC 66 8 i := (wq_at (w := 66) (j := 8) (by decide)).symm
    rw [nI_clamp (by omega), e8]
    have M0 : hasB (wq hC 66) i = false → ∀ z : Int32, z = -2 → jq l' ad' (d' + 2) adK adV mX10_pay [(0, .ref (ad' 0)), (1, .int (nI i))] hM z hC := by
      intro hb z ez
      refine bX10_pay_0 _ _ (m_isDebt g2 ?_)
      rw [hx]
      refine ⟨fun _ => mH (b := 0) (m_hasIt (b := 0) (by decide) I.1 r hi ?_), fun z => absurd z (by decide)⟩
      rw [hb, pB_bk]
      exact ⟨fun z => absurd rfl z, fun _ => ⟨ez.symm, G⟩⟩
    refine ⟨fun _ => ⟨vp_in_nI (by omega) (by omega), fun z => M0 ?_ _ rfl, fun z => cH (w := 66) (sp_isInPurse isW_66 (by omega) (by omega) eq ?_)⟩, fun z => absurd z (by decide)⟩
    · unfold hasB; rw [decide_eq_false z]; rfl
    · rw [pW_wq]
      by_cases z2 : wq hC 66 1 q < wq hC 66 9 i
      · rw [if_pos z2]
        refine ⟨fun z => absurd rfl z, fun _ => M0 ?_ _ rfl⟩
        unfold hasB
        rw [eq, ix_nI (by omega), show decide (¬ wq hC 66 1 q < wq hC 66 9 i) = false from decide_eq_false (fun w => w z2), Bool.and_false]
      · rw [if_neg z2]
        refine ⟨fun _ => ?_, fun z => absurd z (by decide)⟩
        have hb : hasB (wq hC 66) i = true := by
          unfold hasB
          rw [eq, ix_nI (by omega), decide_eq_true z2, decide_eq_true z]; rfl
        obtain ⟨c, c1, c2, c3, P⟩ := g_P g2
        refine sp_store c2 c1 P (fun hC' ps => ?_)
        -- the reference's now is what it was
        have M1 : ∀ (R : Int32 → aH → Prop), (∀ hM', KNt (sI hM 0 0 0) hM' c → AW (GM adK adV) l' ad' (d' + 1) mX10_pays 0 [(0, .ref (ad' 0)), (1, .int 0), (2, .int (nI i))] [] hM' (qi R)) → AW (GM adK adV) l' ad' (d' + 2) mX10_pay 0 [(0, .ref (ad' 0)), (1, .int (nI i))] [] hM (qi R) := by
          intro R k
          refine bX10_pay_0 _ _ (m_isDebt g2 ?_)
          rw [hx]
          refine ⟨fun _ => mH (b := 0) (m_hasIt (b := 0) (by decide) I.1 r hi ?_), fun z => absurd z (by decide)⟩
          rw [hb, pB_bk]
          exact ⟨fun _ => m_keepNow c3 c1 k, fun z => absurd z (by decide)⟩
        have ps' := ps
        obtain ⟨c1', -, -, -, -, -, -, p7, -, -, -⟩ := ps'
        have e66 : wq hC' 66 = wq hC 66 := wq_ext (fun j k hj => p7 _ _ (by omega))
        obtain ⟨a, ha, ea⟩ := (I.1.2.2.2.2.2 i hi).1
        refine cH (w := 66) ?_
        rw [e66]
        refine sp_settle isW_66 (by omega) (by omega) (by omega) ea eq ?_
        refine M1 _ (fun hM' kn => ?_)
        have g3 := gq_store g2 c2 c1 ps kn
        obtain ⟨I3, r3, N3⟩ := g3.2.1
        rw [e66] at I3 r3 N3
        refine mH (b := 0) (m_pays (b := 0) (by decide) I3.1 r3 hi (fun β' r' => ?_))
        rw [ea, eq, ix_nI (by omega), ix_nI (by omega)] at r'
        refine ⟨?_, sy, m, t, n, D0, D, ?_⟩
        · have : hC'.1 75 i = wq hC' 66 9 i := (wq_at (w := 66) (j := 9) (by decide)).symm
          rw [this, e66]
        · refine gq_now g3 (kC0_pW (J := hC'.2.1)) kM0_pB1 (gN_mk (inv_settle I3) r' (fun q hq => ?_))
          rw [s34 (Or.inl rfl), s34 (Or.inr rfl)]
          exact ⟨(N3 q hq).1, t8_nn (t8_settle z) (N3 q hq).2.1, p9_settle q (N3 q hq).2.2⟩
end DO
