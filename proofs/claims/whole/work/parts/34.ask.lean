/-! ===== calls: man, tusk, oldest, count, see, out, known ===== -/
section AS
variable {adK adV : Nat → Nat} {l l' : Launch} {ad ad' : Nat → Nat} {d d' : Nat} {hC hM h : aH} {sy m t n D0 D : Nat} {ω : wT}
theorem rd (r : RelW m t D ω (bkT h 0)) {i : Nat} (hi : i < D) (hD : D ≤ 8) (j : Nat) (h1 : 3 ≤ j) (h2 : j ≤ 9) : h.1 (27 + j) i = ω j i := by
  have := row r hi j h1 h2
  rw [bkR h1 h2 (by omega), Nat.mul_zero, Nat.zero_add] at this
  exact this
theorem rd1 (r : RelW m t D ω (bkT h 0)) (hm : m ≤ 6) {p : Nat} (hp : p < m) : h.1 27 p = ω 1 p := by
  have := r.2.2.2.2.1 p hp
  rw [bk1 (by omega), Nat.mul_zero, Nat.zero_add] at this
  exact this
theorem rd2 (r : RelW m t D ω (bkT h 0)) (ht : t ≤ 6) {p : Nat} (hp : p < t) : h.1 28 p = ω 2 p := by
  have := r.2.2.2.2.2.1 p hp
  rw [bk2 (by omega), Nat.mul_zero, Nat.zero_add] at this
  exact this
theorem rdK (wf : WFw m t D ω) (r : RelW m t D ω (bkT h 0)) {p : Nat} (hp : p < t) : h.1 29 p = knByS ω p D := by
  have := knBy_eq wf r hp
  have ht := wf.2.1
  rw [bkK (by omega), Nat.mul_zero, Nat.zero_add] at this
  exact this.symm
theorem m_netOf {R : Int32 → aH → Prop} {x : Int32} (I : Inv m t D ω) (r : RelW m t D ω (bkT h 0)) (N : InvN D ω) (H : R (netS ω x D) h) : AW (GM adK adV) l ad (d + 1) mX10_netOf 0 [(0, .ref (ad 0)), (1, .int x)] [] h (qi R) := by
  have hD := I.1.2.2.1
  have e25 : h.1 25 0 = nI D := r.1
  refine bX10_netOf_0 _ _ (up_ind (P := fun i => AW (GM adK adV) l ad (d + 1) mX10_netOf 4 [(0, .ref (ad 0)), (1, .int x), (2, .int (netS ω x i)), (3, .int (nI i))] [] h (qi R)) D ?_ (fun i hi ih => ?_))
  · refine bX10_netOf_4 _ _ _ _ ⟨fun _ => H, fun z => absurd ?_ z⟩
    rw [e25]; exact Int32.le_refl _
  · refine bX10_netOf_4 _ _ _ _ ?_
    rw [e25]
    refine ⟨fun z => absurd z (nI_ge hi (by omega)), fun _ => mH (b := 0) (m_isOpen (b := 0) (by decide) (by omega) ?_)⟩
    rw [pB_bk, row r hi 8 (by decide) (by decide), nI_1, nI_clamp (by omega), rd r hi hD 3 (by decide) (by decide), rd r hi hD 9 (by decide) (by decide)]
    have e0 : netS ω x (i + 1) = if ω 3 i = x then netS ω x i + ω 9 i else if ω 4 i = x then netS ω x i - ω 9 i else netS ω x i := rfl
    rw [e0] at ih
    by_cases h8 : ω 8 i = 1
    · rw [if_pos h8]
      have K : ∀ s0, (netS ω x i + s0) - (if ω 4 i = x then ω 9 i else 0) = (if ω 3 i = x then netS ω x i + ω 9 i else if ω 4 i = x then netS ω x i - ω 9 i else netS ω x i) → AW (GM adK adV) l ad (d + 1) mX10_netOf 47 [(0, .ref (ad 0)), (1, .int x), (3, .int (nI i))] [.int s0, .int (netS ω x i)] h (qi R) := by
        intro s0 es
        refine bX10_netOf_47 _ _ _ _ _ ⟨vp_in_nI (by omega) (by omega), fun t2 e2 => ?_⟩
        rw [nI_clamp (by omega), rd r hi hD 4 (by decide) (by decide), rd r hi hD 9 (by decide) (by decide)] at e2
        rw [e2, es, nI_1]
        exact ih
      refine ⟨fun _ => ⟨vp_in_nI (by omega) (by omega), fun z => ?_, fun z => ?_⟩, fun z => absurd z (by decide)⟩
      · refine K 0 ?_
        rw [if_neg z, Int32.add_zero]
        split
        · rfl
        · exact Int32.sub_zero _
      · refine K _ ?_
        have : ¬ ω 4 i = x := fun q => (N i hi).1 (z.trans q.symm)
        rw [if_pos z, if_neg this, Int32.sub_zero]
    · rw [if_neg h8]
      rw [((I.2.1.1 i hi).2 h8).1, Int32.add_zero, Int32.sub_zero] at ih
      refine ⟨fun z => absurd rfl z, fun _ => ?_⟩
      split at ih
      · exact ih
      · split at ih
        · exact ih
        · exact ih
theorem j_man {x y : Int32} (g : GR hC hM) : AW GC l ad (d + 1) mX9_man 0 [(0, .ref (ad 0)), (1, .int x), (2, .int y)] [] hC (qi (jq l' ad' (d' + 2) adK adV mX10_man [(0, .ref (ad' 0)), (1, .int x), (2, .int y)] hM)) := by
  obtain ⟨sy, m, t, n, D0, D, g⟩ := g
  have g2 := g_thr g
  have G : GR hC (sI hM 0 0 0) := ⟨_, _, _, _, _, _, g2⟩
  obtain ⟨e1, e2, e3, e4, e5, e6, hm, ht, hD⟩ := g_S g2
  obtain ⟨I, r, N⟩ := g2.2.1
  refine bX9_man_0 _ _ _ (c_isMan g ?_)
  cases hx : isIn x m
  · refine ⟨fun _ => ?_, fun z => absurd rfl z⟩
    refine bX10_man_0 _ _ _ (m_isMan g2 ?_)
    rw [hx]
    exact ⟨fun _ => ⟨rfl, G⟩, fun z => absurd rfl z⟩
  · obtain ⟨p, hp, rfl⟩ := isIn_of (by omega) hx
    refine ⟨fun z => absurd z (by decide), fun _ => ⟨fun z => ?_, fun z => ⟨fun z2 => ⟨fun z3 => ?_, fun z3 => ?_⟩, fun z2 => ?_⟩⟩⟩
    · refine bX10_man_0 _ _ _ (m_isMan g2 ?_)
      rw [hx]
      exact ⟨fun z => absurd z (by decide), fun _ => ⟨fun _ => ⟨rfl, G⟩, fun q => absurd z q⟩⟩
    · refine cH (w := 66) (sp_netOf isW_66 hD I.1.2.2.2.1 ?_)
      rw [pW_wq]
      refine bX10_man_0 _ _ _ (m_isMan g2 ?_)
      rw [hx]
      exact ⟨fun z => absurd z (by decide), fun _ => ⟨fun q => absurd q z, fun _ => ⟨fun _ => ⟨fun _ => m_netOf I r N ⟨rfl, G⟩, fun q => absurd q z3⟩, fun q => absurd z2 q⟩⟩⟩
    · refine cH (w := 66) (sp_purseOf isW_66 (by omega) ?_)
      rw [pW_wq]
      refine bX10_man_0 _ _ _ (m_isMan g2 ?_)
      rw [hx]
      refine ⟨fun z => absurd z (by decide), fun _ => ⟨fun q => absurd q z, fun _ => ⟨fun _ => ⟨fun q => absurd z3 q, fun _ => ⟨vp_in_nI (by omega) (by omega), ?_, G⟩⟩, fun q => absurd z2 q⟩⟩⟩
      rw [nI_clamp (by omega)]
      exact rd1 r hm hp
    · refine bX10_man_0 _ _ _ (m_isMan g2 ?_)
      rw [hx]
      exact ⟨fun z => absurd z (by decide), fun _ => ⟨fun q => absurd q z, fun _ => ⟨fun q => absurd q z2, fun _ => ⟨rfl, G⟩⟩⟩⟩
theorem m_aloneOf {R : Int32 → aH → Prop} {e : Nat} {σ : wT} (C : MC h σ m t n) (wf : WFw m t D ω) (r : RelW m t D ω (bkT h 0)) (H : R (onlyS ω e D) h) : AW (GM adK adV) l ad (d + 1) mX10_aloneOf 0 [(0, .ref (ad 0)), (1, .int (nI e))] [] h (qi R) := by
  have hD := wf.2.2.1
  have e25 : h.1 25 0 = nI D := r.1
  refine bX10_aloneOf_0 _ _ (up_ind (P := fun i => AW (GM adK adV) l ad (d + 1) mX10_aloneOf 4 [(0, .ref (ad 0)), (1, .int (nI e)), (2, .int (onlyS ω e i)), (3, .int (nI i))] [] h (qi R)) D ?_ (fun i hi ih => ?_))
  · refine bX10_aloneOf_4 _ _ _ _ ⟨fun _ => H, fun z => absurd ?_ z⟩
    rw [e25]; exact Int32.le_refl _
  · refine bX10_aloneOf_4 _ _ _ _ ?_
    rw [e25]
    refine ⟨fun z => absurd z (nI_ge hi (by omega)), fun _ => mH (b := 0) (m_knowers (b := 0) C (by decide) wf r hi (fun t3 e3 => ?_))⟩
    rw [pB_bk, nI_1, e3]
    have e0 : onlyS ω e (i + 1) = if ω 11 i = ((1 : Int32) <<< (nI e &&& 31)) then onlyS ω e i ||| ((1 : Int32) <<< (nI i &&& 31)) else onlyS ω e i := rfl
    rw [e0] at ih
    split
    · rename_i z
      rw [if_pos z] at ih; exact ih
    · rename_i z
      rw [if_neg z] at ih; rw [Int32.or_zero]; exact ih
theorem j_tusk {x y : Int32} (g : GR hC hM) : AW GC l ad (d + 1) mX9_tusk 0 [(0, .ref (ad 0)), (1, .int x), (2, .int y)] [] hC (qi (jq l' ad' (d' + 2) adK adV mX10_tusk [(0, .ref (ad' 0)), (1, .int x), (2, .int y)] hM)) := by
  obtain ⟨sy, m, t, n, D0, D, g⟩ := g
  have g2 := g_thr g
  have G : GR hC (sI hM 0 0 0) := ⟨_, _, _, _, _, _, g2⟩
  obtain ⟨e1, e2, e3, e4, e5, e6, hm, ht, hD⟩ := g_S g2
  obtain ⟨I, r, N⟩ := g2.2.1
  have C := g2.1.2.2.2.2.1
  refine bX9_tusk_0 _ _ _ (c_isTusk g ?_)
  cases hx : isIn x t
  · refine ⟨fun z => absurd rfl z, fun _ => ?_⟩
    refine bX10_tusk_0 _ _ _ (m_isTusk g2 ?_)
    rw [hx]
    exact ⟨fun z => absurd rfl z, fun _ => ⟨rfl, G⟩⟩
  · obtain ⟨p, hp, rfl⟩ := isIn_of (by omega) hx
    have K : ∀ Z : Int32, ((y = (0 : Int32) → (vp_in (nI p) 138 ∧ ((sI hM 0 0 0).1 28 (nI p).toNatClampNeg) = Z)) ∧ ((y = (1 : Int32) → (vp_in (nI p) 12 ∧ ((sI hM 0 0 0).1 7 (nI p).toNatClampNeg) = Z)) ∧ ((y = (2 : Int32) → (((((sI hM 0 0 0).1 26 0) >>> (nI p &&& 31)) &&& (1 : Int32)) = Z)) ∧ ((y = (3 : Int32) → (vp_in (nI p) 138 ∧ ((sI hM 0 0 0).1 29 (nI p).toNatClampNeg) = Z)) ∧ ((y = (4 : Int32) → onlyS (wq hC 66) p D = Z) ∧ (¬ y = (0 : Int32) → ¬ y = (1 : Int32) → ¬ y = (2 : Int32) → ¬ y = (3 : Int32) → ¬ y = (4 : Int32) → -1 = Z)))))) → jq l' ad' (d' + 2) adK adV mX10_tusk [(0, .ref (ad' 0)), (1, .int (nI p)), (2, .int y)] hM Z hC := by
      intro Z k
      obtain ⟨k0, k1, k2, k3, k4, k5⟩ := k
      refine bX10_tusk_0 _ _ _ (m_isTusk g2 ?_)
      rw [hx]
      refine ⟨fun _ => ⟨fun q => ⟨(k0 q).1, (k0 q).2, G⟩, fun q => ⟨(k1 q).1, (k1 q).2, G⟩, fun q => ⟨k2 q, G⟩, fun q => ⟨(k3 q).1, (k3 q).2, G⟩, fun q => ?_, fun q0 q1 q2 q3 q4 => ⟨k5 q0 q1 q2 q3 q4, G⟩⟩, fun z => absurd z (by decide)⟩
      exact m_aloneOf C I.1 r ⟨k4 q, G⟩
    have ne : ∀ {a b : Int32}, y = a → y = b → a ≠ b → False := fun h1 h2 h3 => h3 (h1.symm.trans h2)
    refine ⟨fun _ => ⟨fun z => ⟨vp_in_nI (by omega) (by omega), K _ ?_⟩, fun z => mref e1 ⟨e2, vp_in_nI (by omega) (by omega), K _ ?_⟩, fun z => cH (w := 66) (sp_isAlive isW_66 (by omega) ?_), fun z => cH (w := 66) (sp_debtsKnownBy isW_66 hD I.1.2.2.2.1 ?_), fun z => cH (w := 66) (sp_debtsKnownOnlyBy isW_66 hD I.1.2.2.2.1 ?_), fun z0 z1 z2 z3 z4 => K _ ?_⟩, fun z => absurd z (by decide)⟩
    · rw [nI_clamp (by omega)]
      refine ⟨fun _ => ⟨vp_in_nI (by omega) (by omega), ?_⟩, fun q => (ne z q (by decide)).elim, fun q => (ne z q (by decide)).elim, fun q => (ne z q (by decide)).elim, fun q => (ne z q (by decide)).elim, fun q => absurd z q⟩
      rw [rd2 r ht hp, wq_at (by decide)]
    · rw [nI_clamp (by omega)]
      refine ⟨fun q => (ne z q (by decide)).elim, fun _ => ⟨vp_in_nI (by omega) (by omega), ?_⟩, fun q => (ne z q (by decide)).elim, fun q => (ne z q (by decide)).elim, fun q => (ne z q (by decide)).elim, fun _ q => absurd z q⟩
      rw [(C.2.2.2.2.1 p hp).1, wd_at (by decide)]
    · rw [pW_wq]
      have hal : (((sI hM 0 0 0).1 26 0) >>> (nI p &&& 31)) &&& (1 : Int32) = if bt (wq hC 66 0 12) p then 1 else 0 := by
        rw [bt_shr _ (by omega)]
        have := r.2.1
        rw [bk12] at this
        rw [this]
      refine ⟨fun q => K _ ?_, fun q => K _ ?_⟩
      · refine ⟨fun q => (ne z q (by decide)).elim, fun q => (ne z q (by decide)).elim, fun _ => ?_, fun q => (ne z q (by decide)).elim, fun q => (ne z q (by decide)).elim, fun _ _ q => absurd z q⟩
        rw [hal]; exact q
      · refine ⟨fun q => (ne z q (by decide)).elim, fun q => (ne z q (by decide)).elim, fun _ => ?_, fun q => (ne z q (by decide)).elim, fun q => (ne z q (by decide)).elim, fun _ _ q => absurd z q⟩
        rw [hal]
        cases hb : bt (wq hC 66 0 12) p
        · rw [hb] at q; exact absurd rfl q
        · rfl
    · rw [pW_wq]
      refine K _ ⟨fun q => (ne z q (by decide)).elim, fun q => (ne z q (by decide)).elim, fun q => (ne z q (by decide)).elim, fun _ => ⟨vp_in_nI (by omega) (by omega), ?_⟩, fun q => (ne z q (by decide)).elim, fun _ _ _ q => absurd z q⟩
      rw [nI_clamp (by omega)]
      exact rdK I.1 r hp
    · rw [pW_wq]
      exact K _ ⟨fun q => (ne z q (by decide)).elim, fun q => (ne z q (by decide)).elim, fun q => (ne z q (by decide)).elim, fun q => (ne z q (by decide)).elim, fun _ => rfl, fun _ _ _ _ q => absurd z q⟩
    · exact ⟨fun q => absurd q z0, fun q => absurd q z1, fun q => absurd q z2, fun q => absurd q z3, fun q => absurd q z4, fun _ _ _ _ _ => rfl⟩
theorem j_oldest {x : Int32} (g : GR hC hM) : AW GC l ad (d + 1) mX9_oldest 0 [(0, .ref (ad 0)), (1, .int x)] [] hC (qi (jq l' ad' (d' + 3) adK adV mX10_oldest [(0, .ref (ad' 0)), (1, .int x)] hM)) := by
  obtain ⟨sy, m, t, n, D0, D, g⟩ := g
  have g2 := g_thr g
  have G : GR hC (sI hM 0 0 0) := ⟨_, _, _, _, _, _, g2⟩
  obtain ⟨e1, e2, e3, e4, e5, e6, hm, ht, hD⟩ := g_S g2
  obtain ⟨I, r, N⟩ := g2.2.1
  have C := g2.1.2.2.2.2.1
  refine bX9_oldest_0 _ _ (c_isDebt g ?_)
  cases hx : isIn x D
  · refine ⟨fun z => absurd rfl z, fun _ => bX10_oldest_0 _ _ (m_isDebt g2 ?_)⟩
    rw [hx]
    exact ⟨fun z => absurd rfl z, fun _ => ⟨rfl, G⟩⟩
  · obtain ⟨i, hi, rfl⟩ := isIn_of (by omega) hx
    refine ⟨fun _ => cH (w := 66) (sp_oldestOf isW_66 (by omega) ?_), fun z => absurd z (by decide)⟩
    rw [pW_wq]
    refine ⟨fun z => ?_, fun z => ?_⟩
    · refine bX10_oldest_0 _ _ (m_isDebt g2 ?_)
      rw [hx]
      refine ⟨fun _ => mH (b := 0) (m_oldestOf (b := 0) C (by decide) I.1 r I.2.1 hi ?_), fun z => absurd z (by decide)⟩
      rw [pB_bk]
      exact ⟨fun _ => ⟨rfl, G⟩, fun q => absurd q z⟩
    · refine bX10_oldest_0 _ _ (m_isDebt g2 ?_)
      rw [hx]
      refine ⟨fun _ => mH (b := 0) (m_oldestOf (b := 0) C (by decide) I.1 r I.2.1 hi ?_), fun z => absurd z (by decide)⟩
      rw [pB_bk]
      exact ⟨fun q => absurd z q, fun _ => ⟨rfl, G⟩⟩
end AS
