/-! ===== calls ahead: tried, chance ===== -/
section TD
variable {adK adV : Nat → Nat} {l l' : Launch} {ad ad' : Nat → Nat} {d d' b : Nat} {hC hM hC' hM' h : aH} {sy m t n D0 D : Nat} {ω β : wT} {way deaf : Int32}
theorem fg_0 {ω : wT} : fgW ω 0 = ω := by
  funext j k
  rw [fgW_at]
  split
  · rename_i q
    rw [q.1]
    refine bt_ext (fun i hi => ?_)
    rw [bt_and, bt_not _ hi, bt_0]
    simp
  · rfl
theorem rel_deaf (ht : t ≤ 6) (hD : D ≤ 8) (r : RelW m t D ω β) {e : Nat} (he : e < t) : RelW m t D (fgW ω ((1 : Int32) <<< (nI e &&& 31))) (u2 β 12 e 0) := by
  refine rel_kn r (fun j k hj => fgW_off hj) (fun j k hj => u2_j hj) (fun q hq => ?_)
  obtain ⟨a1, a2⟩ := r.2.2.2.2.2.2.2 q hq
  by_cases z : q = e
  · subst z
    refine ⟨⟨0, Nat.two_pow_pos _, by rw [u2_s]; rfl⟩, fun i hi => ?_⟩
    rw [u2_s, bt_0, fgW_at, if_pos ⟨rfl, by omega⟩, bt_and, bt_not _ (by omega), bt_one (by omega) (by omega)]
    simp
  · refine ⟨by rw [u2_k z]; exact a1, fun i hi => ?_⟩
    rw [u2_k z, a2 i hi, fgW_at, if_pos ⟨rfl, by omega⟩, bt_and, bt_not _ (by omega), bt_one (by omega) (by omega)]
    simp [z]
/-- all that live know all that is open -/
theorem tell_at : ∀ n (ω : wT) (j k : Nat), itR (fun i ω => if ω 8 i = 1 then u2 ω 11 i (ω 0 12) else ω) n ω j k = if j = 11 ∧ k < n ∧ ω 8 k = 1 then ω 0 12 else ω j k
  | 0, ω, j, k => by rw [if_neg (fun z => absurd z.2.1 (Nat.not_lt_zero _))]; rfl
  | n + 1, ω, j, k => by
    have ih := tell_at n ω
    have e8 : itR (fun i ω => if ω 8 i = 1 then u2 ω 11 i (ω 0 12) else ω) n ω 8 n = ω 8 n := by rw [ih 8 n, if_neg (fun z => absurd z.1 (by decide))]
    have e0 : itR (fun i ω => if ω 8 i = 1 then u2 ω 11 i (ω 0 12) else ω) n ω 0 12 = ω 0 12 := by rw [ih 0 12, if_neg (fun z => absurd z.1 (by decide))]
    show (if itR (fun i ω => if ω 8 i = 1 then u2 ω 11 i (ω 0 12) else ω) n ω 8 n = 1 then u2 (itR (fun i ω => if ω 8 i = 1 then u2 ω 11 i (ω 0 12) else ω) n ω) 11 n (itR (fun i ω => if ω 8 i = 1 then u2 ω 11 i (ω 0 12) else ω) n ω 0 12) else itR (fun i ω => if ω 8 i = 1 then u2 ω 11 i (ω 0 12) else ω) n ω) j k = _
    rw [e8, e0]
    by_cases z : ω 8 n = 1
    · rw [if_pos z]
      by_cases z2 : j = 11 ∧ k = n
      · rw [z2.1, z2.2, u2_s, if_pos ⟨rfl, by omega, z⟩]
      · unfold u2
        rw [if_neg z2]
        show itR (fun i ω => if ω 8 i = 1 then u2 ω 11 i (ω 0 12) else ω) n ω j k = _
        rw [ih j k]
        by_cases z3 : j = 11 ∧ k < n ∧ ω 8 k = 1
        · rw [if_pos z3, if_pos ⟨z3.1, by omega, z3.2.2⟩]
        · rw [if_neg z3, if_neg (fun q => z3 ⟨q.1, by omega, q.2.2⟩)]
    · rw [if_neg z, ih j k]
      by_cases z3 : j = 11 ∧ k < n ∧ ω 8 k = 1
      · rw [if_pos z3, if_pos ⟨z3.1, by omega, z3.2.2⟩]
      · rw [if_neg z3, if_neg (fun q => z3 ⟨q.1, by
          have : k ≠ n := fun w => z (by rw [← w]; exact q.2.2)
          omega, q.2.2⟩)]
theorem inv_tell (I : Inv m t D ω) : ∀ n, n ≤ D → Inv m t D (itR (fun i ω => if ω 8 i = 1 then u2 ω 11 i (ω 0 12) else ω) n ω)
  | 0, _ => I
  | n + 1, hn => by
    have J := inv_tell I n (by omega)
    show Inv m t D (if itR _ n ω 8 n = 1 then u2 (itR _ n ω) 11 n (itR _ n ω 0 12) else itR _ n ω)
    split
    · rename_i z
      exact inv_11 J (fun _ => z) (fun _ => J.1.2.2.2.2.1) (fun _ e he q => q)
    · exact J
/-- the reference's telling: debts ahead of i told, of i to the elephants ahead of e -/
def TLB (ω β0 β : wT) (t D i e : Nat) : Prop := (∀ j k, j ≠ 12 → β j k = β0 j k) ∧ ∀ q, q < t → (∃ k, k < 2 ^ D ∧ β 12 q = nI k) ∧ ∀ p, p < D → bt (β 12 q) p = (bt (ω 11 p) q || (decide (ω 8 p = 1) && bt (ω 0 12) q && decide (p < i ∨ p = i ∧ q < e)))
theorem tl_start (r : RelW m t D ω β) : TLB ω β β t D 0 0 := by
  refine ⟨fun _ _ _ => rfl, fun q hq => ?_⟩
  obtain ⟨a1, a2⟩ := r.2.2.2.2.2.2.2 q hq
  refine ⟨a1, fun p hp => ?_⟩
  rw [a2 p hp, show decide (p < 0 ∨ p = 0 ∧ q < 0) = false from decide_eq_false (by omega), Bool.and_false, Bool.or_false]
theorem tl_next {β0 : wT} {i : Nat} (T : TLB ω β0 β t D i t) : TLB ω β0 β t D (i + 1) 0 := by
  refine ⟨T.1, fun q hq => ⟨(T.2 q hq).1, fun p hp => ?_⟩⟩
  rw [(T.2 q hq).2 p hp]
  congr 2
  exact decide_eq_decide.mpr (by omega)
theorem tl_skip {β0 : wT} {i e : Nat} (T : TLB ω β0 β t D i e) (hz : ω 8 i = 1 → bt (ω 0 12) e = false) : TLB ω β0 β t D i (e + 1) := by
  refine ⟨T.1, fun q hq => ⟨(T.2 q hq).1, fun p hp => ?_⟩⟩
  rw [(T.2 q hq).2 p hp]
  by_cases z : p = i ∧ q = e
  · obtain ⟨rfl, rfl⟩ := z
    by_cases z8 : ω 8 p = 1
    · rw [hz z8]; simp
    · rw [decide_eq_false z8]; simp
  · congr 2
    exact decide_eq_decide.mpr (by omega)
theorem tl_learn {β0 : wT} {i e : Nat} (hD : D ≤ 8) (T : TLB ω β0 β t D i e) (hi : i < D) (h8 : ω 8 i = 1) (ha : bt (ω 0 12) e = true) : TLB ω β0 (u2 β 12 e (β 12 e ||| ((1 : Int32) <<< (nI i &&& 31)))) t D i (e + 1) := by
  refine ⟨fun j k hj => (u2_j hj).trans (T.1 j k hj), fun q hq => ?_⟩
  obtain ⟨⟨a, ha1, ha2⟩, a2⟩ := T.2 q hq
  by_cases z : q = e
  · subst z
    rw [u2_s]
    refine ⟨⟨a ||| 2 ^ i, Nat.or_lt_two_pow ha1 (Nat.pow_lt_pow_right (by decide) hi), ?_⟩, fun p hp => ?_⟩
    · rw [ha2, n_one i (by omega), n_or]
    · rw [bt_or, a2 p hp, bt_one (by omega) (by omega)]
      by_cases z : p = i
      · subst z
        rw [decide_eq_true h8, ha]
        simp
      · rw [decide_eq_false z, Bool.or_false]
        congr 2
        exact decide_eq_decide.mpr (by omega)
  · rw [u2_k z]
    refine ⟨⟨a, ha1, ha2⟩, fun p hp => ?_⟩
    rw [a2 p hp]
    congr 2
    exact decide_eq_decide.mpr (by omega)
theorem tl_end {β0 : wT} (I : Inv m t D ω) (r : RelW m t D ω β0) (T : TLB ω β0 β t D D 0) : RelW m t D (tellW ω D) β := by
  unfold tellW
  refine rel_kn r (fun j k hj => ?_) T.1 (fun q hq => ⟨(T.2 q hq).1, fun p hp => ?_⟩)
  · rw [tell_at D, if_neg (fun z => hj z.1)]
  · rw [(T.2 q hq).2 p hp, tell_at D]
    by_cases z : ω 8 p = 1
    · rw [if_pos ⟨rfl, hp, z⟩, decide_eq_true z, decide_eq_true (Or.inl hp)]
      cases hk : bt (ω 11 p) q
      · simp
      · have := I.2.2 p hp q hq hk
        rw [this]; rfl
    · rw [if_neg (fun w => z w.2.2), decide_eq_false z]
      simp
theorem c_t85 {R : Int32 → aH → Prop} {k : Nat} {J0 : Nat → Nat → Int64} (hk : k ≤ 99) (g : GQ hC hM sy m t n D0 D) (I : Inv m t D ω) (H : ∀ hC', kC hC hC' → R (cntS (daysW (wd hC sy) t D n way deaf k ω) 3 D - cntS (wq hC 66) 3 D) hC') : AW GC l ad (d + 7) mX9_tried 85 [(0, .ref (ad 0)), (3, .int (nI k))] [] (pW (hJ (foll hC sy 78 way deaf) J0) 78 ω) (qi R) :=
  bX9_tried_85 _ _ (c_run hk g I (fun J => c_many2 g (inv_daysW g.1.2.2.2.1 I k) (H _ kC_trial)))
theorem m_t158 {R : Int32 → aH → Prop} {k : Nat} {x1 x2 : Int32} (hk : k ≤ 99) (g : GQ hC hM sy m t n D0 D) (I : Inv m t D ω) (r' : RelW m t D ω β) (h1 : ¬ x1 = -1) (hd : ∀ e, e < t → (bt deaf e = true ↔ x1 = 2 ∧ nI e = x2)) (H : ∀ hM', kM hM hM' → R (cntS (daysW (wd hC sy) t D n x1 deaf k ω) 3 D - cntS (wq hC 66) 3 D) hM') : AW (GM adK adV) l ad (d + 8) mX10_tried 158 [(0, .ref (ad 0)), (1, .int x1), (2, .int x2), (3, .int (nI k))] [] (pB hM 1 β) (qi R) := by
  obtain ⟨I0, r, N⟩ := g.2.1
  have hD := I0.1.2.2.1
  have h54 := g.2.2.2.2.2.2.2.2.1
  refine bX10_tried_158 _ _ _ _ ?_
  rw [sI_pBo (a_off (by omega)), sI_pBo (a_off (by omega))]
  have T : MT (sI (sI hM 0 54 x1) 0 55 x2) t x1 deaf 0 := by
    have e54 : (sI (sI hM 0 54 x1) 0 55 x2).1 0 54 = x1 := (sI_k (by decide)).trans sI_s
    have e55 : (sI (sI hM 0 54 x1) 0 55 x2).1 0 55 = x2 := sI_s
    unfold MT
    rw [e54, e55]
    exact ⟨Iff.rfl, Iff.rfl, Iff.rfl, ⟨fun q => absurd q h1, fun q => absurd rfl q⟩, hd⟩
  have C : MC (sI (sI hM 0 54 x1) 0 55 x2) (wd hC sy) m t n := mc_ext (fun c k a b => by rw [sI_c (by omega), sI_c (by omega)]) g.1.2.2.2.2.1
  have e : pB (sI (sI hM 0 54 x1) 0 55 x2) 1 β = pB (hS (sI (sI hM 0 54 x1) 0 55 x2) (sI (sI hM 0 54 x1) 0 55 x2).2.1 ((sI (sI hM 0 54 x1) 0 55 x2).1 0 37)) 1 β := by rw [hS_self]
  rw [e]
  refine m_goesOn hk C g.1.2.2.2.1 T I r' (fun β' J n' r2 => ?_)
  rw [sI_pBo (a_off (by omega)), sI_pBo (a_off (by omega))]
  refine m_manyOf (b := 1) (by decide) hD r2 (mH (b := 0) (m_manyOf (b := 0) (m := m) (t := t) (ω := wq hC 66) (by decide) hD ?_ ?_))
  · have e0 : bkT (pB (sI (sI (hS (sI (sI hM 0 54 x1) 0 55 x2) J n') 0 54 0) 0 55 (-1)) 1 β') 0 = bkT hM 0 := by
      rw [bk_o (by decide), bk_s0, bk_s0]
      refine Eq.trans (bk_ext (fun c q p e => hS_o (fun z => by subst z; unfold adr at e; simp at e))) ?_
      rw [bk_s0, bk_s0]
    rw [e0]
    exact r
  · rw [pB_bk]
    refine H _ (fun c k q1 q2 q3 => ?_)
    rw [pB_off q3]
    by_cases q : c = 0
    · subst q
      have q1 := q1 rfl
      rw [sI_k (by omega)]
      by_cases z : k = 54
      · subst z; rw [sI_s, h54]
      · rw [sI_k z, hS_k q1.2.1, sI_k (by omega), sI_k z]
    · rw [sI_c q, sI_c q, hS_o q, sI_c q, sI_c q]
theorem m_tell {R : Int32 → aH → Prop} {k : Nat} {x2 : Int32} (g : GQ hC hM sy m t n D0 D) (I : Inv m t D ω) (r : RelW m t D ω β) (hω : ∀ j k, (j = 0 ∧ k = 12 ∨ j = 8 ∧ k < D) → wq hC 66 j k = ω j k) (H : ∀ β', RelW m t D (tellW ω D) β' → AW (GM adK adV) l ad (d + 1) mX10_tried 158 [(0, .ref (ad 0)), (1, .int (5 : Int32)), (2, .int x2), (3, .int (nI k))] [] (pB hM 1 β') (qi R)) : AW (GM adK adV) l ad (d + 1) mX10_tried 79 [(0, .ref (ad 0)), (1, .int (5 : Int32)), (2, .int x2), (3, .int (nI k)), (5, .int 0)] [] (pB hM 1 β) (qi R) := by
  obtain ⟨e1, e2, e3, e4, e5, e6, hm, ht, hD⟩ := g_S g
  obtain ⟨I0, r0, N⟩ := g.2.1
  refine up_ind (P := fun i => ∀ β', TLB ω β β' t D i 0 → AW (GM adK adV) l ad (d + 1) mX10_tried 79 [(0, .ref (ad 0)), (1, .int (5 : Int32)), (2, .int x2), (3, .int (nI k)), (5, .int (nI i))] [] (pB hM 1 β') (qi R)) D (fun β' T => ?_) (fun i hi ih β' T => ?_) β (tl_start r)
  · refine bX10_tried_79 _ _ _ _ _ ?_
    rw [pB_off (a_other (b := 0) a25 (by decide)), (g_D g).2]
    exact ⟨fun _ => H β' (tl_end I r T), fun z => absurd (Int32.le_refl _) z⟩
  · refine bX10_tried_79 _ _ _ _ _ ?_
    rw [pB_off (a_other (b := 0) a25 (by decide)), (g_D g).2]
    refine ⟨fun z => absurd z (nI_ge hi (by omega)), fun _ => ⟨fun z => absurd rfl z, fun _ => ?_⟩⟩
    refine up_ind (P := fun e => ∀ β', TLB ω β β' t D i e → AW (GM adK adV) l ad (d + 1) mX10_tried 98 [(0, .ref (ad 0)), (1, .int (5 : Int32)), (2, .int x2), (3, .int (nI k)), (5, .int (nI i)), (6, .int (nI e))] [] (pB hM 1 β') (qi R)) t (fun β' T => ?_) (fun e he ih2 β' T => ?_) β' T
    · refine bX10_tried_98 _ _ _ _ _ _ ?_
      rw [pB_off (a_off (by omega)), e6, nI_1]
      exact ⟨fun _ => ih β' (tl_next T), fun z => absurd (Int32.le_refl _) z⟩
    · have b0 : bkT (pB hM 1 β') 0 = bkT hM 0 := bk_o (by decide)
      refine bX10_tried_98 _ _ _ _ _ _ ?_
      rw [pB_off (a_off (by omega)), e6, nI_1 e]
      refine ⟨fun z => absurd z (nI_ge he (by omega)), fun _ => mH (b := 0) (m_isOpen (b := 0) (by decide) (by omega) ?_)⟩
      rw [pB_bk, b0, row r0 hi 8 (by decide) (by decide), hω 8 i (Or.inr ⟨rfl, hi⟩)]
      by_cases z8 : ω 8 i = 1
      · rw [if_pos z8]
        refine ⟨fun z => absurd z (by decide), fun _ => mH (b := 0) (m_isAlive (b := 0) (by decide) (by omega) ?_)⟩
        rw [pB_bk, b0, r0.2.1, hω 0 12 (Or.inl ⟨rfl, rfl⟩)]
        cases ha : bt (ω 0 12) e
        · exact ⟨fun _ => ih2 β' (tl_skip T (fun _ => ha)), fun z => absurd rfl z⟩
        · refine ⟨fun z => absurd z (by decide), fun _ => ?_⟩
          rw [show (6 : Int32) + nI e = nI (6 * 1 + e) from nI_add 6 e, nI_clamp (by omega), pB_get (a29 (by omega)), sI_pB (a29 (by omega))]
          exact ⟨vp_in_nI (by omega) (by decide), href (ih2 _ (tl_learn hD T hi z8 ha))⟩
      · rw [if_neg z8]
        exact ⟨fun _ => ih2 β' (tl_skip T (fun q => absurd q z8)), fun z => absurd rfl z⟩
theorem m_trb {R : Int32 → aH → Prop} {x1 x2 x3 : Int32} (g : GQ hC (sI hM 0 0 0) sy m t n D0 D) (hb : x1 < 0 ∨ 5 < x1 ∨ x3 < 0 ∨ ¬ x3 ≤ 99 ∨ (x1 = 2 ∧ isIn x2 t = false) ∨ (¬ x1 = 2 ∧ ¬ x2 = 0)) (H : R (-1) (sI hM 0 0 0)) : AW (GM adK adV) l ad (d + 1) mX10_tried 0 [(0, .ref (ad 0)), (1, .int x1), (2, .int x2), (3, .int x3)] [] hM (qi R) := by
  have F : AW (GM adK adV) l ad (d + 1) mX10_tried 35 [(0, .ref (ad 0)), (1, .int x1), (2, .int x2), (3, .int x3)] [] (sI hM 0 0 0) (qi R) := bX10_tried_35 _ _ _ _ (bX10_tried_36 _ _ _ _ _ ⟨fun _ => H, fun q => absurd rfl q⟩)
  refine bX10_tried_0 _ _ _ _ ⟨fun z2 => ⟨fun z => F, fun z => ⟨fun z5 => F, fun z5 => ⟨fun z0 => F, fun z0 => ?_⟩⟩⟩, fun z2 => m_isTusk g ?_⟩
  · refine bX10_tried_36 _ _ _ _ _ ⟨fun _ => H, fun _ => ⟨fun _ => H, fun z3 => ⟨fun z99 => ?_, fun _ => H⟩⟩⟩
    rcases hb with q | q | q | q | q | q
    · exact absurd q z
    · exact absurd q z5
    · exact absurd q z3
    · exact absurd z99 q
    · exact absurd q.1 z2
    · exact absurd z0 q.2
  · refine bX10_tried_36 _ _ _ _ _ ⟨fun _ => H, fun zz => ⟨fun _ => H, fun z3 => ⟨fun z99 => ?_, fun _ => H⟩⟩⟩
    exfalso
    rcases hb with q | q | q | q | q | q
    · subst z2; exact absurd q (by decide)
    · subst z2; exact absurd q (by decide)
    · exact absurd q z3
    · exact absurd z99 q
    · rw [q.2] at zz; exact zz rfl
    · exact absurd z2 q.1
theorem j_tried {x1 x2 x3 : Int32} (g : GR hC hM) : AW GC l ad (d + 7) mX9_tried 0 [(0, .ref (ad 0)), (1, .int x1), (2, .int x2), (3, .int x3)] [] hC (qi (jq l' ad' (d' + 8) adK adV mX10_tried [(0, .ref (ad' 0)), (1, .int x1), (2, .int x2), (3, .int x3)] hM)) := by
  obtain ⟨sy, m, t, n, D0, D, g⟩ := g
  have g2 := g_thr g
  have G : GR hC (sI hM 0 0 0) := ⟨_, _, _, _, _, _, g2⟩
  obtain ⟨e1, e2, e3, e4, e5, e6, hm, ht, hD⟩ := g_S g2
  obtain ⟨I, r, N⟩ := g2.2.1
  refine bX9_tried_0 _ _ _ _ ⟨fun z => m_trb g2 (Or.inl z) ⟨rfl, G⟩, fun z1 => ⟨fun z => m_trb g2 (Or.inr (Or.inl z)) ⟨rfl, G⟩, fun z2 => ⟨fun z => m_trb g2 (Or.inr (Or.inr (Or.inl z))) ⟨rfl, G⟩, fun z3 => ⟨fun z4 => ?_, fun z => m_trb g2 (Or.inr (Or.inr (Or.inr (Or.inl z)))) ⟨rfl, G⟩⟩⟩⟩⟩
  obtain ⟨k, hk, rfl⟩ := nI_of z3
  have hk99 : k ≤ 99 := (nI_leI (a := k) (b := 99) hk (by decide)).mp z4
  have n1 : ¬ x1 = -1 := fun q => z1 (by rw [q]; decide)
  -- nobody is deaf, nobody told more
  have I0 : Inv m t D (nz (wq hC 66)) := inv_cp I
  have rr : RelW m t D (nz (wq hC 66)) (bkT (sI hM 0 0 0) 0) := rel_cp I r
  have GRf : ∀ (z : Int32) hC' hM', kC hC hC' → kM (sI hM 0 0 0) hM' → z = z ∧ GR hC' hM' := fun z hC' hM' kc km => ⟨rfl, _, _, _, _, _, _, gq_frame kc km g2⟩
  refine ⟨fun z5 => ⟨fun z6 => ?_, fun z6 => m_trb g2 (Or.inr (Or.inr (Or.inr (Or.inr (Or.inr ⟨z5, z6⟩))))) ⟨rfl, G⟩⟩, fun z5 => c_isTusk g ?_⟩
  · subst z6
    have M : ∀ (R : Int32 → aH → Prop), AW (GM adK adV) l' ad' (d' + 8) mX10_tried 79 [(0, .ref (ad' 0)), (1, .int x1), (2, .int (0 : Int32)), (3, .int (nI k)), (5, .int (0 : Int32))] [] (pB (sI hM 0 0 0) 1 (bkT (sI hM 0 0 0) 0)) (qi R) → AW (GM adK adV) l' ad' (d' + 8) mX10_tried 0 [(0, .ref (ad' 0)), (1, .int x1), (2, .int (0 : Int32)), (3, .int (nI k))] [] hM (qi R) := fun R K => bX10_tried_0 _ _ _ _ ⟨fun _ => ⟨fun q => absurd q z1, fun _ => ⟨fun q => absurd q z2, fun _ => ⟨fun q => absurd rfl q, fun _ => bX10_tried_36 _ _ _ _ _ ⟨fun q => absurd q (by decide), fun _ => ⟨fun q => absurd q z3, fun _ => ⟨fun _ => m_copies (x := 1) (y := 0) (by decide) (by decide) (by decide) ⟨fun _ => K, fun q => absurd q z5⟩, fun q => absurd z4 q⟩⟩⟩⟩⟩⟩, fun q => absurd q z5⟩
    have hdf : ∀ e, e < t → (bt 0 e = true ↔ x1 = 2 ∧ nI e = (0 : Int32)) := fun e he => ⟨fun q => (by rw [bt_0] at q; cases q), fun q => absurd q.1 z5⟩
    refine bX9_tried_43 _ _ _ _ ⟨fun _ => bX9_tried_55 _ _ _ _ (c_trial g (c_tr0 (sp_forgetAll isW_78 ?_))), fun q => absurd q z5⟩
    rw [fg_0]
    refine ⟨fun z7 => c_t85 hk99 g I0 (fun hC' kc => M _ (bX10_tried_79 _ _ _ _ _ ⟨fun _ => ?_, fun _ => ⟨fun _ => ?_, fun q => absurd q z7⟩⟩)), fun z7 => ?_⟩
    · exact m_t158 hk99 g2 I0 rr n1 hdf (fun hM' km => GRf _ _ _ kc km)
    · exact m_t158 hk99 g2 I0 rr n1 hdf (fun hM' km => GRf _ _ _ kc km)
    · subst z7
      refine sp_tellAll isW_78 hD I0.1.2.2.2.1 (c_t85 hk99 g (inv_tell I0 D (Nat.le_refl _)) (fun hC' kc => M _ ?_))
      refine m_tell g2 I0 rr (fun j k q => ?_) (fun β' r' => m_t158 hk99 g2 (inv_tell I0 D (Nat.le_refl _)) r' n1 hdf (fun hM' km => GRf _ _ _ kc km))
      exact (cpW_at (by unfold vlW; omega)).symm
  · subst z5
    cases hx : isIn x2 t
    · exact ⟨fun q => absurd rfl q, fun _ => m_trb g2 (Or.inr (Or.inr (Or.inr (Or.inr (Or.inl ⟨rfl, hx⟩))))) ⟨rfl, G⟩⟩
    obtain ⟨e, he, rfl⟩ := isIn_of (by omega) hx
    refine ⟨fun _ => bX9_tried_43 _ _ _ _ ⟨fun q => absurd rfl q, fun _ => bX9_tried_55 _ _ _ _ (c_trial g (c_tr0 (sp_forgetAll isW_78 ⟨fun _ => ?_, fun q => absurd q (by decide)⟩)))⟩, fun q => absurd q (by decide)⟩
    refine c_t85 hk99 g (inv_fg I0) (fun hC' kc => ?_)
    refine bX10_tried_0 _ _ _ _ ⟨fun q => absurd rfl q, fun _ => m_isTusk g2 ?_⟩
    rw [hx]
    refine bX10_tried_36 _ _ _ _ _ ⟨fun q => absurd q (by decide), fun _ => ⟨fun q => absurd q z3, fun _ => ⟨fun _ => m_copies (x := 1) (y := 0) (by decide) (by decide) (by decide) ⟨fun q => absurd rfl q, fun _ => ?_⟩, fun q => absurd z4 q⟩⟩⟩
    rw [show (6 : Int32) + nI e = nI (6 * 1 + e) from nI_add 6 e, nI_clamp (by omega), sI_pB (a29 (by omega))]
    refine ⟨vp_in_nI (by omega) (by decide), bX10_tried_79 _ _ _ _ _ ?_⟩
    have K : AW (GM adK adV) l' ad' (d' + 8) mX10_tried 158 [(0, .ref (ad' 0)), (1, .int 2), (2, .int (nI e)), (3, .int (nI k))] [] (pB (sI hM 0 0 0) 1 (u2 (bkT (sI hM 0 0 0) 0) 12 e 0)) (qi fun z' hM' => z' = cntS (daysW (wd hC sy) t D n 2 ((1 : Int32) <<< (nI e &&& 31)) k (fgW (nz (wq hC 66)) ((1 : Int32) <<< (nI e &&& 31)))) 3 D - cntS (wq hC 66) 3 D ∧ GR hC' hM') := by
      refine m_t158 hk99 g2 (inv_fg I0) (rel_deaf ht hD rr he) n1 (fun q hq => ?_) (fun hM' km => GRf _ _ _ kc km)
      rw [bt_one (by omega) (by omega), decide_eq_true_eq, nI_eq (by omega) (by omega)]
      exact ⟨fun w => ⟨rfl, w⟩, fun w => w.2⟩
    exact ⟨fun _ => K, fun _ => ⟨fun _ => K, fun q => absurd q (by decide)⟩⟩
/-- numbers drawn, times alive -/
def chS (σ : wT) (t D n k e : Nat) (ω : wT) (i : Nat) (q : Int32 × Int32) : Nat → Int32 × Int32 := fun z => itR (fun _ q => (daysW σ t D n (-1) 0 k (u2 ω 0 14 q.1) 0 14, q.2 + if bt (daysW σ t D n (-1) 0 k (u2 ω 0 14 q.1) 0 12) e then 1 else 0)) z q
theorem kC_66 (a : kC h hC') : wq hC' 66 = wq h 66 := wq_ext (fun j k hj => a.1 _ _ (by omega))
theorem c_chance {R : Int32 → aH → Prop} {k e : Nat} {x : Int32} (hk : k ≤ 99) (he : e < t) (g : GQ hC hM sy m t n D0 D) (H : ∀ hC', kC hC hC' → R (chS (wd hC sy) t D n k e (nz (wq hC 66)) 0 (x, 0) 10).2 hC') : AW GC l ad (d + 7) mX9_chance 34 [(0, .ref (ad 0)), (2, .int (nI k)), (3, .int (nI e)), (4, .int x), (5, .int (0 : Int32)), (6, .int (0 : Int32))] [] hC (qi R) := by
  obtain ⟨e1, e2, e3, e4, e5, e6, hm, ht, hD⟩ := g_S g
  have hsy := g.1.1
  refine up_ind (P := fun i => ∀ hC', kC hC hC' → AW GC l ad (d + 7) mX9_chance 34 [(0, .ref (ad 0)), (2, .int (nI k)), (3, .int (nI e)), (4, .int (chS (wd hC sy) t D n k e (nz (wq hC 66)) 0 (x, 0) i).1), (5, .int (chS (wd hC sy) t D n k e (nz (wq hC 66)) 0 (x, 0) i).2), (6, .int (nI i))] [] hC' (qi R)) 10 (fun hC' kc => ?_) (fun i hi ih hC' kc => ?_) hC kC_rfl
  · exact bX9_chance_34 _ _ _ _ _ _ ⟨fun _ => H _ kc, fun z => absurd (Int32.le_refl _) z⟩
  · have g' := gq_frame kc kM_rfl g
    obtain ⟨I, r, N⟩ := g'.2.1
    refine bX9_chance_34 _ _ _ _ _ _ ⟨fun z => absurd z (nI_ge (b := 10) hi (by omega)), fun _ => c_trial g' ?_⟩
    rw [sI_pW0 (w := 78)]
    refine cE isW_78 (ω' := u2 (nz (wq hC' 66)) 0 14 (chS (wd hC sy) t D n k e (nz (wq hC 66)) 0 (x, 0) i).1) (fun j k hv => u2_eq (nz_E j k hv)) ?_
    refine c_run0 hk g' (inv_0 (inv_cp I) (by decide) (by decide)) (fun J => sp_isAlive isW_78 (by omega) (fun t7 e7 => ?_))
    rw [nI_1, e7, pW_get0]
    have := ih _ (kC_tr kc (kC_trial (sy := sy) (way := -1) (deaf := 0) (J := J) (ω := daysW (wd hC' sy) t D n (-1) 0 k (u2 (nz (wq hC' 66)) 0 14 (chS (wd hC sy) t D n k e (nz (wq hC 66)) 0 (x, 0) i).1))))
    rw [wd_kC kc hsy, kC_66 kc] at this ⊢
    have ex : ∀ c : Bool, (if (if c = true then (1 : Int32) else 0) = 0 then (0 : Int32) else 1) = if c = true then 1 else 0 := by intro c; cases c <;> rfl
    rw [ex]
    exact this
theorem m_chance {R : Int32 → aH → Prop} {k e : Nat} {x : Int32} (hk : k ≤ 99) (he : e < t) (g : GQ hC hM sy m t n D0 D) (H : ∀ hM', kM hM hM' → R (chS (wd hC sy) t D n k e (nz (wq hC 66)) 0 (x, 0) 10).2 hM') : AW (GM adK adV) l ad (d + 7) mX10_chance 39 [(0, .ref (ad 0)), (2, .int (nI k)), (3, .int (nI e)), (4, .int x), (5, .int (0 : Int32)), (6, .int (0 : Int32))] [] hM (qi R) := by
  obtain ⟨e1, e2, e3, e4, e5, e6, hm, ht, hD⟩ := g_S g
  refine up_ind (P := fun i => ∀ hM', kM hM hM' → AW (GM adK adV) l ad (d + 7) mX10_chance 39 [(0, .ref (ad 0)), (2, .int (nI k)), (3, .int (nI e)), (4, .int (chS (wd hC sy) t D n k e (nz (wq hC 66)) 0 (x, 0) i).1), (5, .int (chS (wd hC sy) t D n k e (nz (wq hC 66)) 0 (x, 0) i).2), (6, .int (nI i))] [] hM' (qi R)) 10 (fun hM' km => ?_) (fun i hi ih hM' km => ?_) hM kM_rfl
  · exact bX10_chance_39 _ _ _ _ _ _ ⟨fun _ => H _ km, fun z => absurd (Int32.le_refl _) z⟩
  · have g' := gq_frame kC_rfl km g
    obtain ⟨I, r, N⟩ := g'.2.1
    generalize hq : chS (wd hC sy) t D n k e (nz (wq hC 66)) 0 (x, 0) i = Q
    refine bX10_chance_39 _ _ _ _ _ _ ⟨fun z => absurd z (nI_ge (b := 10) hi (by omega)), fun _ => m_copies (x := 1) (y := 0) (by decide) (by decide) (by decide) ?_⟩
    rw [sI_pB (a24 (b := 1))]
    have eh : pB hM' 1 (u2 (bkT hM' 0) 0 14 Q.1) = pB (hS hM' hM'.2.1 (hM'.1 0 37)) 1 (u2 (bkT hM' 0) 0 14 Q.1) := by rw [hS_self]
    rw [eh]
    have I1 : Inv m t D (u2 (nz (wq hC 66)) 0 14 Q.1) := inv_0 (inv_cp I) (by decide) (by decide)
    have r1 : RelW m t D (u2 (nz (wq hC 66)) 0 14 Q.1) (u2 (bkT hM' 0) 0 14 Q.1) := rel_0 (rel_cp I r) (by decide)
    refine up_ind (P := fun z => ∀ β J n', RelW m t D (daysW (wd hC sy) t D n (-1) 0 z (u2 (nz (wq hC 66)) 0 14 Q.1)) β → AW (GM adK adV) l ad (d + 7) mX10_chance 63 [(0, .ref (ad 0)), (2, .int (nI k)), (3, .int (nI e)), (5, .int Q.2), (6, .int (nI i)), (7, .int (nI z))] [] (pB (hS hM' J n') 1 β) (qi R)) k (fun β J n' rk => ?_) (fun z hz ihz β J n' rk => ?_) _ _ _ r1
    · refine bX10_chance_63 _ _ _ _ _ _ ⟨fun _ => m_isAlive (b := 1) (by decide) (by omega) (fun t3 e3 => ?_), fun z => absurd (Int32.le_refl _) z⟩
      rw [nI_1, e3, pB_get (a24 (b := 1)), rk.2.1, rk.2.2.2.1]
      have := ih _ (kM_tr km (kM_pB1 (J := J) (n' := n') (β := β)))
      have es : chS (wd hC sy) t D n k e (nz (wq hC 66)) 0 (x, 0) (i + 1) = (daysW (wd hC sy) t D n (-1) 0 k (u2 (nz (wq hC 66)) 0 14 (chS (wd hC sy) t D n k e (nz (wq hC 66)) 0 (x, 0) i).1) 0 14, (chS (wd hC sy) t D n k e (nz (wq hC 66)) 0 (x, 0) i).2 + if bt (daysW (wd hC sy) t D n (-1) 0 k (u2 (nz (wq hC 66)) 0 14 (chS (wd hC sy) t D n k e (nz (wq hC 66)) 0 (x, 0) i).1) 0 12) e then 1 else 0) := rfl
      rw [es, hq] at this
      have ex : ∀ c : Bool, (if (if c = true then (1 : Int32) else 0) = 0 then (0 : Int32) else 1) = if c = true then 1 else 0 := by intro c; cases c <;> rfl
      rw [ex]
      exact this
    · refine bX10_chance_63 _ _ _ _ _ _ ⟨fun q => absurd q (nI_ge hz (by omega)), fun _ => ?_⟩
      rw [nI_1]
      exact m_passes (b := 1) g'.1.2.2.2.2.1 g'.1.2.2.2.1 (mt_1 g'.2.2.2.2.2.2.2.2.1) (by decide) (inv_daysW g'.1.2.2.2.1 I1 z) rk (fun β' J' n2 r' => ihz β' J' n2 r')
theorem j_chance {x1 x2 x3 : Int32} (g : GR hC hM) : AW GC l ad (d + 7) mX9_chance 0 [(0, .ref (ad 0)), (1, .int x1), (2, .int x2), (3, .int x3)] [] hC (qi (jq l' ad' (d' + 7) adK adV mX10_chance [(0, .ref (ad' 0)), (1, .int x1), (2, .int x2), (3, .int x3)] hM)) := by
  obtain ⟨sy, m, t, n, D0, D, g⟩ := g
  have g2 := g_thr g
  have G : GR hC (sI hM 0 0 0) := ⟨_, _, _, _, _, _, g2⟩
  obtain ⟨e1, e2, e3, e4, e5, e6, hm, ht, hD⟩ := g_S g2
  refine bX9_chance_0 _ _ _ _ ⟨fun z => ?_, fun z1 => ⟨fun z => ?_, fun z2 => ⟨fun z => ?_, fun z3 => c_isTusk g ?_⟩⟩⟩
  · exact bX10_chance_0 _ _ _ _ ⟨fun _ => ⟨rfl, G⟩, fun q => absurd z q⟩
  · exact bX10_chance_0 _ _ _ _ ⟨fun q => absurd q z1, fun _ => ⟨fun _ => ⟨rfl, G⟩, fun q => absurd z q⟩⟩
  · exact bX10_chance_0 _ _ _ _ ⟨fun q => absurd q z1, fun _ => ⟨fun q => absurd q z2, fun _ => ⟨fun _ => ⟨rfl, G⟩, fun q => absurd z q⟩⟩⟩
  cases hx : isIn x3 t
  · refine ⟨fun q => absurd rfl q, fun _ => bX10_chance_0 _ _ _ _ ⟨fun q => absurd q z1, fun _ => ⟨fun q => absurd q z2, fun _ => ⟨fun q => absurd q z3, fun _ => m_isTusk g2 ?_⟩⟩⟩⟩
    rw [hx]
    exact ⟨fun q => absurd rfl q, fun _ => ⟨rfl, G⟩⟩
  · obtain ⟨e, he, rfl⟩ := isIn_of (by omega) hx
    obtain ⟨k, hk1, hk, rfl⟩ := i32_pos (a := 99) (by decide) z2 z3
    refine ⟨fun _ => c_chance hk he g (fun hC' kc => ?_), fun q => absurd q (by decide)⟩
    refine bX10_chance_0 _ _ _ _ ⟨fun q => absurd q z1, fun _ => ⟨fun q => absurd q z2, fun _ => ⟨fun q => absurd q z3, fun _ => m_isTusk g2 ?_⟩⟩⟩
    rw [hx]
    exact ⟨fun _ => m_chance hk he g2 (fun hM' km => ⟨rfl, _, _, _, _, _, _, gq_frame kc km g2⟩), fun q => absurd q (by decide)⟩
end TD
