/-! ===== the reference's days, step by step, beside the class's ===== -/
/-- how days are tried, on both sides -/
def MT (h : aH) (t : Nat) (way deaf byN : Int32) : Prop := (way = 1 ↔ h.1 0 54 = 1) ∧ (way = 3 ↔ h.1 0 54 = 3) ∧ (way = 4 ↔ h.1 0 54 = 4) ∧ (way = -1 ↔ ¬ byN = 0) ∧ ∀ e, e < t → (bt deaf e = true ↔ h.1 0 54 = 2 ∧ nI e = h.1 0 55)
theorem hS_k {h : aH} {k : Nat} {J : Nat → Nat → Int64} {n0 : Int32} (hk : k ≠ 37) : (hS h J n0).1 0 k = h.1 0 k := by
  show (if 0 = 0 ∧ k = 37 then n0 else h.1 0 k) = _
  rw [if_neg (fun q => hk q.2)]
theorem mt_S {h : aH} {t : Nat} {way deaf byN : Int32} {J : Nat → Nat → Int64} {n0 : Int32} (T : MT h t way deaf byN) : MT (hS h J n0) t way deaf byN := by
  unfold MT
  rw [hS_k (by decide), hS_k (by decide)]
  exact T
def opW (σ : wT) (deaf : Int32) (i : Nat) (ω : wT) : wT :=
  if bt (ω 0 12) (ix (ω 6 i)) then (if ω 1 (ix (ω 3 i)) < ω 5 i + σ 3 (ix (ω 6 i)) then endW ω i 4 else openW ω i (ix (ω 3 i)) (ix (ω 4 i)) (σ 3 (ix (ω 6 i))) deaf) else endW ω i 4
theorem lendSt_op {σ : wT} {deaf : Int32} {i : Nat} {ω : wT} : lendSt σ deaf i ω = if ω 8 i = 0 then (if ω 7 i = ω 0 13 then opW σ deaf i ω else ω) else ω := rfl
theorem rel_refuse {m t D : Nat} {ω β : wT} (iv : InvW t D ω) (r : RelW m t D ω β) {i : Nat} (hi : i < D) (h8 : ¬ ω 8 i = 1) : RelW m t D (endW ω i 4) (u2 β 8 i 4) := by
  have r1 := rel_u r (j := 8) (by decide) (by decide) (i := i) (v := 4)
  have h9 := ((iv.1 i hi).2 h8).1
  have h11 := ((iv.1 i hi).2 h8).2
  unfold endW
  rw [u2_id (ω := u2 ω 8 i 4) (j := 9) (by rw [u2_j (by decide)]; exact h9)]
  exact rel_no r1 (by rw [u2_j (by decide)]; exact h11)
theorem i32_a (x y z : Int32) : x - (y + z) = x + (-y - z) := by
  rw [Int32.sub_eq_add_neg, Int32.neg_add, Int32.sub_eq_add_neg]
section MS
variable {adK adV : Nat → Nat} {l : Launch} {ad : Nat → Nat} {d b m t D n : Nat} {h : aH} {ω β σ : wT} {way deaf byN : Int32}
def lrnB (deaf : Int32) (β : wT) (e i : Nat) : wT := if bt deaf e then β else u2 β 12 e (β 12 e ||| ((1 : Int32) <<< (nI i &&& 31)))
theorem m_learns {R : aH → Prop} {i e : Nat} (T : MT h t way deaf byN) (hb : b < 23) (ht : t ≤ 6) (he : e < t) (H : R (pB h b (lrnB deaf β e i))) : AW (GM adK adV) l ad d mX10_learns 0 [(0, .ref (ad 0)), (1, .int (nI b)), (2, .int (nI e)), (3, .int (nI i))] [] (pB h b β) (qv R) := by
  have T5 := T.2.2.2.2 e he
  have K : bt deaf e = false → AW (GM adK adV) l ad d mX10_learns 16 [(0, .ref (ad 0)), (1, .int (nI b)), (2, .int (nI e)), (3, .int (nI i))] [] (pB h b β) (qv R) := by
    intro z
    unfold lrnB at H
    rw [z] at H
    refine bX10_learns_16 _ _ _ _ ?_
    rw [i6, nI_clamp (by omega), pB_get (a29 (by omega)), sI_pB (a29 (by omega))]
    exact ⟨vp_in_nI (by omega) (by omega), href H⟩
  refine bX10_learns_0 _ _ _ _ ?_
  rw [pB_lo (by decide), pB_lo (by decide)]
  refine ⟨fun z => K (Bool.eq_false_iff.mpr (fun q => z (T5.mp q).1)), fun z => ⟨fun z2 => ?_, fun z2 => K (Bool.eq_false_iff.mpr (fun q => z2 (T5.mp q).2))⟩⟩
  have : bt deaf e = true := T5.mpr ⟨z, z2⟩
  unfold lrnB at H
  rw [this, if_pos rfl] at H
  exact H
theorem rel_lrn (ht : t ≤ 6) (hD : D ≤ 8) (r : RelW m t D ω β) {i e : Nat} (hi : i < D) (he : e < t) : RelW m t D (u2 ω 11 i (ω 11 i ||| (((1 : Int32) <<< (nI e &&& 31)) &&& (deaf ^^^ (-1))))) (lrnB deaf β e i) := by
  unfold lrnB
  cases hd : bt deaf e
  · refine rel_learn ht hD r hi he (fun q hq => ?_)
    rw [bt_or, bt_and, bt_one (by omega) (by omega), bt_not _ (by omega)]
    by_cases z : q = e
    · subst z; rw [hd, decide_eq_true rfl]; rfl
    · rw [decide_eq_false z, Bool.false_and]
  · have e0 : ω 11 i ||| (((1 : Int32) <<< (nI e &&& 31)) &&& (deaf ^^^ (-1))) = ω 11 i := by
      refine bt_ext (fun q hq => ?_)
      rw [bt_or, bt_and, bt_one (by omega) hq, bt_not _ hq]
      by_cases z : q = e
      · subst z; rw [hd]; simp
      · rw [decide_eq_false z, Bool.false_and, Bool.or_false]
    rw [e0, u2_id rfl]
    exact r
theorem m_opens {R : aH → Prop} {i : Nat} (C : MC h σ m t n) (T : MT h t way deaf byN) (hb : b < 23) (I : Inv m t D ω) (r : RelW m t D ω β) (hi : i < D) (h8 : ¬ ω 8 i = 1) (H : ∀ β', RelW m t D (opW σ deaf i ω) β' → R (pB h b β')) : AW (GM adK adV) l ad (d + 1) mX10_opens 0 [(0, .ref (ad 0)), (1, .int (nI b)), (2, .int (nI i))] [] (pB h b β) (qv R) := by
  obtain ⟨wf, iv, ik⟩ := I
  have hm := wf.1
  have ht := wf.2.1
  have hD := wf.2.2.1
  obtain ⟨⟨a, ha, ea⟩, ⟨q, hq, eq⟩, ⟨w, hw, ew⟩, -⟩ := wf.2.2.2.2.2 i hi
  unfold opW at H
  rw [ea, eq, ew, ix_nI (by omega), ix_nI (by omega), ix_nI (by omega)] at H
  refine bX10_opens_0 _ _ _ ?_
  rw [i8, nI_clamp (by omega), pB_get (a30 (j := 3) (by omega) (by decide) (by decide)), pB_get (a30 (j := 5) (by omega) (by decide) (by decide)), pB_get (a30 (j := 6) (by omega) (by decide) (by decide)), row r hi 3 (by decide) (by decide), row r hi 5 (by decide) (by decide), row r hi 6 (by decide) (by decide), ea, ew, i6, nI_clamp (by omega), pB_lo (by decide), (C.2.2.2.2.1 w hw).1]
  refine ⟨vp_in_nI (by omega) (by omega), fun t2 e2 => ⟨vp_in_nI (by omega) (by omega), fun t4 e4 => m_isAlive hb (by omega) ?_⟩⟩
  subst e2
  rw [r.2.1]
  cases hal : bt (ω 0 12) w
  · rw [hal] at H
    refine ⟨fun _ => ?_, fun z => absurd rfl z⟩
    rw [sI_pB (a30 (j := 8) (by omega) (by decide) (by decide))]
    exact H _ (rel_refuse iv r hi h8)
  · rw [hal, if_pos rfl] at H
    refine ⟨fun z => absurd z (by decide), fun _ => ⟨vp_in_nI (by omega) (by omega), ?_⟩⟩
    rw [nI_clamp (by omega), pB_get (a27 (by omega)), r.2.2.2.2.1 a ha]
    refine ⟨fun z => ?_, fun z => ?_⟩
    · have z2 : ¬ ω 1 a < ω 5 i + σ 3 w := by rw [e4] at z; exact Int32.not_lt.mpr z
      rw [if_neg z2] at H
      refine href ?_
      rw [sI_pB (a30 (j := 8) (by omega) (by decide) (by decide)), pB_get (a27 (by omega)), sI_pB (a27 (by omega)), pB_get (a30 (j := 4) (by omega) (by decide) (by decide)), u2_j (j' := 4) (by decide), u2_j (j' := 4) (by decide), u2_j (j' := 1) (j := 8) (by decide), r.2.2.2.2.1 a ha, row r hi 4 (by decide) (by decide), eq, i6, nI_clamp (by omega), pB_get (a27 (by omega)), sI_pB (a27 (by omega)), pB_get (a30 (j := 5) (by omega) (by decide) (by decide)), u2_j (j' := 5) (by decide), u2_j (j' := 5) (by decide), row r hi 5 (by decide) (by decide)]
      refine ⟨vp_in_nI (by omega) (by omega), href ?_⟩
      rw [pB_get (a30 (j := 5) (by omega) (by decide) (by decide)), sI_pB (a30 (j := 9) (by omega) (by decide) (by decide)), pB_get (a30 (j := 6) (by omega) (by decide) (by decide)), u2_j (j' := 5) (by decide), u2_j (j' := 5) (by decide), u2_j (j' := 5) (by decide), row r hi 5 (by decide) (by decide), u2_j (j' := 6) (by decide), u2_j (j' := 6) (by decide), u2_j (j' := 6) (by decide), u2_j (j' := 6) (by decide), row r hi 6 (by decide) (by decide), ew]
      refine m_learns T hb ht hw (H _ ?_)
      rw [u2_comm (j := 8) (j' := 1) (by decide), u2_comm (j := 8) (j' := 1) (by decide), u2_j (j' := 1) (j := 8) (by decide), u2_eq (r.2.2.2.2.1 q hq), e4, i32_a]
      have r5 := rel_10 (rel_u (rel_u (rel_p (rel_p r (p := a) (v := ω 1 a + (-(ω 5 i) - σ 3 w))) (p := q) (v := u2 ω 1 a (ω 1 a + (-(ω 5 i) - σ 3 w)) 1 q + ω 5 i)) (j := 8) (by decide) (by decide) (i := i) (v := 1)) (j := 9) (by decide) (by decide) (i := i) (v := ω 5 i)) (i := i) (v := ω 0 13)
      have r6 := rel_lrn (deaf := deaf) ht hD r5 hi hw
      rw [u2_j (j' := 11) (j := 10) (by decide), u2_j (j' := 11) (j := 9) (by decide), u2_j (j' := 11) (j := 8) (by decide), u2_j (j' := 11) (j := 1) (by decide), u2_j (j' := 11) (j := 1) (by decide), ((iv.1 i hi).2 h8).2, Int32.zero_or] at r6
      unfold openW
      rw [ew]
      exact r6
    · have z2 : ω 1 a < ω 5 i + σ 3 w := by rw [e4] at z; exact Int32.not_le.mp z
      rw [if_pos z2] at H
      rw [sI_pB (a30 (j := 8) (by omega) (by decide) (by decide))]
      exact H _ (rel_refuse iv r hi h8)
end MS
