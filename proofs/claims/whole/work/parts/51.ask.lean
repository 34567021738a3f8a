/-! ===== calls: rests, rest ===== -/
section AS
variable {adK adV : Nat → Nat} {l l' : Launch} {ad ad' : Nat → Nat} {d d' b : Nat} {hC hM hC' hM' h : aH} {sy m t n D0 D : Nat} {ω β σ : wT}
/-- what one has who asks or waits -/
def shV (ω : wT) (i j : Nat) (x y : Int32) : Int32 :=
  if x = y then (if ω 1 (ix (ω 4 i)) / 2 < ω 9 i then ω 1 (ix (ω 4 i)) / 2 else ω 9 i) - x
  else if x = 0 then (if ω 1 (ix (ω 4 i)) < ω 9 i then ω 1 (ix (ω 4 i)) else ω 9 i)
  else (if ω 1 (ix (ω 4 i)) - (if ω 1 (ix (ω 4 i)) < ω 9 j then ω 1 (ix (ω 4 i)) else ω 9 j) < ω 9 i then ω 1 (ix (ω 4 i)) - (if ω 1 (ix (ω 4 i)) < ω 9 j then ω 1 (ix (ω 4 i)) else ω 9 j) else ω 9 i) - 1
theorem c_share {R : Int32 → aH → Prop} {i j : Nat} {x y : Int32} (wf : WFw m t D (wq h 66)) (hi : i < D) (hj : j < D) (H : R (shV (wq h 66) i j x y) h) : AW GC l ad (d + 1) mX4_share 0 [(0, .ref (ad 66)), (1, .int (nI i)), (2, .int (nI j)), (3, .int x), (4, .int y)] [] h (qi R) := by
  have hD := wf.2.2.1
  have hm := wf.1
  obtain ⟨-, ⟨p, hp, ep⟩, -⟩ := wf.2.2.2.2.2 i hi
  have e4 : h.1 (66 + 4) i = nI p := by rw [← ep, wq_at (by decide)]
  have e9 : ∀ k, h.1 (66 + 9) k = wq h 66 9 k := fun k => (wq_at (by decide)).symm
  unfold shV at H
  rw [ep, ix_nI (by omega)] at H
  refine bX4_share_0 66 isW_66 _ _ _ _ _ ?_
  rw [nI_clamp (by omega), e4]
  refine ⟨vp_in_nI (by omega) (by decide), cH (w := 66) (sp_purseOf isW_66 (by omega) ?_)⟩
  rw [pW_wq, nI_clamp (by omega), e9, e9]
  refine ⟨fun z => ⟨fun z2 => ⟨vp_in_nI (by omega) (by decide), fun t5 e5 => ?_⟩, fun z2 => ?_⟩, fun z => ?_⟩
  · rw [if_neg z, if_neg z2] at H; rw [e5]; exact H
  · rw [if_neg z, if_pos z2] at H; exact H
  · rw [if_pos z] at H; exact H
theorem m_has {R : Int32 → aH → Prop} {i j : Nat} {x y : Int32} (wf : WFw m t D ω) (r : RelW m t D ω (bkT h 0)) (hi : i < D) (hj : j < D) (H : R (shV ω i j x y) h) : AW (GM adK adV) l ad (d + 1) mX10_hasOf 0 [(0, .ref (ad 0)), (1, .int (nI i)), (2, .int (nI j)), (3, .int x), (4, .int y)] [] h (qi R) := by
  have hD := wf.2.2.1
  have hm := wf.1
  obtain ⟨-, ⟨p, hp, ep⟩, -⟩ := wf.2.2.2.2.2 i hi
  unfold shV at H
  rw [ep, ix_nI (by omega)] at H
  refine bX10_hasOf_0 _ _ _ _ _ ?_
  have e31 : h.1 31 (nI i).toNatClampNeg = nI p := by rw [nI_clamp (by omega), rd r hi hD 4 (by decide) (by decide), ep]
  have e36 : h.1 36 (nI i).toNatClampNeg = ω 9 i := by rw [nI_clamp (by omega), rd r hi hD 9 (by decide) (by decide)]
  have e36j : h.1 36 (nI j).toNatClampNeg = ω 9 j := by rw [nI_clamp (by omega), rd r hj hD 9 (by decide) (by decide)]
  rw [e31, e36, e36j, nI_clamp (by omega), rd1 r hm hp]
  refine ⟨vp_in_nI (by omega) (by decide), vp_in_nI (by omega) (by decide), fun z => ⟨fun z2 => ⟨vp_in_nI (by omega) (by decide), ?_⟩, fun z2 => ?_⟩, fun z => ?_⟩
  · rw [if_neg z, if_neg z2] at H; exact H
  · rw [if_neg z, if_pos z2] at H; exact H
  · rw [if_pos z] at H; exact H
/-- neither would have more otherwise -/
def rsB (ω : wT) (i j c : Nat) : Bool := decide (¬ shV ω i j (nI (c / 2)) (nI (c % 2)) < shV ω i j (nI (1 - c / 2)) (nI (c % 2))) && decide (¬ shV ω j i (nI (c % 2)) (nI (c / 2)) < shV ω j i (nI (1 - c % 2)) (nI (c / 2)))
def rsL (P : Nat → Bool) : Nat → List Nat
  | 0 => []
  | c + 1 => if P c then rsL P c ++ [c] else rsL P c
theorem rsL_len (P : Nat → Bool) : ∀ c, (rsL P c).length ≤ c
  | 0 => Nat.le_refl _
  | c + 1 => by
    unfold rsL
    have := rsL_len P c
    split
    · rw [List.length_append]; simp; exact this
    · omega
theorem rsL_pre (P : Nat → Bool) (c : Nat) : ∀ r, ∃ tl, rsL P (c + r) = rsL P c ++ tl
  | 0 => ⟨[], by simp⟩
  | r + 1 => by
    obtain ⟨tl, e⟩ := rsL_pre P c r
    show ∃ tl, (if P (c + r) then rsL P (c + r) ++ [c + r] else rsL P (c + r)) = rsL P c ++ tl
    split
    · exact ⟨tl ++ [c + r], by rw [e, List.append_assoc]⟩
    · exact ⟨tl, e⟩
def rsV (c : Nat) : Int32 := 10 * nI (c / 2) + nI (c % 2)
theorem h2c : ∀ c, c < 4 → nI c >>> ((1 : Int32) &&& 31) = nI (c / 2) ∧ nI c &&& 1 = nI (c % 2) ∧ (1 : Int32) - nI (c / 2) = nI (1 - c / 2) ∧ (1 : Int32) - nI (c % 2) = nI (1 - c % 2) ∧ nI c / 2 = nI (c / 2) ∧ nI c - nI c / 2 * 2 = nI (c % 2) := by decide
theorem c_rests {R : Int32 → aH → Prop} {i j : Nat} (g : GQ hC hM sy m t n D0 D) (hi : i < D) (hj : j < D) (H : ∀ hC', kC hC hC' → (∀ k c, (rsL (rsB (wq hC 66) i j) 4)[k]? = some c → hC'.1 371 k = rsV c) → R (nI (rsL (rsB (wq hC 66) i j) 4).length) hC') : AW GC l ad (d + 2) mX4_findRests 0 [(0, .ref (ad 352)), (1, .ref (ad 66)), (2, .int (nI i)), (3, .int (nI j))] [] hC (qi R) := by
  obtain ⟨I, r, N⟩ := g.2.1
  refine bX4_findRests_0 66 isW_66 _ _ _ ?_
  refine up_ind (P := fun c => ∀ hC', kC hC hC' → (∀ k q, (rsL (rsB (wq hC 66) i j) c)[k]? = some q → hC'.1 371 k = rsV q) → AW GC l ad (d + 2) mX4_findRests 6 [(0, .ref (ad 352)), (1, .ref (ad 66)), (2, .int (nI i)), (3, .int (nI j)), (4, .int (nI (rsL (rsB (wq hC 66) i j) c).length)), (5, .int (nI c))] [] hC' (qi R)) 4 (fun hC' kc hv => ?_) (fun c hc ih hC' kc hv => ?_) hC kC_rfl (fun k q w => by simp [rsL] at w)
  · exact bX4_findRests_6 66 isW_66 _ _ _ _ _ ⟨fun _ => H _ kc hv, fun z => absurd (Int32.le_refl _) z⟩
  · have e66 := kC_66 kc
    have wf : WFw m t D (wq hC' 66) := by rw [e66]; exact I.1
    obtain ⟨q1, q2, q3, q4, -, -⟩ := h2c c hc
    have ll := rsL_len (rsB (wq hC 66) i j) c
    have es : rsL (rsB (wq hC 66) i j) (c + 1) = if rsB (wq hC 66) i j c then rsL (rsB (wq hC 66) i j) c ++ [c] else rsL (rsB (wq hC 66) i j) c := rfl
    have NO : rsB (wq hC 66) i j c = false → AW GC l ad (d + 2) mX4_findRests 6 [(0, .ref (ad 352)), (1, .ref (ad 66)), (2, .int (nI i)), (3, .int (nI j)), (4, .int (nI (rsL (rsB (wq hC 66) i j) c).length)), (5, .int (nI (c + 1)))] [] hC' (qi R) := by
      intro z
      have es2 : rsL (rsB (wq hC 66) i j) (c + 1) = rsL (rsB (wq hC 66) i j) c := by rw [es, z]; rfl
      have := ih hC' kc (by rw [es2]; exact hv)
      rw [es2] at this
      exact this
    refine bX4_findRests_6 66 isW_66 _ _ _ _ _ ⟨fun z => absurd z (nI_ge (b := 4) hc (by decide)), fun _ => ?_⟩
    rw [q1, q2, q3]
    refine c_share wf hi hj (c_share wf hi hj ⟨fun z => bX4_findRests_58 66 isW_66 _ _ _ _ _ _ _ _ ⟨fun _ => ?_, fun w => absurd rfl w⟩, fun z => bX4_findRests_58 66 isW_66 _ _ _ _ _ _ _ _ ⟨fun w => absurd w (by decide), fun _ => ?_⟩⟩)
    · rw [nI_1]
      rw [e66] at z
      exact NO (by unfold rsB; rw [decide_eq_false (fun w => w z), Bool.false_and])
    · rw [q4]
      refine c_share wf hj hi (c_share wf hj hi ⟨fun z2 => ?_, fun z2 => ?_⟩)
      · rw [nI_1]
        rw [e66] at z z2
        exact NO (by unfold rsB; rw [decide_eq_true z, Bool.true_and, decide_eq_false (fun w => w z2)])
      · rw [nI_clamp (by omega), nI_1, nI_1]
        rw [e66] at z z2
        have yes : rsB (wq hC 66) i j c = true := by unfold rsB; rw [decide_eq_true z, decide_eq_true z2]; rfl
        have es2 : rsL (rsB (wq hC 66) i j) (c + 1) = rsL (rsB (wq hC 66) i j) c ++ [c] := by rw [es, yes]; rfl
        refine ⟨vp_in_nI (by omega) (by decide), ?_⟩
        have := ih (sI hC' 371 (rsL (rsB (wq hC 66) i j) c).length (10 * nI (c / 2) + nI (c % 2))) (kC_tr kc ⟨fun c k hc => sI_c (by omega), fun _ _ _ => rfl⟩) (fun k q hk => ?_)
        · rw [es2, List.length_append] at this
          exact this
        · rw [es2] at hk
          by_cases w : k = (rsL (rsB (wq hC 66) i j) c).length
          · subst w
            rw [List.getElem?_append_right (Nat.le_refl _), Nat.sub_self] at hk
            have : c = q := by simpa using hk
            rw [sI_s, ← this]; rfl
          · rw [sI_k w]
            by_cases w2 : k < (rsL (rsB (wq hC 66) i j) c).length
            · rw [List.getElem?_append_left w2] at hk
              exact hv k q hk
            · rw [List.getElem?_append_right (by omega)] at hk
              rw [List.getElem?_eq_none (by simp; omega)] at hk
              cases hk
theorem m_isRest {R : Int32 → aH → Prop} {i j c : Nat} (hc : c < 4) (wf : WFw m t D ω) (r : RelW m t D ω (bkT h 0)) (hi : i < D) (hj : j < D) (H : R (if rsB ω i j c then 1 else 0) h) : AW (GM adK adV) l ad (d + 2) mX10_isRest 0 [(0, .ref (ad 0)), (1, .int (nI i)), (2, .int (nI j)), (3, .int (nI c))] [] h (qi R) := by
  obtain ⟨-, -, q3, q4, q5, q6⟩ := h2c c hc
  refine bX10_isRest_0 _ _ _ _ ?_
  rw [q6, q5, q3, q4]
  unfold rsB at H
  refine m_has wf r hi hj (m_has wf r hi hj ⟨fun z => ?_, fun z => m_has wf r hj hi (m_has wf r hj hi ⟨fun z2 => ?_, fun z2 => ?_⟩)⟩)
  · rw [decide_eq_false (fun w => w z), Bool.false_and] at H; exact H
  · rw [decide_eq_true z, Bool.true_and, decide_eq_false (fun w => w z2)] at H; exact H
  · rw [decide_eq_true z, decide_eq_true z2] at H; exact H
theorem m_restOf {R : Int32 → aH → Prop} {i j : Nat} {x3 : Int32} (wf : WFw m t D ω) (r : RelW m t D ω (bkT h 0)) (hi : i < D) (hj : j < D) (hx : x3 = -1 ∧ R (nI (rsL (rsB ω i j) 4).length) h ∨ ∃ k, k < 2 ^ 31 ∧ x3 = nI k ∧ R (((rsL (rsB ω i j) 4)[k]?).elim (-2) rsV) h) : AW (GM adK adV) l ad (d + 3) mX10_restOf 0 [(0, .ref (ad 0)), (1, .int (nI i)), (2, .int (nI j)), (3, .int x3)] [] h (qi R) := by
  refine bX10_restOf_0 _ _ _ _ ?_
  refine up_ind (P := fun c => (∀ k, x3 = nI k → k < 2 ^ 31 → (rsL (rsB ω i j) c).length ≤ k) → AW (GM adK adV) l ad (d + 3) mX10_restOf 6 [(0, .ref (ad 0)), (1, .int (nI i)), (2, .int (nI j)), (3, .int x3), (4, .int (nI (rsL (rsB ω i j) c).length)), (5, .int (nI c))] [] h (qi R)) 4 (fun hk => ?_) (fun c hc ih hk => ?_) (fun k _ _ => Nat.zero_le _)
  · refine bX10_restOf_6 _ _ _ _ _ _ ⟨fun _ => ⟨fun z => ?_, fun z => ?_⟩, fun z => absurd (Int32.le_refl _) z⟩
    · rcases hx with ⟨w, -⟩ | ⟨k, k1, k2, k3⟩
      · exact absurd w z
      · rw [List.getElem?_eq_none (hk k k2 k1)] at k3
        exact k3
    · rcases hx with ⟨-, w⟩ | ⟨k, k1, k2, k3⟩
      · exact w
      · exact absurd (by rw [← k2, z]; decide) (nI_pos k1)
  · obtain ⟨-, -, -, -, q5, q6⟩ := h2c c hc
    have ll := rsL_len (rsB ω i j) c
    have es : rsL (rsB ω i j) (c + 1) = if rsB ω i j c then rsL (rsB ω i j) c ++ [c] else rsL (rsB ω i j) c := rfl
    refine bX10_restOf_6 _ _ _ _ _ _ ⟨fun z => absurd z (nI_ge (b := 4) hc (by decide)), fun _ => m_isRest hc wf r hi hj ?_⟩
    rw [nI_1 c, q6, q5]
    cases hb : rsB ω i j c
    · have es2 : rsL (rsB ω i j) (c + 1) = rsL (rsB ω i j) c := by rw [es, hb]; rfl
      rw [es2] at ih
      exact ⟨fun z => absurd rfl z, fun _ => ih hk⟩
    · have es2 : rsL (rsB ω i j) (c + 1) = rsL (rsB ω i j) c ++ [c] := by rw [es, hb]; rfl
      rw [es2, List.length_append] at ih
      refine ⟨fun _ => ⟨fun z => ?_, fun z => ?_⟩, fun z => absurd z (by decide)⟩
      · rw [nI_1]
        refine ih (fun k k1 k2 => ?_)
        have := hk k k1 k2
        have n : (rsL (rsB ω i j) c).length ≠ k := fun w => z (by rw [k1, w])
        show (rsL (rsB ω i j) c).length + 1 ≤ k
        omega
      · rcases hx with ⟨w, -⟩ | ⟨k, k1, k2, k3⟩
        · exact absurd (by rw [z, w]; decide) (nI_pos (n := (rsL (rsB ω i j) c).length) (by omega))
        · have ek : (rsL (rsB ω i j) c).length = k := (nI_eq (by omega) k1).mp (z.trans k2)
          obtain ⟨tl, et⟩ := rsL_pre (rsB ω i j) (c + 1) (4 - (c + 1))
          rw [show c + 1 + (4 - (c + 1)) = 4 by omega, es2] at et
          have : (rsL (rsB ω i j) 4)[k]? = some c := by
            rw [et, List.append_assoc, List.getElem?_append_right (by omega), ek, Nat.sub_self]
            rfl
          rw [this] at k3
          exact k3
/-- two who can ask -/
def caB (ω : wT) (i j : Nat) : Bool := !decide (i = j) && (decide (ω 8 i = 1) && (decide (ω 8 j = 1) && decide (ω 4 i = ω 4 j)))
theorem c_canAsk {R : Int32 → aH → Prop} {x1 x2 : Int32} (g : GQ hC hM sy m t n D0 D) (H0 : (isIn x1 D && isIn x2 D) = false → R 0 hC) (H1 : ∀ i j, i < D → j < D → x1 = nI i → x2 = nI j → R (if caB (wq hC 66) i j then 1 else 0) hC) : AW GC l ad (d + 1) mX9_canAsk 0 [(0, .ref (ad 0)), (1, .int x1), (2, .int x2)] [] hC (qi R) := by
  obtain ⟨e1, e2, e3, e4, e5, e6, hm, ht, hD⟩ := g_S g
  refine bX9_canAsk_0 _ _ _ (c_isDebt g ?_)
  cases h1 : isIn x1 D
  · exact ⟨fun _ => H0 (by rw [h1]; rfl), fun z => absurd rfl z⟩
  refine ⟨fun z => absurd z (by decide), fun _ => c_isDebt g ?_⟩
  cases h2 : isIn x2 D
  · exact ⟨fun _ => H0 (by rw [h1, h2]; rfl), fun z => absurd rfl z⟩
  obtain ⟨i, hi, rfl⟩ := isIn_of (by omega) h1
  obtain ⟨j, hj, rfl⟩ := isIn_of (by omega) h2
  have H1 := H1 i j hi hj rfl rfl
  unfold caB at H1
  have e74 : ∀ k, hC.1 74 k = wq hC 66 8 k := fun k => (wq_at (w := 66) (j := 8) (by decide)).symm
  have e70 : ∀ k, hC.1 70 k = wq hC 66 4 k := fun k => (wq_at (w := 66) (j := 4) (by decide)).symm
  rw [nI_clamp (by omega), nI_clamp (by omega), e74, e74, e70, e70]
  refine ⟨fun z => absurd z (by decide), fun _ => ⟨fun z => ?_, fun z => ⟨vp_in_nI (by omega) (by decide), fun z2 => ?_, fun z2 => ⟨vp_in_nI (by omega) (by decide), fun z3 => ?_, fun z3 => ⟨fun z4 => ?_, fun z4 => ?_⟩⟩⟩⟩⟩
  · rw [decide_eq_true ((nI_eq (by omega) (by omega)).mp z)] at H1; exact H1
  · rw [decide_eq_false z2, Bool.false_and, Bool.and_false] at H1; exact H1
  · rw [decide_eq_false z3, Bool.false_and, Bool.and_false, Bool.and_false] at H1; exact H1
  · rw [decide_eq_false z4, Bool.and_false, Bool.and_false, Bool.and_false] at H1; exact H1
  · rw [decide_eq_false (fun w => z (by rw [w])), decide_eq_true z2, decide_eq_true z3, decide_eq_true z4] at H1; exact H1
theorem m_areTwo {R : Int32 → aH → Prop} {x1 x2 : Int32} (g : GQ hC hM sy m t n D0 D) (H0 : (isIn x1 D && isIn x2 D) = false → R 0 hM) (H1 : ∀ i j, i < D → j < D → x1 = nI i → x2 = nI j → R (if caB (wq hC 66) i j then 1 else 0) hM) : AW (GM adK adV) l ad (d + 1) mX10_areTwo 0 [(0, .ref (ad 0)), (1, .int x1), (2, .int x2)] [] hM (qi R) := by
  obtain ⟨e1, e2, e3, e4, e5, e6, hm, ht, hD⟩ := g_S g
  obtain ⟨I, r, N⟩ := g.2.1
  refine bX10_areTwo_0 _ _ _ (m_isDebt g ?_)
  cases h1 : isIn x1 D
  · exact ⟨fun _ => H0 (by rw [h1]; rfl), fun z => absurd rfl z⟩
  refine ⟨fun z => absurd z (by decide), fun _ => m_isDebt g ?_⟩
  cases h2 : isIn x2 D
  · exact ⟨fun _ => H0 (by rw [h1, h2]; rfl), fun z => absurd rfl z⟩
  obtain ⟨i, hi, rfl⟩ := isIn_of (by omega) h1
  obtain ⟨j, hj, rfl⟩ := isIn_of (by omega) h2
  have H1 := H1 i j hi hj rfl rfl
  unfold caB at H1
  refine ⟨fun z => absurd z (by decide), fun _ => ⟨fun z => ?_, fun z => mH (b := 0) (m_isOpen (b := 0) (by decide) (by omega) ?_)⟩⟩
  · rw [decide_eq_true ((nI_eq (by omega) (by omega)).mp z)] at H1; exact H1
  rw [pB_bk, row r hi 8 (by decide) (by decide)]
  rw [decide_eq_false (fun w => z (by rw [w]))] at H1
  by_cases z2 : wq hC 66 8 i = 1
  · rw [if_pos z2]
    refine ⟨fun w => absurd w (by decide), fun _ => mH (b := 0) (m_isOpen (b := 0) (by decide) (by omega) ?_)⟩
    rw [pB_bk, row r hj 8 (by decide) (by decide)]
    by_cases z3 : wq hC 66 8 j = 1
    · rw [if_pos z3, nI_clamp (by omega), nI_clamp (by omega), rd r hi hD 4 (by decide) (by decide), rd r hj hD 4 (by decide) (by decide)]
      refine ⟨fun w => absurd w (by decide), fun _ => ⟨vp_in_nI (by omega) (by decide), vp_in_nI (by omega) (by decide), fun z4 => ?_, fun z4 => ?_⟩⟩
      · rw [decide_eq_false z4, Bool.and_false, Bool.and_false, Bool.and_false] at H1; exact H1
      · rw [decide_eq_true z2, decide_eq_true z3, decide_eq_true z4] at H1; exact H1
    · rw [if_neg z3]
      refine ⟨fun _ => ?_, fun w => absurd rfl w⟩
      rw [decide_eq_false z3, Bool.false_and, Bool.and_false, Bool.and_false] at H1; exact H1
  · rw [if_neg z2]
    refine ⟨fun _ => ?_, fun w => absurd rfl w⟩
    rw [decide_eq_false z2, Bool.false_and, Bool.and_false] at H1; exact H1
theorem j_rests {x1 x2 : Int32} (g : GR hC hM) : AW GC l ad (d + 3) mX9_rests 0 [(0, .ref (ad 0)), (1, .int x1), (2, .int x2)] [] hC (qi (jq l' ad' (d' + 4) adK adV mX10_rests [(0, .ref (ad' 0)), (1, .int x1), (2, .int x2)] hM)) := by
  obtain ⟨sy, m, t, n, D0, D, g⟩ := g
  have g2 := g_thr g
  have G : GR hC (sI hM 0 0 0) := ⟨_, _, _, _, _, _, g2⟩
  obtain ⟨I, r, N⟩ := g2.2.1
  have hD := I.1.2.2.1
  refine bX9_rests_0 _ _ _ (c_canAsk g (fun q => ⟨fun _ => ?_, fun z => absurd rfl z⟩) (fun i j hi hj q1 q2 => ?_))
  · refine bX10_rests_0 _ _ _ (m_areTwo g2 (fun _ => ⟨fun _ => ⟨rfl, G⟩, fun z => absurd rfl z⟩) (fun i j hi hj q1 q2 => ?_))
    rw [q1, q2, isIn_nI (by omega) hi, isIn_nI (by omega) hj] at q
    cases q
  · subst q1 q2
    have nq : ¬ (isIn (nI i) D && isIn (nI j) D) = false := by rw [isIn_nI (by omega) hi, isIn_nI (by omega) hj]; decide
    cases hc : caB (wq hC 66) i j
    · refine ⟨fun _ => bX10_rests_0 _ _ _ (m_areTwo g2 (fun q => absurd q nq) (fun i' j' hi' hj' w1 w2 => ?_)), fun z => absurd rfl z⟩
      have a1 := (nI_eq (by omega) (by omega)).mp w1
      have a2 := (nI_eq (by omega) (by omega)).mp w2
      subst a1 a2
      rw [hc]
      exact ⟨fun _ => ⟨rfl, G⟩, fun z => absurd rfl z⟩
    · refine ⟨fun z => absurd z (by decide), fun _ => c_rests g hi hj (fun hC' kc hv => ?_)⟩
      refine bX10_rests_0 _ _ _ (m_areTwo g2 (fun q => absurd q nq) (fun i' j' hi' hj' w1 w2 => ?_))
      have a1 := (nI_eq (by omega) (by omega)).mp w1
      have a2 := (nI_eq (by omega) (by omega)).mp w2
      subst a1 a2
      rw [hc]
      exact ⟨fun z => absurd z (by decide), fun _ => m_restOf I.1 r hi hj (Or.inl ⟨rfl, rfl, _, _, _, _, _, _, gq_frame kc kM_rfl g2⟩)⟩
theorem j_rest {x1 x2 x3 : Int32} (g : GR hC hM) : AW GC l ad (d + 3) mX9_rest 0 [(0, .ref (ad 0)), (1, .int x1), (2, .int x2), (3, .int x3)] [] hC (qi (jq l' ad' (d' + 4) adK adV mX10_rest [(0, .ref (ad' 0)), (1, .int x1), (2, .int x2), (3, .int x3)] hM)) := by
  obtain ⟨sy, m, t, n, D0, D, g⟩ := g
  have g2 := g_thr g
  have G : GR hC (sI hM 0 0 0) := ⟨_, _, _, _, _, _, g2⟩
  obtain ⟨I, r, N⟩ := g2.2.1
  have hD := I.1.2.2.1
  refine bX9_rest_0 _ _ _ _ (c_canAsk g (fun q => ⟨fun _ => ?_, fun z => absurd rfl z⟩) (fun i j hi hj q1 q2 => ?_))
  · refine bX10_rest_0 _ _ _ _ (m_areTwo g2 (fun _ => ⟨fun _ => ⟨rfl, G⟩, fun z => absurd rfl z⟩) (fun i j hi hj q1 q2 => ?_))
    rw [q1, q2, isIn_nI (by omega) hi, isIn_nI (by omega) hj] at q
    cases q
  · subst q1 q2
    have nq : ¬ (isIn (nI i) D && isIn (nI j) D) = false := by rw [isIn_nI (by omega) hi, isIn_nI (by omega) hj]; decide
    have M : ∀ R : Int32 → aH → Prop, (caB (wq hC 66) i j = false → R (-1) (sI hM 0 0 0)) → (caB (wq hC 66) i j = true → (x3 < 0 → R (-1) (sI hM 0 0 0)) ∧ (¬ x3 < 0 → AW (GM adK adV) l' ad' (d' + 3) mX10_restOf 0 [(0, .ref (ad' 0)), (1, .int (nI i)), (2, .int (nI j)), (3, .int x3)] [] (sI hM 0 0 0) (qi R))) → AW (GM adK adV) l' ad' (d' + 4) mX10_rest 0 [(0, .ref (ad' 0)), (1, .int (nI i)), (2, .int (nI j)), (3, .int x3)] [] hM (qi R) := by
      intro R k0 k1
      refine bX10_rest_0 _ _ _ _ (m_areTwo g2 (fun q => absurd q nq) (fun i' j' hi' hj' w1 w2 => ?_))
      have a1 := (nI_eq (by omega) (by omega)).mp w1
      have a2 := (nI_eq (by omega) (by omega)).mp w2
      subst a1 a2
      cases hc : caB (wq hC 66) i j
      · exact ⟨fun _ => k0 hc, fun z => absurd rfl z⟩
      · exact ⟨fun z => absurd z (by decide), fun _ => k1 hc⟩
    cases hc : caB (wq hC 66) i j
    · refine ⟨fun _ => M _ (fun _ => ⟨rfl, G⟩) (fun w => ?_), fun z => absurd rfl z⟩
      rw [hc] at w; cases w
    · have nc : ¬ caB (wq hC 66) i j = false := by rw [hc]; decide
      refine ⟨fun z => absurd z (by decide), fun _ => ⟨fun z0 => c_rests g hi hj (fun hC' kc hv => ?_), fun z0 => M _ (fun w => absurd w nc) (fun _ => ⟨fun _ => ⟨rfl, G⟩, fun w => absurd (Int32.not_lt.mp w) z0⟩)⟩⟩
      have z0' : ¬ x3 < 0 := Int32.not_lt.mpr z0
      obtain ⟨k, hk, rfl⟩ := nI_of z0'
      have ll := rsL_len (rsB (wq hC 66) i j) 4
      have G' : GR hC' (sI hM 0 0 0) := ⟨_, _, _, _, _, _, gq_frame kc kM_rfl g2⟩
      refine ⟨fun z => ?_, fun z => ⟨fun z4 => ?_, fun z4 => ?_⟩⟩
      · refine M _ (fun w => absurd w nc) (fun _ => ⟨fun w => absurd w z0', fun _ => m_restOf I.1 r hi hj (Or.inr ⟨k, hk, rfl, ?_⟩)⟩)
        rw [List.getElem?_eq_none ((nI_leI (by omega) hk).mp z)]
        exact ⟨rfl, G'⟩
      · have := (nI_leI (a := 4) (by decide) hk).mp z4
        exact absurd (nI_le (show (rsL (rsB (wq hC 66) i j) 4).length ≤ k by omega) hk) z
      · have hlt : k < (rsL (rsB (wq hC 66) i j) 4).length := Nat.lt_of_not_le (fun w => z (nI_le w hk))
        rw [nI_clamp hk]
        refine ⟨vp_in_nI (by omega) (by decide), M _ (fun w => absurd w nc) (fun _ => ⟨fun w => absurd w z0', fun _ => m_restOf I.1 r hi hj (Or.inr ⟨k, hk, rfl, ?_⟩)⟩)⟩
        rw [List.getElem?_eq_getElem hlt, hv k _ (List.getElem?_eq_getElem hlt)]
        exact ⟨rfl, G'⟩
end AS
