/-! ===== a story's start on both sides; strikes ===== -/
section ST
variable {adK adV : Nat → Nat} {l l' : Launch} {ad ad' : Nat → Nat} {d d' b : Nat} {hC hM hC' hM' h : aH} {sy m t n D0 D : Nat} {ω β σ : wT} {way deaf : Int32}
theorem one_t : ∀ t, t ≤ 6 → ((1 : Int32) <<< (nI t &&& 31)) - 1 = nI (2 ^ t - 1) := by decide
theorem wq_st {sy : Nat} : wq h (sy + 17) = stW (wd h sy) := by
  funext j k
  unfold wq stW
  by_cases hj : j < 12
  · rw [if_pos hj, if_pos hj, wd_at (by omega), Nat.add_assoc]
  · rw [if_neg hj, if_neg hj]
/-- a book's head as a story tells it -/
def sb0 (h : aH) (D0 t : Nat) (β : wT) : Prop := β 0 11 = nI D0 ∧ β 0 12 = nI (2 ^ t - 1) ∧ β 0 13 = 0 ∧ β 0 14 = h.1 2 5
theorem sb0_u {j k : Nat} {v : Int32} (hj : j ≠ 0) (s : sb0 h D0 t β) : sb0 h D0 t (u2 β j k v) := by
  unfold sb0
  rw [u2_j (Ne.symm hj), u2_j (Ne.symm hj), u2_j (Ne.symm hj), u2_j (Ne.symm hj)]
  exact s
theorem m_st3 {R : aH → Prop} (hb : b < 23) (e22 : h.1 2 2 = nI D0) (hD0 : D0 ≤ 8) (H : ∀ β', sb0 h D0 t β' → (∀ q, q < m → β' 1 q = h.1 4 q) → (∀ q, q < t → β' 2 q = h.1 6 q ∧ β' 12 q = 0) → (∀ q, q < D0 → (∀ j, 3 ≤ j → j ≤ 7 → β' j q = h.1 (6 + j) q) ∧ β' 8 q = 0 ∧ β' 9 q = 0) → R (pB h b β')) (s : sb0 h D0 t β) (s1 : ∀ q, q < m → β 1 q = h.1 4 q) (s2 : ∀ q, q < t → β 2 q = h.1 6 q ∧ β 12 q = 0) : AW (GM adK adV) l ad d mX10_starts 151 [(0, .ref (ad 0)), (1, .int (nI b)), (2, .int (0 : Int32))] [] (pB h b β) (qv R) := by
  refine up_ind (P := fun i => ∀ β, sb0 h D0 t β → (∀ q, q < m → β 1 q = h.1 4 q) → (∀ q, q < t → β 2 q = h.1 6 q ∧ β 12 q = 0) → (∀ q, q < i → q < D0 → (∀ j, 3 ≤ j → j ≤ 7 → β j q = h.1 (6 + j) q) ∧ β 8 q = 0 ∧ β 9 q = 0) → AW (GM adK adV) l ad d mX10_starts 151 [(0, .ref (ad 0)), (1, .int (nI b)), (2, .int (nI i))] [] (pB h b β) (qv R)) 8 (fun β s s1 s2 s3 => ?_) (fun i hi ih β s s1 s2 s3 => ?_) β s s1 s2 (fun q hq => absurd hq (Nat.not_lt_zero _))
  · exact bX10_starts_151 _ _ _ ⟨fun _ => H β s s1 s2 (fun q hq => s3 q (by omega) hq), fun z => absurd (Int32.le_refl _) z⟩
  · have K : ∀ (is x3 x4 x5 x6 x7 : Int32), (is = 0 ∧ D0 ≤ i ∧ x3 = 0 ∧ x4 = 0 ∧ x5 = 0 ∧ x6 = 0 ∧ x7 = 0 ∨ is = 1 ∧ x3 = h.1 9 i ∧ x4 = h.1 10 i ∧ x5 = h.1 11 i ∧ x6 = h.1 12 i ∧ x7 = h.1 13 i) → AW (GM adK adV) l ad d mX10_starts 179 [(0, .ref (ad 0)), (1, .int (nI b)), (2, .int (nI i)), (3, .int (nI (8 * b + i)))] [.int is] (pB h b β) (qv R) := by
      intro is x3 x4 x5 x6 x7 hx
      have F : AW (GM adK adV) l ad d mX10_starts 151 [(0, .ref (ad 0)), (1, .int (nI b)), (2, .int (nI (i + 1)))] [] (pB h b (u2 (u2 (u2 (u2 (u2 (u2 (u2 β 3 i x3) 4 i x4) 5 i x5) 6 i x6) 7 i x7) 8 i 0) 9 i 0)) (qv R) := by
        refine ih _ (sb0_u (by decide) (sb0_u (by decide) (sb0_u (by decide) (sb0_u (by decide) (sb0_u (by decide) (sb0_u (by decide) (sb0_u (by decide) s))))))) (fun q hq => ?_) (fun q hq => ?_) (fun q hq hq2 => ?_)
        · simp only [u2_j (show (1 : Nat) ≠ 3 by decide), u2_j (show (1 : Nat) ≠ 4 by decide), u2_j (show (1 : Nat) ≠ 5 by decide), u2_j (show (1 : Nat) ≠ 6 by decide), u2_j (show (1 : Nat) ≠ 7 by decide), u2_j (show (1 : Nat) ≠ 8 by decide), u2_j (show (1 : Nat) ≠ 9 by decide)]
          exact s1 q hq
        · simp only [u2_j (show (2 : Nat) ≠ 3 by decide), u2_j (show (2 : Nat) ≠ 4 by decide), u2_j (show (2 : Nat) ≠ 5 by decide), u2_j (show (2 : Nat) ≠ 6 by decide), u2_j (show (2 : Nat) ≠ 7 by decide), u2_j (show (2 : Nat) ≠ 8 by decide), u2_j (show (2 : Nat) ≠ 9 by decide), u2_j (show (12 : Nat) ≠ 3 by decide), u2_j (show (12 : Nat) ≠ 4 by decide), u2_j (show (12 : Nat) ≠ 5 by decide), u2_j (show (12 : Nat) ≠ 6 by decide), u2_j (show (12 : Nat) ≠ 7 by decide), u2_j (show (12 : Nat) ≠ 8 by decide), u2_j (show (12 : Nat) ≠ 9 by decide)]
          exact s2 q hq
        · by_cases z : q = i
          · subst z
            rcases hx with ⟨-, w, -⟩ | ⟨-, rfl, rfl, rfl, rfl, rfl⟩
            · omega
            · refine ⟨fun j h1 h2 => ?_, ?_, ?_⟩
              · have : j = 3 ∨ j = 4 ∨ j = 5 ∨ j = 6 ∨ j = 7 := by omega
                rcases this with rfl | rfl | rfl | rfl | rfl <;> simp [u2]
              · simp [u2]
              · simp [u2]
          · simp only [u2_k z]
            exact s3 q (by omega) hq2
      refine bX10_starts_179 _ _ _ _ _ ?_
      rw [nI_clamp (by omega), pB_lo (by decide)]
      have c8 : (nI (8 * b + i)).toNatClampNeg = 8 * b + i := nI_clamp (by omega)
      have ci : (nI i).toNatClampNeg = i := nI_clamp (by omega)
      have v8 : vp_in (nI (8 * b + i)) 184 := vp_in_nI (by omega) (by decide)
      have v16 : vp_in (nI i) 16 := vp_in_nI (by omega) (by decide)
      have a3 := a30 (b := b) (j := 3) (i := i) hi (by decide) (by decide)
      have a4 := a30 (b := b) (j := 4) (i := i) hi (by decide) (by decide)
      have a5 := a30 (b := b) (j := 5) (i := i) hi (by decide) (by decide)
      have a6 := a30 (b := b) (j := 6) (i := i) hi (by decide) (by decide)
      have a7 := a30 (b := b) (j := 7) (i := i) hi (by decide) (by decide)
      have a8 := a30 (b := b) (j := 8) (i := i) hi (by decide) (by decide)
      have a9 := a30 (b := b) (j := 9) (i := i) hi (by decide) (by decide)
      rcases hx with ⟨rfl, -, rfl, rfl, rfl, rfl, rfl⟩ | ⟨rfl, rfl, rfl, rfl, rfl, rfl⟩
      · refine ⟨fun _ => bX10_starts_201 _ _ _ _ _ _ _ ?_, fun z => absurd rfl z⟩
        rw [c8, sI_pB a3]
        refine ⟨v8, fun _ => bX10_starts_222 _ _ _ _ _ _ _ ?_, fun z => absurd rfl z⟩
        rw [c8, sI_pB a4]
        refine ⟨v8, fun _ => bX10_starts_243 _ _ _ _ _ _ _ ?_, fun z => absurd rfl z⟩
        rw [c8, sI_pB a5]
        refine ⟨v8, fun _ => bX10_starts_264 _ _ _ _ _ _ _ ?_, fun z => absurd rfl z⟩
        rw [c8, sI_pB a6]
        refine ⟨v8, fun _ => bX10_starts_285 _ _ _ _ _ _ ?_, fun z => absurd rfl z⟩
        rw [c8, sI_pB a7, sI_pB a8, sI_pB a9, nI_1]
        exact ⟨v8, v8, F⟩
      · refine ⟨fun z => absurd z (by decide), fun _ => ⟨v16, bX10_starts_201 _ _ _ _ _ _ _ ?_⟩⟩
        rw [c8, sI_pB a3, ci, pB_lo (by decide)]
        refine ⟨v8, fun z => absurd z (by decide), fun _ => ⟨v16, bX10_starts_222 _ _ _ _ _ _ _ ?_⟩⟩
        rw [c8, sI_pB a4, ci, pB_lo (by decide)]
        refine ⟨v8, fun z => absurd z (by decide), fun _ => ⟨v16, bX10_starts_243 _ _ _ _ _ _ _ ?_⟩⟩
        rw [c8, sI_pB a5, ci, pB_lo (by decide)]
        refine ⟨v8, fun z => absurd z (by decide), fun _ => ⟨v16, bX10_starts_264 _ _ _ _ _ _ _ ?_⟩⟩
        rw [c8, sI_pB a6, ci, pB_lo (by decide)]
        refine ⟨v8, fun z => absurd z (by decide), fun _ => ⟨v16, bX10_starts_285 _ _ _ _ _ _ ?_⟩⟩
        rw [c8, sI_pB a7, sI_pB a8, sI_pB a9, nI_1]
        exact ⟨v8, v8, F⟩
    refine bX10_starts_151 _ _ _ ?_
    rw [pB_lo (by decide), e22, i8]
    refine ⟨fun z => absurd z (nI_ge (b := 8) hi (by decide)), fun _ => ⟨fun z => K 0 0 0 0 0 0 (Or.inl ⟨rfl, (nI_leI (by omega) (by omega)).mp z, rfl, rfl, rfl, rfl, rfl⟩), fun z => K 1 _ _ _ _ _ (Or.inr ⟨rfl, rfl, rfl, rfl, rfl, rfl⟩)⟩⟩
theorem m_starts {R : aH → Prop} (hb : b < 23) (C : MC h σ m t n) (gr : gR h σ m t D0) (hm : m ≤ 6) (ht : t ≤ 6) (hD0 : D0 ≤ 8) (H : ∀ β', RelW m t D0 (stW σ) β' → R (pB h b β')) : AW (GM adK adV) l ad d mX10_starts 0 [(0, .ref (ad 0)), (1, .int (nI b))] [] (pB h b β) (qv R) := by
  obtain ⟨r1, r2, r3, r4, r5, r6, rI, r8, r9, r10, rN⟩ := gr
  have e20 := C.1
  have e21 := C.2.1
  refine bX10_starts_0 _ _ ?_
  have cb : (nI b).toNatClampNeg = b := nI_clamp (by omega)
  rw [cb, sI_pB a23, pB_lo (by decide), sI_pB a24, pB_lo (by decide), sI_pB a25, r3]
  refine ⟨vp_in_nI hb (by decide), href ?_⟩
  rw [pB_lo (by decide), e21, one_t t ht, sI_pB a26]
  have s0 : sb0 h D0 t (u2 (u2 (u2 (u2 β 0 13 0) 0 14 (h.1 2 5)) 0 11 (nI D0)) 0 12 (nI (2 ^ t - 1))) := by
    unfold sb0
    simp [u2]
  generalize u2 (u2 (u2 (u2 β 0 13 0) 0 14 (h.1 2 5)) 0 11 (nI D0)) 0 12 (nI (2 ^ t - 1)) = β1 at s0 ⊢
  refine up_ind (P := fun i => ∀ β, sb0 h D0 t β → (∀ q, q < i → q < m → β 1 q = h.1 4 q) → AW (GM adK adV) l ad d mX10_starts 49 [(0, .ref (ad 0)), (1, .int (nI b)), (2, .int (nI i))] [] (pB h b β) (qv R)) 6 (fun β s s1 => ?_) (fun i hi ih β s s1 => ?_) β1 s0 (fun q hq => absurd hq (Nat.not_lt_zero _))
  · refine bX10_starts_49 _ _ _ ⟨fun _ => ?_, fun z => absurd (Int32.le_refl _) z⟩
    have s1 : ∀ q, q < m → β 1 q = h.1 4 q := fun q hq => s1 q (by omega) hq
    refine up_ind (P := fun i => ∀ β, sb0 h D0 t β → (∀ q, q < m → β 1 q = h.1 4 q) → (∀ q, q < i → q < t → β 2 q = h.1 6 q ∧ β 12 q = 0) → AW (GM adK adV) l ad d mX10_starts 94 [(0, .ref (ad 0)), (1, .int (nI b)), (2, .int (nI i))] [] (pB h b β) (qv R)) 6 (fun β s s1 s2 => ?_) (fun i hi ih β s s1 s2 => ?_) β s s1 (fun q hq => absurd hq (Nat.not_lt_zero _))
    · refine bX10_starts_94 _ _ _ ⟨fun _ => ?_, fun z => absurd (Int32.le_refl _) z⟩
      refine m_st3 hb r3 hD0 (fun β' b0 b1 b2 b3 => H β' ?_) s s1 (fun q hq => s2 q (by omega) hq)
      have hst : ∀ j k, j < 12 → stW σ j k = σ (17 + j) k := fun j k hj => stW_at hj
      refine ⟨b0.1, b0.2.1.trans (r10.symm.trans (hst 0 12 (by decide)).symm), b0.2.2.1.trans (r9.symm.trans (hst 0 13 (by decide)).symm), b0.2.2.2.trans (r4.trans (hst 0 14 (by decide)).symm), fun p hp => ?_, fun e he => ?_, fun i hi j h1 h2 => ?_, fun e he => ?_⟩
      · rw [b1 p hp, (r1 p hp).2, hst 1 p (by decide)]
      · rw [(b2 e he).1, (r2 e he).2, hst 2 e (by decide)]
      · have z8 : stW σ 8 i = 0 := (hst 8 i (by decide)).trans (r8 i hi)
        by_cases w : j ≤ 7
        · rw [(b3 i hi).1 j h1 w, r6 i hi j h1 w, hst j i (by omega)]
        · have : j = 8 ∨ j = 9 := by omega
          rcases this with rfl | rfl
          · rw [(b3 i hi).2.1, z8]
          · rw [(b3 i hi).2.2, ((rI.2.1.1 i hi).2 (by rw [z8]; decide)).1]
      · rw [(b2 e he).2]
        refine ⟨⟨0, Nat.two_pow_pos _, rfl⟩, fun i hi => ?_⟩
        have z8 : stW σ 8 i = 0 := (hst 8 i (by decide)).trans (r8 i hi)
        rw [((rI.2.1.1 i hi).2 (by rw [z8]; decide)).2, bt_0, bt_0]
    · have K : ∀ x, (i < t → x = h.1 6 i) → AW (GM adK adV) l ad d mX10_starts 130 [(0, .ref (ad 0)), (1, .int (nI b)), (2, .int (nI i))] [.int x, .int (nI (6 * b + i)), .ref (ad 28)] (pB h b β) (qv R) := by
        intro x ex
        refine bX10_starts_130 _ _ _ _ _ ?_
        rw [i6, nI_clamp (by omega), sI_pB (a28 hi), sI_pB (a29 hi), nI_1]
        refine ⟨vp_in_nI (by omega) (by decide), vp_in_nI (by omega) (by decide), ih _ (sb0_u (by decide) (sb0_u (by decide) s)) (fun q hq => ?_) (fun q hq hq2 => ?_)⟩
        · rw [u2_j (by decide), u2_j (by decide)]; exact s1 q hq
        · by_cases z : q = i
          · subst z
            rw [u2_j (j' := 2) (j := 12) (by decide), u2_s, u2_s]
            exact ⟨ex hq2, rfl⟩
          · rw [u2_k z, u2_k z, u2_k z, u2_k z]
            exact s2 q (by omega) hq2
      refine bX10_starts_94 _ _ _ ?_
      rw [pB_lo (by decide), e21, i6, nI_clamp (by omega), pB_lo (by decide)]
      refine ⟨fun z => absurd z (nI_ge (b := 6) hi (by decide)), fun _ => ⟨fun z => K 0 (fun w => ?_), fun z => ⟨vp_in_nI (by omega) (by decide), K _ (fun _ => rfl)⟩⟩⟩
      have := (nI_leI (by omega) (by omega)).mp z
      omega
  · have K : ∀ x, (i < m → x = h.1 4 i) → AW (GM adK adV) l ad d mX10_starts 49 [(0, .ref (ad 0)), (1, .int (nI b)), (2, .int (nI (i + 1)))] [] (pB h b (u2 β 1 i x)) (qv R) := by
      intro x ex
      refine ih _ (sb0_u (by decide) s) (fun q hq hq2 => ?_)
      by_cases z : q = i
      · subst z; rw [u2_s]; exact ex hq2
      · rw [u2_k z]; exact s1 q (by omega) hq2
    refine bX10_starts_49 _ _ _ ?_
    rw [pB_lo (by decide), e20, i6, nI_clamp (by omega), nI_clamp (by omega), pB_lo (by decide), sI_pB (a27 hi), sI_pB (a27 hi), nI_1]
    refine ⟨fun z => absurd z (nI_ge (b := 6) hi (by decide)), fun _ => ⟨fun z => ⟨vp_in_nI (by omega) (by decide), K 0 (fun w => ?_)⟩, fun z => ⟨vp_in_nI (by omega) (by decide), vp_in_nI (by omega) (by decide), K _ (fun _ => rfl)⟩⟩⟩
    have := (nI_leI (by omega) (by omega)).mp z
    omega
/-- what is struck, asked from the last one on -/
def skS (o : Nat → Int32) : Nat → (Nat → Int32) → (Nat → Int32)
  | 0, s => s
  | k + 1, s => skS o k (if s k = 0 then (if o k = -1 then s else fun j => if j = ix (o k) then 1 else s j) else s)
theorem nar0 : vp_nar .boolean (0 : Int32) = 0 := by decide
theorem nar1 : vp_nar .boolean (1 : Int32) = 1 := by decide
theorem pred_add {k : Nat} : nI (k + 1) + (-1 : Int32) = nI k := by
  rw [← nI_pred k, Int32.sub_eq_add_neg]
theorem c_strike {R : aH → Prop} {o : Nat → Int32} {q : Nat} (hq : q ≤ 24) (hr : (if h.1 346 6 = -1 then h.1 346 5 else h.1 346 6) = nI q) (ho : ∀ k, k < q → h.1 350 k = o k ∧ (o k = -1 ∨ ∃ p, p < k ∧ o k = nI p)) (H : ∀ h', (∀ c k, c ≠ 351 → h'.1 c k = h.1 c k) → h'.2 = h.2 → (∀ k, k < q → h'.1 351 k = skS o q (fun _ => 0) k) → R h') : AW GC l ad (d + 1) mX5_strikeOut 0 [(0, .ref (ad 346))] [] h (qv R) := by
  refine bX5_strikeOut_0 _ (c_ruling ?_)
  rw [hr, if_neg (show ¬ (24 : Int32) < nI q from nI_nlt (a := 24) (b := q) hq (by decide))]
  have down : ∀ k, k ≤ q → ∀ (h' : aH) (s : Nat → Int32), (∀ c k, c ≠ 351 → h'.1 c k = h.1 c k) → h'.2 = h.2 → (∀ j, j < q → h'.1 351 j = s j) → (∀ j, j < q → skS o k s j = skS o q (fun _ => 0) j) → AW GC l ad (d + 1) mX5_strikeOut 34 [(0, .ref (ad 346)), (2, .int (nI k - 1))] [] h' (qv R) := by
    intro k
    induction k with
    | zero =>
      intro _ h' s k1 k2 k3 k4
      exact bX5_strikeOut_34 _ _ ⟨fun _ => H h' k1 k2 (fun j hj => (k3 j hj).trans (k4 j hj)), fun z => absurd (by decide) z⟩
    | succ k ih =>
      intro hk h' s k1 k2 k3 k4
      rw [nI_pred]
      obtain ⟨o1, o2⟩ := ho k (by omega)
      have e50 : h'.1 350 k = o k := (k1 350 k (by decide)).trans o1
      refine bX5_strikeOut_34 _ _ ⟨fun z => absurd z (nI_pos (by omega)), fun _ => ⟨vp_in_nI (by omega) (by decide), ?_⟩⟩
      rw [nI_clamp (by omega), k3 k (by omega), e50, show nI k + (-1 : Int32) = nI k - 1 by rw [Int32.sub_eq_add_neg], nar1]
      have sk0 : ¬ s k = 0 → skS o (k + 1) s = skS o k s := fun z => by show skS o k (if s k = 0 then _ else s) = _; rw [if_neg z]
      have sk1 : s k = 0 → o k = -1 → skS o (k + 1) s = skS o k s := fun z z2 => by show skS o k (if s k = 0 then _ else s) = _; rw [if_pos z, if_pos z2]
      have sk2 : s k = 0 → ¬ o k = -1 → skS o (k + 1) s = skS o k (fun j => if j = ix (o k) then 1 else s j) := fun z z2 => by show skS o k (if s k = 0 then _ else s) = _; rw [if_pos z, if_neg z2]
      refine ⟨fun z => ih (by omega) h' s k1 k2 k3 (fun j hj => by rw [← sk0 z]; exact k4 j hj), fun z => ⟨fun z2 => ?_, fun z2 => ?_⟩⟩
      · rcases o2 with w | ⟨p, hp, w⟩
        · exact ih (by omega) h' s k1 k2 k3 (fun j hj => by rw [← sk1 z w]; exact k4 j hj)
        · rw [w] at z2; exact absurd z2 (nI_pos (by omega))
      · rcases o2 with w | ⟨p, hp, w⟩
        · rw [w] at z2; exact absurd (by decide) z2
        · have wn : ¬ o k = -1 := fun q => z2 (by rw [q]; decide)
          have sk := sk2 z wn
          rw [w, ix_nI (by omega)] at sk
          rw [w, nI_clamp (by omega)]
          refine ⟨fun z3 => absurd ((nI_leI (by omega) (by omega)).mp z3) (by omega), fun _ => ⟨vp_in_nI (by omega) (by decide), ih (by omega) _ (fun j => if j = p then 1 else s j) (fun c k hc => (sI_c hc).trans (k1 c k hc)) k2 (fun j hj => ?_) (fun j hj => by rw [← sk]; exact k4 j hj)⟩⟩
          by_cases w2 : j = p
          · subst w2; rw [sI_s, if_pos rfl]
          · rw [sI_k w2, if_neg w2]; exact k3 j hj
  refine up_ind (P := fun i => ∀ h', (∀ c k, c ≠ 351 → h'.1 c k = h.1 c k) → h'.2 = h.2 → (∀ j, j < i → h'.1 351 j = 0) → AW GC l ad (d + 1) mX5_strikeOut 12 [(0, .ref (ad 346)), (1, .int (nI q)), (2, .int (nI i))] [] h' (qv R)) q (fun h' k1 k2 k3 => ?_) (fun i hi ih h' k1 k2 k3 => ?_) h (fun _ _ _ => rfl) rfl (fun j hj => absurd hj (Nat.not_lt_zero _))
  · exact bX5_strikeOut_12 _ _ _ ⟨fun _ => down q (Nat.le_refl _) h' (fun _ => 0) k1 k2 k3 (fun _ _ => rfl), fun z => absurd (Int32.le_refl _) z⟩
  · refine bX5_strikeOut_12 _ _ _ ⟨fun z => absurd z (nI_ge hi (by omega)), fun _ => ⟨vp_in_nI (by omega) (by decide), ?_⟩⟩
    rw [nI_clamp (by omega), nI_1, nar0]
    refine ih _ (fun c k hc => (sI_c hc).trans (k1 c k hc)) k2 (fun j hj => ?_)
    by_cases w : j = i
    · subst w; exact sI_s
    · rw [sI_k w]; exact k3 j (by omega)
/-- the last day that counts -/
def lsD (s o dy : Nat → Int32) (k : Nat) (x : Int32) : Int32 := if s k = 0 then (if o k = -1 then (if x < dy k then dy k else x) else x) else x
theorem m_strike {R : Int32 → aH → Prop} {o dy : Nat → Int32} {q : Nat} {x1 : Int32} (hq : q ≤ 24) (hr : (if h.1 0 63 = -1 then h.1 0 62 else h.1 0 63) = nI q) (ho : ∀ k, k < q → h.1 44 k = o k ∧ (o k = -1 ∧ h.1 41 k = dy k ∨ ∃ p, p < k ∧ o k = nI p)) (H : ∀ h', (∀ c k, c ≠ 45 → h'.1 c k = h.1 c k) → (∀ k, k < q → h'.1 45 k = skS o q (fun _ => 0) k) → AW (GM adK adV) l ad (d + 1) mX10_had 139 [(0, .ref (ad 0)), (1, .int x1), (2, .int (itR (lsD (skS o q (fun _ => 0)) o dy) q 0)), (3, .int (0 : Int32)), (4, .int (0 : Int32))] [] h' (qi R)) : AW (GM adK adV) l ad (d + 1) mX10_had 19 [(0, .ref (ad 0)), (1, .int x1), (2, .int (0 : Int32)), (3, .int (0 : Int32))] [] h (qi R) := by
  have hr' : ∀ h' : aH, (∀ c k, c ≠ 45 → h'.1 c k = h.1 c k) → (if h'.1 0 63 = -1 then h'.1 0 62 else h'.1 0 63) = nI q := fun h' k1 => by rw [k1 0 63 (by decide), k1 0 62 (by decide)]; exact hr
  have up : ∀ h' : aH, (∀ c k, c ≠ 45 → h'.1 c k = h.1 c k) → (∀ k, k < q → h'.1 45 k = skS o q (fun _ => 0) k) → AW (GM adK adV) l ad (d + 1) mX10_had 90 [(0, .ref (ad 0)), (1, .int x1), (2, .int (0 : Int32)), (3, .int (0 : Int32))] [] h' (qi R) := by
    intro h' k1 k3
    refine up_ind (P := fun i => AW (GM adK adV) l ad (d + 1) mX10_had 90 [(0, .ref (ad 0)), (1, .int x1), (2, .int (itR (lsD (skS o q (fun _ => 0)) o dy) i 0)), (3, .int (nI i))] [] h' (qi R)) q ?_ (fun i hi ih => ?_)
    · refine bX10_had_90 _ _ _ _ (m_knownMany ?_)
      rw [hr' h' k1]
      exact ⟨fun _ => H h' k1 k3, fun z => absurd (Int32.le_refl _) z⟩
    · obtain ⟨o1, o2⟩ := ho i hi
      have es : itR (lsD (skS o q (fun _ => 0)) o dy) (i + 1) 0 = lsD (skS o q (fun _ => 0)) o dy i (itR (lsD (skS o q (fun _ => 0)) o dy) i 0) := rfl
      rw [es] at ih
      unfold lsD at ih
      refine bX10_had_90 _ _ _ _ (m_knownMany ?_)
      rw [hr' h' k1, nI_clamp (by omega), k3 i hi, k1 44 i (by decide), o1, nI_1]
      refine ⟨fun z => absurd z (nI_ge hi (by omega)), fun _ => ⟨vp_in_nI (by omega) (by decide), fun z => ?_, fun z => ⟨fun z2 => ?_, fun z2 t4 e4 => ?_⟩⟩⟩
      · rw [if_neg z] at ih; exact ih
      · rw [if_pos z, if_neg z2] at ih; exact ih
      · rw [if_pos z, if_pos z2] at ih
        rcases o2 with w | ⟨p, hp, w⟩
        · rw [e4, k1 41 i (by decide), w.2]; exact ih
        · rw [w] at z2; exact absurd (by rw [z2]; decide) (nI_pos (n := p) (by omega))
  have down : ∀ k, k ≤ q → ∀ (h' : aH) (s : Nat → Int32), (∀ c k, c ≠ 45 → h'.1 c k = h.1 c k) → (∀ j, j < q → h'.1 45 j = s j) → (∀ j, j < q → skS o k s j = skS o q (fun _ => 0) j) → AW (GM adK adV) l ad (d + 1) mX10_had 47 [(0, .ref (ad 0)), (1, .int x1), (2, .int (0 : Int32)), (3, .int (nI k - 1))] [] h' (qi R) := by
    intro k
    induction k with
    | zero =>
      intro _ h' s k1 k3 k4
      exact bX10_had_47 _ _ _ _ ⟨fun _ => up h' k1 (fun j hj => (k3 j hj).trans (k4 j hj)), fun z => absurd (by decide) z⟩
    | succ k ih =>
      intro hk h' s k1 k3 k4
      rw [nI_pred]
      obtain ⟨o1, o2⟩ := ho k (by omega)
      have e44 : h'.1 44 k = o k := (k1 44 k (by decide)).trans o1
      refine bX10_had_47 _ _ _ _ ⟨fun z => absurd z (nI_pos (by omega)), fun _ => ⟨vp_in_nI (by omega) (by decide), ?_⟩⟩
      rw [nI_clamp (by omega), k3 k (by omega), e44, show nI k + (-1 : Int32) = nI k - 1 by rw [Int32.sub_eq_add_neg], nar1]
      have sk0 : ¬ s k = 0 → skS o (k + 1) s = skS o k s := fun z => by show skS o k (if s k = 0 then _ else s) = _; rw [if_neg z]
      have sk1 : s k = 0 → o k = -1 → skS o (k + 1) s = skS o k s := fun z z2 => by show skS o k (if s k = 0 then _ else s) = _; rw [if_pos z, if_pos z2]
      have sk2 : s k = 0 → ¬ o k = -1 → skS o (k + 1) s = skS o k (fun j => if j = ix (o k) then 1 else s j) := fun z z2 => by show skS o k (if s k = 0 then _ else s) = _; rw [if_pos z, if_neg z2]
      refine ⟨fun z => ih (by omega) h' s k1 k3 (fun j hj => by rw [← sk0 z]; exact k4 j hj), fun z => ⟨fun z2 => ih (by omega) h' s k1 k3 (fun j hj => by rw [← sk1 z z2]; exact k4 j hj), fun z2 => ?_⟩⟩
      rcases o2 with w | ⟨p, hp, w⟩
      · exact absurd w.1 z2
      · have sk := sk2 z z2
        rw [w, ix_nI (by omega)] at sk
        rw [w, nI_clamp (by omega)]
        refine ⟨vp_in_nI (by omega) (by decide), ih (by omega) _ (fun j => if j = p then 1 else s j) (fun c k hc => (sI_c hc).trans (k1 c k hc)) (fun j hj => ?_) (fun j hj => by rw [← sk]; exact k4 j hj)⟩
        by_cases w2 : j = p
        · subst w2; rw [sI_s, if_pos rfl]
        · rw [sI_k w2, if_neg w2]; exact k3 j hj
  refine up_ind (P := fun i => ∀ h', (∀ c k, c ≠ 45 → h'.1 c k = h.1 c k) → (∀ j, j < i → h'.1 45 j = 0) → AW (GM adK adV) l ad (d + 1) mX10_had 19 [(0, .ref (ad 0)), (1, .int x1), (2, .int (0 : Int32)), (3, .int (nI i))] [] h' (qi R)) q (fun h' k1 k3 => ?_) (fun i hi ih h' k1 k3 => ?_) h (fun _ _ _ => rfl) (fun j hj => absurd hj (Nat.not_lt_zero _))
  · refine bX10_had_19 _ _ _ _ (m_knownMany ?_)
    rw [hr' h' k1]
    refine ⟨fun _ => m_knownMany ?_, fun z => absurd (Int32.le_refl _) z⟩
    rw [hr' h' k1]
    exact down q (Nat.le_refl _) h' (fun _ => 0) k1 k3 (fun _ _ => rfl)
  · refine bX10_had_19 _ _ _ _ (m_knownMany ?_)
    rw [hr' h' k1, nI_clamp (by omega), nI_1, nar0]
    refine ⟨fun z => absurd z (nI_ge hi (by omega)), fun _ => ⟨vp_in_nI (by omega) (by decide), ih _ (fun c k hc => (sI_c hc).trans (k1 c k hc)) (fun j hj => ?_)⟩⟩
    by_cases w : j = i
    · subst w; exact sI_s
    · rw [sI_k w]; exact k3 j (by omega)
end ST
