/-! ===== the reference's book beside the class's world ===== -/
def RelW (m t D : Nat) (ω β : wT) : Prop :=
  β 0 11 = nI D ∧ β 0 12 = ω 0 12 ∧ β 0 13 = ω 0 13 ∧ β 0 14 = ω 0 14 ∧ (∀ p, p < m → β 1 p = ω 1 p) ∧ (∀ e, e < t → β 2 e = ω 2 e) ∧ (∀ i, i < D → ∀ j, 3 ≤ j → j ≤ 9 → β j i = ω j i) ∧ ∀ e, e < t → (∃ k, k < 2 ^ D ∧ β 12 e = nI k) ∧ ∀ i, i < D → bt (β 12 e) i = bt (ω 11 i) e
/-- what a world keeps beside: when a debt was opened, nothing of one that isn't open; ages -/
def InvW (t D : Nat) (ω : wT) : Prop := (∀ i, i < D → (ω 8 i = 1 → ω 10 i = ω 7 i) ∧ (¬ ω 8 i = 1 → ω 9 i = 0 ∧ ω 11 i = 0)) ∧ ∀ e, e < t → ∃ a, a ≤ 99 ∧ ω 2 e = nI a
/-- a law on both sides -/
def ML (h : aH) (σ : wT) (k j : Nat) : Prop := ∃ f n, h.1 17 k = nI f ∧ h.1 18 k = nI (f + n) ∧ f + n ≤ 64 ∧ σ j 2 = nI n ∧ WFc (σ (j + 1)) n ∧ ∀ i, i < n → cR (σ (j + 1) i) (h.1 19 (f + i)) (h.1 20 (f + i))
def MC (h : aH) (σ : wT) (m t n : Nat) : Prop := h.1 2 0 = nI m ∧ h.1 2 1 = nI t ∧ h.1 2 3 = nI n ∧ h.1 2 4 = σ 0 14 ∧ (∀ e, e < t → h.1 7 e = σ 3 e ∧ h.1 8 e = σ 4 e) ∧ (∀ k, k < n → h.1 14 k = σ 5 k ∧ h.1 15 k = σ 6 k ∧ h.1 16 k = σ 7 k) ∧ ML h σ 0 8 ∧ ML h σ 1 11 ∧ ML h σ 2 14
theorem ml_S {h : aH} {σ : wT} {k j : Nat} {J : Nat → Nat → Int64} {n0 : Int32} (L : ML h σ k j) : ML (hS h J n0) σ k j := by
  obtain ⟨f, n, h1, h2, h3, h4, h5, h6⟩ := L
  exact ⟨f, n, by rw [hS_o (by decide)]; exact h1, by rw [hS_o (by decide)]; exact h2, h3, h4, h5, fun i hi => by rw [hS_o (by decide), hS_o (by decide)]; exact h6 i hi⟩
theorem mc_S {h : aH} {σ : wT} {m t n : Nat} {J : Nat → Nat → Int64} {n0 : Int32} (C : MC h σ m t n) : MC (hS h J n0) σ m t n := by
  obtain ⟨h1, h2, h3, h4, h5, h6, h7, h8, h9⟩ := C
  refine ⟨?_, ?_, ?_, ?_, fun e he => ?_, fun k hk => ?_, ml_S h7, ml_S h8, ml_S h9⟩
  · rw [hS_o (by decide)]; exact h1
  · rw [hS_o (by decide)]; exact h2
  · rw [hS_o (by decide)]; exact h3
  · rw [hS_o (by decide)]; exact h4
  · rw [hS_o (by decide), hS_o (by decide)]; exact h5 e he
  · rw [hS_o (by decide), hS_o (by decide), hS_o (by decide)]; exact h6 k hk
section MR
variable {adK adV : Nat → Nat} {l : Launch} {ad : Nat → Nat} {d b m t D n : Nat} {h : aH} {ω β σ : wT}
theorem pB_lo {c k : Nat} (hc : c < 23) : (pB h b β).1 c k = h.1 c k := pB_off (a_off (Or.inl hc))
theorem m_isAlive {R : Int32 → aH → Prop} {e : Nat} (hb : b < 23) (he : e < 32) (H : R (if bt (β 0 12) e then 1 else 0) (pB h b β)) : AW (GM adK adV) l ad d mX10_isAlive 0 [(0, .ref (ad 0)), (1, .int (nI b)), (2, .int (nI e))] [] (pB h b β) (qi R) := by
  refine bX10_isAlive_0 _ _ _ ?_
  rw [nI_clamp (by omega), pB_get a26, bt_shr _ he]
  refine ⟨vp_in_nI hb (by omega), ?_⟩
  cases hx : bt (β 0 12) e
  · rw [hx] at H
    exact ⟨fun _ => H, fun z => absurd z (by decide)⟩
  · rw [hx] at H
    exact ⟨fun z => absurd rfl z, fun _ => H⟩
theorem m_isOpen {R : Int32 → aH → Prop} {i : Nat} (hb : b < 23) (hi : i < 8) (H : R (if β 8 i = 1 then 1 else 0) (pB h b β)) : AW (GM adK adV) l ad d mX10_isOpen 0 [(0, .ref (ad 0)), (1, .int (nI b)), (2, .int (nI i))] [] (pB h b β) (qi R) := by
  refine bX10_isOpen_0 _ _ _ ?_
  rw [i8, nI_clamp (by omega), pB_get (a30 (j := 8) hi (by decide) (by decide))]
  refine ⟨vp_in_nI (by omega) (by omega), fun z => ?_, fun z => ?_⟩
  · rw [if_neg z] at H; exact H
  · rw [if_pos z] at H; exact H
theorem m_bitsOf {R : Int32 → aH → Prop} {x : Int32} {h : aH} (H : R (bcS x) h) : AW (GM adK adV) l ad d mX10_bitsOf 0 [(0, .int x)] [] h (qi R) := by
  refine bX10_bitsOf_0 _ _ (up_ind (P := fun i => AW (GM adK adV) l ad d mX10_bitsOf 4 [(0, .int x), (1, .int (itR (fun k n => n + ((x >>> (nI k &&& 31)) &&& 1)) i 0)), (2, .int (nI i))] [] h (qi R)) 10 ?_ (fun i hi ih => ?_))
  · exact bX10_bitsOf_4 _ _ _ _ ⟨fun _ => H, fun z => absurd (by decide) z⟩
  · refine bX10_bitsOf_4 _ _ _ _ ⟨fun z => absurd z (nI_ge (b := 10) hi (by omega)), fun _ => ?_⟩
    rw [nI_1]
    exact ih
def knM (β : wT) (i n : Nat) : Int32 := itR (fun e s => s ||| (((β 12 e >>> (nI i &&& 31)) &&& 1) <<< (nI e &&& 31))) n 0
theorem knM_bt (β : wT) {i : Nat} (hi : i < 32) : ∀ n, n ≤ 6 → ∀ e, e < 32 → bt (knM β i n) e = (decide (e < n) && bt (β 12 e) i) := by
  intro n
  induction n with
  | zero => intro _ e _; show bt 0 e = _; rw [bt_0]; simp
  | succ n ih =>
    intro hn e he
    show bt (knM β i n ||| _) e = _
    rw [bt_or, ih (by omega) e he, bt_shl1 _ (by omega) hi he]
    by_cases h1 : e = n
    · subst h1; simp
    · by_cases h2 : e < n
      · rw [decide_eq_true h2, decide_eq_false h1, decide_eq_true (show e < n + 1 by omega)]; simp
      · rw [decide_eq_false h2, decide_eq_false h1, decide_eq_false (show ¬ e < n + 1 by omega)]; simp
theorem knM_eq (wf : WFw m t D ω) (r : RelW m t D ω β) {i : Nat} (hi : i < D) : knM β i t = ω 11 i := by
  obtain ⟨k, hk, ek⟩ := (wf.2.2.2.2.2 i hi).2.2.2
  have ht := wf.2.1
  have hD := wf.2.2.1
  refine bt_ext (fun e he => ?_)
  rw [knM_bt β (by omega) t ht e he]
  by_cases h1 : e < t
  · rw [decide_eq_true h1, Bool.true_and]
    exact (r.2.2.2.2.2.2.2 e h1).2 i hi
  · rw [decide_eq_false h1, Bool.false_and, ek, bt_hi hk (by omega)]
theorem m_knowers {R : Int32 → aH → Prop} {i : Nat} (C : MC h σ m t n) (hb : b < 23) (wf : WFw m t D ω) (r : RelW m t D ω β) (hi : i < D) (H : R (ω 11 i) (pB h b β)) : AW (GM adK adV) l ad d mX10_knowers 0 [(0, .ref (ad 0)), (1, .int (nI b)), (2, .int (nI i))] [] (pB h b β) (qi R) := by
  have ht := wf.2.1
  rw [← knM_eq wf r hi] at H
  refine bX10_knowers_0 _ _ _ (up_ind (P := fun e => AW (GM adK adV) l ad d mX10_knowers 5 [(0, .ref (ad 0)), (1, .int (nI b)), (2, .int (nI i)), (3, .int (knM β i e)), (4, .int (nI e))] [] (pB h b β) (qi R)) t ?_ (fun e he ih => ?_))
  · refine bX10_knowers_5 _ _ _ _ _ ⟨fun _ => H, fun z => absurd ?_ z⟩
    rw [pB_lo (by decide), C.2.1]
    exact Int32.le_refl _
  · refine bX10_knowers_5 _ _ _ _ _ ?_
    rw [pB_lo (by decide), C.2.1, i6, nI_clamp (by omega), pB_get (a29 (by omega)), nI_1]
    refine ⟨fun z => absurd z (nI_ge he (by omega)), fun _ => ⟨vp_in_nI (by omega) (by omega), fun t2 e2 => ?_⟩⟩
    rw [e2]
    exact ih
/-- the class's count of what an elephant knows is the reference's row -/
theorem knBy_eq (wf : WFw m t D ω) (r : RelW m t D ω β) {e : Nat} (he : e < t) : knByS ω e D = β 12 e := by
  have ht := wf.2.1
  have hD := wf.2.2.1
  have key : ∀ q, q ≤ 8 → ∀ i, i < 32 → bt (knByS ω e q) i = (decide (i < q) && bt (ω 11 i) e) := by
    intro q
    induction q with
    | zero => intro _ i _; show bt 0 i = _; rw [bt_0]; simp
    | succ q ih =>
      intro hq i hi
      show bt (knByS ω e q ||| _) i = _
      rw [bt_or, ih (by omega) i hi, bt_shl1 _ (by omega) (by omega) hi]
      by_cases h1 : i = q
      · subst h1; simp
      · by_cases h2 : i < q
        · rw [decide_eq_true h2, decide_eq_false h1, decide_eq_true (show i < q + 1 by omega)]; simp
        · rw [decide_eq_false h2, decide_eq_false h1, decide_eq_false (show ¬ i < q + 1 by omega)]; simp
  obtain ⟨⟨k, hk, ek⟩, hbt⟩ := r.2.2.2.2.2.2.2 e he
  refine bt_ext (fun i hi => ?_)
  rw [key D hD i hi]
  by_cases h1 : i < D
  · rw [decide_eq_true h1, Bool.true_and]
    exact (hbt i h1).symm
  · rw [decide_eq_false h1, Bool.false_and, ek, bt_hi hk (by omega)]
theorem m_oldestOf {R : Int32 → aH → Prop} {i : Nat} (C : MC h σ m t n) (hb : b < 23) (wf : WFw m t D ω) (r : RelW m t D ω β) (iv : InvW t D ω) (hi : i < D) (H : R (oldS ω i 6).1 (pB h b β)) : AW (GM adK adV) l ad (d + 1) mX10_oldestOf 0 [(0, .ref (ad 0)), (1, .int (nI b)), (2, .int (nI i))] [] (pB h b β) (qi R) := by
  have ht := wf.2.1
  obtain ⟨k, hk, ek⟩ := (wf.2.2.2.2.2 i hi).2.2.2
  -- what is kept: the oldest so far, its age
  have hq : ∀ e, e ≤ t → ((oldS ω i e).1 = -1 ∧ (oldS ω i e).2 = -1) ∨ ∃ q, q < e ∧ (oldS ω i e).1 = nI q ∧ (oldS ω i e).2 = ω 2 q := by
    intro e
    induction e with
    | zero => intro _; exact Or.inl ⟨rfl, rfl⟩
    | succ e ih =>
      intro he
      have e0 : oldS ω i (e + 1) = if bt (ω 11 i) e then (if ω 2 e ≤ (oldS ω i e).2 then oldS ω i e else (nI e, ω 2 e)) else oldS ω i e := rfl
      have h1 : ((oldS ω i e).1 = -1 ∧ (oldS ω i e).2 = -1) ∨ ∃ q, q < e + 1 ∧ (oldS ω i e).1 = nI q ∧ (oldS ω i e).2 = ω 2 q := by
        rcases ih (by omega) with h | ⟨q, h1, h2, h3⟩
        · exact Or.inl h
        · exact Or.inr ⟨q, by omega, h2, h3⟩
      rw [e0]
      split
      · split
        · exact h1
        · exact Or.inr ⟨e, by omega, rfl, rfl⟩
      · exact h1
  have hrest : ∀ q, (oldS ω i (t + q)) = oldS ω i t := by
    intro q
    induction q with
    | zero => rfl
    | succ q ih =>
      have e0 : oldS ω i (t + q + 1) = if bt (ω 11 i) (t + q) then (if ω 2 (t + q) ≤ (oldS ω i (t + q)).2 then oldS ω i (t + q) else (nI (t + q), ω 2 (t + q))) else oldS ω i (t + q) := rfl
      rw [← Nat.add_assoc, e0, ek, bt_hi hk (by omega)]
      exact ih
  have e6 : oldS ω i 6 = oldS ω i t := by
    have := hrest (6 - t)
    rw [show t + (6 - t) = 6 by omega] at this
    exact this
  rw [e6] at H
  refine bX10_oldestOf_0 _ _ _ (up_ind (P := fun e => AW (GM adK adV) l ad (d + 1) mX10_oldestOf 5 [(0, .ref (ad 0)), (1, .int (nI b)), (2, .int (nI i)), (3, .int (oldS ω i e).1), (4, .int (nI e))] [] (pB h b β) (qi R)) t ?_ (fun e he ih => ?_))
  · refine bX10_oldestOf_5 _ _ _ _ _ ⟨fun _ => H, fun z => absurd ?_ z⟩
    rw [pB_lo (by decide), C.2.1]
    exact Int32.le_refl _
  · refine bX10_oldestOf_5 _ _ _ _ _ ?_
    rw [pB_lo (by decide), C.2.1, nI_1]
    refine ⟨fun z => absurd z (nI_ge he (by omega)), fun _ => ?_⟩
    refine m_knowers C hb wf r hi ?_
    rw [bt_shr _ (by omega), i6, nI_clamp (by omega), pB_get (a28 (by omega)), r.2.2.2.2.2.1 e he]
    have e0 : oldS ω i (e + 1) = if bt (ω 11 i) e then (if ω 2 e ≤ (oldS ω i e).2 then oldS ω i e else (nI e, ω 2 e)) else oldS ω i e := rfl
    rw [e0] at ih
    cases hx : bt (ω 11 i) e
    · rw [hx] at ih
      exact ⟨fun _ => ih, fun z => absurd z (by decide)⟩
    · rw [hx, if_pos rfl] at ih
      refine ⟨fun z => absurd rfl z, fun _ => ?_⟩
      obtain ⟨a, ha, ea⟩ := iv.2 e he
      rcases hq e (by omega) with ⟨h1, h2⟩ | ⟨q, h1, h2, h3⟩
      · rw [h2, if_neg (by rw [ea, Int32.le_iff_toInt_le, nI_toInt (by omega), show (-1 : Int32).toInt = -1 by decide]; omega)] at ih
        rw [h1]
        exact ⟨fun _ => ih, fun z => absurd rfl z⟩
      · rw [h3] at ih
        rw [h2]
        refine ⟨fun z => absurd z (fun z => ?_), fun _ => ?_⟩
        · have := congrArg Int32.toInt z
          rw [nI_toInt (by omega), show (-1 : Int32).toInt = -1 by decide] at this
          omega
        · rw [i6, nI_clamp (by omega), pB_get (a28 (by omega)), r.2.2.2.2.2.1 q (by omega)]
          refine ⟨vp_in_nI (by omega) (by omega), vp_in_nI (by omega) (by omega), fun z => ?_, fun z => ?_⟩
          · rw [if_pos z, h2] at ih; exact ih
          · rw [if_neg z] at ih; exact ih
end MR
