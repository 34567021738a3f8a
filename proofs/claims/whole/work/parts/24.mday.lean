/-! ===== the reference's days beside the class's: names, values ===== -/
section MN
variable {adK adV : Nat → Nat} {l : Launch} {ad : Nat → Nat} {d b m t D n : Nat} {h : aH} {ω β σ : wT} {J0 : Nat → Nat → Int64} {n0 : Int32}
theorem row (r : RelW m t D ω β) {i : Nat} (hi : i < D) (j : Nat) (h1 : 3 ≤ j) (h2 : j ≤ 9) : β j i = ω j i := r.2.2.2.2.2.2.1 i hi j h1 h2
theorem m_callsDebt {R : aH → Prop} {i : Nat} {age knows : Int32} (C : MC h σ m t n) (hb : b < 23) (wf : WFw m t D ω) (r : RelW m t D ω β) (iv : InvW t D ω) (hi : i < D) (H : ∀ J, (∀ k, k < 7 → J 21 k = nmS ω i age knows k) → R (pB (hS h J n0) b β)) : AW (GM adK adV) l ad (d + 1) mX10_callsDebt 0 [(0, .ref (ad 0)), (1, .int (nI b)), (2, .int (nI i)), (3, .int age), (4, .int knows)] [] (pB (hS h J0 n0) b β) (qv R) := by
  have hD := wf.2.2.1
  have hm := wf.1
  obtain ⟨q, hq, eq⟩ := (wf.2.2.2.2.2 i hi).2.1
  have K : ∀ (J : Nat → Nat → Int64) (v : Int64), (∀ k, k < 4 → J 21 k = nmS ω i age knows k) → v = nmS ω i age knows 4 → AW (GM adK adV) l ad (d + 1) mX10_callsDebt 105 [(0, .ref (ad 0)), (1, .int (nI b)), (4, .int knows)] [.long v, .int 4, .ref (ad 21)] (pB (hS h J n0) b β) (qv R) := by
    intro J v hJ1 hv
    refine bX10_callsDebt_105 _ _ _ _ _ ⟨vp_inK (by decide) (by decide), vp_in_nI hb (by omega), href ?_⟩
    rw [show (4 : Int32).toNatClampNeg = 4 by decide, nI_clamp (by omega), sJ_pB, sJ_hS, sJ_pB, sJ_hS, pB_get a23, r.2.2.1, sJ_pB, sJ_hS]
    refine H _ (fun k hk => ?_)
    match k, hk with
    | 0, _ => exact hJ1 0 (by decide)
    | 1, _ => exact hJ1 1 (by decide)
    | 2, _ => exact hJ1 2 (by decide)
    | 3, _ => exact hJ1 3 (by decide)
    | 4, _ => exact hv
    | 5, _ => rfl
    | 6, _ => rfl
  refine bX10_callsDebt_0 _ _ _ _ _ ?_
  rw [i8, nI_clamp (by omega), pB_get (a30 (j := 9) (by omega) (by decide) (by decide)), sJ_pB, sJ_hS, sJ_pB, sJ_hS, pB_get (a30 (j := 4) (by omega) (by decide) (by decide)), row r hi 9 (by decide) (by decide), row r hi 4 (by decide) (by decide), eq, i6, nI_clamp (by omega), pB_get (a27 (by omega)), r.2.2.2.2.1 q hq, sJ_pB, sJ_hS]
  refine ⟨vp_in_nI (by omega) (by omega), vp_in_nI (by omega) (by omega), href ?_⟩
  refine m_knowers (mc_S C) hb wf r hi (m_bitsOf ?_)
  rw [sJ_pB, sJ_hS, pB_get (a30 (j := 8) (by omega) (by decide) (by decide)), row r hi 8 (by decide) (by decide), nI_clamp (n := b) (by omega), pB_get a23, r.2.2.1, pB_get (a30 (j := 7) (by omega) (by decide) (by decide)), row r hi 7 (by decide) (by decide)]
  have hJ1 : ∀ k, k < 4 → (fun c' k' => if c' = 21 ∧ k' = 3 then (bcS (ω 11 i)).toInt64 else if c' = 21 ∧ k' = 2 then (ω 1 q).toInt64 else if c' = 21 ∧ k' = 1 then age.toInt64 else if c' = 21 ∧ k' = 0 then (ω 9 i).toInt64 else J0 c' k') 21 k = nmS ω i age knows k := by
    intro k hk
    match k, hk with
    | 0, _ => rfl
    | 1, _ => rfl
    | 2, _ => show (ω 1 q).toInt64 = (ω 1 (ix (ω 4 i))).toInt64; rw [eq, ix_nI (by omega)]
    | 3, _ => rfl
  refine ⟨fun z => ?_, fun z => ⟨vp_in_nI hb (by omega), ?_⟩⟩
  · exact K _ _ hJ1 (by show (0 : Int64) = (if ω 8 i = 1 then ω 0 13 - ω 10 i else 0).toInt64; rw [if_neg z]; decide)
  · exact K _ _ hJ1 (by show (ω 0 13 - ω 7 i).toInt64 = (if ω 8 i = 1 then ω 0 13 - ω 10 i else 0).toInt64; rw [if_pos z, (iv.1 i hi).1 z])
theorem m_callsPass {R : aH → Prop} {i e : Nat} (C : MC h σ m t n) (hb : b < 23) (wf : WFw m t D ω) (r : RelW m t D ω β) (iv : InvW t D ω) (hi : i < D) (he : e < t) (H : ∀ J, (∀ k, k < 7 → J 21 k = nmS ω i (ω 2 e) (bcS (knByS ω e D)) k) → R (pB (hS h J n0) b β)) : AW (GM adK adV) l ad (d + 2) mX10_callsPass 0 [(0, .ref (ad 0)), (1, .int (nI b)), (2, .int (nI i)), (3, .int (nI e))] [] (pB (hS h J0 n0) b β) (qv R) := by
  have ht := wf.2.1
  refine bX10_callsPass_0 _ _ _ _ ?_
  rw [i6, nI_clamp (by omega), pB_get (a29 (by omega)), pB_get (a28 (by omega)), r.2.2.2.2.2.1 e he]
  refine ⟨vp_in_nI (by omega) (by omega), m_bitsOf ?_⟩
  rw [← knBy_eq wf r he]
  exact m_callsDebt C hb wf r iv hi H
theorem m_callsPay {R : aH → Prop} {i : Nat} (C : MC h σ m t n) (hb : b < 23) (wf : WFw m t D ω) (r : RelW m t D ω β) (iv : InvW t D ω) (hi : i < D) (H : ∀ J, (∀ k, k < 7 → J 21 k = nmS ω i (if (oldS ω i 6).1 < 0 then 0 else ω 2 (ix (oldS ω i 6).1)) 0 k) → R (pB (hS h J n0) b β)) : AW (GM adK adV) l ad (d + 2) mX10_callsPay 0 [(0, .ref (ad 0)), (1, .int (nI b)), (2, .int (nI i))] [] (pB (hS h J0 n0) b β) (qv R) := by
  have ht := wf.2.1
  have K : ∀ age, age = (if (oldS ω i 6).1 < 0 then 0 else ω 2 (ix (oldS ω i 6).1)) → AW (GM adK adV) l ad (d + 2) mX10_callsPay 30 [] [.int age, .int (nI i), .int (nI b), .ref (ad 0)] (pB (hS h J0 n0) b β) (qv R) := by
    intro age ea
    rw [← ea] at H
    exact bX10_callsPay_30 _ _ _ _ (m_callsDebt C hb wf r iv hi H)
  obtain ⟨k, hk, ek⟩ := (wf.2.2.2.2.2 i hi).2.2.2
  refine bX10_callsPay_0 _ _ _ (m_oldestOf (mc_S C) hb wf r iv hi ?_)
  have hrng : (oldS ω i 6).1 = -1 ∨ ∃ q, q < t ∧ (oldS ω i 6).1 = nI q := by
    have h0 : ∀ e, e ≤ 6 → (oldS ω i e).1 = -1 ∨ ∃ q, q < t ∧ (oldS ω i e).1 = nI q := by
      intro e
      induction e with
      | zero => intro _; exact Or.inl rfl
      | succ e ih =>
        intro he
        have e0 : oldS ω i (e + 1) = if bt (ω 11 i) e then (if ω 2 e ≤ (oldS ω i e).2 then oldS ω i e else (nI e, ω 2 e)) else oldS ω i e := rfl
        rw [e0]
        by_cases h1 : e < t
        · split
          · split
            · exact ih (by omega)
            · exact Or.inr ⟨e, h1, rfl⟩
          · exact ih (by omega)
        · rw [ek, bt_hi hk (by omega)]
          exact ih (by omega)
    exact h0 6 (Nat.le_refl _)
  rcases hrng with e | ⟨q, hq, e⟩
  · rw [e] at K ⊢
    refine ⟨fun z => absurd rfl z, fun _ => ?_⟩
    exact K 0 (by rw [if_pos (by decide)])
  · rw [e] at K ⊢
    refine ⟨fun _ => ?_, fun z => absurd z (fun z => ?_)⟩
    · rw [i6, nI_clamp (by omega), pB_get (a28 (by omega)), r.2.2.2.2.2.1 q hq]
      exact ⟨vp_in_nI (by omega) (by omega), K _ (by rw [if_neg (nI_pos (by omega)), ix_nI (by omega)])⟩
    · have := congrArg Int32.toInt z
      rw [nI_toInt (by omega), show (-1 : Int32).toInt = -1 by decide] at this
      omega
/-- a law of the reference, over a book -/
theorem m_hasLawV {R : Int32 → aH → Prop} {k j : Nat} (L : ML h σ k j) (hk : k < 3) (H : R (if ix (σ j 2) = 0 then 0 else 1) (pB h b β)) : AW (GM adK adV) l ad d mX10_hasLaw 0 [(0, .ref (ad 0)), (1, .int (nI k))] [] (pB h b β) (qi R) := by
  obtain ⟨f, q, h1, h2, h3, h4, h5, h6⟩ := L
  rw [h4, ix_nI (by omega)] at H
  exact m_hasLaw hk (by rw [pB_lo (by decide)]; exact h1) (by rw [pB_lo (by decide)]; exact h2) h3 H
theorem lwV_0 {j : Nat} {nm : Nat → Int64} (h0 : ix (σ j 2) = 0) : lwV σ j nm = ERR := by
  unfold lwV
  rw [h0]
  rfl
theorem m_goesV {R : Int32 → aH → Prop} {k j : Nat} {nm : Nat → Int64} (L : ML h σ k j) (hk : k < 3) (hz : ¬ ix (σ j 2) = 0) (hnm : ∀ k, k < 7 → ¬ nm k = ERR) (hJ0 : ∀ k, k < 7 → J0 21 k = nm k) (H1 : ¬ lwV σ j nm = ERR → ∀ J' n', J' 22 0 = lwV σ j nm → R 1 (pB (hS h J' n') b β)) (H0 : lwV σ j nm = ERR → ∀ J' n', R 0 (pB (hS h J' n') b β)) : AW (GM adK adV) l ad (d + 2) mX10_goes 0 [(0, .ref (ad 0)), (1, .int (nI k))] [] (pB (hS h J0 n0) b β) (qi R) := by
  obtain ⟨f, q, h1, h2, h3, h4, h5, h6⟩ := L
  have eq : ix (σ j 2) = q := by rw [h4, ix_nI (by omega)]
  unfold lwV at H1 H0
  rw [eq] at H1 H0 hz
  rw [← hS_pB]
  refine m_goes (h := pB h b β) hk (by rw [pB_lo (by decide)]; exact h1) (by rw [pB_lo (by decide)]; exact h2) h3 h5 hz hnm (fun i hi => by rw [pB_lo (by decide), pB_lo (by decide)]; exact h6 i hi) hJ0 (fun z J' n' e => ?_) (fun z J' n' => ?_)
  · rw [hS_pB]; exact H1 z J' n' e
  · rw [hS_pB]; exact H0 z J' n'
theorem m_mortal {R : Int32 → aH → Prop} {e : Nat} (C : MC h σ m t n) (hb : b < 23) (wf : WFw m t D ω) (r : RelW m t D ω β) (he : e < t) (H : ∀ J n', R (oddS σ ω D e (ω 2 e)) (pB (hS h J n') b β)) : AW (GM adK adV) l ad (d + 3) mX10_mortal 0 [(0, .ref (ad 0)), (1, .int (nI b)), (2, .int (nI e))] [] (pB (hS h J0 n0) b β) (qi R) := by
  have ht := wf.2.1
  have K : dieV σ ω D e (ω 2 e) = ERR → ∀ J n', AW (GM adK adV) l ad (d + 3) mX10_mortal 100 [(0, .ref (ad 0)), (1, .int (nI b)), (2, .int (nI e))] [] (pB (hS h J n') b β) (qi R) := by
    intro z J n'
    refine bX10_mortal_100 _ _ _ ?_
    rw [i6, nI_clamp (by omega), pB_get (a28 (by omega)), r.2.2.2.2.2.1 e he]
    have := H J n'
    unfold oddS at this
    rw [if_pos z] at this
    exact ⟨vp_in_nI (by omega) (by omega), this⟩
  refine bX10_mortal_0 _ _ _ ?_
  rw [i6, nI_clamp (by omega), pB_get (a29 (by omega)), ← knBy_eq wf r he]
  refine ⟨vp_in_nI (by omega) (by omega), m_bitsOf (href ?_)⟩
  rw [sJ_pB, sJ_hS, pB_get (a28 (by omega)), r.2.2.2.2.2.1 e he, sJ_pB, sJ_hS]
  refine ⟨vp_in_nI hb (by omega), href ?_⟩
  rw [sJ_pB, sJ_hS, sJ_pB, sJ_hS, sJ_pB, sJ_hS, sJ_pB, sJ_hS, nI_clamp (by omega), pB_get a23, r.2.2.1, sJ_pB, sJ_hS]
  have L := C.2.2.2.2.2.2.2.2
  refine m_hasLawV (k := 2) (ml_S L) (by decide) ?_
  by_cases hz : ix (σ 14 2) = 0
  · rw [if_pos hz]
    exact ⟨fun _ => K (lwV_0 hz) _ _, fun z => absurd rfl z⟩
  · rw [if_neg hz]
    refine ⟨fun z => absurd z (by decide), fun _ => ?_⟩
    refine m_goesV (k := 2) (nm := nmT ω (ω 2 e) (bcS (knByS ω e D))) L (by decide) hz nmT_ne (fun k hk => ?_) (fun z J' n' ev => ?_) (fun z J' n' => ?_)
    · match k, hk with
      | 0, _ => rfl
      | 1, _ => rfl
      | 2, _ => rfl
      | 3, _ => rfl
      | 4, _ => rfl
      | 5, _ => rfl
      | 6, _ => rfl
    · refine ⟨fun _ => ?_, fun z => absurd z (by decide)⟩
      have e2 : (pB (hS h J' n') b β).2.1 22 0 = dieV σ ω D e (ω 2 e) := ev
      rw [e2]
      have := H J' n'
      unfold oddS at this
      rw [if_neg (show ¬ dieV σ ω D e (ω 2 e) = ERR from z)] at this
      exact this
    · exact ⟨fun z => absurd rfl z, fun _ => K z _ _⟩
end MN
