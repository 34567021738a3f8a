/-! ===== the reference: a day ===== -/
theorem odd_rng {σ ω : wT} {D e : Nat} {age : Int32} (ha : ∃ a, a ≤ 99 ∧ age = nI a) : ∃ k, k ≤ 100 ∧ oddS σ ω D e age = nI k := by
  unfold oddS
  split
  · obtain ⟨a, h1, rfl⟩ := ha
    have : ∀ a, a < 100 → ∃ k, k < 101 ∧ (if (0 : Int32) < nI a - 60 then nI a - 60 else 0) = nI k := by decide +kernel
    obtain ⟨k, h2, h3⟩ := this a (by omega)
    exact ⟨k, by omega, h3⟩
  · generalize dieV σ ω D e age = v
    have h2 : (if v < 100 then v else 100) ≤ 100 := by
      by_cases q : v < 100
      · rw [if_pos q]; exact Int64.le_of_lt q
      · rw [if_neg q]; exact Int64.le_refl _
    generalize (if v < 100 then v else 100) = y at h2
    by_cases h1 : y < 0
    · rw [if_pos h1]; exact ⟨0, by omega, rfl⟩
    · rw [if_neg h1]
      obtain ⟨k, hk, rfl⟩ := pk_lOf h1
      have := (pk_lLE hk (b := 100) (by decide)).mp h2
      exact ⟨k, this, lN_i k⟩
theorem next_eq (x : Int32) : ((x * 1103515245) + 12345) &&& 2147483647 = nextN x := by
  unfold nextN
  rw [Int64.toInt32_and, Int64.toInt32_add, Int64.toInt32_mul, Int32.toInt32_toInt64]
  rfl
theorem next_rng (x : Int32) : ∃ k, k < 2 ^ 31 ∧ nextN x = nI k := by
  rw [← next_eq]
  exact pk_andE _ 31 (by decide)
theorem next_shr (x : Int32) : nextN x >>> ((16 : Int32) &&& 31) = nextN x / 65536 := by
  obtain ⟨k, hk, e⟩ := next_rng x
  rw [e, pk_shrN hk _ 16 (by decide)]
  exact (pk_div (d := 65536) hk (by decide) (by decide)).symm
theorem u2_2 {ω : wT} {j k a : Nat} {v : Int32} (h : j ≠ 2) : u2 ω j k v 2 a = ω 2 a := u2_j h.symm
section MD
variable {adK adV : Nat → Nat} {l : Launch} {ad : Nat → Nat} {d b m t D n : Nat} {h : aH} {ω β σ : wT} {way deaf byN : Int32} {J0 : Nat → Nat → Int64} {n0 : Int32}
theorem m_fallsIll {R : Int32 → aH → Prop} {e : Nat} (C : MC h σ m t n) (T : MT h t way deaf byN) (hb : b < 23) (I : Inv m t D ω) (r : RelW m t D ω β) (he : e < t) (H : ∀ β' J n', RelW m t D (fatS way ω (oddS σ ω D e (ω 2 e))).1 β' → R (if (fatS way ω (oddS σ ω D e (ω 2 e))).2 then 1 else 0) (pB (hS h J n') b β')) : AW (GM adK adV) l ad (d + 4) mX10_fallsIll 0 [(0, .ref (ad 0)), (1, .int (nI b)), (2, .int (nI e)), (3, .int byN)] [] (pB (hS h J0 n0) b β) (qi R) := by
  obtain ⟨wf, iv, ik⟩ := I
  refine bX10_fallsIll_0 _ _ _ _ (m_mortal C hb wf r he (fun J n' => ?_))
  obtain ⟨k, hk, ek⟩ := odd_rng (σ := σ) (ω := ω) (D := D) (e := e) (iv.2 e he)
  rw [ek] at H ⊢
  unfold fatS at H
  refine ⟨fun z => ?_, fun z => ?_⟩
  · have hw : ¬ way = -1 := fun q => T.2.2.2.1.mp q z
    rw [if_neg hw] at H
    refine bX10_fallsIll_24 _ _ ⟨fun z2 => ?_, fun z2 => ?_⟩
    · have := H β J n' r
      rw [show decide (¬ nI k < 50) = false from decide_eq_false (fun q => q z2)] at this
      exact this
    · have := H β J n' r
      rw [show decide (¬ nI k < 50) = true from decide_eq_true z2] at this
      exact this
  · have hw : way = -1 := T.2.2.2.1.mpr z
    rw [if_pos hw] at H
    refine ⟨fun z2 => ?_, fun z2 => ⟨fun z3 => ⟨vp_in_nI hb (by omega), href ?_⟩, fun z3 => ?_⟩⟩
    · rw [z2] at H ⊢
      have := H β J n' r
      exact bX10_fallsIll_24 _ _ ⟨fun _ => this, fun z => absurd (by decide) z⟩
    · have h0 : 0 < k := by
        rcases Nat.eq_zero_or_pos k with q | q
        · exact absurd (by rw [q]; rfl) z2
        · exact q
      have h1 : k < 100 := by
        rcases Nat.lt_or_ge k 100 with q | q
        · exact q
        · exact absurd (by rw [show k = 100 by omega]; rfl) z3
      rw [if_neg (nI_nle h0 (by omega)), if_neg (show ¬ (100 : Int32) ≤ nI k from nI_ge (b := 100) h1 (by omega))] at H
      rw [nI_clamp (by omega), pB_get a24, r.2.2.2.1, next_eq, sI_pB a24, pB_get a24, u2_s, next_shr]
      have r2 := rel_0 r (k := 14) (by decide) (v := nextN (ω 0 14))
      have hh := H _ J n' r2
      refine ⟨fun z4 => ?_, fun z4 => ?_⟩
      · rw [show decide (¬ nI k ≤ rem32 (nextN (ω 0 14) / 65536) 100) = false from decide_eq_false (fun q => q z4)] at hh
        exact hh
      · rw [show decide (¬ nI k ≤ rem32 (nextN (ω 0 14) / 65536) 100) = true from decide_eq_true z4] at hh
        exact hh
    · rw [z3] at H ⊢
      have := H β J n' r
      exact bX10_fallsIll_24 _ _ ⟨fun z => absurd z (by decide), fun _ => this⟩
theorem m_tenth {R : aH → Prop} (C : MC h σ m t n) (T : MT h t way deaf byN) (hb : b < 23) (I : Inv m t D ω) (r : RelW m t D ω β) (H : ∀ β' J n', RelW m t D (itR (growSt σ way D) t (itR (intSt σ) D ω)) β' → R (pB (hS h J n') b β')) : AW (GM adK adV) l ad (d + 5) mX10_tenth 0 [(0, .ref (ad 0)), (1, .int (nI b)), (2, .int byN)] [] (pB (hS h J0 n0) b β) (qv R) := by
  have ht := I.1.2.1
  have hD := I.1.2.2.1
  have K2 : ∀ ω, Inv m t D ω → (∀ β' J n', RelW m t D (itR (growSt σ way D) t ω) β' → R (pB (hS h J n') b β')) → ∀ β J n', RelW m t D ω β → AW (GM adK adV) l ad (d + 5) mX10_tenth 75 [(0, .ref (ad 0)), (1, .int (nI b)), (2, .int byN), (3, .int 0)] [] (pB (hS h J n') b β) (qv R) := by
    clear H r I
    intro ω I H
    refine up_ind (P := fun e => ∀ β J n', RelW m t D (itR (growSt σ way D) e ω) β → AW (GM adK adV) l ad (d + 5) mX10_tenth 75 [(0, .ref (ad 0)), (1, .int (nI b)), (2, .int byN), (3, .int (nI e))] [] (pB (hS h J n') b β) (qv R)) t (fun β J n' r => ?_) (fun e he ih β J n' r => ?_)
    · refine bX10_tenth_75 _ _ _ _ ⟨fun _ => H β J n' r, fun z => absurd ?_ z⟩
      rw [pB_lo (by decide), hS_o (by decide), C.2.1]
      exact Int32.le_refl _
    · have Ie := inv_itB (B := t) (f := growSt σ way D) (fun i _ hi h => inv_growSt hi h) e (by omega) I
      have ee : itR (growSt σ way D) (e + 1) ω = growSt σ way D e (itR (growSt σ way D) e ω) := rfl
      rw [ee] at ih
      generalize itR (growSt σ way D) e ω = ω at ih Ie r ⊢
      refine bX10_tenth_75 _ _ _ _ ?_
      rw [pB_lo (by decide), hS_o (by decide), C.2.1]
      refine ⟨fun z => absurd z (nI_ge he (by omega)), fun _ => m_isAlive hb (by omega) ?_⟩
      rw [r.2.1]
      unfold growSt at ih
      cases hal : bt (ω 0 12) e
      · rw [hal] at ih
        rw [nI_1]
        exact ⟨fun z => absurd rfl z, fun _ => ih β J n' r⟩
      · rw [hal, if_pos rfl] at ih
        refine ⟨fun _ => ⟨?_, ?_⟩, fun z => absurd z (by decide)⟩
        · rw [i6]; exact vp_in_nI (by omega) (by omega)
        rw [i6, nI_clamp (by omega), pB_get (a28 (by omega)), r.2.2.2.2.2.1 e he, sI_pB (a28 (by omega)), nI_1]
        refine href ?_
        have r1 : RelW m t D (u2 ω 2 e (ageUp (ω 2 e))) (u2 β 2 e (ageUp (ω 2 e))) := rel_a r
        have I1 : Inv m t D (u2 ω 2 e (ageUp (ω 2 e))) := inv_2 Ie (ageUp_ok (Ie.2.1.2 e he))
        rw [pB_lo (by decide), hS_k (by decide), ← T.1]
        refine ⟨fun z => ?_, fun z => ?_⟩
        · rw [if_pos z] at ih
          exact ih _ J n' r1
        · rw [if_neg z] at ih
          refine m_fallsIll C T hb I1 r1 he (fun β' J' n' r2 => ?_)
          rw [u2_s] at r2 ⊢
          cases hf : (fatS way (u2 ω 2 e (ageUp (ω 2 e))) (oddS σ (u2 ω 2 e (ageUp (ω 2 e))) D e (ageUp (ω 2 e)))).2
          · rw [hf] at ih
            exact ⟨fun _ => ih β' J' n' r2, fun z => absurd rfl z⟩
          · rw [hf, if_pos rfl] at ih
            exact ⟨fun z => absurd z (by decide), fun _ => m_dies hb ht hD r2 he (fun β3 r3 => ih β3 J' n' r3)⟩
  have Ii := inv_it (inv_intSt (σ := σ)) D I
  refine bX10_tenth_0 _ _ _ ?_
  refine up_ind (P := fun i => ∀ β, RelW m t D (itR (intSt σ) i ω) β → AW (GM adK adV) l ad (d + 5) mX10_tenth 2 [(0, .ref (ad 0)), (1, .int (nI b)), (2, .int byN), (3, .int (nI i))] [] (pB (hS h J0 n0) b β) (qv R)) D (fun β r => ?_) (fun i hi ih β r => ?_) β r
  · refine bX10_tenth_2 _ _ _ _ ⟨vp_in_nI hb (by omega), fun _ => K2 _ Ii H β J0 n0 r, fun z => absurd ?_ z⟩
    rw [nI_clamp (by omega), pB_get a25, r.1]
    exact Int32.le_refl _
  · have e : itR (intSt σ) (i + 1) ω = intSt σ i (itR (intSt σ) i ω) := rfl
    rw [e] at ih
    generalize itR (intSt σ) i ω = ω at ih r ⊢
    unfold intSt at ih
    refine bX10_tenth_2 _ _ _ _ ?_
    rw [nI_clamp (by omega), pB_get a25, r.1]
    refine ⟨vp_in_nI hb (by omega), fun z => absurd z (nI_ge hi (by omega)), fun _ => m_isOpen hb (by omega) ?_⟩
    rw [row r hi 8 (by decide) (by decide), nI_1]
    by_cases h8 : ω 8 i = 1
    · rw [if_pos h8] at ih ⊢
      refine ⟨fun z => absurd z (by decide), fun _ => ⟨?_, ?_⟩⟩
      · rw [i8]; exact vp_in_nI (by omega) (by omega)
      rw [i8, nI_clamp (by omega), pB_get (a30 (j := 9) (by omega) (by decide) (by decide)), row r hi 9 (by decide) (by decide), pB_lo (by decide), hS_o (by decide), C.2.2.2.1, sI_pB (a30 (j := 9) (by omega) (by decide) (by decide))]
      exact href (ih _ (rel_u r (by decide) (by decide)))
    · rw [if_neg h8] at ih ⊢
      exact ⟨fun _ => ih β r, fun z => absurd rfl z⟩
theorem rum_rel {one other : Nat} (hD : D ≤ 8) : ∀ k (ω : wT), RelW m t D ω β → RelW m t D (itR (rumSt one other) k ω) β
  | 0, _, r => r
  | k + 1, ω, r => by
    have r1 := rum_rel (one := one) (other := other) hD k ω r
    show RelW m t D (rumSt one other k (itR (rumSt one other) k ω)) β
    generalize itR (rumSt one other) k ω = ω1 at r1
    unfold rumSt
    split
    · refine rel_kn r1 (fun j k hj => u2_j hj) (fun _ _ _ => rfl) (fun e he => ⟨(r1.2.2.2.2.2.2.2 e he).1, fun i hi => ?_⟩)
      rw [u2_k (by omega)]
      exact (r1.2.2.2.2.2.2.2 e he).2 i hi
    · exact r1
theorem m_passes {R : aH → Prop} (C : MC h σ m t n) (S : SF σ m t n) (T : MT h t way deaf byN) (hb : b < 23) (I : Inv m t D ω) (r : RelW m t D ω β) (H : ∀ β' J n', RelW m t D (dayW σ t D n way deaf ω) β' → R (pB (hS h J n') b β')) : AW (GM adK adV) l ad (d + 6) mX10_passes 0 [(0, .ref (ad 0)), (1, .int (nI b)), (2, .int byN)] [] (pB (hS h J0 n0) b β) (qv R) := by
  have ht := I.1.2.1
  have hD := I.1.2.2.1
  have hn := S.2.2.2.1
  have K6 : ∀ β J n', RelW m t D (day5 σ t D n way deaf ω) β → AW (GM adK adV) l ad (d + 6) mX10_passes 257 [(0, .ref (ad 0)), (1, .int (nI b)), (3, .int 0)] [] (pB (hS h J n') b β) (qv R) := by
    intro β J n' r
    have I5 := inv_day5 (way := way) (deaf := deaf) S I
    unfold dayW at H
    generalize day5 σ t D n way deaf ω = ω at H I5 r
    refine up_ind (P := fun i => ∀ β, RelW m t D (itR forgSt i ω) β → AW (GM adK adV) l ad (d + 6) mX10_passes 257 [(0, .ref (ad 0)), (1, .int (nI b)), (3, .int (nI i))] [] (pB (hS h J n') b β) (qv R)) D (fun β r => ?_) (fun i hi ih β r => ?_) β r
    · refine bX10_passes_257 _ _ _ ?_
      rw [nI_clamp (by omega), pB_get a25, r.1, pB_get a23, r.2.2.1, sI_pB a23]
      exact ⟨vp_in_nI hb (by omega), fun _ => H _ J n' (rel_0 r (by decide)), fun z => absurd (Int32.le_refl _) z⟩
    · have Ii := inv_it inv_forgSt i I5
      have e : itR forgSt (i + 1) ω = forgSt i (itR forgSt i ω) := rfl
      rw [e] at ih
      generalize itR forgSt i ω = ω at ih Ii r ⊢
      unfold forgSt at ih
      refine bX10_passes_257 _ _ _ ?_
      rw [nI_clamp (by omega), pB_get a25, r.1]
      refine ⟨vp_in_nI hb (by omega), fun z => absurd z (nI_ge hi (by omega)), fun _ => m_isOpen hb (by omega) ?_⟩
      rw [row r hi 8 (by decide) (by decide), nI_1]
      by_cases h8 : ω 8 i = 1
      · rw [if_pos h8] at ih ⊢
        refine ⟨fun z => absurd z (by decide), fun _ => m_knowers (mc_S C) hb Ii.1 r hi ⟨fun z => ?_, fun z => ?_⟩⟩
        · rw [if_neg z] at ih
          exact ih β r
        · rw [if_pos z] at ih
          exact m_closes hb ht hD r hi (fun β' r' => ih β' r')
      · rw [if_neg h8] at ih ⊢
        exact ⟨fun _ => ih β r, fun z => absurd rfl z⟩
  have K5 : ∀ β J n', RelW m t D (day3 σ t D n way deaf ω) β → AW (GM adK adV) l ad (d + 6) mX10_passes 203 [(0, .ref (ad 0)), (1, .int (nI b)), (2, .int byN), (3, .int 0)] [] (pB (hS h J n') b β) (qv R) := by
    intro β J n' r
    have I3 := inv_day3 (way := way) (deaf := deaf) S I
    have I4 := inv_day4 (way := way) (deaf := deaf) S I
    have e4 : itR (fun i ω => if way = 4 then ω else paySt σ i ω) D (day3 σ t D n way deaf ω) = day4 σ t D n way deaf ω := by
      unfold day4
      split
      · have : ∀ k (ω : wT), itR (fun _ (ω : wT) => ω) k ω = ω := by
          intro k
          induction k with
          | zero => intro ω; rfl
          | succ k ih => intro ω; exact ih ω
        exact this D _
      · rfl
    unfold day5 at K6
    rw [← e4] at K6 I4
    generalize day3 σ t D n way deaf ω = ω at K6 I3 I4 r
    refine up_ind (P := fun i => ∀ β J n', RelW m t D (itR (fun i ω => if way = 4 then ω else paySt σ i ω) i ω) β → AW (GM adK adV) l ad (d + 6) mX10_passes 203 [(0, .ref (ad 0)), (1, .int (nI b)), (2, .int byN), (3, .int (nI i))] [] (pB (hS h J n') b β) (qv R)) D (fun β J n' r => ?_) (fun i hi ih β J n' r => ?_) β J n' r
    · refine bX10_passes_203 _ _ _ _ ?_
      rw [nI_clamp (by omega), pB_get a25, r.1, pB_get a23, r.2.2.1]
      refine ⟨vp_in_nI hb (by omega), fun _ => ⟨fun z => ?_, fun z => ?_⟩, fun z => absurd (Int32.le_refl _) z⟩
      · rw [if_neg (show ¬ rem32 (itR (fun i ω => if way = 4 then ω else paySt σ i ω) D ω 0 13) 10 = 9 from z)] at K6
        exact K6 β J n' r
      · rw [if_pos (show rem32 (itR (fun i ω => if way = 4 then ω else paySt σ i ω) D ω 0 13) 10 = 9 from z)] at K6
        exact m_tenth C T hb I4 r (fun β' J' n' r' => K6 β' J' n' r')
    · have Ii : Inv m t D (itR (fun i ω => if way = 4 then ω else paySt σ i ω) i ω) := inv_it (fun i ω h => by split; exact h; exact inv_paySt i ω h) i I3
      have e : itR (fun i ω => if way = 4 then ω else paySt σ i ω) (i + 1) ω = (if way = 4 then itR (fun i ω => if way = 4 then ω else paySt σ i ω) i ω else paySt σ i (itR (fun i ω => if way = 4 then ω else paySt σ i ω) i ω)) := rfl
      rw [e] at ih
      clear K6 e4
      generalize itR (fun i ω => if way = 4 then ω else paySt σ i ω) i ω = ω at ih Ii r ⊢
      unfold paySt at ih
      refine bX10_passes_203 _ _ _ _ ?_
      rw [nI_clamp (by omega), pB_get a25, r.1]
      refine ⟨vp_in_nI hb (by omega), fun z => absurd z (nI_ge hi (by omega)), fun _ => m_doesPay C T hb Ii r hi (fun J' n' => ?_)⟩
      rw [nI_1]
      by_cases q : hasB ω i = true ∧ ¬ way = 4 ∧ dueB σ ω i = true
      · rw [if_pos q]
        obtain ⟨q1, q2, q3⟩ := q
        unfold hasB at q1
        rw [Bool.and_eq_true, decide_eq_true_eq, decide_eq_true_eq] at q1
        rw [if_neg q2, if_pos q1.1, if_neg q1.2, if_pos q3] at ih
        exact ⟨fun z => absurd z (by decide), fun _ => m_pays hb Ii.1 r hi (fun β' r' => ih β' J' n' r')⟩
      · rw [if_neg q]
        refine ⟨fun _ => ih β J' n' ?_, fun z => absurd rfl z⟩
        by_cases q2 : way = 4
        · rw [if_pos q2]; exact r
        rw [if_neg q2]
        by_cases q3 : ω 8 i = 1
        · rw [if_pos q3]
          by_cases q4 : ω 1 (ix (ω 4 i)) < ω 9 i
          · rw [if_pos q4]; exact r
          · rw [if_neg q4]
            have q5 : ¬ dueB σ ω i = true := fun q5 => q ⟨by unfold hasB; rw [decide_eq_true q3, decide_eq_true q4]; rfl, q2, q5⟩
            rw [if_neg q5]; exact r
        · rw [if_neg q3]; exact r
  have K4 : ∀ β J n', RelW m t D (day2 σ D n way deaf ω) β → AW (GM adK adV) l ad (d + 6) mX10_passes 147 [(0, .ref (ad 0)), (1, .int (nI b)), (2, .int byN), (3, .int 0)] [] (pB (hS h J n') b β) (qv R) := by
    intro β J n' r
    have I2 := inv_day2 (way := way) (deaf := deaf) S I
    unfold day3 at K5
    generalize day2 σ D n way deaf ω = ω at K5 I2 r
    by_cases hw : way = 1
    · rw [if_pos hw] at K5
      refine bX10_passes_147 _ _ _ _ ?_
      rw [pB_lo (by decide), pB_lo (by decide), hS_k (by decide), ← T.1]
      exact ⟨fun _ => K5 β J n' r, fun _ => ⟨fun _ => K5 β J n' r, fun z => absurd hw z⟩⟩
    · rw [if_neg hw] at K5
      refine up_ind (P := fun i => ∀ β, RelW m t D (itR (dieSt σ) i ω) β → AW (GM adK adV) l ad (d + 6) mX10_passes 147 [(0, .ref (ad 0)), (1, .int (nI b)), (2, .int byN), (3, .int (nI i))] [] (pB (hS h J n') b β) (qv R)) t (fun β r => ?_) (fun i hi ih β r => ?_) β r
      · refine bX10_passes_147 _ _ _ _ ⟨fun _ => K5 β J n' r, fun z => absurd ?_ z⟩
        rw [pB_lo (by decide), hS_o (by decide), C.2.1]
        exact Int32.le_refl _
      · have Ii := inv_itB (B := t) (f := dieSt σ) (fun i _ hi h => inv_dieSt (by omega) h) i (by omega) I2
        have e : itR (dieSt σ) (i + 1) ω = dieSt σ i (itR (dieSt σ) i ω) := rfl
        rw [e] at ih
        generalize itR (dieSt σ) i ω = ω at ih Ii r ⊢
        unfold dieSt at ih
        refine bX10_passes_147 _ _ _ _ ?_
        rw [pB_lo (by decide), hS_o (by decide), C.2.1, pB_lo (by decide), hS_k (by decide), ← T.1, nI_clamp (by omega), nI_clamp (by omega), pB_lo (by decide), hS_o (by decide), (C.2.2.2.2.1 i hi).2, pB_get a23, r.2.2.1, nI_1]
        refine ⟨fun z => absurd z (nI_ge hi (by omega)), fun _ => ⟨fun z => absurd z hw, fun _ => ⟨vp_in_nI (by omega) (by omega), vp_in_nI hb (by omega), fun z => ?_, fun z => m_isAlive hb (by omega) ?_⟩⟩⟩
        · rw [if_neg z] at ih; exact ih β r
        · rw [if_pos z] at ih
          rw [r.2.1]
          cases hal : bt (ω 0 12) i
          · exact ⟨fun _ => ih β (rel_dead ht hD Ii.2.2 r hi hal), fun z => absurd rfl z⟩
          · exact ⟨fun z => absurd z (by decide), fun _ => m_dies hb ht hD r hi (fun β' r' => ih β' r')⟩
  have K3 : ∀ β J n', RelW m t D (itR (lendSt σ deaf) D ω) β → AW (GM adK adV) l ad (d + 6) mX10_passes 60 [(0, .ref (ad 0)), (1, .int (nI b)), (2, .int byN), (3, .int 0)] [] (pB (hS h J n') b β) (qv R) := by
    intro β J n' r
    have I1 := inv_it (inv_lendSt (σ := σ) (deaf := deaf)) D I
    unfold day2 at K4
    generalize itR (lendSt σ deaf) D ω = ω at K4 I1 r
    by_cases hw : way = 3
    · rw [if_pos hw] at K4
      refine bX10_passes_60 _ _ _ _ ?_
      rw [pB_lo (by decide), pB_lo (by decide), hS_k (by decide), ← T.2.1]
      exact ⟨fun _ => K4 β J n' r, fun _ => ⟨fun _ => K4 β J n' r, fun z => absurd hw z⟩⟩
    · rw [if_neg hw] at K4
      refine up_ind (P := fun i => ∀ β J n', RelW m t D (itR (leanSt σ D deaf) i ω) β → AW (GM adK adV) l ad (d + 6) mX10_passes 60 [(0, .ref (ad 0)), (1, .int (nI b)), (2, .int byN), (3, .int (nI i))] [] (pB (hS h J n') b β) (qv R)) n (fun β J n' r => ?_) (fun i hi ih β J n' r => ?_) β J n' r
      · refine bX10_passes_60 _ _ _ _ ⟨fun _ => K4 β J n' r, fun z => absurd ?_ z⟩
        rw [pB_lo (by decide), hS_o (by decide), C.2.2.1]
        exact Int32.le_refl _
      · have Ii := inv_leanIt (deaf := deaf) S I1 i (by omega)
        have e : itR (leanSt σ D deaf) (i + 1) ω = leanSt σ D deaf i (itR (leanSt σ D deaf) i ω) := rfl
        rw [e] at ih
        generalize itR (leanSt σ D deaf) i ω = ω at ih Ii r ⊢
        obtain ⟨a, ha, ea⟩ := S.2.2.2.2.1 i hi
        obtain ⟨c, hc, ec⟩ := S.2.2.2.2.2.1 i hi
        obtain ⟨c1, c2, c3⟩ := C.2.2.2.2.2.1 i hi
        unfold leanSt at ih
        rw [ea, ec, ix_nI (by omega), ix_nI (by omega)] at ih
        refine bX10_passes_60 _ _ _ _ ?_
        rw [pB_lo (by decide), hS_o (by decide), C.2.2.1, pB_lo (by decide), hS_k (by decide), ← T.2.1, nI_clamp (by omega), nI_clamp (by omega), pB_lo (by decide), hS_o (by decide), c3, pB_get a23, r.2.2.1, nI_1, pB_lo (by decide), hS_o (by decide), c1, ea]
        refine ⟨fun z => absurd z (nI_ge hi (by omega)), fun _ => ⟨fun z => absurd z hw, fun _ => ⟨vp_in_nI (by omega) (by omega), vp_in_nI hb (by omega), fun z => ?_, fun z => m_isAlive hb (by omega) ?_⟩⟩⟩
        · rw [if_neg z] at ih; exact ih β J n' r
        · rw [if_pos z] at ih
          rw [r.2.1]
          cases hal : bt (ω 0 12) a
          · rw [hal] at ih
            exact ⟨fun _ => ih β J n' r, fun z => absurd rfl z⟩
          · rw [hal, if_pos rfl] at ih
            refine ⟨fun z => absurd z (by decide), fun _ => ?_⟩
            rw [pB_lo (by decide), hS_o (by decide), c2, ec]
            refine m_isAlive hb (by omega) ?_
            rw [r.2.1]
            cases hal2 : bt (ω 0 12) c
            · rw [hal2] at ih
              exact ⟨fun _ => ih β J n' r, fun z => absurd rfl z⟩
            · rw [hal2, if_pos rfl] at ih
              refine ⟨fun z => absurd z (by decide), fun _ => ?_⟩
              rw [pB_lo (by decide), hS_o (by decide), c1, ea, pB_lo (by decide), hS_o (by decide), c2, ec]
              exact m_leans C T hb Ii r ha hc hal2 (fun β' J' n' z r' _ => ih β' J' n' (rum_rel hD 6 _ r'))
  refine bX10_passes_0 _ _ _ ?_
  refine up_ind (P := fun i => ∀ β, RelW m t D (itR (lendSt σ deaf) i ω) β → AW (GM adK adV) l ad (d + 6) mX10_passes 2 [(0, .ref (ad 0)), (1, .int (nI b)), (2, .int byN), (3, .int (nI i))] [] (pB (hS h J0 n0) b β) (qv R)) D (fun β r => ?_) (fun i hi ih β r => ?_) β r
  · refine bX10_passes_2 _ _ _ _ ⟨vp_in_nI hb (by omega), fun _ => K3 β J0 n0 r, fun z => absurd ?_ z⟩
    rw [nI_clamp (by omega), pB_get a25, r.1]
    exact Int32.le_refl _
  · have Ii := inv_it (inv_lendSt (σ := σ) (deaf := deaf)) i I
    have e : itR (lendSt σ deaf) (i + 1) ω = lendSt σ deaf i (itR (lendSt σ deaf) i ω) := rfl
    rw [e] at ih
    clear K3 K4 K5 K6 H
    generalize itR (lendSt σ deaf) i ω = ω at ih Ii r ⊢
    rw [lendSt_op] at ih
    refine bX10_passes_2 _ _ _ _ ?_
    rw [nI_clamp (by omega), pB_get a25, r.1, i8, nI_clamp (by omega), pB_get (a30 (j := 8) (by omega) (by decide) (by decide)), row r hi 8 (by decide) (by decide), pB_get (a30 (j := 7) (by omega) (by decide) (by decide)), row r hi 7 (by decide) (by decide), pB_get a23, r.2.2.1, nI_1]
    refine ⟨vp_in_nI hb (by omega), fun z => absurd z (nI_ge hi (by omega)), fun _ => ⟨vp_in_nI (by omega) (by omega), fun z => ?_, fun z => ⟨fun z2 => ?_, fun z2 => ?_⟩⟩⟩
    · rw [if_neg z] at ih; exact ih β r
    · rw [if_pos z, if_neg z2] at ih; exact ih β r
    · rw [if_pos z, if_pos z2] at ih
      exact m_opens (mc_S C) (mt_S T) hb Ii r hi (by rw [z]; decide) (fun β' r' => ih β' r')
theorem m_goesOn {R : aH → Prop} {k : Nat} (hk : k ≤ 99) (C : MC h σ m t n) (S : SF σ m t n) (T : MT h t way deaf 0) (I : Inv m t D ω) (r : RelW m t D ω β) (H : ∀ β' J n', RelW m t D (daysW σ t D n way deaf k ω) β' → R (pB (hS h J n') 1 β')) : AW (GM adK adV) l ad (d + 7) mX10_goesOn 0 [(0, .ref (ad 0)), (1, .int (nI k))] [] (pB (hS h J0 n0) 1 β) (qv R) := by
  refine bX10_goesOn_0 _ _ ?_
  refine up_ind (P := fun i => ∀ β J n', RelW m t D (daysW σ t D n way deaf i ω) β → AW (GM adK adV) l ad (d + 7) mX10_goesOn 2 [(0, .ref (ad 0)), (1, .int (nI k)), (2, .int (nI i))] [] (pB (hS h J n') 1 β) (qv R)) k (fun β J n' r => ?_) (fun i hi ih β J n' r => ?_) β J0 n0 r
  · exact bX10_goesOn_2 _ _ _ ⟨fun _ => H β J n' r, fun z => absurd (Int32.le_refl _) z⟩
  · refine bX10_goesOn_2 _ _ _ ⟨fun z => absurd z (nI_ge hi (by omega)), fun _ => ?_⟩
    rw [nI_1]
    exact m_passes (b := 1) C S T (by decide) (inv_daysW S I i) r (fun β' J' n' r' => ih β' J' n' r')
end MD
