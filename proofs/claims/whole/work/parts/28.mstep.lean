/-! ===== the reference: leaning, dying, closing, paying, falling ill ===== -/
section MS2
variable {adK adV : Nat → Nat} {l : Launch} {ad : Nat → Nat} {d b m t D n : Nat} {h : aH} {ω β σ : wT} {way deaf byN : Int32} {J0 : Nat → Nat → Int64} {n0 : Int32}
theorem m_leans {R : Int32 → aH → Prop} {one two : Nat} (C : MC h σ m t n) (T : MT h t way deaf byN) (hb : b < 23) (I : Inv m t D ω) (r : RelW m t D ω β) (h1 : one < t) (h2 : two < t) (hal : bt (ω 0 12) two = true) (H : ∀ β' J n' z, RelW m t D (passW σ D one two deaf ω).1 β' → (bt deaf two = false → z = (passW σ D one two deaf ω).2) → R z (pB (hS h J n') b β')) : AW (GM adK adV) l ad (d + 3) mX10_leans 0 [(0, .ref (ad 0)), (1, .int (nI b)), (2, .int (nI one)), (3, .int (nI two))] [] (pB (hS h J0 n0) b β) (qi R) := by
  have ht := I.1.2.1
  have hD := I.1.2.2.1
  have hbit := bit_ok (deaf := deaf) ht h2
  have hIp := inv_passIt (σ := σ) hbit h1 (lean_bit (deaf := deaf) ht h2 hal) I
  unfold passW at H
  have key := up_ind (P := fun i => ∀ β J n' z, RelW m t D (itR (passSt σ D one (((1 : Int32) <<< (nI two &&& 31)) &&& (deaf ^^^ (-1)))) i (ω, 0)).1 β → (bt deaf two = false → z = (itR (passSt σ D one (((1 : Int32) <<< (nI two &&& 31)) &&& (deaf ^^^ (-1)))) i (ω, 0)).2) → AW (GM adK adV) l ad (d + 3) mX10_leans 6 [(0, .ref (ad 0)), (1, .int (nI b)), (2, .int (nI one)), (3, .int (nI two)), (4, .int z), (5, .int (nI i))] [] (pB (hS h J n') b β) (qi R)) D (fun β J n' z r hz => ?_) (fun i hi ih β J n' z r hz => ?_)
  · exact bX10_leans_0 _ _ _ _ (key β J0 n0 0 r (fun _ => rfl))
  · refine bX10_leans_6 _ _ _ _ _ _ ⟨vp_in_nI hb (by omega), fun _ => H β J n' z r hz, fun q => absurd ?_ q⟩
    rw [nI_clamp (by omega), pB_get a25, r.1]
    exact Int32.le_refl _
  · have Ii := (hIp i (by omega)).1
    have e : itR (passSt σ D one (((1 : Int32) <<< (nI two &&& 31)) &&& (deaf ^^^ (-1)))) (i + 1) (ω, 0) = passSt σ D one (((1 : Int32) <<< (nI two &&& 31)) &&& (deaf ^^^ (-1))) i (itR (passSt σ D one (((1 : Int32) <<< (nI two &&& 31)) &&& (deaf ^^^ (-1)))) i (ω, 0)) := rfl
    rw [e] at ih
    generalize itR (passSt σ D one (((1 : Int32) <<< (nI two &&& 31)) &&& (deaf ^^^ (-1)))) i (ω, 0) = ωn at ih Ii r hz ⊢
    obtain ⟨ω1, n1⟩ := ωn
    clear hIp I
    have K0 : passSt σ D one (((1 : Int32) <<< (nI two &&& 31)) &&& (deaf ^^^ (-1))) i (ω1, n1) = (ω1, n1) → ∀ J n', AW (GM adK adV) l ad (d + 3) mX10_leans 6 [(0, .ref (ad 0)), (1, .int (nI b)), (2, .int (nI one)), (3, .int (nI two)), (4, .int z), (5, .int (nI i + 1))] [] (pB (hS h J n') b β) (qi R) := by
      intro e J n'
      rw [e] at ih
      rw [nI_1]
      exact ih β J n' z r hz
    refine bX10_leans_6 _ _ _ _ _ _ ?_
    rw [nI_clamp (by omega), pB_get a25, r.1, i6, i6, nI_clamp (by omega), nI_clamp (by omega), pB_get (a29 (by omega)), pB_get (a29 (by omega)), bt_shr0 _ (by omega), bt_shr _ (by omega), (r.2.2.2.2.2.2.2 one h1).2 i hi, (r.2.2.2.2.2.2.2 two h2).2 i hi]
    refine ⟨vp_in_nI hb (by omega), fun q => absurd q (nI_ge hi (by omega)), fun _ => ⟨vp_in_nI (by omega) (by omega), fun z1 => ?_, fun z1 => ⟨vp_in_nI (by omega) (by omega), fun z2 => ?_, fun z2 => ?_⟩⟩⟩
    · exact K0 (by unfold passSt; rw [z1]; rfl) J n'
    · rw [Bool.not_eq_false] at z1
      have z3 : bt (ω1 11 i) two = false := by
        cases hx : bt (ω1 11 i) two
        · rfl
        · exact absurd (by rw [hx]; rfl) z2
      have z4 : ω1 11 i &&& (((1 : Int32) <<< (nI two &&& 31)) &&& (deaf ^^^ (-1))) = 0 := by
        refine bt_ext (fun q hq => ?_)
        rw [bt_and, bt_and, bt_one (by omega) hq, bt_0]
        by_cases z : q = two
        · rw [z, z3]; rfl
        · rw [decide_eq_false z]; simp
      -- what follows when it is passed on
      have K1 : ¬ passV σ ω1 D i one = 0 → ∀ J n', AW (GM adK adV) l ad (d + 3) mX10_leans 97 [(0, .ref (ad 0)), (1, .int (nI b)), (2, .int (nI one)), (3, .int (nI two)), (4, .int z), (5, .int (nI i))] [] (pB (hS h J n') b β) (qi R) := by
        intro hv J n'
        refine bX10_leans_97 _ _ _ _ _ _ (m_learns (mt_S T) hb ht h2 ?_)
        rw [nI_1]
        have rl := rel_lrn (deaf := deaf) ht hD r hi h2
        cases hd : bt deaf two
        · have hb0 : ¬ (((1 : Int32) <<< (nI two &&& 31)) &&& (deaf ^^^ (-1))) = 0 := by
            intro q
            have : bt (((1 : Int32) <<< (nI two &&& 31)) &&& (deaf ^^^ (-1))) two = bt 0 two := by rw [q]
            rw [bt_and, bt_one (by omega) (by omega), bt_not _ (by omega), hd, bt_0, decide_eq_true rfl] at this
            cases this
          have e2 : passSt σ D one (((1 : Int32) <<< (nI two &&& 31)) &&& (deaf ^^^ (-1))) i (ω1, n1) = (u2 ω1 11 i (ω1 11 i ||| (((1 : Int32) <<< (nI two &&& 31)) &&& (deaf ^^^ (-1)))), n1 + 1) := by
            unfold passSt
            rw [if_pos z1, if_pos z4, if_neg hb0, if_neg hv]
          rw [e2] at ih
          exact ih _ J n' _ rl (fun q => by rw [hz hd])
        · have hb0 : (((1 : Int32) <<< (nI two &&& 31)) &&& (deaf ^^^ (-1))) = 0 := by
            refine bt_ext (fun q hq => ?_)
            rw [bt_and, bt_one (by omega) hq, bt_not _ hq, bt_0]
            by_cases z : q = two
            · rw [z, hd]; simp
            · rw [decide_eq_false z]; simp
          have e2 : passSt σ D one (((1 : Int32) <<< (nI two &&& 31)) &&& (deaf ^^^ (-1))) i (ω1, n1) = (ω1, n1) := by
            unfold passSt
            rw [if_pos z1, if_pos z4, if_pos hb0]
          rw [e2] at ih
          have e3 : lrnB deaf β two i = β := by unfold lrnB; rw [hd, if_pos rfl]
          rw [e3]
          exact ih β J n' _ r (fun q => by rw [hd] at q; cases q)
      refine m_callsPass C hb Ii.1 r Ii.2.1 hi h1 (fun J hJ => ?_)
      have L := C.2.2.2.2.2.2.1
      refine m_hasLawV (k := 0) (ml_S L) (by decide) ?_
      by_cases hz : ix (σ 8 2) = 0
      · rw [if_pos hz]
        refine ⟨fun _ => K1 ?_ J _, fun z => absurd rfl z⟩
        show ¬ lwV σ 8 _ = 0
        rw [lwV_0 hz]; decide
      · rw [if_neg hz]
        refine ⟨fun z => absurd z (by decide), fun _ => ?_⟩
        refine m_goesV (k := 0) L (by decide) hz nmS_ne hJ (fun z J' n' ev => ?_) (fun z J' n' => ?_)
        · have ev2 : (pB (hS h J' n') b β).2.1 22 0 = passV σ ω1 D i one := ev
          rw [ev2]
          refine ⟨fun z => absurd z (by decide), fun _ => ⟨fun q => K1 q J' n', fun q => ?_⟩⟩
          exact K0 (by unfold passSt; rw [if_pos z1, if_pos z4]; show (if _ then _ else if passV σ ω1 D i one = 0 then _ else _) = _; rw [if_pos q]; split <;> rfl) J' n'
        · exact ⟨fun _ => K1 (by show ¬ lwV σ 8 _ = 0; rw [z]; decide) J' n', fun z => absurd rfl z⟩
    · rw [Bool.not_eq_false] at z1
      have z3 : bt (ω1 11 i) two = true := by
        cases hx : bt (ω1 11 i) two
        · rw [hx] at z2; exact absurd z2 (by decide)
        · rfl
      refine K0 ?_ J n'
      unfold passSt
      rw [if_pos z1]
      cases hd : bt deaf two
      · rw [if_neg]
        intro q
        have : bt (ω1 11 i &&& (((1 : Int32) <<< (nI two &&& 31)) &&& (deaf ^^^ (-1)))) two = bt 0 two := by rw [q]
        rw [bt_and, bt_and, bt_one (by omega) (by omega), bt_not _ (by omega), hd, bt_0, decide_eq_true rfl, z3] at this
        cases this
      · have hb0 : (((1 : Int32) <<< (nI two &&& 31)) &&& (deaf ^^^ (-1))) = 0 := by
          refine bt_ext (fun q hq => ?_)
          rw [bt_and, bt_one (by omega) hq, bt_not _ hq, bt_0]
          by_cases z : q = two
          · rw [z, hd]; simp
          · rw [decide_eq_false z]; simp
        rw [if_pos hb0]
        split <;> rfl
theorem m_dies {R : aH → Prop} {e : Nat} (hb : b < 23) (ht : t ≤ 6) (hD : D ≤ 8) (r : RelW m t D ω β) (he : e < t) (H : ∀ β', RelW m t D (buryW ω (nI e)) β' → R (pB h b β')) : AW (GM adK adV) l ad d mX10_dies 0 [(0, .ref (ad 0)), (1, .int (nI b)), (2, .int (nI e))] [] (pB h b β) (qv R) := by
  refine bX10_dies_0 _ _ _ ?_
  rw [i6, nI_clamp (by omega), nI_clamp (by omega), pB_get a26, sI_pB a26, sI_pB (a29 (by omega))]
  exact ⟨vp_in_nI hb (by omega), vp_in_nI (by omega) (by omega), href (H _ (rel_bury ht hD r he))⟩
/-- the one dead already: nothing changes -/
theorem rel_dead (ht : t ≤ 6) (hD : D ≤ 8) (ik : InvK t D ω) (r : RelW m t D ω β) {e : Nat} (he : e < t) (hd : bt (ω 0 12) e = false) : RelW m t D (buryW ω (nI e)) β := by
  have e1 : ω 0 12 &&& (((1 : Int32) <<< (nI e &&& 31)) ^^^ (-1)) = ω 0 12 := by
    refine bt_ext (fun q hq => ?_)
    rw [bt_and, bt_not _ hq, bt_one (by omega) hq]
    by_cases z : q = e
    · rw [z, hd]; rfl
    · rw [decide_eq_false z]; simp
  unfold buryW
  rw [e1, u2_id rfl]
  refine rel_kn r (fun j k hj => fgW_off hj) (fun _ _ _ => rfl) (fun q hq => ⟨(r.2.2.2.2.2.2.2 q hq).1, fun i hi => ?_⟩)
  rw [(r.2.2.2.2.2.2.2 q hq).2 i hi, fgW_at, if_pos ⟨rfl, by omega⟩, bt_and, bt_not _ (by omega), bt_one (by omega) (by omega)]
  by_cases z : q = e
  · subst z
    cases hx : bt (ω 11 i) q
    · rfl
    · rw [ik i hi q hq hx] at hd; cases hd
  · rw [decide_eq_false z]; simp
def clB (β : wT) (i n : Nat) : wT := itR (fun e β => u2 β 12 e (β 12 e &&& (((1 : Int32) <<< (nI i &&& 31)) ^^^ (-1)))) n β
theorem clB_at (i : Nat) : ∀ n (β : wT) (j k : Nat), clB β i n j k = if j = 12 ∧ k < n then β 12 k &&& (((1 : Int32) <<< (nI i &&& 31)) ^^^ (-1)) else β j k := by
  intro n
  induction n with
  | zero => intro ω j k; show ω j k = _; rw [if_neg (fun q => Nat.not_lt_zero _ q.2)]
  | succ n ih =>
    intro β j k
    show (if j = 12 ∧ k = n then (clB β i n 12 n &&& (((1 : Int32) <<< (nI i &&& 31)) ^^^ (-1))) else clB β i n j k) = _
    rw [ih, ih]
    by_cases hj : j = 12
    · by_cases hk : k = n
      · rw [if_pos ⟨hj, hk⟩, if_neg (fun q => Nat.lt_irrefl _ q.2), if_pos ⟨hj, by omega⟩, hk]
      · rw [if_neg (fun q => hk q.2)]
        by_cases h2 : k < n
        · rw [if_pos ⟨hj, h2⟩, if_pos ⟨hj, by omega⟩]
        · rw [if_neg (fun q => h2 q.2), if_neg (fun q => h2 (by omega))]
    · rw [if_neg (fun q => hj q.1), if_neg (fun q => hj q.1), if_neg (fun q => hj q.1)]
theorem m_closes {R : aH → Prop} {i : Nat} {how : Int32} (hb : b < 23) (ht : t ≤ 6) (hD : D ≤ 8) (r : RelW m t D ω β) (hi : i < D) (H : ∀ β', RelW m t D (endW ω i how) β' → R (pB h b β')) : AW (GM adK adV) l ad d mX10_closes 0 [(0, .ref (ad 0)), (1, .int (nI b)), (2, .int (nI i)), (3, .int how)] [] (pB h b β) (qv R) := by
  refine bX10_closes_0 _ _ _ _ ?_
  rw [i8, nI_clamp (by omega), sI_pB (a30 (j := 8) (by omega) (by decide) (by decide)), sI_pB (a30 (j := 9) (by omega) (by decide) (by decide))]
  refine ⟨vp_in_nI (by omega) (by omega), href ?_⟩
  have r2 := rel_u (rel_u r (j := 8) (by decide) (by decide) (i := i) (v := how)) (j := 9) (by decide) (by decide) (i := i) (v := 0)
  refine up_ind (P := fun e => AW (GM adK adV) l ad d mX10_closes 27 [(0, .ref (ad 0)), (1, .int (nI b)), (2, .int (nI i)), (4, .int (nI e))] [] (pB h b (clB (u2 (u2 β 8 i how) 9 i 0) i e)) (qv R)) 6 ?_ (fun e he ih => ?_)
  · refine bX10_closes_27 _ _ _ _ ⟨fun _ => H _ ?_, fun z => absurd (by decide) z⟩
    refine rel_clear r2 hD hi (fun j k hj => ?_) (fun e he => ?_)
    · rw [clB_at, if_neg (fun q => hj q.1)]
    · rw [clB_at, if_pos ⟨rfl, by omega⟩]
  · refine bX10_closes_27 _ _ _ _ ⟨fun z => absurd z (nI_ge (b := 6) he (by omega)), fun _ => ?_⟩
    rw [i6, nI_clamp (by omega), pB_get (a29 (by omega)), sI_pB (a29 (by omega)), nI_1]
    exact ⟨vp_in_nI (by omega) (by omega), href ih⟩
def hasB (ω : wT) (i : Nat) : Bool := decide (ω 8 i = 1) && decide (¬ ω 1 (ix (ω 4 i)) < ω 9 i)
theorem m_hasIt {R : Int32 → aH → Prop} {i : Nat} (hb : b < 23) (wf : WFw m t D ω) (r : RelW m t D ω β) (hi : i < D) (H : R (if hasB ω i then 1 else 0) (pB h b β)) : AW (GM adK adV) l ad (d + 1) mX10_hasIt 0 [(0, .ref (ad 0)), (1, .int (nI b)), (2, .int (nI i))] [] (pB h b β) (qi R) := by
  have hm := wf.1
  have hD := wf.2.2.1
  obtain ⟨q, hq, eq⟩ := (wf.2.2.2.2.2 i hi).2.1
  unfold hasB at H
  rw [eq, ix_nI (by omega)] at H
  refine bX10_hasIt_0 _ _ _ (m_isOpen hb (by omega) ?_)
  rw [row r hi 8 (by decide) (by decide)]
  by_cases h8 : ω 8 i = 1
  · rw [if_pos h8, i8, nI_clamp (by omega), pB_get (a30 (j := 4) (by omega) (by decide) (by decide)), row r hi 4 (by decide) (by decide), eq, i6, nI_clamp (by omega), pB_get (a27 (by omega)), r.2.2.2.2.1 q hq, pB_get (a30 (j := 9) (by omega) (by decide) (by decide)), row r hi 9 (by decide) (by decide)]
    rw [decide_eq_true h8, Bool.true_and] at H
    refine ⟨fun z => absurd z (by decide), fun _ => ⟨vp_in_nI (by omega) (by omega), vp_in_nI (by omega) (by omega), fun z => ?_, fun z => ?_⟩⟩
    · rw [decide_eq_false (fun q => q z)] at H; exact H
    · rw [decide_eq_true z] at H; exact H
  · rw [decide_eq_false h8] at H
    rw [if_neg h8]
    exact ⟨fun _ => H, fun z => absurd rfl z⟩
theorem m_pays {R : Int32 → aH → Prop} {i : Nat} (hb : b < 23) (wf : WFw m t D ω) (r : RelW m t D ω β) (hi : i < D) (H : ∀ β', RelW m t D (settleW ω i (ix (ω 3 i)) (ix (ω 4 i))) β' → R (ω 9 i) (pB h b β')) : AW (GM adK adV) l ad (d + 1) mX10_pays 0 [(0, .ref (ad 0)), (1, .int (nI b)), (2, .int (nI i))] [] (pB h b β) (qi R) := by
  have hm := wf.1
  have ht := wf.2.1
  have hD := wf.2.2.1
  obtain ⟨a, ha, ea⟩ := (wf.2.2.2.2.2 i hi).1
  obtain ⟨q, hq, eq⟩ := (wf.2.2.2.2.2 i hi).2.1
  rw [ea, eq, ix_nI (by omega), ix_nI (by omega)] at H
  refine bX10_pays_0 _ _ _ ?_
  rw [i8, nI_clamp (by omega), pB_get (a30 (j := 4) (by omega) (by decide) (by decide)), row r hi 4 (by decide) (by decide), eq, i6, nI_clamp (by omega), pB_get (a27 (by omega)), r.2.2.2.2.1 q hq, pB_get (a30 (j := 9) (by omega) (by decide) (by decide)), row r hi 9 (by decide) (by decide), sI_pB (a27 (by omega))]
  refine ⟨vp_in_nI (by omega) (by omega), vp_in_nI (by omega) (by omega), href ?_⟩
  rw [pB_get (a30 (j := 3) (by omega) (by decide) (by decide)), u2_j (j' := 3) (by decide), row r hi 3 (by decide) (by decide), ea, i6, nI_clamp (by omega), pB_get (a27 (by omega)), sI_pB (a27 (by omega)), u2_eq (r.2.2.2.2.1 a ha), Int32.sub_eq_add_neg]
  refine ⟨vp_in_nI (by omega) (by omega), href ?_⟩
  exact m_closes hb ht hD (rel_p (rel_p r)) hi (fun β' r' => H β' r')
theorem m_doesPay {R : Int32 → aH → Prop} {i : Nat} (C : MC h σ m t n) (T : MT h t way deaf byN) (hb : b < 23) (I : Inv m t D ω) (r : RelW m t D ω β) (hi : i < D) (H : ∀ J n', R (if hasB ω i = true ∧ ¬ way = 4 ∧ dueB σ ω i = true then 1 else 0) (pB (hS h J n') b β)) : AW (GM adK adV) l ad (d + 3) mX10_doesPay 0 [(0, .ref (ad 0)), (1, .int (nI b)), (2, .int (nI i))] [] (pB (hS h J0 n0) b β) (qi R) := by
  obtain ⟨wf, iv, ik⟩ := I
  have hD := wf.2.2.1
  have K : hasB ω i = true → ¬ way = 4 → payV σ ω i = ERR → ∀ J n', AW (GM adK adV) l ad (d + 3) mX10_doesPay 60 [(0, .ref (ad 0)), (1, .int (nI b)), (2, .int (nI i))] [] (pB (hS h J n') b β) (qi R) := by
    intro h1 h2 h3 J n'
    have h8 : ω 8 i = 1 := by
      unfold hasB at h1
      rw [Bool.and_eq_true, decide_eq_true_eq] at h1
      exact h1.1
    have hh := H J n'
    unfold dueB at hh
    rw [if_pos h3, if_pos h8, (iv.1 i hi).1 h8] at hh
    refine bX10_doesPay_60 _ _ _ ?_
    rw [i8, nI_clamp (by omega), nI_clamp (by omega), pB_get a23, r.2.2.1, pB_get (a30 (j := 7) (by omega) (by decide) (by decide)), row r hi 7 (by decide) (by decide)]
    refine ⟨vp_in_nI hb (by omega), vp_in_nI (by omega) (by omega), fun z => ?_, fun z => ?_⟩
    · rw [if_neg (fun q => by have := q.2.2; rw [decide_eq_true_eq] at this; exact this z)] at hh; exact hh
    · rw [if_pos ⟨h1, h2, decide_eq_true z⟩] at hh; exact hh
  refine bX10_doesPay_0 _ _ _ (m_hasIt hb wf r hi ?_)
  cases hx : hasB ω i
  · rw [if_neg (by decide)]
    refine ⟨fun _ => ?_, fun z => absurd rfl z⟩
    have := H J0 n0
    rw [hx, if_neg (fun q => by cases q.1)] at this
    exact this
  · rw [if_pos rfl]
    refine ⟨fun z => absurd z (by decide), fun _ => ?_⟩
    rw [pB_lo (by decide), hS_k (by decide), ← T.2.2.1]
    refine ⟨fun z4 => ?_, fun z4 => ?_⟩
    · refine m_callsPay C hb wf r iv hi (fun J hJ => ?_)
      have L := C.2.2.2.2.2.2.2.1
      refine m_hasLawV (k := 1) (ml_S L) (by decide) ?_
      by_cases hz : ix (σ 11 2) = 0
      · rw [if_pos hz]
        exact ⟨fun _ => K hx z4 (lwV_0 hz) J _, fun z => absurd rfl z⟩
      · rw [if_neg hz]
        refine ⟨fun z => absurd z (by decide), fun _ => ?_⟩
        refine m_goesV (k := 1) L (by decide) hz nmS_ne hJ (fun z J' n' ev => ?_) (fun z J' n' => ?_)
        · have ev2 : (pB (hS h J' n') b β).2.1 22 0 = payV σ ω i := ev
          rw [ev2]
          have hh := H J' n'
          unfold dueB at hh
          rw [hx, if_neg (show ¬ payV σ ω i = ERR from z)] at hh
          refine ⟨fun z => absurd z (by decide), fun _ => ⟨fun q => ?_, fun q => ?_⟩⟩
          · rw [if_neg (fun z => by have := z.2.2; rw [decide_eq_true_eq] at this; exact this q)] at hh; exact hh
          · rw [if_pos ⟨rfl, z4, decide_eq_true q⟩] at hh; exact hh
        · exact ⟨fun _ => K hx z4 z J' n', fun z => absurd rfl z⟩
    · have := H J0 n0
      rw [if_neg (fun q => q.2.1 z4)] at this
      exact this
end MS2
