/-! ===== calls ahead: keep ===== -/
def pcN (s : Nat) : Nat := ix (bcS (nI s))
theorem pcN_ok : ∀ s, s < 64 → bcS (nI s) = nI (pcN s) ∧ pcN s ≤ 6 := by decide +kernel
theorem sub_le : ∀ a, a < 64 → ∀ s, s < 64 → (nI s &&& (nI a ^^^ (-1))) = 0 → s ≤ a := by decide +kernel
section KP
variable {adK adV : Nat → Nat} {l l' : Launch} {ad ad' : Nat → Nat} {d d' b : Nat} {hC hM hC' hM' h : aH} {sy m t n D0 D : Nat} {ω β : wT} {way deaf : Int32}
def kfB (f : wT) (i : Nat) : Bool := decide (f 8 i = 2) || (decide (f 8 i = 1) && !decide (f 11 i = 0))
theorem t8_go {σ : wT} {q : Nat} : ∀ r, T8 (daysW σ t D n way deaf q ω) (daysW σ t D n way deaf (q + r) ω)
  | 0 => t8_rfl
  | r + 1 => t8_tr (t8_go r) (t8_day _)
theorem c_kept {R : Int32 → aH → Prop} {k i s : Nat} (hk : k ≤ 60) (g : GQ hC hM sy m t n D0 D) (hi : i < D) (h8 : wq hC 66 8 i = 1) (I1 : Inv m t D (u2 (nz (wq hC 66)) 11 i (nI s))) (H : ∀ hC', kC hC hC' → R (if kfB (daysW (wd hC sy) t D n 0 0 k (u2 (nz (wq hC 66)) 11 i (nI s))) i then 1 else 0) hC') : AW GC l ad (d + 6) mX9_isKeptBy 0 [(0, .ref (ad 0)), (1, .int (nI s)), (2, .int (nI i)), (3, .int (nI k))] [] hC (qi R) := by
  obtain ⟨e1, e2, e3, e4, e5, e6, hm, ht, hD⟩ := g_S g
  have S := g.1.2.2.2.1
  refine bX9_isKeptBy_0 _ _ _ _ (c_trial g ⟨vp_in_nI (by omega) (by decide), ?_⟩)
  rw [nI_clamp (by omega), sI_pW (w := 78) (j := 11) (by decide)]
  refine cE isW_78 (ω' := u2 (nz (wq hC 66)) 11 i (nI s)) (fun j k hv => u2_eq (nz_E j k hv)) ?_
  have h81 : u2 (nz (wq hC 66)) 11 i (nI s) 8 i = 1 := by
    rw [u2_j (by decide)]
    exact (cpW_at (Or.inr (Or.inr (Or.inl ⟨by decide, by decide, by omega⟩)))).trans h8
  generalize u2 (nz (wq hC 66)) 11 i (nI s) = ω1 at I1 H h81 ⊢
  have e8 : ∀ q J, (pW (hJ (foll hC sy 78 0 0) J) 78 (daysW (wd hC sy) t D n 0 0 q ω1)).1 86 i = daysW (wd hC sy) t D n 0 0 q ω1 8 i := fun q J => pW_get (w := 78) (j := 8) (by decide)
  have e11 : ∀ q J, (pW (hJ (foll hC sy 78 0 0) J) 78 (daysW (wd hC sy) t D n 0 0 q ω1)).1 89 i = daysW (wd hC sy) t D n 0 0 q ω1 11 i := fun q J => pW_get (w := 78) (j := 11) (by decide)
  have K51 : ∀ q J, q ≤ k → (q = k ∨ ¬ daysW (wd hC sy) t D n 0 0 q ω1 8 i = 1) → AW GC l ad (d + 6) mX9_isKeptBy 51 [(0, .ref (ad 0)), (2, .int (nI i))] [] (pW (hJ (foll hC sy 78 0 0) J) 78 (daysW (wd hC sy) t D n 0 0 q ω1)) (qi R) := by
    intro q J hq hqk
    refine bX9_isKeptBy_51 _ _ ?_
    rw [nI_clamp (by omega), e8, e11]
    have H := H _ (kC_trial (sy := sy) (way := 0) (deaf := 0) (J := J) (ω := daysW (wd hC sy) t D n 0 0 q ω1))
    by_cases z1 : daysW (wd hC sy) t D n 0 0 q ω1 8 i = 1
    · have : q = k := hqk.elim id (fun w => absurd z1 w)
      subst this
      unfold kfB at H
      rw [z1] at H ⊢
      refine ⟨vp_in_nI (by omega) (by decide), fun w => absurd w (by decide), fun _ => ⟨vp_in_nI (by omega) (by decide), fun z => ?_, fun z => ?_⟩⟩
      · rw [z] at H; exact H
      · rw [decide_eq_false z] at H; exact H
    · have hT : T8 ω1 (daysW (wd hC sy) t D n 0 0 q ω1) := t8_days
      have z0 : ¬ daysW (wd hC sy) t D n 0 0 q ω1 8 i = 0 := by
        rcases hT i with w | ⟨-, w | w | w | w⟩
        · rw [w, h81]; decide
        all_goals rw [w]; decide
      have st : daysW (wd hC sy) t D n 0 0 k ω1 8 i = daysW (wd hC sy) t D n 0 0 q ω1 8 i := by
        have := t8_stay (t8_go (σ := wd hC sy) (t := t) (D := D) (n := n) (way := 0) (deaf := 0) (ω := ω1) (q := q) (k - q)) z0 z1
        rw [show q + (k - q) = k by omega] at this
        exact this
      have kn := ((inv_daysW (way := 0) (deaf := 0) S I1 q).2.1.1 i hi).2 z1
      unfold kfB at H
      rw [st, decide_eq_false z1, Bool.false_and, Bool.or_false] at H
      refine ⟨vp_in_nI (by omega) (by decide), fun z => ?_, fun z => ⟨vp_in_nI (by omega) (by decide), fun _ => ?_, fun w => absurd kn.2 w⟩⟩
      · rw [decide_eq_true z] at H; exact H
      · rw [decide_eq_false z] at H; exact H
  refine up_ind (P := fun q => ∀ J, AW GC l ad (d + 6) mX9_isKeptBy 19 [(0, .ref (ad 0)), (2, .int (nI i)), (3, .int (nI k)), (4, .int (nI q))] [] (pW (hJ (foll hC sy 78 0 0) J) 78 (daysW (wd hC sy) t D n 0 0 q ω1)) (qi R)) k (fun J => ?_) (fun q hq ih J => ?_) (foll hC sy 78 0 0).2.1
  · exact bX9_isKeptBy_19 _ _ _ _ ⟨fun _ => K51 k J (Nat.le_refl _) (Or.inl rfl), fun z => absurd (Int32.le_refl _) z⟩
  · refine bX9_isKeptBy_19 _ _ _ _ ?_
    rw [nI_clamp (by omega), e8, nI_1]
    exact ⟨fun z => absurd z (nI_ge hq (by omega)), fun _ => ⟨vp_in_nI (by omega) (by decide), fun z => K51 q J (by omega) (Or.inr z), fun z => c_day g (inv_daysW S I1 q) (fun J' => ih J')⟩⟩
/-- the reference's telling of one debt, up to the elephant e -/
def KB (β0 β : wT) (s i t e : Nat) : Prop := (∀ j k, j ≠ 12 → β j k = β0 j k) ∧ ∀ q, q < t → β 12 q = if q < e then (if bt (nI s) q then β0 12 q ||| ((1 : Int32) <<< (nI i &&& 31)) else β0 12 q &&& (((1 : Int32) <<< (nI i &&& 31)) ^^^ (-1))) else β0 12 q
theorem kb_rel {β0 : wT} {s i : Nat} (ht : t ≤ 6) (hD : D ≤ 8) (r : RelW m t D ω β0) (hi : i < D) (K : KB β0 β s i t t) : RelW m t D (u2 ω 11 i (nI s)) β := by
  refine rel_kn r (fun j k hj => u2_j hj) K.1 (fun q hq => ?_)
  obtain ⟨⟨a, ha, ea⟩, a2⟩ := r.2.2.2.2.2.2.2 q hq
  have := K.2 q hq
  rw [if_pos hq] at this
  rw [this]
  cases hb : bt (nI s) q
  · refine ⟨?_, fun p hp => ?_⟩
    · rw [ea]
      obtain ⟨k, h1, h2⟩ := n_andL a (((1 : Int32) <<< (nI i &&& 31)) ^^^ (-1))
      exact ⟨k, by omega, h2⟩
    · show bt (β0 12 q &&& (((1 : Int32) <<< (nI i &&& 31)) ^^^ (-1))) p = _
      rw [bt_and, bt_not _ (by omega), bt_one (by omega) (by omega), a2 p hp]
      by_cases z : p = i
      · subst z; rw [u2_s, hb]; simp
      · rw [u2_k z]; simp [z]
  · refine ⟨⟨a ||| 2 ^ i, Nat.or_lt_two_pow ha (Nat.pow_lt_pow_right (by decide) hi), ?_⟩, fun p hp => ?_⟩
    · rw [if_pos rfl, ea, n_one i (by omega), n_or]
    · rw [if_pos rfl, bt_or, bt_one (by omega) (by omega), a2 p hp]
      by_cases z : p = i
      · subst z; rw [u2_s, hb]; simp
      · rw [u2_k z]; simp [z]
theorem m_kept {R : Int32 → aH → Prop} {k i s : Nat} {x3 : Int32} (hk : k ≤ 60) (hs : s < 64) (g : GQ hC hM sy m t n D0 D) (hi : i < D) (I1 : Inv m t D (u2 (nz (wq hC 66)) 11 i (nI s))) (H : ∀ hM', kM hM hM' → AW (GM adK adV) l ad (d + 8) mX10_keep 43 [(0, .ref (ad 0)), (1, .int (nI i)), (2, .int (nI k)), (3, .int (if kfB (daysW (wd hC sy) t D n 0 0 k (u2 (nz (wq hC 66)) 11 i (nI s))) i then nI s else x3)), (4, .int (nI (s + 1)))] [] hM' (qi R)) : AW (GM adK adV) l ad (d + 8) mX10_keep 87 [(0, .ref (ad 0)), (1, .int (nI i)), (2, .int (nI k)), (3, .int x3), (4, .int (nI s))] [] hM (qi R) := by
  obtain ⟨e1, e2, e3, e4, e5, e6, hm, ht, hD⟩ := g_S g
  obtain ⟨I, r, N⟩ := g.2.1
  have S := g.1.2.2.2.1
  have C := g.1.2.2.2.2.1
  refine bX10_keep_87 _ _ _ _ _ (m_copies (x := 1) (y := 0) (by decide) (by decide) (by decide) ?_)
  have r0 : RelW m t D (nz (wq hC 66)) (bkT hM 0) := rel_cp I r
  refine up_ind (P := fun e => ∀ β, KB (bkT hM 0) β s i t e → AW (GM adK adV) l ad (d + 8) mX10_keep 96 [(0, .ref (ad 0)), (1, .int (nI i)), (2, .int (nI k)), (3, .int x3), (4, .int (nI s)), (5, .int (nI e))] [] (pB hM 1 β) (qi R)) t (fun β K => ?_) (fun e he ih β K => ?_) (bkT hM 0) ⟨fun _ _ _ => rfl, fun q _ => by rw [if_neg (Nat.not_lt_zero _)]⟩
  · refine bX10_keep_96 _ _ _ _ _ _ ?_
    rw [pB_off (a_off (by omega)), e6, nI_1]
    refine ⟨fun _ => ?_, fun z => absurd (Int32.le_refl _) z⟩
    have r1 := kb_rel ht hD r0 hi K
    have eh : pB hM 1 β = pB (hS hM hM.2.1 (hM.1 0 37)) 1 β := by rw [hS_self]
    rw [eh]
    have Ik := inv_daysW (way := 0) (deaf := 0) S I1 k
    refine m_goesOn (by omega) C S (mt_0 g.2.2.2.2.2.2.2.2.1) I1 r1 (fun β' J n' r2 => ?_)
    have H := H _ (kM_pB1 (J := J) (n' := n') (β := β'))
    rw [show (8 : Int32) + nI i = nI (8 * 1 + i) from nI_add 8 i, nI_clamp (by omega), pB_get (a30 (b := 1) (j := 8) (by omega) (by decide) (by decide)), row r2 hi 8 (by decide) (by decide)]
    unfold kfB at H
    refine ⟨vp_in_nI (by omega) (by decide), fun z => ?_, fun z => ⟨fun z1 => ?_, fun z1 => ?_⟩⟩
    · rw [decide_eq_true z] at H; exact H
    · rw [decide_eq_false z, decide_eq_false z1] at H; exact H
    · rw [decide_eq_false z, decide_eq_true z1] at H
      refine m_knowers (b := 1) (mc_S C) (by decide) Ik.1 r2 hi ⟨fun z2 => ?_, fun z2 => ?_⟩
      · rw [decide_eq_true z2] at H; exact H
      · rw [decide_eq_false z2] at H; exact H
  · refine bX10_keep_96 _ _ _ _ _ _ ?_
    rw [pB_off (a_off (by omega)), e6, nI_1 e, bt_shr _ (by omega), show (6 : Int32) + nI e = nI (6 * 1 + e) from nI_add 6 e, nI_clamp (by omega), pB_get (a29 (by omega)), sI_pB (a29 (by omega)), sI_pB (a29 (by omega))]
    have eK := K.2 e he
    rw [if_neg (Nat.lt_irrefl _)] at eK
    have stp : ∀ x : Int32, x = (if bt (nI s) e then bkT hM 0 12 e ||| ((1 : Int32) <<< (nI i &&& 31)) else bkT hM 0 12 e &&& (((1 : Int32) <<< (nI i &&& 31)) ^^^ (-1))) → KB (bkT hM 0) (u2 β 12 e x) s i t (e + 1) := by
      intro x ex
      refine ⟨fun j k hj => (u2_j hj).trans (K.1 j k hj), fun q hq => ?_⟩
      by_cases z : q = e
      · subst z; rw [u2_s, if_pos (by omega), ex]
      · rw [u2_k z, K.2 q hq]
        by_cases z2 : q < e
        · rw [if_pos z2, if_pos (show q < e + 1 by omega)]
        · rw [if_neg z2, if_neg (show ¬ q < e + 1 by omega)]
    refine ⟨fun z => absurd z (nI_ge he (by omega)), fun _ => ⟨fun z => ⟨vp_in_nI (by omega) (by decide), href (ih _ (stp _ ?_))⟩, fun z => ⟨vp_in_nI (by omega) (by decide), href (ih _ (stp _ ?_))⟩⟩⟩
    · cases hb : bt (nI s) e
      · rw [eK]; rfl
      · rw [hb] at z; exact absurd rfl z
    · cases hb : bt (nI s) e
      · rw [hb] at z; exact absurd z (by decide)
      · rw [eK]; rfl
/-- the best one so far: fewest, of these the least -/
def bsU (P : Nat → Prop) (r : Int32) (q : Nat) : Prop := (r = -2 ∧ ∀ s, s < q → ¬ P s) ∨ ∃ s, s < q ∧ P s ∧ r = nI s ∧ ∀ s', s' < q → P s' → pcN s < pcN s' ∨ pcN s = pcN s' ∧ s ≤ s'
theorem bs_uniq {P : Nat → Prop} {r r' : Int32} {q : Nat} (a : bsU P r q) (b : bsU P r' q) : r = r' := by
  rcases a with ⟨a1, a2⟩ | ⟨s, a1, a2, a3, a4⟩
  · rcases b with ⟨b1, b2⟩ | ⟨s', b1, b2, b3, b4⟩
    · rw [a1, b1]
    · exact absurd b2 (a2 s' b1)
  · rcases b with ⟨b1, b2⟩ | ⟨s', b1, b2, b3, b4⟩
    · exact absurd a2 (b2 s a1)
    · have x := a4 s' b1 b2
      have y := b4 s a1 a2
      have : s = s' := by omega
      rw [a3, b3, this]
theorem c_keep {R : Int32 → aH → Prop} {k i : Nat} {P : Nat → Prop} (hk : k ≤ 60) (g : GQ hC hM sy m t n D0 D) (hi : i < D) (h8 : wq hC 66 8 i = 1) (hP : ∀ s, P s ↔ s < 64 ∧ (nI s &&& (wq hC 66 0 12 ^^^ (-1))) = 0 ∧ kfB (daysW (wd hC sy) t D n 0 0 k (u2 (nz (wq hC 66)) 11 i (nI s))) i = true) (hI : ∀ s, s < 64 → (nI s &&& (wq hC 66 0 12 ^^^ (-1))) = 0 → Inv m t D (u2 (nz (wq hC 66)) 11 i (nI s))) (H : ∀ r hC', kC hC hC' → bsU P r 64 → R r hC') : AW GC l ad (d + 7) mX9_keep 38 [(0, .ref (ad 0)), (1, .int (nI i)), (2, .int (nI k)), (3, .int (0 : Int32))] [] hC (qi R) := by
  have hsy := g.1.1
  refine up_ind (P := fun f => ∀ hC', kC hC hC' → (∀ s, P s → f ≤ pcN s) → AW GC l ad (d + 7) mX9_keep 38 [(0, .ref (ad 0)), (1, .int (nI i)), (2, .int (nI k)), (3, .int (nI f))] [] hC' (qi R)) 7 (fun hC' kc no => ?_) (fun f hf ih hC' kc no => ?_) hC kC_rfl (fun s _ => Nat.zero_le _)
  · refine bX9_keep_38 _ _ _ _ ⟨fun _ => H _ _ kc (Or.inl ⟨rfl, fun s hs p => ?_⟩), fun z => absurd (by decide) z⟩
    have := no s p
    have := (pcN_ok s hs).2
    omega
  · refine bX9_keep_38 _ _ _ _ ⟨fun z => absurd ((nI_ltI (a := 6) (b := f) (by decide) (by omega)).mp z) (by omega), fun _ => ?_⟩
    refine up_ind (P := fun b => ∀ hC', kC hC hC' → (∀ s, P s → f < pcN s ∨ pcN s = f ∧ b ≤ s) → AW GC l ad (d + 7) mX9_keep 47 [(0, .ref (ad 0)), (1, .int (nI i)), (2, .int (nI k)), (3, .int (nI f)), (4, .int (nI b))] [] hC' (qi R)) 64 (fun hC' kc no => ?_) (fun b hb ih2 hC' kc no => ?_) hC' kc (fun s p => by have := no s p; omega)
    · refine bX9_keep_47 _ _ _ _ _ ⟨fun _ => ?_, fun z => absurd (Int32.le_refl _) z⟩
      rw [nI_1]
      refine ih hC' kc (fun s p => ?_)
      have := no s p
      have := ((hP s).mp p).1
      omega
    · have e12 : hC'.1 66 12 = wq hC 66 0 12 := by
        rw [kc.1 66 12 (by omega)]
        exact (wq_at (w := 66) (j := 0) (by decide)).symm
      have NX : ¬ P b ∨ ¬ pcN b = f → ∀ hC'', kC hC hC'' → AW GC l ad (d + 7) mX9_keep 47 [(0, .ref (ad 0)), (1, .int (nI i)), (2, .int (nI k)), (3, .int (nI f)), (4, .int (nI (b + 1)))] [] hC'' (qi R) := by
        intro hn hC'' kc2
        refine ih2 hC'' kc2 (fun s p => ?_)
        have := no s p
        by_cases z : s = b
        · subst z
          rcases hn with w | w
          · exact absurd p w
          · omega
        · omega
      refine bX9_keep_47 _ _ _ _ _ ?_
      rw [e12, nI_1 b]
      refine ⟨fun z => absurd z (nI_ge (b := 64) hb (by decide)), fun _ => ⟨fun z => NX (Or.inl (fun p => z ((hP b).mp p).2.1)) _ kc, fun zs => sp_bitCount (by omega) ⟨fun z => NX (Or.inr (fun w => z ?_)) _ kc, fun z => ?_⟩⟩⟩
      · rw [(pcN_ok b hb).1, w]
      · have g' := gq_frame kc kM_rfl g
        have hpc : pcN b = f := by
          rw [(pcN_ok b hb).1] at z
          exact (nI_eq (by have := (pcN_ok b hb).2; omega) (by omega)).mp z
        have e66 := kC_66 kc
        have ew := wd_kC kc hsy
        refine c_kept hk g' hi (by rw [e66]; exact h8) (by rw [e66]; exact hI b hb zs) (fun hC'' kc2 => ?_)
        rw [e66, ew]
        cases hkf : kfB (daysW (wd hC sy) t D n 0 0 k (u2 (nz (wq hC 66)) 11 i (nI b))) i
        · refine ⟨fun _ => NX (Or.inl (fun p => ?_)) _ (kC_tr kc kc2), fun z => absurd rfl z⟩
          have := ((hP b).mp p).2.2
          rw [hkf] at this
          cases this
        · refine ⟨fun z => absurd z (by decide), fun _ => H _ _ (kC_tr kc kc2) (Or.inr ⟨b, hb, (hP b).mpr ⟨hb, zs, hkf⟩, rfl, fun s' _ p => ?_⟩)⟩
          have := no s' p
          omega
theorem m_keep {R : Int32 → aH → Prop} {k i : Nat} {P : Nat → Prop} (hk : k ≤ 60) (g : GQ hC hM sy m t n D0 D) (hi : i < D) (hP : ∀ s, P s ↔ s < 64 ∧ (nI s &&& (wq hC 66 0 12 ^^^ (-1))) = 0 ∧ kfB (daysW (wd hC sy) t D n 0 0 k (u2 (nz (wq hC 66)) 11 i (nI s))) i = true) (hI : ∀ s, s < 64 → (nI s &&& (wq hC 66 0 12 ^^^ (-1))) = 0 → Inv m t D (u2 (nz (wq hC 66)) 11 i (nI s))) (H : ∀ r hM', kM hM hM' → bsU P r 64 → R r hM') : AW (GM adK adV) l ad (d + 8) mX10_keep 43 [(0, .ref (ad 0)), (1, .int (nI i)), (2, .int (nI k)), (3, .int (-2 : Int32)), (4, .int (0 : Int32))] [] hM (qi R) := by
  obtain ⟨e1, e2, e3, e4, e5, e6, hm, ht, hD⟩ := g_S g
  obtain ⟨I, r, N⟩ := g.2.1
  obtain ⟨a, ha, ea⟩ := I.1.2.2.2.2.1
  have ha6 : a < 64 := Nat.lt_of_lt_of_le ha (Nat.le_trans (Nat.pow_le_pow_right (by decide) ht) (by decide))
  have e26 : ∀ hM', kM hM hM' → hM'.1 26 0 = wq hC 66 0 12 := by
    intro hM' km
    have h1 := r.2.1
    rw [← kM_bk km (b := 0) (by decide)] at h1
    exact h1
  refine up_ind (P := fun q => ∀ hM', kM hM hM' → ∀ x3, bsU P x3 q → AW (GM adK adV) l ad (d + 8) mX10_keep 43 [(0, .ref (ad 0)), (1, .int (nI i)), (2, .int (nI k)), (3, .int x3), (4, .int (nI q))] [] hM' (qi R)) (a + 1) (fun hM' km x3 bs => ?_) (fun q hq ih hM' km x3 bs => ?_) hM kM_rfl (-2) (Or.inl ⟨rfl, fun s hs => absurd hs (Nat.not_lt_zero _)⟩)
  · refine bX10_keep_43 _ _ _ _ _ ?_
    rw [e26 _ km, ea]
    refine ⟨fun _ => H _ _ km ?_, fun z => absurd (nI_lt (by omega) (by omega)) z⟩
    have up : ∀ s, P s → s < a + 1 := by
      intro s p
      obtain ⟨p1, p2, -⟩ := (hP s).mp p
      rw [ea] at p2
      have := sub_le a ha6 s p1 p2
      omega
    rcases bs with ⟨b1, b2⟩ | ⟨s, b1, b2, b3, b4⟩
    · exact Or.inl ⟨b1, fun s _ p => b2 s (up s p) p⟩
    · exact Or.inr ⟨s, by omega, b2, b3, fun s' _ p => b4 s' (up s' p) p⟩
  · have hq64 : q < 64 := by omega
    have g' := gq_frame kC_rfl km g
    have SK : (¬ P q ∨ ∃ s, s < q ∧ P s ∧ x3 = nI s ∧ pcN s ≤ pcN q) → bsU P x3 (q + 1) := by
      intro hn
      rcases bs with ⟨b1, b2⟩ | ⟨s, b1, b2, b3, b4⟩
      · refine Or.inl ⟨b1, fun s hs p => ?_⟩
        by_cases z : s = q
        · subst z
          rcases hn with w | ⟨s2, w1, w2, -⟩
          · exact w p
          · exact b2 s2 w1 w2
        · exact b2 s (by omega) p
      · refine Or.inr ⟨s, by omega, b2, b3, fun s' hs' p => ?_⟩
        by_cases z : s' = q
        · subst z
          rcases hn with w | ⟨s2, w1, w2, w3, w4⟩
          · exact absurd p w
          · have : s = s2 := (nI_eq (by omega) (by omega)).mp (b3.symm.trans w3)
            subst this
            omega
        · exact b4 s' (by omega) p
    have T87 : (nI q &&& (wq hC 66 0 12 ^^^ (-1))) = 0 → (∀ s, s < q → P s → pcN q < pcN s) → AW (GM adK adV) l ad (d + 8) mX10_keep 87 [(0, .ref (ad 0)), (1, .int (nI i)), (2, .int (nI k)), (3, .int x3), (4, .int (nI q))] [] hM' (qi R) := by
      intro zs hlt
      refine m_kept hk hq64 g' hi (hI q hq64 zs) (fun hM'' km2 => ih _ (kM_tr km km2) _ ?_)
      cases hkf : kfB (daysW (wd hC sy) t D n 0 0 k (u2 (nz (wq hC 66)) 11 i (nI q))) i
      · refine SK (Or.inl (fun p => ?_))
        have := ((hP q).mp p).2.2
        rw [hkf] at this
        cases this
      · refine Or.inr ⟨q, by omega, (hP q).mpr ⟨hq64, zs, hkf⟩, rfl, fun s' hs' p => ?_⟩
        by_cases z : s' = q
        · subst z; exact Or.inr ⟨rfl, Nat.le_refl _⟩
        · exact Or.inl (hlt s' (by omega) p)
    refine bX10_keep_43 _ _ _ _ _ ?_
    rw [e26 _ km, nI_1]
    refine ⟨fun z => ?_, fun _ => ⟨fun z => ih _ km _ (SK (Or.inl (fun p => z ((hP q).mp p).2.1))), fun zs => ⟨fun z => ?_, fun z => ?_⟩⟩⟩
    · rw [ea] at z
      exact absurd ((nI_ltI (by omega) (by omega)).mp z) (by omega)
    · refine T87 zs (fun s hs p => ?_)
      rcases bs with ⟨b1, b2⟩ | ⟨s2, b1, b2, b3, b4⟩
      · exact absurd p (b2 s hs)
      · rw [b3] at z; exact absurd z (nI_pos (by omega))
    · rcases bs with ⟨b1, b2⟩ | ⟨s, b1, b2, b3, b4⟩
      · rw [b1] at z; exact absurd (by decide) z
      · have hs64 := ((hP s).mp b2).1
        have p1 := pcN_ok s hs64
        have p2 := pcN_ok q hq64
        refine m_bitsOf (m_bitsOf ?_)
        rw [b3, p1.1, p2.1, nI_ltI (by omega) (by omega)]
        refine ⟨fun w => ?_, fun w => ?_⟩
        · have := T87 zs (fun s' hs' p => by have := b4 s' hs' p; omega)
          rw [b3] at this
          exact this
        · have := ih _ km _ (SK (Or.inr ⟨s, b1, b2, b3, by omega⟩))
          rw [b3] at this
          exact this
theorem j_keep {x1 x2 : Int32} (g : GR hC hM) : AW GC l ad (d + 7) mX9_keep 0 [(0, .ref (ad 0)), (1, .int x1), (2, .int x2)] [] hC (qi (jq l' ad' (d' + 8) adK adV mX10_keep [(0, .ref (ad' 0)), (1, .int x1), (2, .int x2)] hM)) := by
  obtain ⟨sy, m, t, n, D0, D, g⟩ := g
  have g2 := g_thr g
  have G : GR hC (sI hM 0 0 0) := ⟨_, _, _, _, _, _, g2⟩
  obtain ⟨e1, e2, e3, e4, e5, e6, hm, ht, hD⟩ := g_S g2
  obtain ⟨I, r, N⟩ := g2.2.1
  refine bX9_keep_0 _ _ _ (c_isDebt g ?_)
  cases hx : isIn x1 D
  · refine ⟨fun _ => bX10_keep_0 _ _ _ (m_isDebt g2 ?_), fun z => absurd rfl z⟩
    rw [hx]; exact ⟨fun _ => ⟨rfl, G⟩, fun z => absurd rfl z⟩
  obtain ⟨i, hi, rfl⟩ := isIn_of (by omega) hx
  refine ⟨fun z => absurd z (by decide), fun _ => ⟨fun z => ?_, fun z0 => ⟨fun z60 => ?_, fun z => ?_⟩⟩⟩
  · refine bX10_keep_0 _ _ _ (m_isDebt g2 ?_)
    rw [hx]; exact ⟨fun z => absurd z (by decide), fun _ => ⟨fun _ => ⟨rfl, G⟩, fun q => absurd z q⟩⟩
  · obtain ⟨k, hk, rfl⟩ := nI_of z0
    have hk60 : k ≤ 60 := (nI_leI (a := k) (b := 60) hk (by decide)).mp z60
    have e74 : hC.1 74 (nI i).toNatClampNeg = wq hC 66 8 i := by
      rw [nI_clamp (by omega), wq_at (w := 66) (j := 8) (by decide)]
    rw [e74]
    have M : ∀ (R : Int32 → aH → Prop), (wq hC 66 8 i = 1 → AW (GM adK adV) l' ad' (d' + 8) mX10_keep 43 [(0, .ref (ad' 0)), (1, .int (nI i)), (2, .int (nI k)), (3, .int (-2 : Int32)), (4, .int (0 : Int32))] [] (sI hM 0 0 0) (qi R)) → (¬ wq hC 66 8 i = 1 → R (-2) (sI hM 0 0 0)) → AW (GM adK adV) l' ad' (d' + 8) mX10_keep 0 [(0, .ref (ad' 0)), (1, .int (nI i)), (2, .int (nI k))] [] hM (qi R) := by
      intro R k1 k2
      refine bX10_keep_0 _ _ _ (m_isDebt g2 ?_)
      rw [hx]
      refine ⟨fun z => absurd z (by decide), fun _ => ⟨fun q => absurd q z0, fun _ => ⟨fun _ => mH (b := 0) (m_isOpen (b := 0) (by decide) (by omega) ?_), fun q => absurd z60 q⟩⟩⟩
      rw [pB_bk, row r hi 8 (by decide) (by decide)]
      by_cases z : wq hC 66 8 i = 1
      · rw [if_pos z]; exact ⟨fun _ => k1 z, fun z => absurd z (by decide)⟩
      · rw [if_neg z]; exact ⟨fun z => absurd rfl z, fun _ => k2 z⟩
    refine ⟨vp_in_nI (by omega) (by decide), fun z8 => ?_, fun z8 => M _ (fun q => absurd q z8) (fun _ => ⟨rfl, G⟩)⟩
    have hI : ∀ s, s < 64 → (nI s &&& (wq hC 66 0 12 ^^^ (-1))) = 0 → Inv m t D (u2 (nz (wq hC 66)) 11 i (nI s)) := by
      intro s hs zs
      obtain ⟨a, ha, ea⟩ := I.1.2.2.2.2.1
      have ha6 : a < 64 := Nat.lt_of_lt_of_le ha (Nat.le_trans (Nat.pow_le_pow_right (by decide) ht) (by decide))
      have I0 : Inv m t D (nz (wq hC 66)) := inv_cp I
      have e12 : nz (wq hC 66) 0 12 = wq hC 66 0 12 := cpW_at (Or.inl ⟨rfl, by decide, by decide⟩)
      refine inv_11 I0 (fun _ => (cpW_at (Or.inr (Or.inr (Or.inl ⟨by decide, by decide, by omega⟩)))).trans z8) (fun _ => ⟨s, ?_, rfl⟩) (fun _ e he q => ?_)
      · rw [ea] at zs
        have := sub_le a ha6 s hs zs
        omega
      · rw [e12]
        have := congrArg (fun x => bt x e) zs
        simp only [bt_and, bt_0] at this
        rw [bt_not _ (by omega), q] at this
        simpa using this
    refine c_keep (P := fun s => s < 64 ∧ (nI s &&& (wq hC 66 0 12 ^^^ (-1))) = 0 ∧ kfB (daysW (wd hC sy) t D n 0 0 k (u2 (nz (wq hC 66)) 11 i (nI s))) i = true) hk60 g hi z8 (fun s => Iff.rfl) hI (fun v hC' kc bv => M _ (fun _ => ?_) (fun q => absurd z8 q))
    exact m_keep hk60 g2 hi (fun s => Iff.rfl) hI (fun v' hM' km bv' => ⟨bs_uniq bv' bv, _, _, _, _, _, _, gq_frame kc km g2⟩)
  · refine bX10_keep_0 _ _ _ (m_isDebt g2 ?_)
    rw [hx]; exact ⟨fun z => absurd z (by decide), fun _ => ⟨fun q => absurd q z0, fun _ => ⟨fun q => absurd q z, fun _ => ⟨rfl, G⟩⟩⟩⟩
end KP
