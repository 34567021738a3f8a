/-! ===== calls ahead: ahead, ends ===== -/
section AH
variable {adK adV : Nat → Nat} {l l' : Launch} {ad ad' : Nat → Nat} {d d' b : Nat} {hC hM hC' hM' h : aH} {sy m t n D0 D : Nat} {ω β : wT} {way deaf : Int32}
theorem c_run {R : aH → Prop} {k : Nat} {J0 : Nat → Nat → Int64} (hk : k ≤ 99) (g : GQ hC hM sy m t n D0 D) (I : Inv m t D ω) (H : ∀ J, R (pW (hJ (foll hC sy 78 way deaf) J) 78 (daysW (wd hC sy) t D n way deaf k ω))) : AW GC l ad (d + 6) mX0_run 0 [(0, .ref (ad 344)), (1, .int (nI k))] [] (pW (hJ (foll hC sy 78 way deaf) J0) 78 ω) (qv R) := by
  have ew : wd (hJ (foll hC sy 78 way deaf) J0) sy = wd hC sy := wd_foll (h := hC) (g_sy g)
  have S := g.1.2.2.2.1
  refine sp_run hk (ct_J (ct_tr g) J0) (by rw [ew]; exact S) I.1 (fun J => ?_)
  rw [ew]
  exact H J
theorem c_run0 {R : aH → Prop} {k : Nat} (hk : k ≤ 99) (g : GQ hC hM sy m t n D0 D) (I : Inv m t D ω) (H : ∀ J, R (pW (hJ (foll hC sy 78 way deaf) J) 78 (daysW (wd hC sy) t D n way deaf k ω))) : AW GC l ad (d + 6) mX0_run 0 [(0, .ref (ad 344)), (1, .int (nI k))] [] (pW (foll hC sy 78 way deaf) 78 ω) (qv R) := c_run (J0 := (foll hC sy 78 way deaf).2.1) hk g I H
theorem c_day {R : aH → Prop} {J0 : Nat → Nat → Int64} (g : GQ hC hM sy m t n D0 D) (I : Inv m t D ω) (H : ∀ J, R (pW (hJ (foll hC sy 78 way deaf) J) 78 (dayW (wd hC sy) t D n way deaf ω))) : AW GC l ad (d + 5) mX0_oneDay 0 [(0, .ref (ad 344))] [] (pW (hJ (foll hC sy 78 way deaf) J0) 78 ω) (qv R) := by
  have ew : wd (hJ (foll hC sy 78 way deaf) J0) sy = wd hC sy := wd_foll (h := hC) (g_sy g)
  have S := g.1.2.2.2.1
  refine sp_oneDay (ct_J (ct_tr g) J0) (by rw [ew]; exact S) I.1 (fun J => ?_)
  rw [ew]
  exact H J
theorem c_tr0 {M : aM} {pc : Nat} {ls : List (Nat × Value)} {Q : Option Value → aH → Prop} (K : AW GC l ad d M pc ls [] (pW (hJ (foll hC sy 78 way deaf) (foll hC sy 78 way deaf).2.1) 78 (nz (wq hC 66))) Q) : AW GC l ad d M pc ls [] (pW (foll hC sy 78 way deaf) 78 (cpW (wq hC 78) (wq hC 66))) Q := cE isW_78 nz_E K
theorem m_trun {R : aH → Prop} {k : Nat} (hk : k ≤ 99) (g : GQ hC hM sy m t n D0 D) (H : ∀ β' J n', RelW m t D (daysW (wd hC sy) t D n 0 0 k (nz (wq hC 66))) β' → R (pB (hS hM J n') 1 β')) : AW (GM adK adV) l ad (d + 8) mX10_runs 0 [(0, .ref (ad 0)), (1, .int (nI k))] [] hM (qv R) := by
  obtain ⟨I, r, N⟩ := g.2.1
  refine bX10_runs_0 _ _ (m_copies (x := 1) (y := 0) (by decide) (by decide) (by decide) ?_)
  have e : pB hM 1 (bkT hM 0) = pB (hS hM hM.2.1 (hM.1 0 37)) 1 (bkT hM 0) := by rw [hS_self]
  rw [e]
  exact m_goesOn hk g.1.2.2.2.2.1 g.1.2.2.2.1 (mt_0 g.2.2.2.2.2.2.2.2.1) (inv_cp I) (rel_cp I r) H
theorem m_many2 {R : Int32 → Int32 → aH → Prop} {κ : Int32} {J : Nat → Nat → Int64} {n' : Int32} (g : GQ hC hM sy m t n D0 D) (r' : RelW m t D ω β) (H : R (cntS ω κ D) (cntS (wq hC 66) κ D) (pB (hS hM J n') 1 β)) : AW (GM adK adV) l ad d mX10_manyOf 0 [(0, .ref (ad 0)), (1, .int (1 : Int32)), (2, .int κ)] [] (pB (hS hM J n') 1 β) (qi fun z5 h4 => AW (GM adK adV) l ad d mX10_manyOf 0 [(0, .ref (ad 0)), (1, .int (0 : Int32)), (2, .int κ)] [] h4 (qi fun z7 h6 => R z5 z7 h6)) := by
  obtain ⟨I, r, N⟩ := g.2.1
  have hD := I.1.2.2.1
  refine m_manyOf (b := 1) (by decide) hD r' (mH (b := 0) (m_manyOf (b := 0) (ω := wq hC 66) (by decide) hD (by rw [bk0_t]; exact r) ?_))
  rw [pB_bk]
  exact H
theorem c_many2 {R : Int32 → Int32 → aH → Prop} {κ : Int32} {J : Nat → Nat → Int64} (g : GQ hC hM sy m t n D0 D) (I' : Inv m t D ω) (H : R (cntS ω κ D) (cntS (wq hC 66) κ D) (pW (hJ (foll hC sy 78 way deaf) J) 78 ω)) : AW GC l ad d mX8_countOf 0 [(0, .ref (ad 78)), (1, .int κ)] [] (pW (hJ (foll hC sy 78 way deaf) J) 78 ω) (qi fun z5 h4 => AW GC l ad d mX8_countOf 0 [(0, .ref (ad 66)), (1, .int κ)] [] h4 (qi fun z7 h6 => R z5 z7 h6)) := by
  obtain ⟨I, r, N⟩ := g.2.1
  have hD := I.1.2.2.1
  refine sp_countOf isW_78 hD I'.1.2.2.2.1 (cH (w := 66) (sp_countOf isW_66 hD (by rw [wq66_t]; exact I.1.2.2.2.1) ?_))
  rw [pW_wq, wq66_t]
  exact H
theorem m_pu {p : Nat} (hp : p < 6) {J : Nat → Nat → Int64} {n' : Int32} : (pB (hS hM J n') 1 β).1 27 ((6 : Int32) + nI p).toNatClampNeg = β 1 p := by
  rw [show (6 : Int32) + nI p = nI (6 * 1 + p) from nI_add 6 p, nI_clamp (by omega), pB_get (a27 hp)]
theorem j_ah34 {k : Nat} {x2 x3 : Int32} (hk : k ≤ 99) (hx : x2 = 3 → ∃ p, p < m ∧ x3 = nI p) (z3 : ¬ x2 < 0) (z4 : ¬ 4 < x2) (g : GQ hC hM sy m t n D0 D) : AW GC l ad (d + 7) mX9_ahead 34 [(0, .ref (ad 0)), (1, .int (nI k)), (2, .int x2), (3, .int x3)] [] hC (qi fun z hC' => AW (GM adK adV) l' ad' (d' + 9) mX10_ahead 39 [(0, .ref (ad' 0)), (1, .int (nI k)), (2, .int x2), (3, .int x3)] [] hM (qi fun z' hM' => z' = z ∧ GR hC' hM')) := by
  obtain ⟨e1, e2, e3, e4, e5, e6, hm, ht, hD⟩ := g_S g
  obtain ⟨I, r, N⟩ := g.2.1
  have S := g.1.2.2.2.1
  have I' := inv_daysW (way := 0) (deaf := 0) S (inv_cp (ω := fun _ _ => 0) I) k
  have FIN : ∀ J β' J' n', GR (pW (hJ (foll hC sy 78 0 0) J) 78 (daysW (wd hC sy) t D n 0 0 k (nz (wq hC 66)))) (pB (hS hM J' n') 1 β') := fun J β' J' n' => ⟨_, _, _, _, _, _, gq_frame kC_trial kM_pB1 g⟩
  refine bX9_ahead_34 _ _ _ _ (c_trial g (c_tr0 (c_run hk g (inv_cp I) (fun J => ⟨fun z5 => ⟨fun z6 => ?_, fun z6 => ?_⟩, fun z5 => ?_⟩))))
  · refine c_many2 g I' ?_
    refine bX10_ahead_39 _ _ _ _ (m_trun hk g (fun β' J' n' r' => ⟨fun q => ?_, fun q => ?_, fun q => ?_, fun q => absurd q z5, fun q0 q1 q2 q3 => ?_⟩))
    · subst q; exact m_many2 g r' ⟨rfl, FIN J _ _ _⟩
    · subst q; exact m_many2 g r' ⟨rfl, FIN J _ _ _⟩
    · subst q; exact m_many2 g r' ⟨rfl, FIN J _ _ _⟩
    · exfalso
      obtain ⟨q, hq, rfl⟩ := nI_of z3
      have h4 : q ≤ 4 := Nat.le_of_not_lt (fun w => z4 ((nI_ltI (a := 4) (b := q) (by decide) hq).mpr w))
      match q, h4 with
      | 0, _ => exact q0 rfl
      | 1, _ => exact q1 rfl
      | 2, _ => exact q2 rfl
      | 3, _ => exact q3 rfl
      | 4, _ => exact z6 rfl
      | (q + 5), h4 => omega
  · obtain ⟨a, ha, ea⟩ := I'.1.2.2.2.2.1
    have ha6 : a < 256 := Nat.lt_of_lt_of_le ha (Nat.le_trans (Nat.pow_le_pow_right (by decide) ht) (by decide))
    rw [pW_get0]
    subst z6
    have ea' : daysW (wd hC sy) t D n 0 0 k (nz (wq hC 66)) 0 12 = nI a := ea
    rw [ea']
    refine sp_bitCount ha6 ?_
    refine bX10_ahead_39 _ _ _ _ (m_trun hk g (fun β' J' n' r' => ⟨fun q => absurd q (by decide), fun q => absurd q (by decide), fun q => absurd q (by decide), fun q => absurd q (by decide), fun _ _ _ _ => m_bitsOf ?_⟩))
    rw [pB_get a26, r'.2.1, ea']
    exact ⟨rfl, FIN J _ _ _⟩
  · subst z5
    obtain ⟨p, hp, rfl⟩ := hx rfl
    refine sp_purseOf isW_78 (by omega) ?_
    refine bX10_ahead_39 _ _ _ _ (m_trun hk g (fun β' J' n' r' => ⟨fun q => absurd q (by decide), fun q => absurd q (by decide), fun q => absurd q (by decide), fun _ => ⟨?_, ?_⟩, fun _ _ _ q => absurd rfl q⟩))
    · rw [show (6 : Int32) + nI p = nI (6 + p) from nI_add 6 p]
      exact vp_in_nI (by omega) (by omega)
    · rw [m_pu (by omega), r'.2.2.2.2.1 p hp]
      exact ⟨rfl, FIN J _ _ _⟩
theorem j_ahead {x1 x2 x3 : Int32} (g : GR hC hM) : AW GC l ad (d + 7) mX9_ahead 0 [(0, .ref (ad 0)), (1, .int x1), (2, .int x2), (3, .int x3)] [] hC (qi (jq l' ad' (d' + 9) adK adV mX10_ahead [(0, .ref (ad' 0)), (1, .int x1), (2, .int x2), (3, .int x3)] hM)) := by
  obtain ⟨sy, m, t, n, D0, D, g⟩ := g
  have g2 := g_thr g
  have G : GR hC (sI hM 0 0 0) := ⟨_, _, _, _, _, _, g2⟩
  obtain ⟨e1, e2, e3, e4, e5, e6, hm, ht, hD⟩ := g_S g2
  refine bX9_ahead_0 _ _ _ _ ⟨fun z => ?_, fun z1 => ⟨fun z => ?_, fun z2 => ⟨fun z => ?_, fun z3 => ⟨fun z => ?_, fun z4 => ?_⟩⟩⟩⟩
  · exact bX10_ahead_0 _ _ _ _ ⟨fun _ => ⟨rfl, G⟩, fun q => absurd z q⟩
  · exact bX10_ahead_0 _ _ _ _ ⟨fun q => absurd q z1, fun _ => ⟨fun _ => ⟨rfl, G⟩, fun q => absurd z q⟩⟩
  · exact bX10_ahead_0 _ _ _ _ ⟨fun q => absurd q z1, fun _ => ⟨fun q => absurd q z2, fun _ => ⟨fun _ => ⟨rfl, G⟩, fun q => absurd z q⟩⟩⟩
  · exact bX10_ahead_0 _ _ _ _ ⟨fun q => absurd q z1, fun _ => ⟨fun q => absurd q z2, fun _ => ⟨fun q => absurd q z3, fun _ => ⟨fun _ => ⟨rfl, G⟩, fun q => absurd z q⟩⟩⟩⟩
  obtain ⟨k, hk, rfl⟩ := nI_of z1
  have hk99 : k ≤ 99 := Nat.le_of_not_lt (fun q => z2 ((nI_ltI (a := 99) (b := k) (by decide) hk).mpr q))
  have M : ∀ (R : Int32 → aH → Prop), ((¬ x2 = (3 : Int32) → (AW (GM adK adV) l' ad' (d' + 9) mX10_ahead 39 [(0, .ref (ad' 0)), (1, .int (nI k)), (2, .int x2), (3, .int x3)] [] (sI hM 0 0 (0 : Int32)) (qi R))) ∧ (x2 = (3 : Int32) → (AW (GM adK adV) l' ad' (d' + 8) mX10_isMan 0 [(0, .ref (ad' 0)), (1, .int x3)] [] (sI hM 0 0 (0 : Int32)) (qi fun z2 h1 => (¬ z2 = 0 → (AW (GM adK adV) l' ad' (d' + 9) mX10_ahead 39 [(0, .ref (ad' 0)), (1, .int (nI k)), (2, .int x2), (3, .int x3)] [] h1 (qi R))) ∧ (z2 = 0 → (R (-1 : Int32) h1)))))) → AW (GM adK adV) l' ad' (d' + 9) mX10_ahead 0 [(0, .ref (ad' 0)), (1, .int (nI k)), (2, .int x2), (3, .int x3)] [] hM (qi R) :=
    fun R K => bX10_ahead_0 _ _ _ _ ⟨fun q => absurd q z1, fun _ => ⟨fun q => absurd q z2, fun _ => ⟨fun q => absurd q z3, fun _ => ⟨fun q => absurd q z4, fun _ => K⟩⟩⟩⟩
  refine ⟨fun z5 => ?_, fun z5 => c_isMan g ?_⟩
  · refine aw_mono (j_ah34 (l' := l') (ad' := ad') (d' := d') (adK := adK) (adV := adV) hk99 (fun q => absurd q z5) z3 z4 g2) (fun r h' hr => ?_)
    obtain ⟨v, e, K⟩ := hr
    exact ⟨v, e, M _ ⟨fun _ => K, fun q => absurd q z5⟩⟩
  · cases hx : isIn x3 m
    · refine ⟨fun q => absurd rfl q, fun _ => M _ ⟨fun q => absurd z5 q, fun _ => m_isMan g2 ?_⟩⟩
      rw [hx]
      exact ⟨fun q => absurd rfl q, fun _ => ⟨rfl, G⟩⟩
    · refine ⟨fun _ => aw_mono (j_ah34 (l' := l') (ad' := ad') (d' := d') (adK := adK) (adV := adV) hk99 (fun _ => isIn_of (by omega) hx) z3 z4 g2) (fun r h' hr => ?_), fun q => absurd q (by decide)⟩
      obtain ⟨v, e, K⟩ := hr
      refine ⟨v, e, M _ ⟨fun q => absurd z5 q, fun _ => m_isMan g2 ?_⟩⟩
      rw [hx]
      exact ⟨fun _ => K, fun q => absurd q (by decide)⟩
/-- when a debt ends -/
def endV (f : Nat → wT) (i : Nat) : Nat → Nat → Int32
  | _, 0 => -2
  | k, q + 1 => if f k 8 i = 0 ∨ f k 8 i = 1 then endV f i (k + 1) q else nI k
theorem i32_01 {x : Int32} (h : ¬ x < 0) : x ≤ 1 ↔ (x = 0 ∨ x = 1) := by
  obtain ⟨q, hq, rfl⟩ := nI_of h
  rw [show (1 : Int32) = nI 1 from rfl, show (0 : Int32) = nI 0 from rfl, nI_leI hq (by decide), nI_eq hq (by decide), nI_eq hq (by decide)]
  omega
theorem c_ends {R : Int32 → aH → Prop} {i : Nat} (g : GQ hC hM sy m t n D0 D) (hi : i < D) (I0 : Inv m t D ω) : ∀ q k J, k + q = 100 → (∀ hC', kC hC hC' → R (endV (fun k => daysW (wd hC sy) t D n 0 0 k ω) i k q) hC') → AW GC l ad (d + 6) mX9_ends 18 [(0, .ref (ad 0)), (1, .int (nI i)), (2, .int (nI k))] [] (pW (hJ (foll hC sy 78 0 0) J) 78 (daysW (wd hC sy) t D n 0 0 k ω)) (qi R) := by
  have hD := (g_S g).2.2.2.2.2.2.2.2
  intro q
  induction q with
  | zero =>
    intro k J hk H
    have : k = 100 := by omega
    subst this
    exact bX9_ends_18 _ _ _ ⟨fun _ => H _ kC_trial, fun z => absurd (by decide) z⟩
  | succ q ih =>
    intro k J hk H
    have e8 : (pW (hJ (foll hC sy 78 0 0) J) 78 (daysW (wd hC sy) t D n 0 0 k ω)).1 86 i = daysW (wd hC sy) t D n 0 0 k ω 8 i := pW_get (w := 78) (j := 8) (by decide)
    have Ik := inv_daysW (way := 0) (deaf := 0) g.1.2.2.2.1 I0 k
    have NX : (daysW (wd hC sy) t D n 0 0 k ω 8 i = 0 ∨ daysW (wd hC sy) t D n 0 0 k ω 8 i = 1) → AW GC l ad (d + 6) mX9_ends 51 [(0, .ref (ad 0)), (1, .int (nI i)), (2, .int (nI k))] [] (pW (hJ (foll hC sy 78 0 0) J) 78 (daysW (wd hC sy) t D n 0 0 k ω)) (qi R) := by
      intro z
      refine bX9_ends_51 _ _ _ (c_day g Ik (fun J' => ?_))
      rw [nI_1]
      refine ih (k + 1) J' (by omega) (fun hC' kc => ?_)
      have H := H hC' kc
      unfold endV at H
      rw [if_pos z] at H
      exact H
    refine bX9_ends_18 _ _ _ ⟨fun z => absurd ((nI_ltI (a := 99) (b := k) (by decide) (by omega)).mp z) (by omega), fun _ => ⟨vp_in_nI (by omega) (by decide), ?_⟩⟩
    rw [nI_clamp (by omega), e8]
    refine ⟨fun z => NX (Or.inl z), fun z => ⟨fun z2 => NX (Or.inr z2), fun z2 => ?_⟩⟩
    have H := H _ (kC_trial (sy := sy) (way := 0) (deaf := 0) (J := J) (ω := daysW (wd hC sy) t D n 0 0 k ω))
    unfold endV at H
    rw [if_neg (fun w => w.elim z z2)] at H
    exact H
theorem m_ends {R : Int32 → aH → Prop} {i : Nat} (g : GQ hC hM sy m t n D0 D) (hi : i < D) (I0 : Inv m t D ω) (N0 : InvN D ω) : ∀ q k β J n', k + q = 100 → RelW m t D (daysW (wd hC sy) t D n 0 0 k ω) β → (∀ hM', kM hM hM' → R (endV (fun k => daysW (wd hC sy) t D n 0 0 k ω) i k q) hM') → AW (GM adK adV) l ad (d + 7) mX10_ends 23 [(0, .ref (ad 0)), (1, .int (nI i)), (2, .int (nI k))] [] (pB (hS hM J n') 1 β) (qi R) := by
  have hD := (g_S g).2.2.2.2.2.2.2.2
  intro q
  induction q with
  | zero =>
    intro k β J n' hk r H
    have : k = 100 := by omega
    subst this
    exact bX10_ends_23 _ _ _ ⟨fun _ => H _ kM_pB1, fun z => absurd (by decide) z⟩
  | succ q ih =>
    intro k β J n' hk r H
    have Ik := inv_daysW (way := 0) (deaf := 0) g.1.2.2.2.1 I0 k
    have Nk := invN_days (σ := wd hC sy) (t := t) (n := n) (k := k) (way := 0) (deaf := 0) (g_rate g) N0
    refine bX10_ends_23 _ _ _ ?_
    rw [show (8 : Int32) + nI i = nI (8 * 1 + i) from nI_add 8 i, nI_clamp (by omega), pB_get (a30 (b := 1) (j := 8) (by omega) (by decide) (by decide)), row r hi 8 (by decide) (by decide), i32_01 (Nk i hi).2.1, nI_1]
    refine ⟨fun z => absurd ((nI_ltI (a := 99) (b := k) (by decide) (by omega)).mp z) (by omega), fun _ => ⟨vp_in_nI (by omega) (by decide), fun z => ?_, fun z => ?_⟩⟩
    · refine m_passes (b := 1) g.1.2.2.2.2.1 g.1.2.2.2.1 (mt_0 g.2.2.2.2.2.2.2.2.1) (by decide) Ik r (fun β' J' n2 r' => ?_)
      refine ih (k + 1) β' J' n2 (by omega) r' (fun hC' kc => ?_)
      have H := H hC' kc
      unfold endV at H
      rw [if_pos z] at H
      exact H
    · have H := H _ (kM_pB1 (J := J) (n' := n') (β := β))
      unfold endV at H
      rw [if_neg z] at H
      exact H
theorem j_ends {x : Int32} (g : GR hC hM) : AW GC l ad (d + 6) mX9_ends 0 [(0, .ref (ad 0)), (1, .int x)] [] hC (qi (jq l' ad' (d' + 7) adK adV mX10_ends [(0, .ref (ad' 0)), (1, .int x)] hM)) := by
  obtain ⟨sy, m, t, n, D0, D, g⟩ := g
  have g2 := g_thr g
  have G : GR hC (sI hM 0 0 0) := ⟨_, _, _, _, _, _, g2⟩
  obtain ⟨I, r, N⟩ := g2.2.1
  have hD := I.1.2.2.1
  refine bX9_ends_0 _ _ (c_isDebt g ?_)
  cases hx : isIn x D
  · refine ⟨fun q => absurd rfl q, fun _ => bX10_ends_0 _ _ (m_isDebt g2 ?_)⟩
    rw [hx]
    exact ⟨fun q => absurd rfl q, fun _ => ⟨rfl, G⟩⟩
  · obtain ⟨i, hi, rfl⟩ := isIn_of (by omega) hx
    refine ⟨fun _ => c_trial g (c_tr0 (c_ends g hi (inv_cp I) 100 0 _ (by decide) (fun hC' kc => ?_))), fun q => absurd q (by decide)⟩
    refine bX10_ends_0 _ _ (m_isDebt g2 ?_)
    rw [hx]
    refine ⟨fun _ => m_copies (x := 1) (y := 0) (by decide) (by decide) (by decide) ?_, fun q => absurd q (by decide)⟩
    have e : pB (sI hM 0 0 0) 1 (bkT (sI hM 0 0 0) 0) = pB (hS (sI hM 0 0 0) (sI hM 0 0 0).2.1 ((sI hM 0 0 0).1 0 37)) 1 (bkT (sI hM 0 0 0) 0) := by rw [hS_self]
    rw [e]
    refine m_ends g2 hi (inv_cp I) (invN_cp hD N) 100 0 _ _ _ (by decide) (rel_cp I r) (fun hM' km => ⟨rfl, _, _, _, _, _, _, gq_frame kc km g2⟩)
end AH
