/-! ===== calls: had ===== -/
section HD
variable {adK adV : Nat → Nat} {l l' : Launch} {ad ad' : Nat → Nat} {d d' b : Nat} {hC hM hC' hM' h : aH} {sy m t n D0 D q : Nat} {ω β σ : wT} {s o dy db pf : Nat → Int32}
/-- one that was seen is so, in this world behind so many days -/
def okK (s o dy db pf : Nat → Int32) (ω : wT) (τ k : Nat) : Prop := s k = 0 → o k = -1 → dy k = nI τ → (if ω 8 (ix (db k)) = 2 then (1 : Int32) else 0) = pf k
/-- the class's rows of what was seen -/
def snC (h : aH) (q D : Nat) (s o dy db pf : Nat → Int32) : Prop := (if h.1 346 6 = -1 then h.1 346 5 else h.1 346 6) = nI q ∧ ∀ k, k < q → h.1 351 k = s k ∧ h.1 350 k = o k ∧ (o k = -1 → h.1 347 k = dy k ∧ h.1 348 k = db k ∧ h.1 349 k = pf k ∧ ∃ i, i < D ∧ db k = nI i)
def snM (h : aH) (q D : Nat) (s o dy db pf : Nat → Int32) : Prop := (if h.1 0 63 = -1 then h.1 0 62 else h.1 0 63) = nI q ∧ ∀ k, k < q → h.1 45 k = s k ∧ h.1 44 k = o k ∧ (o k = -1 → h.1 41 k = dy k ∧ h.1 42 k = db k ∧ h.1 43 k = pf k ∧ ∃ i, i < D ∧ db k = nI i)
theorem snC_ext (a : ∀ c k, 346 ≤ c → c ≤ 351 → hC'.1 c k = hC.1 c k) (x : snC hC q D s o dy db pf) : snC hC' q D s o dy db pf := by
  obtain ⟨x1, x2⟩ := x
  refine ⟨by rw [a 346 6 (by omega) (by omega), a 346 5 (by omega) (by omega)]; exact x1, fun k hk => ?_⟩
  rw [a 351 k (by omega) (by omega), a 350 k (by omega) (by omega), a 347 k (by omega) (by omega), a 348 k (by omega) (by omega), a 349 k (by omega) (by omega)]
  exact x2 k hk
theorem snM_ext (a : ∀ c k, 41 ≤ c → c ≤ 45 → hM'.1 c k = hM.1 c k) (a2 : hM'.1 0 62 = hM.1 0 62) (a3 : hM'.1 0 63 = hM.1 0 63) (x : snM hM q D s o dy db pf) : snM hM' q D s o dy db pf := by
  obtain ⟨x1, x2⟩ := x
  refine ⟨by rw [a2, a3]; exact x1, fun k hk => ?_⟩
  rw [a 45 k (by omega) (by omega), a 44 k (by omega) (by omega), a 41 k (by omega) (by omega), a 42 k (by omega) (by omega), a 43 k (by omega) (by omega)]
  exact x2 k hk
theorem c_agrees {R : Int32 → aH → Prop} {τ : Nat} (hq : q ≤ 24) (hD : D ≤ 8) (hτ : τ < 2 ^ 31) (eD : ω 0 11 = nI D) (x : snC (pW h 78 ω) q D s o dy db pf) (H1 : (∀ k, k < q → okK s o dy db pf ω τ k) → R 1 (pW h 78 ω)) (H0 : ∀ k, k < q → ¬ okK s o dy db pf ω τ k → R 0 (pW h 78 ω)) : AW GC l ad (d + 1) mX5_agrees 0 [(0, .ref (ad 346)), (1, .int (nI τ)), (2, .ref (ad 78))] [] (pW h 78 ω) (qi R) := by
  obtain ⟨x1, x2⟩ := x
  refine bX5_agrees_0 78 isW_78 _ _ (c_ruling ?_)
  rw [x1, if_neg (show ¬ (24 : Int32) < nI q from nI_nlt (a := 24) (b := q) hq (by decide))]
  refine up_ind (P := fun i => (∀ k, k < i → okK s o dy db pf ω τ k) → AW GC l ad (d + 1) mX5_agrees 13 [(0, .ref (ad 346)), (1, .int (nI τ)), (2, .ref (ad 78)), (3, .int (nI q)), (4, .int (nI i))] [] (pW h 78 ω) (qi R)) q (fun ok => ?_) (fun i hi ih ok => ?_) (fun k hk => absurd hk (Nat.not_lt_zero _))
  · exact bX5_agrees_13 78 isW_78 _ _ _ _ ⟨fun _ => H1 ok, fun z => absurd (Int32.le_refl _) z⟩
  · obtain ⟨y1, y2, y3⟩ := x2 i hi
    have NX : okK s o dy db pf ω τ i → AW GC l ad (d + 1) mX5_agrees 13 [(0, .ref (ad 346)), (1, .int (nI τ)), (2, .ref (ad 78)), (3, .int (nI q)), (4, .int (nI (i + 1)))] [] (pW h 78 ω) (qi R) := by
      intro w
      refine ih (fun k hk => ?_)
      by_cases z : k = i
      · rw [z]; exact w
      · exact ok k (by omega)
    refine bX5_agrees_13 78 isW_78 _ _ _ _ ?_
    rw [nI_clamp (by omega), y1, y2, nI_1]
    refine ⟨fun z => absurd z (nI_ge hi (by omega)), fun _ => ⟨vp_in_nI (by omega) (by decide), fun z => NX (fun w => absurd w z), fun z => ⟨fun z2 => NX (fun _ w => absurd w z2), fun z2 => ?_⟩⟩⟩
    obtain ⟨y4, y5, y6, j, hj, y7⟩ := y3 z2
    rw [y4, y5, y7]
    refine ⟨fun z3 => NX (fun _ _ w => absurd w z3), fun z3 => bX5_isPaid_0 78 isW_78 _ _ ⟨fun w => absurd w (nI_pos (by omega)), fun _ => ?_⟩⟩
    have e8 : (pW h 78 ω).1 (78 + 8) (nI j).toNatClampNeg = ω 8 j := by
      rw [nI_clamp (by omega)]
      exact pW_get (w := 78) (j := 8) (by decide)
    rw [pW_get0, eD, e8, y6]
    have ok_iff : okK s o dy db pf ω τ i ↔ (if ω 8 j = 2 then (1 : Int32) else 0) = pf i := by
      unfold okK
      rw [y7, ix_nI (by omega)]
      exact ⟨fun w => w z z2 z3, fun w _ _ _ => w⟩
    refine ⟨fun w => absurd w (nI_ge hj (by omega)), fun _ => ⟨vp_in_nI (by omega) (by decide), fun w => ⟨fun w2 => NX (ok_iff.mpr ?_), fun w2 => H0 i hi (fun w3 => w2 ?_)⟩, fun w => ⟨fun w2 => NX (ok_iff.mpr ?_), fun w2 => H0 i hi (fun w3 => w2 ?_)⟩⟩⟩
    · rw [if_neg w]; exact w2
    · have := ok_iff.mp w3; rw [if_neg w] at this; exact this
    · rw [if_pos w]; exact w2
    · have := ok_iff.mp w3; rw [if_pos w] at this; exact this
theorem m_isSo {R : Int32 → aH → Prop} {τ : Nat} (hq : q ≤ 24) (hD : D ≤ 8) (r : RelW m t D ω β) (x : snM (pB h 1 β) q D s o dy db pf) (H1 : (∀ k, k < q → okK s o dy db pf ω τ k) → R 1 (pB h 1 β)) (H0 : ∀ k, k < q → ¬ okK s o dy db pf ω τ k → R 0 (pB h 1 β)) : AW (GM adK adV) l ad (d + 1) mX10_isSo 0 [(0, .ref (ad 0)), (1, .int (nI τ))] [] (pB h 1 β) (qi R) := by
  obtain ⟨x1, x2⟩ := x
  refine bX10_isSo_0 _ _ ?_
  refine up_ind (P := fun i => (∀ k, k < i → okK s o dy db pf ω τ k) → AW (GM adK adV) l ad (d + 1) mX10_isSo 2 [(0, .ref (ad 0)), (1, .int (nI τ)), (2, .int (nI i))] [] (pB h 1 β) (qi R)) q (fun ok => ?_) (fun i hi ih ok => ?_) (fun k hk => absurd hk (Nat.not_lt_zero _))
  · refine bX10_isSo_2 _ _ _ (m_knownMany ?_)
    rw [x1]
    exact ⟨fun _ => H1 ok, fun z => absurd (Int32.le_refl _) z⟩
  · obtain ⟨y1, y2, y3⟩ := x2 i hi
    have NX : okK s o dy db pf ω τ i → AW (GM adK adV) l ad (d + 1) mX10_isSo 2 [(0, .ref (ad 0)), (1, .int (nI τ)), (2, .int (nI (i + 1)))] [] (pB h 1 β) (qi R) := by
      intro w
      refine ih (fun k hk => ?_)
      by_cases z : k = i
      · rw [z]; exact w
      · exact ok k (by omega)
    refine bX10_isSo_2 _ _ _ (m_knownMany ?_)
    rw [x1, nI_clamp (by omega), y1, y2, nI_1]
    refine ⟨fun z => absurd z (nI_ge hi (by omega)), fun _ => ⟨vp_in_nI (by omega) (by decide), fun z => NX (fun w => absurd w z), fun z => ⟨fun z2 => NX (fun _ w => absurd w z2), fun z2 => ?_⟩⟩⟩
    obtain ⟨y4, y5, y6, j, hj, y7⟩ := y3 z2
    rw [y4, y5, y7]
    refine ⟨fun z3 => ?_, fun z3 => NX (fun _ _ w => absurd w z3)⟩
    have ok_iff : okK s o dy db pf ω τ i ↔ (if ω 8 j = 2 then (1 : Int32) else 0) = pf i := by
      unfold okK
      rw [y7, ix_nI (by omega)]
      exact ⟨fun w => w z z2 z3, fun w _ _ _ => w⟩
    have K65 : ∀ x, (if ω 8 j = 2 then (1 : Int32) else 0) = x → AW (GM adK adV) l ad (d + 1) mX10_isSo 65 [(0, .ref (ad 0)), (1, .int (nI τ)), (2, .int (nI i))] [.int x] (pB h 1 β) (qi R) := by
      intro x ex
      refine bX10_isSo_65 _ _ _ _ ?_
      rw [nI_clamp (by omega), y6, nI_1]
      exact ⟨vp_in_nI (by omega) (by decide), fun w => NX (ok_iff.mpr (ex.trans w)), fun w => H0 i hi (fun w3 => w (ex.symm.trans (ok_iff.mp w3)))⟩
    rw [show (8 : Int32) + nI j = nI (8 * 1 + j) from nI_add 8 j, nI_clamp (by omega), pB_get (a30 (b := 1) (j := 8) (by omega) (by decide) (by decide)), row r hj 8 (by decide) (by decide)]
    exact ⟨vp_in_nI (by omega) (by decide), fun w => K65 0 (if_neg w), fun w => K65 1 (if_pos w)⟩
theorem c_dayS {R : aH → Prop} {J0 : Nat → Nat → Int64} {D' : Nat} (g : GQ hC hM sy m t n D0 D) (I : Inv m t D' ω) (H : ∀ J, R (pW (hJ (foll hC sy 78 0 0) J) 78 (dayW (wd hC sy) t D' n 0 0 ω))) : AW GC l ad (d + 5) mX0_oneDay 0 [(0, .ref (ad 344))] [] (pW (hJ (foll hC sy 78 0 0) J0) 78 ω) (qv R) := by
  have ew : wd (hJ (foll hC sy 78 0 0) J0) sy = wd hC sy := wd_foll (h := hC) (g_sy g)
  have S := g.1.2.2.2.1
  refine sp_oneDay (ct_J (ct_tr g) J0) (by rw [ew]; exact S) I.1 (fun J => ?_)
  rw [ew]
  exact H J
theorem i32_sub (x y : Int32) : x + (y - x) = y := by
  rw [Int32.sub_eq_add_neg, Int32.add_comm y, ← Int32.add_assoc, Int32.add_right_neg, Int32.zero_add]
theorem c_asSeen {R : Int32 → aH → Prop} {p i : Nat} (g : GQ hC hM sy m t n D0 D) (hq : q ≤ 24) (hp : p < m) (hD0 : D0 ≤ 8) (x : snC hC q D0 s o dy db pf) (H1 : (∀ τ, 1 ≤ τ → τ ≤ 40 → ∀ k, k < q → okK s o dy db pf (daysW (wd hC sy) t D0 n 0 0 τ (u2 (nz (stW (wd hC sy))) 1 p (10 * nI i))) τ k) → ∀ hC', kC hC hC' → snC hC' q D0 s o dy db pf → R 1 hC') (H0 : ∀ τ, 1 ≤ τ → τ ≤ 40 → ∀ k, k < q → ¬ okK s o dy db pf (daysW (wd hC sy) t D0 n 0 0 τ (u2 (nz (stW (wd hC sy))) 1 p (10 * nI i))) τ k → ∀ hC', kC hC hC' → snC hC' q D0 s o dy db pf → R 0 hC') : AW GC l ad (d + 6) mX9_isAsSeen 0 [(0, .ref (ad 0)), (1, .int (nI p)), (2, .int (10 * nI i))] [] hC (qi R) := by
  obtain ⟨e1, e2, e3, e4, e5, e6, hm, ht, hD⟩ := g_S g
  have hsy := g_sy g
  have S := g.1.2.2.2.1
  have IS : Inv m t D0 (stW (wd hC sy)) := g.1.2.2.2.2.2.2.2.2.2.2.2.1
  have I1 : Inv m t D0 (u2 (nz (stW (wd hC sy))) 1 p (10 * nI i)) := inv_u (inv_cp IS) (Or.inl rfl)
  have sC : ∀ J ω, snC (pW (hJ (foll hC sy 78 0 0) J) 78 ω) q D0 s o dy db pf := fun J ω => snC_ext (fun c k h1 h2 => by rw [pW_off (by omega)]; exact foll_o (h := hC) (by omega)) x
  refine bX9_isAsSeen_0 _ _ _ (mref e1 ⟨e2, sp_copyFrom isW_78 e2.2.2.2.2.2 (Or.inl (by omega)) (sp_purseOf isW_78 (by omega) (sp_earn isW_78 (by omega) (mref (b := sy) e1 ⟨e2, c_follow g isW_78 ?_⟩)))⟩)
  rw [foll_pW (by decide), i32_sub, wq_st (sy := sy)]
  refine cE isW_78 (ω' := u2 (nz (stW (wd hC sy))) 1 p (10 * nI i)) (fun j k hv => u2_eq (nz_E j k hv)) ?_
  generalize u2 (nz (stW (wd hC sy))) 1 p (10 * nI i) = ω1 at I1 H1 H0 ⊢
  refine up_ind (P := fun τ => ∀ J, (∀ τ', 1 ≤ τ' → τ' ≤ τ → ∀ k, k < q → okK s o dy db pf (daysW (wd hC sy) t D0 n 0 0 τ' ω1) τ' k) → AW GC l ad (d + 6) mX9_isAsSeen 51 [(0, .ref (ad 0)), (3, .int (nI (τ + 1)))] [] (pW (hJ (foll hC sy 78 0 0) J) 78 (daysW (wd hC sy) t D0 n 0 0 τ ω1)) (qi R)) 40 (fun J ok => ?_) (fun τ hτ ih J ok => ?_) (foll hC sy 78 0 0).2.1 (fun τ' h1 h2 => by omega)
  · exact bX9_isAsSeen_51 _ _ ⟨fun _ => H1 ok _ kC_trial (sC J _), fun z => absurd (by decide) z⟩
  · have In := inv_daysW (way := 0) (deaf := 0) S I1 (τ + 1)
    refine bX9_isAsSeen_51 _ _ ⟨fun z => absurd ((nI_ltI (a := 40) (b := τ + 1) (by decide) (by omega)).mp z) (by omega), fun _ => c_dayS g (inv_daysW S I1 τ) (fun J' => ?_)⟩
    refine c_agrees (D := D0) hq hD0 (by omega) In.1.2.2.2.1 (sC J' _) (fun ok2 => ⟨fun _ => ?_, fun z => absurd z (by decide)⟩) (fun k hk nk => ⟨fun z => absurd rfl z, fun _ => H0 (τ + 1) (by omega) (by omega) k hk nk _ kC_trial (sC J' _)⟩)
    rw [nI_1]
    refine ih J' (fun τ' h1 h2 k hk => ?_)
    by_cases z : τ' = τ + 1
    · rw [z]; exact ok2 k hk
    · exact ok τ' h1 (by omega) k hk
theorem m_fits {R : Int32 → aH → Prop} {p i L : Nat} (g : GQ hC hM sy m t n D0 D) (hq : q ≤ 24) (hp : p < m) (hD0 : D0 ≤ 8) (hL : L ≤ 40) (x : snM hM q D0 s o dy db pf) (H1 : (∀ τ, 1 ≤ τ → τ ≤ L → ∀ k, k < q → okK s o dy db pf (daysW (wd hC sy) t D0 n 0 0 τ (u2 (nz (stW (wd hC sy))) 1 p (10 * nI i))) τ k) → ∀ hM', kM hM hM' → snM hM' q D0 s o dy db pf → R 1 hM') (H0 : ∀ τ, 1 ≤ τ → τ ≤ L → ∀ k, k < q → ¬ okK s o dy db pf (daysW (wd hC sy) t D0 n 0 0 τ (u2 (nz (stW (wd hC sy))) 1 p (10 * nI i))) τ k → ∀ hM', kM hM hM' → snM hM' q D0 s o dy db pf → R 0 hM') : AW (GM adK adV) l ad (d + 7) mX10_fitsPurse 0 [(0, .ref (ad 0)), (1, .int (nI p)), (2, .int (10 * nI i)), (3, .int (nI L))] [] hM (qi R) := by
  obtain ⟨e1, e2, e3, e4, e5, e6, hm, ht, hD⟩ := g_S g
  have S := g.1.2.2.2.1
  have C := g.1.2.2.2.2.1
  have gr := g.1.2.2.2.2.2
  have IS : Inv m t D0 (stW (wd hC sy)) := g.1.2.2.2.2.2.2.2.2.2.2.2.1
  have I1 : Inv m t D0 (u2 (nz (stW (wd hC sy))) 1 p (10 * nI i)) := inv_u (inv_cp IS) (Or.inl rfl)
  have sM : ∀ J n' β, snM (pB (hS hM J n') 1 β) q D0 s o dy db pf := fun J n' β => snM_ext (fun c k h1 h2 => by rw [pB_off (a_off (by omega))]; exact hS_o (by omega)) (by rw [pB_off (a_off (by omega))]; exact hS_k (by decide)) (by rw [pB_off (a_off (by omega))]; exact hS_k (by decide)) x
  refine bX10_fitsPurse_0 _ _ _ _ (mH (b := 1) (m_starts (b := 1) (by decide) C gr hm ht hD0 (fun β' r' => ?_)))
  rw [show (6 : Int32) + nI p = nI (6 * 1 + p) from nI_add 6 p, nI_clamp (by omega), sI_pB (a27 (by omega))]
  refine ⟨vp_in_nI (by omega) (by decide), ?_⟩
  have r1 : RelW m t D0 (u2 (nz (stW (wd hC sy))) 1 p (10 * nI i)) (u2 β' 1 p (10 * nI i)) := rel_p (rel_cp IS r')
  have eh : pB hM 1 (u2 β' 1 p (10 * nI i)) = pB (hS hM hM.2.1 (hM.1 0 37)) 1 (u2 β' 1 p (10 * nI i)) := by rw [hS_self]
  rw [eh]
  generalize u2 (nz (stW (wd hC sy))) 1 p (10 * nI i) = ω1 at I1 H1 H0 r1 ⊢
  refine up_ind (P := fun τ => ∀ β J n', RelW m t D0 (daysW (wd hC sy) t D0 n 0 0 τ ω1) β → (∀ τ', 1 ≤ τ' → τ' ≤ τ → ∀ k, k < q → okK s o dy db pf (daysW (wd hC sy) t D0 n 0 0 τ' ω1) τ' k) → AW (GM adK adV) l ad (d + 7) mX10_fitsPurse 18 [(0, .ref (ad 0)), (3, .int (nI L)), (4, .int (nI (τ + 1)))] [] (pB (hS hM J n') 1 β) (qi R)) L (fun β J n' r ok => ?_) (fun τ hτ ih β J n' r ok => ?_) _ _ _ r1 (fun τ' h1 h2 => by omega)
  · exact bX10_fitsPurse_18 _ _ _ ⟨fun _ => H1 ok _ kM_pB1 (sM J n' _), fun z => absurd (nI_lt (by omega) (by omega)) z⟩
  · refine bX10_fitsPurse_18 _ _ _ ⟨fun z => absurd ((nI_ltI (by omega) (by omega)).mp z) (by omega), fun _ => m_passes (b := 1) C S (mt_0 g.2.2.2.2.2.2.2.2.1) (by decide) (inv_daysW S I1 τ) r (fun β2 J' n2 r2 => ?_)⟩
    refine m_isSo (D := D0) (m := m) (t := t) (ω := daysW (wd hC sy) t D0 n 0 0 (τ + 1) ω1) hq hD0 r2 (sM J' n2 _) (fun ok2 => ⟨fun _ => ?_, fun z => absurd z (by decide)⟩) (fun k hk nk => ⟨fun z => absurd rfl z, fun _ => H0 (τ + 1) (by omega) (by omega) k hk nk _ kM_pB1 (sM J' n2 _)⟩)
    rw [nI_1]
    refine ih β2 J' n2 r2 (fun τ' h1 h2 k hk => ?_)
    by_cases z : τ' = τ + 1
    · rw [z]; exact ok2 k hk
    · exact ok τ' h1 (by omega) k hk
theorem lsD_ok (hy : ∀ k, k < q → o k = -1 → ∃ a, 1 ≤ a ∧ a ≤ 40 ∧ dy k = nI a) : ∀ i, i ≤ q → ∃ L, L ≤ 40 ∧ itR (lsD s o dy) i 0 = nI L ∧ ∀ k, k < i → s k = 0 → o k = -1 → ∃ a, a ≤ L ∧ dy k = nI a
  | 0, _ => ⟨0, by omega, rfl, fun k hk => absurd hk (Nat.not_lt_zero _)⟩
  | i + 1, hi => by
    obtain ⟨L, h1, h2, h3⟩ := lsD_ok hy i (by omega)
    have es : itR (lsD s o dy) (i + 1) 0 = lsD s o dy i (itR (lsD s o dy) i 0) := rfl
    rw [es, h2]
    unfold lsD
    have keep : (∀ a, s i = 0 → o i = -1 → dy i = nI a → a ≤ L ∨ True) := fun _ _ _ _ => Or.inr trivial
    by_cases z1 : s i = 0
    · rw [if_pos z1]
      by_cases z2 : o i = -1
      · rw [if_pos z2]
        obtain ⟨a, a1, a2, a3⟩ := hy i (by omega) z2
        rw [a3]
        by_cases z3 : nI L < nI a
        · rw [if_pos z3]
          have := (nI_ltI (by omega) (by omega)).mp z3
          refine ⟨a, a2, rfl, fun k hk w1 w2 => ?_⟩
          by_cases w : k = i
          · rw [w]; exact ⟨a, Nat.le_refl _, a3⟩
          · obtain ⟨a', b1, b2⟩ := h3 k (by omega) w1 w2
            exact ⟨a', by omega, b2⟩
        · rw [if_neg z3]
          have : ¬ L < a := fun w => z3 (nI_lt w (by omega))
          refine ⟨L, h1, rfl, fun k hk w1 w2 => ?_⟩
          by_cases w : k = i
          · rw [w]; exact ⟨a, by omega, a3⟩
          · exact h3 k (by omega) w1 w2
      · rw [if_neg z2]
        refine ⟨L, h1, rfl, fun k hk w1 w2 => ?_⟩
        by_cases w : k = i
        · rw [w] at w2; exact absurd w2 z2
        · exact h3 k (by omega) w1 w2
    · rw [if_neg z1]
      refine ⟨L, h1, rfl, fun k hk w1 w2 => ?_⟩
      by_cases w : k = i
      · rw [w] at w1; exact absurd w1 z1
      · exact h3 k (by omega) w1 w2
def hdS (fit : Nat → Bool) (n : Nat) : Int32 := itR (fun i x => if fit i then x ||| ((1 : Int32) <<< (nI i &&& 31)) else x) n 0
theorem j_had {x1 : Int32} (g : GR hC hM) : AW GC l ad (d + 7) mX9_had 0 [(0, .ref (ad 0)), (1, .int x1)] [] hC (qi (jq l' ad' (d' + 8) adK adV mX10_had [(0, .ref (ad' 0)), (1, .int x1)] hM)) := by
  obtain ⟨sy, m, t, n, D0, D, g⟩ := g
  have g2 := g_thr g
  have G : GR hC (sI hM 0 0 0) := ⟨_, _, _, _, _, _, g2⟩
  obtain ⟨e1, e2, e3, e4, e5, e6, hm, ht, hD⟩ := g_S g2
  have hsy := g2.1.1
  have hD0 : D0 ≤ 8 := g2.1.2.2.2.2.2.2.2.2.2.2.2.1.1.2.2.1
  refine bX9_had_0 _ _ (c_isMan g ?_)
  cases hx : isIn x1 m
  · refine ⟨fun z => absurd rfl z, fun _ => bX10_had_0 _ _ (m_isMan g2 ?_)⟩
    rw [hx]; exact ⟨fun z => absurd rfl z, fun _ => ⟨rfl, G⟩⟩
  obtain ⟨p, hp, rfl⟩ := isIn_of (by omega) hx
  have gE2 := g2.2.2.2.2.1
  have hby := gE_by gE2
  obtain ⟨c, hc, c1, c2, c3, c4, c5⟩ := gE2
  obtain ⟨q, hq, rq⟩ : ∃ q, q ≤ c ∧ (if (sI hM 0 0 0).1 0 63 = -1 then (sI hM 0 0 0).1 0 62 else (sI hM 0 0 0).1 0 63) = nI q := by
    rcases c4 with w | ⟨q, h1, h2⟩
    · exact ⟨c, Nat.le_refl _, by rw [if_pos w]; exact c2⟩
    · refine ⟨q, h1, ?_⟩
      rw [h2, if_neg (fun w => absurd (by rw [w]; decide) (nI_pos (n := q) (by omega)))]
  have rqC := hby.symm.trans rq
  generalize hs : skS ((sI hM 0 0 0).1 44) q (fun _ => 0) = s
  have hy : ∀ k, k < q → (sI hM 0 0 0).1 44 k = -1 → ∃ a, 1 ≤ a ∧ a ≤ 40 ∧ (sI hM 0 0 0).1 41 k = nI a := by
    intro k hk w
    rcases (c5 k (by omega)).2 with ⟨-, -, -, -, y, -⟩ | ⟨a, h1, h2⟩
    · exact y
    · rw [w] at h2; exact absurd (by rw [← h2]; decide) (nI_pos (n := a) (by omega))
  obtain ⟨L, hL, eL, aL⟩ := lsD_ok (s := s) hy q (Nat.le_refl _)
  obtain ⟨fit, hfit⟩ : ∃ fit : Nat → Bool, ∀ i, fit i = true ↔ ∀ τ, 1 ≤ τ → τ ≤ 40 → ∀ k, k < q → okK s ((sI hM 0 0 0).1 44) ((sI hM 0 0 0).1 41) ((sI hM 0 0 0).1 42) ((sI hM 0 0 0).1 43) (daysW (wd hC sy) t D0 n 0 0 τ (u2 (nz (stW (wd hC sy))) 1 p (10 * nI i))) τ k :=
    ⟨fun i => @decide _ (Classical.propDecidable (∀ τ, 1 ≤ τ → τ ≤ 40 → ∀ k, k < q → okK s ((sI hM 0 0 0).1 44) ((sI hM 0 0 0).1 41) ((sI hM 0 0 0).1 42) ((sI hM 0 0 0).1 43) (daysW (wd hC sy) t D0 n 0 0 τ (u2 (nz (stW (wd hC sy))) 1 p (10 * nI i))) τ k)), fun i => @decide_eq_true_iff _ (Classical.propDecidable _)⟩
  refine ⟨fun _ => c_strike (o := (sI hM 0 0 0).1 44) (by omega) rqC (fun k hk => ⟨(c5 k (by omega)).1, ?_⟩) (fun hC1 a1 a2 a3 => ?_), fun z => absurd z (by decide)⟩
  · rcases (c5 k (by omega)).2 with ⟨y, -⟩ | y
    · exact Or.inl y
    · exact Or.inr y
  have kc1 : kC hC hC1 := ⟨fun c k hc => a1 c k (by omega), fun c k _ => by rw [a2]⟩
  rw [hs] at a3
  have xC : snC hC1 q D0 s ((sI hM 0 0 0).1 44) ((sI hM 0 0 0).1 41) ((sI hM 0 0 0).1 42) ((sI hM 0 0 0).1 43) := by
    refine ⟨by rw [a1 346 6 (by decide), a1 346 5 (by decide)]; exact rqC, fun k hk => ⟨a3 k hk, (a1 350 k (by decide)).trans (c5 k (by omega)).1, fun w => ?_⟩⟩
    rw [a1 347 k (by decide), a1 348 k (by decide), a1 349 k (by decide)]
    rcases (c5 k (by omega)).2 with ⟨-, y1, y2, y3, -, y5, -⟩ | ⟨a, h1, h2⟩
    · exact ⟨y1, y2, y3, y5⟩
    · rw [w] at h2; exact absurd (by rw [← h2]; decide) (nI_pos (n := a) (by omega))
  -- the class's ten
  have CC : ∀ R : Int32 → aH → Prop, (∀ hC', kC hC hC' → R (hdS fit 10) hC') → AW GC l ad (d + 7) mX9_had 21 [(0, .ref (ad 0)), (1, .int (nI p)), (2, .int (0 : Int32)), (3, .int (0 : Int32))] [] hC1 (qi R) := by
    intro R H
    refine up_ind (P := fun i => ∀ hC', kC hC hC' → snC hC' q D0 s ((sI hM 0 0 0).1 44) ((sI hM 0 0 0).1 41) ((sI hM 0 0 0).1 42) ((sI hM 0 0 0).1 43) → AW GC l ad (d + 7) mX9_had 21 [(0, .ref (ad 0)), (1, .int (nI p)), (2, .int (hdS fit i)), (3, .int (nI i))] [] hC' (qi R)) 10 (fun hC' kc xc => ?_) (fun i hi ih hC' kc xc => ?_) hC1 kc1 xC
    · exact bX9_had_21 _ _ _ _ ⟨fun _ => H _ kc, fun z => absurd (Int32.le_refl _) z⟩
    · have g' := gq_frame kc kM_rfl g2
      have ew := wd_kC kc hsy
      have es : hdS fit (i + 1) = if fit i then hdS fit i ||| ((1 : Int32) <<< (nI i &&& 31)) else hdS fit i := rfl
      rw [es] at ih
      refine bX9_had_21 _ _ _ _ ⟨fun z => absurd z (nI_ge (b := 10) hi (by decide)), fun _ => ?_⟩
      rw [nI_1]
      refine c_asSeen g' (by omega) hp hD0 xc (fun ok hC'' kc2 xc2 => ⟨fun z => absurd z (by decide), fun _ => ?_⟩) (fun τ h1 h2 k hk nk hC'' kc2 xc2 => ⟨fun _ => ?_, fun z => absurd rfl z⟩)
      · rw [ew] at ok
        have := ih _ (kC_tr kc kc2) xc2
        rw [(hfit i).mpr ok, if_pos rfl] at this
        exact this
      · rw [ew] at nk
        have := ih _ (kC_tr kc kc2) xc2
        have fF : fit i = false := Bool.eq_false_iff.mpr (fun w => nk ((hfit i).mp w τ h1 h2 k hk))
        rw [fF] at this
        exact this
  refine CC _ (fun hC' kc => ?_)
  refine bX10_had_0 _ _ (m_isMan g2 ?_)
  rw [hx]
  refine ⟨fun _ => m_strike (o := (sI hM 0 0 0).1 44) (dy := (sI hM 0 0 0).1 41) (by omega) rq (fun k hk => ⟨rfl, ?_⟩) (fun hM1 b1 b3 => ?_), fun z => absurd z (by decide)⟩
  · rcases (c5 k (by omega)).2 with ⟨y, -⟩ | y
    · exact Or.inl ⟨y, rfl⟩
    · exact Or.inr y
  rw [hs] at b3
  rw [hs, eL]
  have km1 : kM (sI hM 0 0 0) hM1 := fun c k _ h2 _ => b1 c k (by omega)
  have xM : snM hM1 q D0 s ((sI hM 0 0 0).1 44) ((sI hM 0 0 0).1 41) ((sI hM 0 0 0).1 42) ((sI hM 0 0 0).1 43) := by
    refine ⟨by rw [b1 0 63 (by decide), b1 0 62 (by decide)]; exact rq, fun k hk => ⟨b3 k hk, b1 44 k (by decide), fun w => ⟨b1 41 k (by decide), b1 42 k (by decide), b1 43 k (by decide), ?_⟩⟩⟩
    rcases (c5 k (by omega)).2 with ⟨-, -, -, -, -, y5, -⟩ | ⟨a, h1, h2⟩
    · exact y5
    · rw [w] at h2; exact absurd (by rw [← h2]; decide) (nI_pos (n := a) (by omega))
  refine up_ind (P := fun i => ∀ hM', kM (sI hM 0 0 0) hM' → snM hM' q D0 s ((sI hM 0 0 0).1 44) ((sI hM 0 0 0).1 41) ((sI hM 0 0 0).1 42) ((sI hM 0 0 0).1 43) → AW (GM adK adV) l' ad' (d' + 8) mX10_had 139 [(0, .ref (ad' 0)), (1, .int (nI p)), (2, .int (nI L)), (3, .int (hdS fit i)), (4, .int (nI i))] [] hM' (qi fun z' hM' => z' = hdS fit 10 ∧ GR hC' hM')) 10 (fun hM' km xm => ?_) (fun i hi ih hM' km xm => ?_) hM1 km1 xM
  · exact bX10_had_139 _ _ _ _ _ ⟨fun _ => ⟨rfl, _, _, _, _, _, _, gq_frame kc km g2⟩, fun z => absurd (Int32.le_refl _) z⟩
  · have g' := gq_frame kC_rfl km g2
    have es : hdS fit (i + 1) = if fit i then hdS fit i ||| ((1 : Int32) <<< (nI i &&& 31)) else hdS fit i := rfl
    rw [es] at ih
    refine bX10_had_139 _ _ _ _ _ ⟨fun z => absurd z (nI_ge (b := 10) hi (by decide)), fun _ => ?_⟩
    rw [nI_1]
    refine m_fits g' (by omega) hp hD0 hL xm (fun ok hM'' km2 xm2 t3 e3 => ?_) (fun τ h1 h2 k hk nk hM'' km2 xm2 t3 e3 => ?_)
    · have := ih _ (kM_tr km km2) xm2
      have ok40 : fit i = true := by
        refine (hfit i).mpr (fun τ h1 h2 k hk => ?_)
        by_cases w : τ ≤ L
        · exact ok τ h1 w k hk
        · intro w1 w2 w3
          obtain ⟨a, a1, a2⟩ := aL k hk w1 w2
          rw [w3] at a2
          have := (nI_eq (by omega) (by omega)).mp a2
          omega
      rw [ok40, if_pos rfl] at this
      rw [e3, if_neg (by decide)]
      exact this
    · have := ih _ (kM_tr km km2) xm2
      have fF : fit i = false := Bool.eq_false_iff.mpr (fun w => nk ((hfit i).mp w τ h1 (by omega) k hk))
      rw [fF] at this
      rw [e3, if_pos rfl, Int32.or_zero]
      exact this
end HD
