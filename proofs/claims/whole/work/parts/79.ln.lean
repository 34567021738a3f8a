/-! ===== lines: a law; a line whichever ===== -/
section LN6
variable {l l' : Launch} {ad ad' adK adV : Nat → Nat} {τ : tX} {i y m t n D K : Nat} {hC hM h hC1 hM1 : aH} {T : Int32}
/-- behind a fault a level reads nothing -/
theorem c_lvB {lw : Nat} (A : lwA y lw) (hb : ¬ h.1 2 3 = 0) : ∀ r L d o (Q : aH → Prop), L + r = 6 → Q h → AW GC l ad (d + r + 3) mX3_readLevel 0 [(0, .ref (ad 2)), (1, .int (nI L)), (2, .int (nI o)), (3, .ref (ad lw))] [] h (qv Q) := by
  have HL := lwA_L A
  intro r
  induction r with
  | zero =>
    intro L d o Q hL q
    have e : L = 6 := by omega
    subst e
    exact bX3_readLevel_0 lw HL _ _ _ ⟨fun z => absurd z (by decide), fun _ => bX3_readPart_0 lw HL _ _ ⟨fun z => absurd z hb, fun _ => q⟩⟩
  | succ r ih =>
    intro L d o Q hL q
    rw [show d + (r + 1) + 3 = d + r + 3 + 1 by omega]
    have f112 : AW GC l ad (d + r + 3 + 1) mX3_readLevel 112 [(3, .ref (ad lw)), (4, .int (0 : Int32)), (6, .int (0 : Int32))] [] h (qv Q) := bX3_readLevel_112 lw HL _ _ _ ⟨fun _ => q, fun z => absurd (Int32.le_refl _) z⟩
    have f53 : ∀ {x5 : Int32}, AW GC l ad (d + r + 3 + 1) mX3_readLevel 53 [(0, .ref (ad 2)), (1, .int (nI L)), (2, .int (nI o)), (3, .ref (ad lw)), (4, .int (0 : Int32)), (5, .int x5), (6, .int (0 : Int32))] [] h (qv Q) := fun {x5} => bX3_readLevel_53 lw HL _ _ _ _ _ _ ⟨fun _ => f112, fun _ => ⟨fun _ => f112, fun z => absurd z hb⟩⟩
    have f26 : AW GC l ad (d + r + 3 + 1) mX3_readLevel 26 [(0, .ref (ad 2)), (1, .int (nI L)), (2, .int (nI o)), (3, .ref (ad lw))] [.int (0 : Int32)] h (qv Q) := by
      refine bX3_readLevel_26 lw HL _ _ _ _ ?_
      rw [nI_1]
      exact ih (L + 1) d o _ (by omega) ⟨fun _ => f53, fun _ => f53⟩
    exact bX3_readLevel_0 lw HL _ _ _ ⟨fun _ => ⟨fun _ => f26, fun _ => bX3_takeNots_0 _ (bX3_takeNots_2 _ _ ⟨fun _ => f26, fun _ => ⟨fun _ => f26, fun z => absurd z hb⟩⟩)⟩, fun z => absurd (nI_lt (b := 6) (by omega) (by decide)) z⟩
theorem lM_fM {f : Nat} {h' : aH} (g : lM f h h') : fM h h' := ⟨g.1, fun a j q r => g.2 a j (fun e c => by have := q e; unfold mF at this; omega) (fun e c => by
  have := r (by omega) (by omega)
  rw [e] at this
  have h2 : hf 2 = 7 := by decide
  omega) (fun e => by
  have := r (by omega) (by omega)
  have h2 : hf a = 64 := by rcases e with rfl | rfl <;> decide
  omega)⟩
theorem lC_fC {lw : Nat} {h' : aH} (A : lwA y lw) (g : lC y lw h h') : fC y h h' := by
  unfold lwA at A
  exact ⟨g.1, fun a j q r => g.2 a j q (by omega) (by omega) (by omega)⟩
theorem ln_law (Y : y = 8 ∨ y = 37) (ey : hC.2.2 2 1 = y) (R : RD τ i hC hM) (Z : SR y hC hM m t n D K) (hk : hC.1 4 i = nI 7) : LNR l ad l' ad' adK adV τ y i mX3_readLaw hC hM := by
  have HS := yS Y
  have h2y : 2 < y ∨ y + 29 ≤ 2 := by omega
  obtain ⟨s0, v0⟩ := rd_w (w := 7) (by decide) R hk
  have g0 := rd_m0 R
  obtain ⟨ZQ, z34, z18, z33⟩ := Z
  have R0 : RD τ i hC (sI hM 0 22 (hM.1 0 22 ||| ((1 : Int32) <<< (nI 7 &&& 31)))) := rd_m R (by omega)
  obtain ⟨hM1, a1, a2, a3, a4⟩ := j_adv (adK := adK) (adV := adV) R0 (by rw [hk]; decide)
  have e22 : ∀ j, j ≠ 22 → ¬ (25 ≤ j ∧ j ≤ 28) → hM1.1 0 j = hM.1 0 j := fun j h1 h2 => (a2.2 0 j (by omega)).trans (sI_k h1)
  have eT1 : hM1.1 0 22 = hM.1 0 22 ||| ((1 : Int32) <<< (nI 7 &&& 31)) := (a2.2 0 22 (by decide)).trans sI_s
  have eS1 : sH hM1 = sH hM := (sHf a2).trans (sHo (by omega))
  have eW1 : wd (sI hC 2 2 (nI (i + 1))) y = wd hC y := wdo h2y
  have ey1 : (sI hC 2 2 (nI (i + 1))).2.2 2 1 = y := ey
  have fC1 : fC y hC (sI hC 2 2 (nI (i + 1))) := fC_s fC_rfl (by omega)
  have fM1 : fM hM hM1 := fM_tr (fM_s fM_rfl (Or.inl ⟨rfl, Or.inl rfl⟩)) (fM_fr a2)
  have mgo : ∀ {l : Launch} {ad : Nat → Nat} {d : Nat} {Q : aH → Prop}, AW (GM adK adV) l ad (d + 149) mX10_lawLine 0 [(0, .ref (ad 0))] [] hM1 (qv fun h50 => AW (GM adK adV) l ad (d + 150) mX10_line 348 [(0, .ref (ad 0))] [] h50 (qv Q)) → AW (GM adK adV) l ad (d + 150) mX10_line 0 [(0, .ref (ad 0))] [] hM (qv Q) := fun H => ml_go (w := 7) (by decide) s0 v0 (nfl (by decide)) (fun z => absurd z (by decide)) (bX10_line_71 _ _ ⟨fun _ => a4 ⟨fun z => absurd z (by decide), fun z => absurd z (by decide), fun z => absurd z (by decide), fun z => absurd z (by decide), fun z => absurd z (by decide), fun z => absurd z (by decide), fun z => absurd z (by decide), fun _ _ _ _ _ _ _ => H⟩, fun z => absurd g0 z⟩)
  generalize hq : sI hC 2 2 (nI (i + 1)) = hCa at a1 a3 eW1 ey1 fC1
  have bits : ∀ b, b < 32 → b ≠ 7 → bt (hM1.1 0 22) b = bt (hM.1 0 22) b := fun b hb h7 => by
    rw [eT1, bt_or, bt_one (by decide) hb, decide_eq_false h7, Bool.or_false]
  by_cases w : ∃ k, k < 3 ∧ hCa.1 4 (i + 1) = nI (8 + k)
  · obtain ⟨k, hk3, kk⟩ := w
    have A : lwA y (y + (8 + 3 * k)) := ⟨Y, by omega⟩
    have HL := lwA_L A
    obtain ⟨s1, v1⟩ := rd_w (w := 8 + k) (by omega) a1 kk
    obtain ⟨f0, q0, l1, l2, l3, l4, l5, l6⟩ := ZQ.2.2.2.2.2.1 k hk3
    have l4' : hCa.1 (y + (8 + 3 * k)) 2 = nI q0 := by
      rw [← wd_at (h := hCa) (w := y) (show 8 + 3 * k < 29 by omega), eW1]
      exact l4
    have K64 : K ≤ 64 := ZQ.2.2.2.2.2.2.2.2.1
    have q64 : q0 ≤ 64 := by omega
    have QB := ZQ.2.2.2.2.2.2.1.2.2 k hk3
    rw [l4, ← bits (16 + k) (by omega) (by omega)] at QB
    have vk : hM1.1 0 28 - 8 = nI k := by
      rw [v1]
      exact (nI_sub' (a := 8 + k) (b := 8) (by omega)).trans (by rw [Nat.add_sub_cancel_left])
    have v8 : ¬ hM1.1 0 28 < 8 := by rw [v1]; exact nI_nlt (b := 8) (by omega) (by omega)
    have v10 : hM1.1 0 28 ≤ 10 := by rw [v1]; exact nI_le (b := 10) (by omega) (by decide)
    have i16 : (16 : Int32) + nI k = nI (16 + k) := nI_add 16 k
    have cpre : ∀ {l : Launch} {ad : Nat → Nat} {d : Nat} {Q : aH → Prop}, AW GC l ad (d + 80) mX3_readLaw 66 [(0, .ref (ad 2)), (1, .ref (ad (y + (8 + 3 * k))))] [] hCa (qv Q) → AW GC l ad (d + 80) mX3_readLaw 0 [(0, .ref (ad 2))] [] hC (qv Q) := by
      intro l ad d Q H
      refine bX3_readLaw_0 _ (a3 (mref ey1 ⟨HS, c_kind a1.1 ?_⟩))
      have h3 : k = 0 ∨ k = 1 ∨ k = 2 := by omega
      rcases h3 with rfl | rfl | rfl
      · exact ⟨fun _ => c_kind a1.1 ⟨fun _ => c_kind a1.1 ⟨fun _ => H, fun z => absurd kk z⟩, fun z => absurd (kk.symm.trans z) (by decide)⟩, fun z => absurd (kk.symm.trans z) (by decide)⟩
      · exact ⟨fun z => absurd kk z, fun _ => mref ey1 ⟨HS, H⟩⟩
      · exact ⟨fun _ => c_kind a1.1 ⟨fun z => absurd kk z, fun _ => mref ey1 ⟨HS, H⟩⟩, fun z => absurd (kk.symm.trans z) (by decide)⟩
    by_cases tl : bt (hM1.1 0 22) (16 + k) = true
    · obtain ⟨hC4, t1, t2⟩ := c_stepX (rfC hCa (i + 1) 3)
      have B3 := j_ref (x := 3) a1 (by decide)
      have B4 := stX_bd t1 B3
      refine ⟨hC4, rfM hM1 3, fC_tr fC1 (fC_tr rfC_f (stX_fC t1)), fM_tr fM1 rfM_f, @fun d Q q => ?_, fun q1 q2 => ?_, Or.inr B4⟩
      · refine cpre (bX3_readLaw_66 _ HL _ ⟨fun z => ?_, fun _ => c_ref a1 (bX3_readLaw_78 _ HL _ (t2 (c_lvB A B4.1 6 0 (d + 70) 0 _ rfl q)))⟩)
        exfalso
        rw [l4'] at z
        have := (nI_leI (b := 0) (by omega) (by decide)).mp z
        have e0 : q0 = 0 := by omega
        subst e0
        exact absurd rfl (QB.mp tl)
      · refine mgo (bX10_lawLine_0 _ ⟨fun z => absurd s1 z, fun _ => ⟨fun z => absurd z v8, fun _ => ⟨fun _ => bX10_lawLine_30 _ ⟨fun z => absurd (rd_m0 a1) z, fun _ => ⟨fun z => ?_, fun _ => m_wrg (rd_m0 a1) (bX10_lawLine_65 _ _ ⟨fun z => absurd z (bd_m B3), fun _ => k348 q1 q2⟩)⟩⟩, fun z => absurd v10 z⟩⟩⟩)
        rw [vk, i16, bt_shr _ (by omega), tl] at z
        exact absurd rfl z
    · have eq0 : q0 = 0 := by
        have h0 : nI q0 = 0 := Decidable.byContradiction (fun c => tl (QB.mpr c))
        exact (nI_eq (b := 0) (by omega) (by decide)).mp h0
      subst eq0
      have R2 : RD τ (i + 1) hCa (sI hM1 0 22 (hM1.1 0 22 ||| ((1 : Int32) <<< (nI (16 + k) &&& 31)))) := rd_m a1 (by omega)
      obtain ⟨hM2, b1, b2, b3, b4⟩ := j_adv (adK := adK) (adV := adV) R2 (by
        rw [kk]
        have : ∀ k, k < 3 → ¬ nI (8 + k) = 36 := by decide +kernel
        exact this k hk3)
      have eS2 : sH hM2 = sH hM := (sHf b2).trans ((sHo (by omega)).trans eS1)
      have e13 : hM2.1 2 13 = nI K := (congrFun (congrFun eS2 2) 6).trans ZQ.2.2.2.2.2.2.2.2.2
      have e0j : ∀ j, j ≠ 22 → ¬ (25 ≤ j ∧ j ≤ 28) → hM2.1 0 j = hM.1 0 j := fun j h1 h2 => (b2.2 0 j (by omega)).trans ((sI_k h1).trans (e22 j h1 h2))
      have eT2 : hM2.1 0 22 = hM1.1 0 22 ||| ((1 : Int32) <<< (nI (16 + k) &&& 31)) := (b2.2 0 22 (by decide)).trans sI_s
      have eWa : ∀ j c, j < 29 → (sI hCa 2 2 (nI (i + 1 + 1))).1 (y + j) c = wd hC y j c := fun j c hj => by
        rw [sI_c (by omega), ← wd_at (h := hCa) (w := y) hj, eW1]
      have L0 : LI y (y + (8 + 3 * k)) K 0 K 0 0 0 (sI hCa 2 2 (nI (i + 1 + 1))) (sI hM2 17 (3 + k) (nI K)) := by
        refine ⟨(eWa (8 + 3 * k) 2 (by omega)).trans l4, (sI_c (by decide)).trans e13, fun i hi => absurd hi (Nat.not_lt_zero _), rfl, fun i hi => absurd hi (Nat.not_lt_zero _), by omega, K64, (eWa 0 17 (by decide)).trans ZQ.2.2.2.2.2.2.2.1, (sI_c (by decide)).trans ((e0j 34 (by decide) (by decide)).trans z34), (sI_c (by decide)).trans ((e0j 33 (by decide) (by decide)).trans z33)⟩
      have G0 : GL (τ.1, τ.2.1, τ.2.2.1, τ.2.2.2.1, τ.2.2.2.2.1, i + 1) y (y + (8 + 3 * k)) K K 0 0 0 (sI hCa 2 2 (nI (i + 1 + 1))) (sI hM2 17 (3 + k) (nI K)) := Or.inl ⟨i + 1 + 1, 0, K, ⟨Nat.le_refl _, Nat.le_succ _⟩, (rd_m b1 (by omega) : RD τ (i + 1 + 1) _ _), L0⟩
      have eyb : (sI hCa 2 2 (nI (i + 1 + 1))).2.2 2 1 = y := ey1
      obtain ⟨hC3, hM3, c3, m3, r1, r2, G3⟩ := ex_all (l := l) (ad := ad) (l' := l') (ad' := ad') (adK := adK) (adV := adV) A 8 0 rfl K 0 0 _ _ eyb G0
      have i3 : (3 : Int32) + nI k = nI (3 + k) := nI_add 3 k
      have c3k : (nI (3 + k)).toNatClampNeg = 3 + k := nI_clamp (by omega)
      have fC3 : fC y hC hC3 := fC_tr fC1 (fC_tr (fC_s fC_rfl (by omega)) (lC_fC A c3))
      have f17 : 2 ≤ 17 ∧ 17 ≤ 20 ∧ hf 17 ≤ 3 + k := ⟨by decide, by decide, show 3 ≤ 3 + k by omega⟩
      have f18 : 2 ≤ 18 ∧ 18 ≤ 20 ∧ hf 18 ≤ 3 + k := ⟨by decide, by decide, show 3 ≤ 3 + k by omega⟩
      have fM4 : fM hM (sI hM3 18 (3 + k) (hM3.1 2 13)) := fM_s (fM_tr fM1 (fM_tr (fM_s fM_rfl (Or.inl ⟨rfl, Or.inl rfl⟩)) (fM_tr (fM_fr b2) (fM_tr (fM_s fM_rfl (Or.inr f17)) (lM_fM m3))))) (Or.inr f18)
      have crun : ∀ {d : Nat} {Q : aH → Prop}, Q hC3 → AW GC l ad (d + 80) mX3_readLaw 0 [(0, .ref (ad 2))] [] hC (qv Q) := by
        intro d Q q
        refine cpre (bX3_readLaw_66 _ HL _ ⟨fun _ => bX3_readLaw_78 _ HL _ (b3 (r1 _ (by omega) _ q)), fun z => ?_⟩)
        rw [l4'] at z
        exact absurd (Int32.le_refl _) z
      have mrun : ∀ {d : Nat} {Q : aH → Prop}, AW (GM adK adV) l' ad' (d + 150) mX10_line 348 [(0, .ref (ad' 0))] [] (sI hM3 18 (3 + k) (hM3.1 2 13)) (qv Q) → AW (GM adK adV) l' ad' (d + 150) mX10_line 0 [(0, .ref (ad' 0))] [] hM (qv Q) := by
        intro d Q H
        refine mgo (bX10_lawLine_0 _ ⟨fun z => absurd s1 z, fun _ => ⟨fun z => absurd z v8, fun _ => ⟨fun _ => bX10_lawLine_30 _ ⟨fun z => absurd (rd_m0 a1) z, fun _ => ⟨fun _ => bX10_lawLine_65 _ _ ⟨fun _ => ?_, fun z => absurd (rd_m0 a1) z⟩, fun z => ?_⟩⟩, fun z => absurd v10 z⟩⟩⟩)
        · rw [vk, i16]
          refine b4 (m_frs (k := 6) rfl (by decide) ?_)
          rw [i3, c3k, show hM2.1 2 (7 + 6) = nI K from e13]
          exact ⟨vp_in_nI (by omega) (by decide), r2 _ (by omega) _ (m_frs (k := 6) rfl (by decide) H)⟩
        · rw [vk, i16, bt_shr _ (by omega)] at z
          rw [if_neg tl] at z
          exact absurd z (by decide)
      rcases G3 with ⟨i', q', K', ⟨hK', hi'⟩, R3, L3⟩ | B
      · have R3 : RD τ i' hC3 hM3 := R3
        have hi' : i + 1 ≤ i' := hi'
        obtain ⟨x1, x2, x3, x4, x5, x6, x7, x8, x9, x10⟩ := L3
        have eM : ∀ j, j ≠ 22 → ¬ (25 ≤ j ∧ j ≤ 30) → j ≠ 33 → j ≠ 34 → (sI hM3 18 (3 + k) (hM3.1 2 13)).1 0 j = hM.1 0 j := fun j h1 h2 h3 h4 => (sI_c (by decide)).trans ((m3.2 0 j (by omega) (by omega) (by omega)).trans ((sI_c (by decide)).trans (e0j j h1 (by omega))))
        have eT : (sI hM3 18 (3 + k) (hM3.1 2 13)).1 0 22 = hM1.1 0 22 ||| ((1 : Int32) <<< (nI (16 + k) &&& 31)) := (sI_c (by decide)).trans ((m3.2 0 22 (by decide) (by decide) (by omega)).trans ((sI_c (by decide)).trans eT2))
        have wf : wd hC3 y (9 + 3 * k) = hC3.1 (y + (8 + 3 * k) + 1) := by
          funext c
          rw [wd_at (by omega), show y + (9 + 3 * k) = y + (8 + 3 * k) + 1 by omega]
        have eS : ∀ a c, ¬ (a = 17 ∧ c = k) → ¬ (a = 18 ∧ c = k) → ¬ ((a = 19 ∨ a = 20) ∧ K ≤ c) → ¬ (a = 2 ∧ c = 6) → sH (sI hM3 18 (3 + k) (hM3.1 2 13)) a c = sH hM a c := fun a c h1 h2 h3 h4 => by
          refine (sHs (a0 := 18) (k0 := k) h2).trans ?_
          rw [← eS2]
          refine Eq.trans ?_ (sHs (h := hM2) (v := nI K) (a0 := 17) (k0 := k) h1)
          unfold sH
          by_cases w : 2 ≤ a ∧ a ≤ 20
          · rw [if_pos w, if_pos w]
            refine m3.2 _ _ (by omega) (fun e c => ?_) (fun e => ?_)
            · have h7 : hf a = 7 := by rw [e]; decide
              omega
            · have h7 : hf a = 64 := by rcases e with rfl | rfl <;> decide
              omega
          · rw [if_neg w, if_neg w]
        refine ⟨hC3, _, fC3, fM4, crun, fun q1 q2 => mrun (k348 q1 q2), Or.inl ⟨i', m, t, n, D, K', ?_, rd_m R3 (by omega), ?_, ?_, ?_, ?_⟩⟩
        · omega
        · refine sq_law (kk := k) (q := q') ZQ hk3 (by omega) x7 (by omega) (by omega) ?_ ?_ (fun j hj => ?_) ?_ (fun j c h1 h2 h3 => ?_) ?_ ?_ ?_ (fun a c h1 h2 h3 => eS a c (by omega) (by omega) h2 h3) ?_ ?_ (fun j hj => ?_)
          · rw [wd_at (by omega)]; exact x1
          · rw [wf]; exact ⟨x3, Or.inr x4, by omega⟩
          · rw [wf]
            have y19 : sH (sI hM3 18 (3 + k) (hM3.1 2 13)) 19 (K + j) = hM3.1 19 (64 + (K + j)) := sI_c (by decide)
            have y20 : sH (sI hM3 18 (3 + k) (hM3.1 2 13)) 20 (K + j) = hM3.1 20 (64 + (K + j)) := sI_c (by decide)
            rw [y19, y20]
            exact x5 j hj
          · rw [wd_at (by decide)]; exact x8
          · by_cases w : j < 29
            · rw [wd_at w, c3.2 (y + j) c (by omega) (by omega) (by omega) (by omega)]
              exact eWa j c w
            · unfold wd
              rw [if_neg w, if_neg w]
          · refine (sHs (a0 := 18) (k0 := k) (by omega)).trans ?_
            exact (m3.2 17 (3 + k) (by omega) (by omega) (by omega)).trans sI_s
          · refine (sHe (a0 := 18) (k0 := k) (by decide) (by decide)).trans ?_
            rw [x2]; congr 1
          · refine (sHs (a0 := 18) (k0 := k) (by omega)).trans ?_
            refine Eq.trans x2 ?_
            congr 1
          · rw [eT, bt_or, bt_one (by omega) (by decide), decide_eq_false (by omega), Bool.or_false, bits 5 (by decide) (by decide)]
          · rw [eT, bt_or, bt_one (by omega) (by decide), decide_eq_false (by omega), Bool.or_false, bits 6 (by decide) (by decide)]
          · rw [eT, bt_or, bt_one (by omega) (by omega), bits (16 + j) (by omega) (by omega)]
            congr 1
            by_cases w : j = k
            · rw [decide_eq_true w, decide_eq_true (by omega)]
            · rw [decide_eq_false w, decide_eq_false (by omega)]
        · exact (sI_c (by decide)).trans x9
        · rw [eM 23 (by decide) (by decide) (by decide) (by decide), ← z18, wd_at (by decide), c3.2 (y + 0) 18 (by omega) (by omega) (by omega) (by omega)]
          exact eWa 0 18 (by decide)
        · exact (sI_c (by decide)).trans x10
      · exact ⟨hC3, _, fC3, fM4, crun, fun q1 q2 => mrun (k348 q1 q2), Or.inr (bd_mw B.1 (by omega))⟩
  · obtain ⟨hC4, t1, t2⟩ := c_stepX (rfC hCa (i + 1) 1)
    have B3 := j_ref (x := 1) a1 (by decide)
    have B4 := stX_bd t1 B3
    have A : lwA y (y + 8) := ⟨Y, Or.inl rfl⟩
    have HL := lwA_L A
    have nk : ∀ k, k < 3 → ¬ hCa.1 4 (i + 1) = nI (8 + k) := fun k hk c => w ⟨k, hk, c⟩
    refine ⟨hC4, rfM hM1 1, fC_tr fC1 (fC_tr rfC_f (stX_fC t1)), fM_tr fM1 rfM_f, @fun d Q q => ?_, @fun d Q q1 q2 => ?_, Or.inr B4⟩
    · have f78 : AW GC l ad (d + 80) mX3_readLaw 78 [(0, .ref (ad 2)), (1, .ref (ad (y + 8)))] [] (rfC hCa (i + 1) 1) (qv Q) := bX3_readLaw_78 _ HL _ (t2 (c_lvB A B4.1 6 0 (d + 70) 0 _ rfl q))
      exact bX3_readLaw_0 _ (a3 (mref ey1 ⟨HS, c_kind a1.1 ⟨fun _ => c_kind a1.1 ⟨fun _ => c_kind a1.1 ⟨fun z => absurd z (nk 0 (by decide)), fun _ => c_ref a1 (bX3_readLaw_66 _ HL _ ⟨fun _ => f78, fun _ => c_refB B3.1 f78⟩)⟩, fun z => absurd z (nk 2 (by decide))⟩, fun z => absurd z (nk 1 (by decide))⟩⟩))
    · have f30 : AW (GM adK adV) l' ad' (d + 149) mX10_lawLine 25 [(0, .ref (ad' 0))] [] hM1 (qv fun h50 => AW (GM adK adV) l' ad' (d + 150) mX10_line 348 [(0, .ref (ad' 0))] [] h50 (qv Q)) := bX10_lawLine_25 _ (m_wrg (rd_m0 a1) (bX10_lawLine_30 _ ⟨fun _ => bX10_lawLine_65 _ _ ⟨fun z => absurd z (bd_m B3), fun _ => k348 q1 q2⟩, fun z => absurd z (bd_m B3)⟩))
      refine mgo (bX10_lawLine_0 _ ⟨fun _ => f30, fun z => ⟨fun _ => f30, fun z2 => ⟨fun z3 => ?_, fun _ => f30⟩⟩⟩)
      exfalso
      rcases tm_word (rd_tm a1) with ⟨j, h1, h2, h3, h4⟩ | ⟨h1, -⟩
      · have key : ∀ j, j < 21 → ¬ nI (pm j) < 8 → nI (pm j) ≤ 10 → 8 ≤ j ∧ j < 11 := by decide +kernel
        rw [h4] at z2 z3
        have := key j h1 z2 z3
        exact nk (j - 8) (by omega) (by rw [h2, show 8 + (j - 8) = j by omega])
      · exact h1 z
/-- a line, whatever it tells -/
theorem ln_any (Y : y = 8 ∨ y = 37) (ey : hC.2.2 2 1 = y) (R : RD τ i hC hM) (Z : SR y hC hM m t n D K) (k36 : ¬ hC.1 4 i = 36) : ∃ hC' hM', fC y hC hC' ∧ fM hM hM' ∧ (∀ {d : Nat} {Q : aH → Prop}, Q hC' → AW GC l ad (d + 81) mX3_readLine 0 [(0, .ref (ad 2))] [] hC (qv Q)) ∧ (∀ {d : Nat} {Q : aH → Prop}, (¬ hM'.1 0 29 = 0 → Q hM') → (hM'.1 0 29 = 0 → AW (GM adK adV) l' ad' (d + 150) mX10_line 348 [(0, .ref (ad' 0))] [] hM' (qv Q)) → AW (GM adK adV) l' ad' (d + 150) mX10_line 0 [(0, .ref (ad' 0))] [] hM (qv Q)) ∧ LQ τ y i hC' hM' := by
  have g0 := rd_m0 R
  have ne : ∀ {a b : Nat}, hC.1 4 i = nI a → a ≠ b → a < 8 → b < 8 → ¬ hC.1 4 i = nI b := fun e h1 h2 h3 => by rw [e]; exact nI_ne h1 (by omega) (by omega)
  by_cases w : ∃ k, k < 8 ∧ hC.1 4 i = nI k
  · obtain ⟨k, hk, e⟩ := w
    have h8 : k = 0 ∨ k = 1 ∨ k = 2 ∨ k = 3 ∨ k = 4 ∨ k = 5 ∨ k = 6 ∨ k = 7 := by omega
    rcases h8 with rfl | rfl | rfl | rfl | rfl | rfl | rfl | rfl
    · obtain ⟨hC', hM', b1, b2, b3, b4, b5⟩ := ln_man (l := l) (ad := ad) (l' := l') (ad' := ad') (adK := adK) (adV := adV) Y ey R Z e
      exact ⟨hC', hM', b1, b2, fun q => bX3_readLine_0 _ (c_kind R.1 ⟨fun _ => b3 q, fun z => absurd (e.symm.trans z) (by decide), fun z => absurd (e.symm.trans z) (by decide), fun z => absurd (e.symm.trans z) (by decide), fun z => absurd (e.symm.trans z) (by decide), fun z => absurd (e.symm.trans z) (by decide), fun z => absurd (e.symm.trans z) (by decide), fun z => absurd (e.symm.trans z) (by decide), fun z => absurd e z⟩), b4, b5⟩
    · obtain ⟨hC', hM', b1, b2, b3, b4, b5⟩ := ln_tusk (l := l) (ad := ad) (l' := l') (ad' := ad') (adK := adK) (adV := adV) Y ey R Z e
      exact ⟨hC', hM', b1, b2, fun q => bX3_readLine_0 _ (c_kind R.1 ⟨fun z => absurd (e.symm.trans z) (by decide), fun _ => b3 q, fun z => absurd (e.symm.trans z) (by decide), fun z => absurd (e.symm.trans z) (by decide), fun z => absurd (e.symm.trans z) (by decide), fun z => absurd (e.symm.trans z) (by decide), fun z => absurd (e.symm.trans z) (by decide), fun z => absurd (e.symm.trans z) (by decide), fun _ z => absurd e z⟩), b4, b5⟩
    · obtain ⟨hC', hM', b1, b2, b3, b4, b5⟩ := ln_debt (l := l) (ad := ad) (l' := l') (ad' := ad') (adK := adK) (adV := adV) Y ey R Z e
      exact ⟨hC', hM', b1, b2, fun q => bX3_readLine_0 _ (c_kind R.1 ⟨fun z => absurd (e.symm.trans z) (by decide), fun z => absurd (e.symm.trans z) (by decide), fun _ => b3 q, fun z => absurd (e.symm.trans z) (by decide), fun z => absurd (e.symm.trans z) (by decide), fun z => absurd (e.symm.trans z) (by decide), fun z => absurd (e.symm.trans z) (by decide), fun z => absurd (e.symm.trans z) (by decide), fun _ _ z => absurd e z⟩), b4, b5⟩
    · obtain ⟨hC', hM', b1, b2, b3, b4, b5⟩ := ln_lean (l := l) (ad := ad) (l' := l') (ad' := ad') (adK := adK) (adV := adV) Y ey R Z e
      exact ⟨hC', hM', b1, b2, fun q => bX3_readLine_0 _ (c_kind R.1 ⟨fun z => absurd (e.symm.trans z) (by decide), fun z => absurd (e.symm.trans z) (by decide), fun z => absurd (e.symm.trans z) (by decide), fun _ => b3 q, fun z => absurd (e.symm.trans z) (by decide), fun z => absurd (e.symm.trans z) (by decide), fun z => absurd (e.symm.trans z) (by decide), fun z => absurd (e.symm.trans z) (by decide), fun _ _ _ z => absurd e z⟩), b4, b5⟩
    · obtain ⟨hC', hM', b1, b2, b3, b4, b5⟩ := ln_dies (l := l) (ad := ad) (l' := l') (ad' := ad') (adK := adK) (adV := adV) Y ey R Z e
      exact ⟨hC', hM', b1, b2, fun q => bX3_readLine_0 _ (c_kind R.1 ⟨fun z => absurd (e.symm.trans z) (by decide), fun z => absurd (e.symm.trans z) (by decide), fun z => absurd (e.symm.trans z) (by decide), fun z => absurd (e.symm.trans z) (by decide), fun _ => b3 q, fun z => absurd (e.symm.trans z) (by decide), fun z => absurd (e.symm.trans z) (by decide), fun z => absurd (e.symm.trans z) (by decide), fun _ _ _ _ z => absurd e z⟩), b4, b5⟩
    · obtain ⟨hC', hM', b1, b2, b3, b4, b5⟩ := ln_rate (l := l) (ad := ad) (l' := l') (ad' := ad') (adK := adK) (adV := adV) Y ey R Z e
      exact ⟨hC', hM', b1, b2, fun q => bX3_readLine_0 _ (c_kind R.1 ⟨fun z => absurd (e.symm.trans z) (by decide), fun z => absurd (e.symm.trans z) (by decide), fun z => absurd (e.symm.trans z) (by decide), fun z => absurd (e.symm.trans z) (by decide), fun z => absurd (e.symm.trans z) (by decide), fun _ => b3 q, fun z => absurd (e.symm.trans z) (by decide), fun z => absurd (e.symm.trans z) (by decide), fun _ _ _ _ _ z => absurd e z⟩), b4, b5⟩
    · obtain ⟨hC', hM', b1, b2, b3, b4, b5⟩ := ln_seed (l := l) (ad := ad) (l' := l') (ad' := ad') (adK := adK) (adV := adV) Y ey R Z e
      exact ⟨hC', hM', b1, b2, fun q => bX3_readLine_0 _ (c_kind R.1 ⟨fun z => absurd (e.symm.trans z) (by decide), fun z => absurd (e.symm.trans z) (by decide), fun z => absurd (e.symm.trans z) (by decide), fun z => absurd (e.symm.trans z) (by decide), fun z => absurd (e.symm.trans z) (by decide), fun z => absurd (e.symm.trans z) (by decide), fun _ => b3 q, fun z => absurd (e.symm.trans z) (by decide), fun _ _ _ _ _ _ z => absurd e z⟩), b4, b5⟩
    · obtain ⟨hC', hM', b1, b2, b3, b4, b5⟩ := ln_law (l := l) (ad := ad) (l' := l') (ad' := ad') (adK := adK) (adV := adV) Y ey R Z e
      exact ⟨hC', hM', b1, b2, fun q => bX3_readLine_0 _ (c_kind R.1 ⟨fun z => absurd (e.symm.trans z) (by decide), fun z => absurd (e.symm.trans z) (by decide), fun z => absurd (e.symm.trans z) (by decide), fun z => absurd (e.symm.trans z) (by decide), fun z => absurd (e.symm.trans z) (by decide), fun z => absurd (e.symm.trans z) (by decide), fun z => absurd (e.symm.trans z) (by decide), fun _ => b3 q, fun _ _ _ _ _ _ _ z => absurd e z⟩), b4, b5⟩
  · have nk : ∀ k, k < 8 → ¬ hC.1 4 i = nI k := fun k hk c => w ⟨k, hk, c⟩
    have B3 := j_ref (x := 1) R (by decide)
    refine ⟨rfC hC i 1, rfM hM 1, rfC_f, rfM_f, fun q => bX3_readLine_0 _ (c_kind R.1 ⟨fun z => absurd z (nk 0 (by decide)), fun z => absurd z (nk 1 (by decide)), fun z => absurd z (nk 2 (by decide)), fun z => absurd z (nk 3 (by decide)), fun z => absurd z (nk 4 (by decide)), fun z => absurd z (nk 5 (by decide)), fun z => absurd z (nk 6 (by decide)), fun z => absurd z (nk 7 (by decide)), fun _ _ _ _ _ _ _ _ => c_ref R q⟩), @fun d Q q1 _ => ?_, Or.inr B3⟩
    have f16 : AW (GM adK adV) l' ad' (d + 150) mX10_line 16 [(0, .ref (ad' 0))] [] hM (qv Q) := bX10_line_16 _ (m_wrg g0 (q1 (bd_m B3)))
    refine bX10_line_0 _ ⟨fun _ => f16, fun z => ⟨fun z2 => ?_, fun _ => f16⟩⟩
    exfalso
    rcases tm_word (rd_tm R) with ⟨j, h1, h2, h3, h4⟩ | ⟨h1, -⟩
    · have key : ∀ j, j < 21 → nI (pm j) ≤ 7 → j < 8 := by decide +kernel
      rw [h4] at z2
      exact nk j (key j h1 z2) h2
    · exact h1 z
end LN6
