/-! ===== lines of a text, on both sides: what they begin with; a man ===== -/
def SR (y : Nat) (hC hM : aH) (m t n D K : Nat) : Prop := SQ (wd hC y) (sH hM) (hM.1 0 22) m t n D K ∧ hM.1 0 34 = nI K ∧ wd hC y 0 18 = hM.1 0 23 ∧ hM.1 0 33 = 0
section LN0
variable {y j j0 k k0 a a0 : Nat} {v : Int32} {h h' : aH}
theorem wds (hne : ¬ (j = j0 ∧ k = k0)) : wd (sI h (y + j0) k0 v) y j k = wd h y j k := by
  unfold wd
  by_cases w : j < 29
  · rw [if_pos w, if_pos w, sI_v (fun z => hne ⟨by omega, z.2⟩)]
  · rw [if_neg w, if_neg w]
theorem wde (hj : j0 < 29) : wd (sI h (y + j0) k0 v) y j0 k0 = v := by rw [wd_at hj, sI_s]
theorem wdo (ha : a < y ∨ y + 29 ≤ a) : wd (sI h a k v) y = wd h y := by
  funext b c
  unfold wd
  by_cases w : b < 29
  · rw [if_pos w, if_pos w, sI_v (fun z => by omega)]
  · rw [if_neg w, if_neg w]
theorem sHs (hne : ¬ (a = a0 ∧ k = k0)) : sH (sI h a0 (hf a0 + k0) v) a k = sH h a k := by
  unfold sH
  by_cases w : 2 ≤ a ∧ a ≤ 20
  · rw [if_pos w, if_pos w, sI_v (fun z => hne ⟨z.1, by have := z.2; rw [z.1] at this; omega⟩)]
  · rw [if_neg w, if_neg w]
theorem sHe (h1 : 2 ≤ a0) (h2 : a0 ≤ 20) : sH (sI h a0 (hf a0 + k0) v) a0 k0 = v := by rw [sH_at h1 h2, sI_s]
theorem sHo (ha : a < 2 ∨ 20 < a) : sH (sI h a k v) = sH h := by
  funext b c
  unfold sH
  by_cases w : 2 ≤ b ∧ b ≤ 20
  · rw [if_pos w, if_pos w, sI_v (fun z => by omega)]
  · rw [if_neg w, if_neg w]
theorem sHf (f : frM h h') : sH h' = sH h := by
  funext b c
  unfold sH
  by_cases w : 2 ≤ b ∧ b ≤ 20
  · rw [if_pos w, if_pos w, f.2 _ _ (by omega)]
  · rw [if_neg w, if_neg w]
end LN0
section LN1
variable {adK adV ad ad' : Nat → Nat} {l : Launch} {d : Nat} {τ : tX} {i y m t n D K : Nat} {hC hM h : aH} {x v : Int32}
theorem m_frs {R : Int32 → aH → Prop} {k : Nat} (ex : x = nI k) (hk : k < 7) (H : R (h.1 2 (7 + k)) h) : AW (GM adK adV) l ad d mX10_fresher 0 [(0, .ref (ad 0)), (1, .int x)] [] h (qi R) := by
  refine bX10_fresher_0 _ _ ?_
  rw [ex, show (7 : Int32) + nI k = nI (7 + k) from nI_add 7 k, nI_clamp (by omega)]
  exact ⟨vp_in_nI (by omega) (by decide), H⟩
theorem m_rds {R : aH → Prop} {k : Nat} (ex : x = nI k) (hk : k < 7) (H : R (sI h 2 (7 + k) v)) : AW (GM adK adV) l ad d mX10_reads 0 [(0, .ref (ad 0)), (1, .int x), (2, .int v)] [] h (qv R) := by
  refine bX10_reads_0 _ _ _ ?_
  rw [ex, show (7 : Int32) + nI k = nI (7 + k) from nI_add 7 k, nI_clamp (by omega)]
  exact ⟨vp_in_nI (by omega) (by decide), H⟩
def fl (h : aH) (w : Nat) : Prop := (w = 0 ∧ h.1 2 7 = 6) ∨ (w = 1 ∧ h.1 2 8 = 6) ∨ (w = 2 ∧ h.1 2 9 = 8) ∨ (w = 3 ∧ h.1 2 10 = 10)
theorem m_isF {R : Int32 → aH → Prop} {w : Nat} (hw : w ≤ 7) (H1 : fl h w → R 1 h) (H0 : ¬ fl h w → R 0 h) : AW (GM adK adV) l ad (d + 1) mX10_isFull 0 [(0, .ref (ad 0)), (1, .int (nI w))] [] h (qi R) := by
  have ne : ∀ b, w ≠ b → b < 8 → ¬ nI w = nI b := fun b h1 h2 => nI_ne h1 (by omega) (by omega)
  refine bX10_isFull_0 _ _ ⟨fun z => ?_, fun z => ?_, fun z => ?_, fun z => ?_, fun z0 z1 z2 z3 => H0 ?_⟩
  · have e : w = 0 := (nI_eq (b := 0) (by omega) (by decide)).mp z
    refine m_frs (k := 0) rfl (by decide) ⟨fun q => H0 ?_, fun q => H1 (Or.inl ⟨e, q⟩)⟩
    rintro (⟨-, c⟩ | ⟨c, -⟩ | ⟨c, -⟩ | ⟨c, -⟩)
    · exact q c
    all_goals omega
  · have e : w = 1 := (nI_eq (b := 1) (by omega) (by decide)).mp z
    refine m_frs (k := 1) rfl (by decide) ⟨fun q => H0 ?_, fun q => H1 (Or.inr (Or.inl ⟨e, q⟩))⟩
    rintro (⟨c, -⟩ | ⟨-, c⟩ | ⟨c, -⟩ | ⟨c, -⟩)
    · omega
    · exact q c
    all_goals omega
  · have e : w = 2 := (nI_eq (b := 2) (by omega) (by decide)).mp z
    refine m_frs (k := 2) rfl (by decide) ⟨fun q => H0 ?_, fun q => H1 (Or.inr (Or.inr (Or.inl ⟨e, q⟩)))⟩
    rintro (⟨c, -⟩ | ⟨c, -⟩ | ⟨-, c⟩ | ⟨c, -⟩)
    · omega
    · omega
    · exact q c
    · omega
  · have e : w = 3 := (nI_eq (b := 3) (by omega) (by decide)).mp z
    refine m_frs (k := 3) rfl (by decide) ⟨fun q => H0 ?_, fun q => H1 (Or.inr (Or.inr (Or.inr ⟨e, q⟩)))⟩
    rintro (⟨c, -⟩ | ⟨c, -⟩ | ⟨c, -⟩ | ⟨-, c⟩)
    · omega
    · omega
    · omega
    · exact q c
  · rintro (⟨c, -⟩ | ⟨c, -⟩ | ⟨c, -⟩ | ⟨c, -⟩)
    · subst c; exact z0 rfl
    · subst c; exact z1 rfl
    · subst c; exact z2 rfl
    · subst c; exact z3 rfl
theorem rd_w {w : Nat} (hw : w ≤ 10) (R : RD τ i hC hM) (hk : hC.1 4 i = nI w) : hM.1 0 27 = 0 ∧ hM.1 0 28 = nI w := by
  rcases tm_word (rd_tm R) with ⟨j, h1, h2, h3, h4⟩ | ⟨-, h2⟩
  · have e : j = w := (nI_eq (by omega) (by omega)).mp (h2.symm.trans hk)
    subst e
    have p : pm j = j := by unfold pm; rw [if_neg (by omega), if_neg (by omega)]
    rw [p] at h4
    exact ⟨h3, h4⟩
  · exact absurd hk (h2 w (by omega))
/-- the reference's beginning of a line -/
theorem ml_go {w : Nat} {Q : aH → Prop} (hw : w ≤ 7) (s0 : hM.1 0 27 = 0) (v0 : hM.1 0 28 = nI w) (nf : ¬ fl hM w) (nt : w = 5 ∨ w = 6 → bt (hM.1 0 22) w = false) (H : AW (GM adK adV) l ad (d + 2) mX10_line 71 [(0, .ref (ad 0)), (1, .int (nI w))] [] hM (qv Q)) : AW (GM adK adV) l ad (d + 2) mX10_line 0 [(0, .ref (ad 0))] [] hM (qv Q) := by
  refine bX10_line_0 _ ?_
  rw [v0]
  have K : w = 5 ∨ w = 6 → AW (GM adK adV) l ad (d + 2) mX10_line 54 [(0, .ref (ad 0)), (1, .int (nI w))] [] hM (qv Q) := fun z => by
    refine bX10_line_54 _ _ ⟨fun _ => H, fun q => ?_⟩
    rw [bt_shr _ (by omega), nt z] at q
    exact absurd q (by decide)
  refine ⟨fun z => absurd s0 z, fun _ => ⟨fun _ => m_isF hw (fun z => absurd z nf) (fun _ => ⟨fun _ => ⟨fun z => K (Or.inl ((nI_eq (b := 5) (by omega) (by decide)).mp z)), fun _ => ⟨fun _ => H, fun z => K (Or.inr ((nI_eq (b := 6) (by omega) (by decide)).mp z))⟩⟩, fun z => absurd rfl z⟩), fun z => absurd (nI_le (b := 7) hw (by decide)) z⟩⟩
theorem ml_full {w : Nat} {Q : aH → Prop} (hw : w ≤ 7) (g0 : hM.1 0 29 = 0) (s0 : hM.1 0 27 = 0) (v0 : hM.1 0 28 = nI w) (nf : fl hM w) (H : Q (rfM hM 2)) : AW (GM adK adV) l ad (d + 2) mX10_line 0 [(0, .ref (ad 0))] [] hM (qv Q) := by
  refine bX10_line_0 _ ?_
  rw [v0]
  have b : ¬ (rfM hM 2).1 0 29 = 0 := by unfold rfM; rw [sI_k (by decide), sI_s]; decide
  exact ⟨fun z => absurd s0 z, fun _ => ⟨fun _ => m_isF hw (fun _ => ⟨fun z => absurd z (by decide), fun _ => m_wrg g0 (bX10_line_71 _ _ ⟨fun z => absurd z b, fun _ => H⟩)⟩) (fun z => absurd nf z), fun z => absurd (nI_le (b := 7) hw (by decide)) z⟩⟩
theorem ml_told {w : Nat} {Q : aH → Prop} (hw : w = 5 ∨ w = 6) (g0 : hM.1 0 29 = 0) (s0 : hM.1 0 27 = 0) (v0 : hM.1 0 28 = nI w) (nt : bt (hM.1 0 22) w = true) (H : Q (rfM hM 3)) : AW (GM adK adV) l ad (d + 2) mX10_line 0 [(0, .ref (ad 0))] [] hM (qv Q) := by
  refine bX10_line_0 _ ?_
  rw [v0]
  have b : ¬ (rfM hM 3).1 0 29 = 0 := by unfold rfM; rw [sI_k (by decide), sI_s]; decide
  have K : AW (GM adK adV) l ad (d + 2) mX10_line 54 [(0, .ref (ad 0)), (1, .int (nI w))] [] hM (qv Q) := by
    refine bX10_line_54 _ _ ⟨fun q => ?_, fun _ => m_wrg g0 (bX10_line_71 _ _ ⟨fun z => absurd z b, fun _ => H⟩)⟩
    rw [bt_shr _ (by omega), nt] at q
    exact absurd rfl q
  refine ⟨fun z => absurd s0 z, fun _ => ⟨fun _ => m_isF (by omega) (fun z => ?_) (fun _ => ⟨fun _ => ⟨fun z => K, fun q => ⟨fun q2 => ?_, fun z => K⟩⟩, fun z => absurd rfl z⟩), fun z => absurd (nI_le (b := 7) (by omega) (by decide)) z⟩⟩
  · unfold fl at z; omega
  · exfalso
    rcases hw with rfl | rfl
    · exact q rfl
    · exact q2 rfl
theorem k348 {Q : aH → Prop} (q1 : ¬ h.1 0 29 = 0 → Q h) (q2 : h.1 0 29 = 0 → AW (GM adK adV) l ad (d + 1) mX10_line 348 [(0, .ref (ad 0))] [] h (qv Q)) : AW (GM adK adV) l ad (d + 1) mX10_line 348 [(0, .ref (ad 0))] [] h (qv Q) := by
  by_cases w : h.1 0 29 = 0
  · exact q2 w
  · exact bX10_line_348 _ ⟨fun z => absurd z w, fun _ => q1 w⟩
theorem c_lw1 {Q : aH → Prop} {why : Int32} (H : AW GC l ad d mX3_step 0 [(0, .ref (ad 2))] [] h (qv Q)) : AW GC l ad (d + 1) mX3_takeLineWord 0 [(0, .ref (ad 2)), (1, .int (1 : Int32)), (2, .int why)] [] h (qv Q) := bX3_takeLineWord_0 _ _ _ ⟨fun z => absurd z (by decide), fun _ => H⟩
theorem c_lw0 {Q : aH → Prop} {why : Int32} (H : AW GC l ad d mX3_refuse 0 [(0, .ref (ad 2)), (1, .int why)] [] h (qv Q)) : AW GC l ad (d + 1) mX3_takeLineWord 0 [(0, .ref (ad 2)), (1, .int (0 : Int32)), (2, .int why)] [] h (qv Q) := bX3_takeLineWord_0 _ _ _ ⟨fun _ => H, fun z => absurd rfl z⟩
end LN1
/-- what a line leaves: both further on and the story alike, or the same fault -/
def LQ (τ : tX) (y i : Nat) (hC hM : aH) : Prop := (∃ i' m t n D K, i < i' ∧ RD τ i' hC hM ∧ SR y hC hM m t n D K) ∨ BD hC hM
/-- a line of the class's method M -/
def LNR (l : Launch) (ad : Nat → Nat) (l' : Launch) (ad' adK adV : Nat → Nat) (τ : tX) (y i : Nat) (M : aM) (hC hM : aH) : Prop := ∃ hC' hM', fC y hC hC' ∧ fM hM hM' ∧ (∀ {d : Nat} {Q : aH → Prop}, Q hC' → AW GC l ad (d + 80) M 0 [(0, .ref (ad 2))] [] hC (qv Q)) ∧ (∀ {d : Nat} {Q : aH → Prop}, (¬ hM'.1 0 29 = 0 → Q hM') → (hM'.1 0 29 = 0 → AW (GM adK adV) l' ad' (d + 150) mX10_line 348 [(0, .ref (ad' 0))] [] hM' (qv Q)) → AW (GM adK adV) l' ad' (d + 150) mX10_line 0 [(0, .ref (ad' 0))] [] hM (qv Q)) ∧ LQ τ y i hC' hM'
section LN2
variable {l l' : Launch} {ad ad' adK adV : Nat → Nat} {τ : tX} {i y m t n D K : Nat} {hC hM h : aH}
theorem yS (Y : y = 8 ∨ y = 37) : isS GC y := by
  rcases Y with rfl | rfl
  · exact isS_1
  · exact isS_2
theorem rf3 (R : RD τ i hC hM) {x : Int32} (hx : ¬ x = 0) : ¬ (rfC hC i x).1 2 3 = 0 := (j_ref R hx).1
theorem ln_man (Y : y = 8 ∨ y = 37) (ey : hC.2.2 2 1 = y) (R : RD τ i hC hM) (Z : SR y hC hM m t n D K) (hk : hC.1 4 i = nI 0) : LNR l ad l' ad' adK adV τ y i mX3_readMan hC hM := by
  have HS := yS Y
  obtain ⟨s0, v0⟩ := rd_w (w := 0) (by decide) R hk
  have g0 := rd_m0 R
  obtain ⟨ZQ, z34, z18, z33⟩ := Z
  have n1 : hC.1 y 11 = nI m := ZQ.1.1
  have n2 : hM.1 2 7 = nI m := ZQ.1.2.1
  have n3 : m ≤ 6 := ZQ.1.2.2.1
  by_cases w : m = 6
  · subst w
    have b3 := rf3 R (x := 2) (by decide)
    refine ⟨rfC hC i 2, rfM hM 2, rfC_f, rfM_f, fun q => ?_, fun q1 _ => ml_full (w := 0) (by decide) g0 s0 v0 (Or.inl ⟨rfl, n2⟩) (q1 (bd_m (j_ref R (by decide)))), Or.inr (j_ref R (by decide))⟩
    refine bX3_readMan_0 _ (mref ey ⟨HS, fun _ => bX3_readMan_18 _ _ (c_lw0 (c_ref R (mref ey ⟨HS, bX3_takeNewName_0 _ _ (HS.2.1 0 (by decide)) _ _ ⟨fun z => absurd z b3, fun _ => bX3_takeNumber_0 _ _ _ ⟨fun z => absurd z b3, fun _ => ⟨fun _ => q, fun z => absurd z b3⟩⟩⟩⟩))), fun z => ?_⟩)
    rw [n1] at z
    exact absurd (Int32.le_refl _) z
  · have hm : m < 6 := by omega
    have R0 : RD τ i hC (sI hM 0 22 (hM.1 0 22 ||| ((1 : Int32) <<< (nI 0 &&& 31)))) := rd_m R (by omega)
    obtain ⟨hM1, a1, a2, a3, a4⟩ := j_adv (adK := adK) (adV := adV) R0 (by rw [hk]; decide)
    have e22 : ∀ j, j ≠ 22 → ¬ (25 ≤ j ∧ j ≤ 28) → hM1.1 0 j = hM.1 0 j := fun j h1 h2 => (a2.2 0 j (by omega)).trans (sI_k h1)
    have eS1 : sH hM1 = sH hM := (sHf a2).trans (sHo (by omega))
    have n2' : hM1.1 2 7 = nI m := (a2.2 2 7 (by decide)).trans ((sI_c (by decide)).trans n2)
    have n1' : (sI hC 2 2 (nI (i + 1))).1 y 11 = nI m := (sI_c (by omega)).trans n1
    obtain ⟨z, w1, hC2, hM2, f2, g2, r1, r2, P1⟩ := j_new (adK := adK) (adV := adV) (y := y) (a := y + 1) (A := 3) (q := m) (HS.2.1 0 (by decide)) rfl n3 n1' n2' (fun p hp => by
      have e1 := (ZQ.2.1 p hp).1
      rw [← eS1] at e1
      rw [sI_c (by omega)]
      exact e1) a1
    have J2 : RD τ (i + 1 + 1) hC2 (sI hM2 3 (6 + m) w1) ∨ BD hC2 (sI hM2 3 (6 + m) w1) := by
      rcases P1 with P | B
      · exact Or.inl (rd_m P.1 (by omega))
      · exact Or.inr (bd_mw B (by omega))
    obtain ⟨z2, w2, hC3, hM3, f3, g3, r3, r4, P2⟩ := j_num (adK := adK) (adV := adV) (y := y) (x1 := 0) (x2 := 999) (lo := 0) (hi := 999) rfl rfl (by decide) (by decide) J2
    have ey2 : (sI hC 2 2 (nI (i + 1))).2.2 2 1 = y := ey
    have ey3 : hC3.2.2 2 1 = y := by rw [f3.1, f2.1]; exact ey
    have fC3 : fC y hC hC3 := fC_tr (fC_s fC_rfl (by omega)) (fC_tr f2 f3)
    have i6 : (6 : Int32) + nI m = nI (6 + m) := nI_add 6 m
    have cpre : ∀ {l : Launch} {ad : Nat → Nat} {d : Nat} {Q : aH → Prop}, ((¬ (hC3.1 2 3) = 0 → (Q hC3)) ∧ ((hC3.1 2 3) = 0 → (∀ y8 : Nat, y8 = hC3.2.2 2 1 → isS GC y8 ∧ (AW GC l ad (d + 79) mX6_addMan 0 [(0, .ref (ad y8)), (1, .int z), (2, .int z2)] [] hC3 (qv fun h9 => Q h9))))) → AW GC l ad (d + 80) mX3_readMan 0 [(0, .ref (ad 2))] [] hC (qv Q) := by
      intro l ad d Q H
      refine bX3_readMan_0 _ (mref ey ⟨HS, fun z => ?_, fun _ => bX3_readMan_18 _ _ (c_lw1 (a3 (mref ey2 ⟨HS, r1 (r3 H)⟩)))⟩)
      rw [n1] at z
      exact absurd z (nI_ge (b := 6) hm (by decide))
    have mrun : ∀ {l : Launch} {ad : Nat → Nat} {d : Nat} {Q : aH → Prop}, AW (GM adK adV) l ad (d + 150) mX10_line 348 [(0, .ref (ad 0))] [] (sI (sI hM3 4 (6 + m) w2) 2 7 (hM3.1 2 7 + 1)) (qv Q) → AW (GM adK adV) l ad (d + 150) mX10_line 0 [(0, .ref (ad 0))] [] hM (qv Q) := by
      intro l ad d Q H
      refine ml_go (w := 0) (by decide) s0 v0 (fun z => ?_) (fun z => absurd z (by decide)) (bX10_line_71 _ _ ⟨fun _ => a4 ⟨fun _ => ?_, fun z => absurd z (by decide), fun z => absurd z (by decide), fun z => absurd z (by decide), fun z => absurd z (by decide), fun z => absurd z (by decide), fun z => absurd z (by decide), fun z => absurd rfl z⟩, fun z => absurd g0 z⟩)
      · unfold fl at z
        rcases z with ⟨-, z⟩ | ⟨z, -⟩ | ⟨z, -⟩ | ⟨z, -⟩
        · rw [n2] at z
          exact absurd ((nI_eq (b := 6) (by omega) (by decide)).mp z) w
        all_goals omega
      · refine m_frs (k := 0) rfl (by decide) (m_frs (k := 0) rfl (by decide) (r2 ?_))
        rw [n2', i6, nI_clamp (by omega)]
        refine ⟨vp_in_nI (by omega) (by decide), r4 (m_frs (k := 0) rfl (by decide) (m_rds (k := 0) rfl (by decide) ?_))⟩
        rw [sI_c (show 2 ≠ 4 by decide)]
        exact H
    have fM4 : fM hM (sI (sI hM3 4 (6 + m) w2) 2 7 (hM3.1 2 7 + 1)) := by
      refine fM_s (fM_s (fM_tr (fM_s fM_rfl (Or.inl ⟨rfl, Or.inl rfl⟩)) (fM_tr (fM_fr a2) (fM_tr g2 (fM_tr (fM_s fM_rfl (Or.inr ⟨by decide, by decide, ?_⟩)) g3)))) (Or.inr ⟨by decide, by decide, ?_⟩)) (Or.inr ⟨by decide, by decide, by decide⟩)
      · show 6 ≤ 6 + m; omega
      · show 6 ≤ 6 + m; omega
    rcases P2 with ⟨Ra, Rb, eC3, fr3, x, x1, x2, ez, ew⟩ | B
    · rcases P1 with ⟨Rc, eC2, fr2, ezw⟩ | B1
      · have eW : wd hC3 y = wd hC y := by
          rw [eC3, wdo (by omega), eC2, wdo (by omega), wdo (by omega)]
        have eS2 : sH hM2 = sH hM := (sHf fr2).trans eS1
        have eS3 : sH hM3 = sH (sI hM2 3 (hf 3 + m) w1) := sHf fr3
        have eM : ∀ j, j ≠ 22 → ¬ (25 ≤ j ∧ j ≤ 28) → (sI (sI hM3 4 (6 + m) w2) 2 7 (hM3.1 2 7 + 1)).1 0 j = hM.1 0 j := fun j h1 h2 => (sI_c (by decide)).trans ((sI_c (by decide)).trans ((fr3.2 0 j (by omega)).trans ((sI_c (by decide)).trans ((fr2.2 0 j (by omega)).trans (e22 j h1 h2)))))
        have eT : (sI (sI hM3 4 (6 + m) w2) 2 7 (hM3.1 2 7 + 1)).1 0 22 = hM.1 0 22 ||| ((1 : Int32) <<< (nI 0 &&& 31)) := (sI_c (by decide)).trans ((sI_c (by decide)).trans ((fr3.2 0 22 (by decide)).trans ((sI_c (by decide)).trans ((fr2.2 0 22 (by decide)).trans ((a2.2 0 22 (by decide)).trans sI_s)))))
        have e7 : hM3.1 2 7 = nI m := (fr3.2 2 7 (by decide)).trans ((sI_c (by decide)).trans ((fr2.2 2 7 (by decide)).trans n2'))
        have nC : hC3.1 y 11 = nI m := (congrFun (congrFun eW 0) 11).trans n1
        refine ⟨sI (sI (sI hC3 (y + 1) m z) (y + 18) m z2) y 11 (nI (m + 1)), _, fC_s (fC_s (fC_s fC3 (by omega)) (by omega)) (by omega), fM4, fun q => cpre ⟨fun z => absurd (rd_c0 Rb) z, fun _ => mref ey3 ⟨HS, bX6_addMan_0 y HS _ _ _ ?_⟩⟩, fun q1 q2 => mrun (k348 q1 q2), Or.inl ⟨i + 1 + 1 + 1, m + 1, t, n, D, K, by omega, rd_m (rd_m (rd_c (rd_c (rd_c Rb (by omega)) (by omega)) (by omega)) (by omega)) (by omega), ?_, (eM 34 (by decide) (by decide)).trans z34, ?_, (eM 33 (by decide) (by decide)).trans z33⟩⟩
        · have e1 : (sI hC3 (y + 1) m z).1 y 11 = nI m := (sI_c (by omega)).trans nC
          have e2 : (sI (sI hC3 (y + 1) m z) (y + 18) m z2).1 y 11 = nI m := (sI_c (by omega)).trans e1
          rw [nC, nI_clamp (by omega), e1, nI_clamp (by omega)]
          refine ⟨fun z => absurd z (nI_ge (b := 6) hm (by decide)), fun _ => ⟨vp_in_nI hm (by decide), vp_in_nI hm (by decide), href ?_⟩⟩
          rw [e2, nI_1]
          exact q
        · refine sq_man (nm := z) (pu := z2) ZQ hm ?_ ?_ ?_ (fun j k h1 h2 h3 => ?_) ?_ ?_ ?_ (fun a k h1 h2 h3 => ?_) ?_
          · exact (wds (j0 := 0) (k0 := 11) (by omega)).trans ((wds (j0 := 18) (k0 := m) (by omega)).trans (wde (j0 := 1) (by decide)))
          · exact (wds (j0 := 0) (k0 := 11) (by omega)).trans (wde (j0 := 18) (by decide))
          · exact wde (j0 := 0) (by decide)
          · exact (wds (j0 := 0) (k0 := 11) h3).trans ((wds (j0 := 18) (k0 := m) h2).trans ((wds (j0 := 1) (k0 := m) h1).trans (congrFun (congrFun eW j) k)))
          · refine (sHs (a0 := 2) (k0 := 0) (by omega)).trans ((sHs (a0 := 4) (k0 := m) (by omega)).trans ?_)
            rw [eS3, ezw]
            exact sHe (by decide) (by decide)
          · refine (sHs (a0 := 2) (k0 := 0) (by omega)).trans ((sHe (a0 := 4) (k0 := m) (by decide) (by decide)).trans ?_)
            rw [ez, ew]
          · refine (sHe (a0 := 2) (k0 := 0) (by decide) (by decide)).trans ?_
            rw [e7, nI_1]
          · refine (sHs (a0 := 2) (k0 := 0) h3).trans ((sHs (a0 := 4) (k0 := m) h2).trans ?_)
            rw [eS3]
            exact (sHs (a0 := 3) (k0 := m) h1).trans (congrFun (congrFun eS2 a) k)
          · rw [eT]; exact bS_or (w := 0) (by decide) (by decide) (by decide) (by decide)
        · rw [eM 23 (by decide) (by decide), ← z18]
          exact (wds (j0 := 0) (k0 := 11) (by omega)).trans ((wds (j0 := 18) (k0 := m) (by omega)).trans ((wds (j0 := 1) (k0 := m) (by omega)).trans (congrFun (congrFun eW 0) 18)))
      · exact absurd (rd_c0 Ra) B1.1
    · exact ⟨hC3, _, fC3, fM4, fun q => cpre ⟨fun _ => q, fun z => absurd z B.1⟩, fun q1 q2 => mrun (k348 q1 q2), Or.inr (bd_mw (bd_mw B (by omega)) (by omega))⟩
end LN2
