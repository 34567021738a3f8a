/-! ===== names, on both sides ===== -/
section RN
variable {adK adV : Nat → Nat} {τ : tX} {i y : Nat} {hC hM hC' hM' h h' : aH} {x : Int32}
theorem at_rf {c : Nat} (T : atT h i c) : atT (rfC h i x) i c := at_s (at_s T (by omega) (by omega)) (by omega) (by omega)
/-- a name that isn't told yet -/
theorem j_new {a A q : Nat} {x2 x3 : Int32} (ha : GC.2.2.2.1[a]? = some (.inr (.int, 6))) (hA : (GM adK adV).2.2.2.1[A]? = some (.inr (.int, 12))) (hq : q ≤ 6) (e2 : x2 = nI q) (e3 : x3 = nI q) (hr : ∀ p, p < q → hM.1 A (6 + p) = hC.1 a p) (R : RD τ i hC hM) : ∃ z w hC' hM', fC y hC hC' ∧ fM hM hM' ∧ (∀ {l : Launch} {ad : Nat → Nat} {d : Nat} {Q : Int32 → aH → Prop}, Q z hC' → AW GC l ad (d + 1) mX3_takeNewName 0 [(0, .ref (ad 2)), (1, .ref (ad a)), (2, .int x2)] [] hC (qi Q)) ∧ (∀ {l : Launch} {ad : Nat → Nat} {d : Nat} {Q : Int32 → aH → Prop}, Q w hM' → AW (GM adK adV) l ad (d + 6) mX10_fresh 0 [(0, .ref (ad 0)), (1, .ref (ad A)), (2, .int (6 : Int32)), (3, .int x3)] [] hM (qi Q)) ∧ ((RD τ (i + 1) hC' hM' ∧ hC' = sI hC 2 2 (nI (i + 1)) ∧ frM hM hM' ∧ z = w) ∨ BD hC' hM') := by
  subst e2
  subst e3
  have F : ∀ {u : Int32} (hu : ¬ u = 0), ∃ hC', stX (rfC hC i u) hC' ∧ BD hC' (rfM hM u) ∧ ∀ {l : Launch} {ad : Nat → Nat} {d : Nat} {Q : Int32 → aH → Prop}, Q (hC.1 6 i) hC' → AW GC l ad d mX3_refuse 0 [(0, .ref (ad 2)), (1, .int u)] [] hC (qv fun h7 => AW GC l ad (d + 1) mX3_takeNewName 44 [(0, .ref (ad 2))] [] h7 (qi Q)) := by
    intro u hu
    obtain ⟨h', s1, s2⟩ := c_stepX (rfC hC i u)
    refine ⟨h', s1, stX_bd s1 (j_ref R hu), fun q => c_ref R (bX3_takeNewName_44 a 6 ha _ (c_value (at_rf R.1) (s2 ?_)))⟩
    have e : (rfC hC i u).1 6 i = hC.1 6 i := by unfold rfC; rw [sI_c (by decide), sI_c (by decide)]
    rw [e]; exact q
  have f0 := rd_c0 R
  have g0 := rd_m0 R
  have bm : ∀ {u : Int32}, ¬ u = 0 → ¬ (rfM hM u).1 0 29 = 0 := fun hu => bd_m (j_ref R hu)
  rcases tm_name (rd_tm R) with ⟨k1, k2, k3⟩ | ⟨k1, k2⟩
  · have ef : fdS (fun j => hM.1 A (6 + j)) (hC.1 6 i) 0 q = fdS (hC.1 a) (hC.1 6 i) 0 q := fdS_ext q 0 (fun j _ hj => hr j (by omega))
    by_cases e : fdS (hC.1 a) (hC.1 6 i) 0 q = -1
    · obtain ⟨hM', a1, a2, a3, a4⟩ := j_adv (adK := adK) (adV := adV) R (by rw [k1]; decide)
      refine ⟨hC.1 6 i, hC.1 6 i, _, hM', fC_s fC_rfl (by omega), fM_fr a2, fun q' => ?_, fun q' => ?_, Or.inl ⟨a1, rfl, a2, rfl⟩⟩
      · exact bX3_takeNewName_0 a 6 ha _ _ ⟨fun _ => c_kind R.1 ⟨fun _ => c_value R.1 (sp_indexOf ha hq (by decide) ⟨fun _ => bX3_takeNewName_44 a 6 ha _ (c_value R.1 (a3 q')), fun z => absurd e z⟩), fun z => absurd k1 z⟩, fun z => absurd f0 z⟩
      · refine bX10_fresh_0 A 12 hA _ _ _ ⟨fun _ => ⟨fun _ => ?_, fun z => absurd k2 z⟩, fun z => absurd g0 z⟩
        rw [k3]
        refine m_found (f := 6) hA (by omega) (by decide) ?_
        rw [ef]
        refine ⟨fun _ => bX10_fresh_44 A 12 hA _ ⟨fun _ => a4 ?_, fun z => absurd g0 z⟩, fun z => absurd e z⟩
        rw [k3]; exact q'
    · obtain ⟨hC', s1, s2, s3⟩ := F (u := 3) (by decide)
      refine ⟨hC.1 6 i, 0, hC', rfM hM 3, fC_tr rfC_f (stX_fC s1), rfM_f, fun q' => ?_, fun q' => ?_, Or.inr s2⟩
      · exact bX3_takeNewName_0 a 6 ha _ _ ⟨fun _ => c_kind R.1 ⟨fun _ => c_value R.1 (sp_indexOf ha hq (by decide) ⟨fun z => absurd z e, fun _ => s3 q'⟩), fun z => absurd k1 z⟩, fun z => absurd f0 z⟩
      · refine bX10_fresh_0 A 12 hA _ _ _ ⟨fun _ => ⟨fun _ => ?_, fun z => absurd k2 z⟩, fun z => absurd g0 z⟩
        rw [k3]
        refine m_found (f := 6) hA (by omega) (by decide) ?_
        rw [ef]
        exact ⟨fun z => absurd z e, fun _ => m_wrg g0 (bX10_fresh_44 A 12 hA _ ⟨fun z => absurd z (bm (by decide)), fun _ => q'⟩)⟩
  · obtain ⟨hC', s1, s2, s3⟩ := F (u := 1) (by decide)
    refine ⟨hC.1 6 i, 0, hC', rfM hM 1, fC_tr rfC_f (stX_fC s1), rfM_f, fun q' => ?_, fun q' => ?_, Or.inr s2⟩
    · exact bX3_takeNewName_0 a 6 ha _ _ ⟨fun _ => c_kind R.1 ⟨fun z => absurd z k1, fun _ => s3 q'⟩, fun z => absurd f0 z⟩
    · exact bX10_fresh_0 A 12 hA _ _ _ ⟨fun _ => ⟨fun z => absurd z k2, fun _ => m_wrg g0 (bX10_fresh_44 A 12 hA _ ⟨fun z => absurd z (bm (by decide)), fun _ => q'⟩)⟩, fun z => absurd g0 z⟩
/-- a name that is told: its place -/
theorem j_ind {a A q : Nat} {x2 x3 : Int32} (ha : GC.2.2.2.1[a]? = some (.inr (.int, 6))) (hA : (GM adK adV).2.2.2.1[A]? = some (.inr (.int, 12))) (hq : q ≤ 6) (J : RD τ i hC hM ∨ BD hC hM) (hr : RD τ i hC hM → x2 = nI q ∧ x3 = nI q ∧ ∀ p, p < q → hM.1 A (6 + p) = hC.1 a p) : ∃ z w hC' hM', fC y hC hC' ∧ fM hM hM' ∧ (∀ {l : Launch} {ad : Nat → Nat} {d : Nat} {Q : Int32 → aH → Prop}, Q z hC' → AW GC l ad (d + 1) mX3_toldIndex 0 [(0, .ref (ad 2)), (1, .ref (ad a)), (2, .int x2)] [] hC (qi Q)) ∧ (∀ {l : Launch} {ad : Nat → Nat} {d : Nat} {Q : Int32 → aH → Prop}, Q w hM' → AW (GM adK adV) l ad (d + 1) mX10_atHand 0 [(0, .ref (ad 0)), (1, .ref (ad A)), (2, .int (6 : Int32)), (3, .int x3)] [] hM (qi Q)) ∧ ((RD τ i hC hM ∧ hC' = hC ∧ hM' = hM ∧ hC.1 4 i = 35 ∧ ∃ x, x < q ∧ z = nI x ∧ w = nI x) ∨ (BD hC' hM' ∧ z = -1)) := by
  rcases J with R | B
  · obtain ⟨e2, e3, hr2⟩ := hr R
    subst e2
    subst e3
    have f0 := rd_c0 R
    have g0 := rd_m0 R
    have bm : ∀ {u : Int32}, ¬ u = 0 → ¬ (rfM hM u).1 0 29 = 0 := fun hu => bd_m (j_ref R hu)
    rcases tm_name (rd_tm R) with ⟨k1, k2, k3⟩ | ⟨k1, k2⟩
    · have ef : fdS (fun j => hM.1 A (6 + j)) (hC.1 6 i) 0 q = fdS (hC.1 a) (hC.1 6 i) 0 q := fdS_ext q 0 (fun j _ hj => hr2 j (by omega))
      rcases fd_res (F := hC.1 a) (x := hC.1 6 i) q 0 with ⟨e, -⟩ | ⟨x, -, hx, -, e⟩
      · refine ⟨-1, 0, rfC hC i 4, rfM hM 4, rfC_f, rfM_f, fun q' => ?_, fun q' => ?_, Or.inr ⟨j_ref R (by decide), rfl⟩⟩
        · refine bX3_toldIndex_0 a 6 ha _ _ ⟨fun _ => c_kind R.1 ⟨fun _ => c_value R.1 (sp_indexOf ha hq (by decide) ?_), fun z => absurd k1 z⟩, fun z => absurd f0 z⟩
          rw [e]
          exact ⟨fun z => absurd rfl z, fun _ => c_ref R q'⟩
        · refine bX10_atHand_0 A 12 hA _ _ _ ⟨fun _ => ⟨fun _ => ?_, fun z => absurd k2 z⟩, fun z => absurd g0 z⟩
          rw [k3]
          refine m_found (f := 6) hA (by omega) (by decide) ?_
          rw [ef]
          exact ⟨fun z => absurd e z, fun _ => m_wrg g0 (bX10_atHand_44 A 12 hA _ _ _ ⟨fun z => absurd z (bm (by decide)), fun _ => q'⟩)⟩
      · have ne : ¬ nI x = -1 := fun z => absurd (show nI x < 0 by rw [z]; decide) (nI_pos (by omega))
        refine ⟨nI x, nI x, hC, hM, fC_rfl, fM_rfl, fun q' => ?_, fun q' => ?_, Or.inl ⟨R, rfl, rfl, k1, x, by omega, rfl, rfl⟩⟩
        · refine bX3_toldIndex_0 a 6 ha _ _ ⟨fun _ => c_kind R.1 ⟨fun _ => c_value R.1 (sp_indexOf ha hq (by decide) ?_), fun z => absurd k1 z⟩, fun z => absurd f0 z⟩
          rw [e]
          exact ⟨fun _ => q', fun z => absurd z ne⟩
        · refine bX10_atHand_0 A 12 hA _ _ _ ⟨fun _ => ⟨fun _ => ?_, fun z => absurd k2 z⟩, fun z => absurd g0 z⟩
          rw [k3]
          refine m_found (f := 6) hA (by omega) (by decide) ?_
          rw [ef, e]
          refine ⟨fun _ => bX10_atHand_44 A 12 hA _ _ _ ⟨fun _ => ?_, fun z => absurd g0 z⟩, fun z => absurd z ne⟩
          rw [k3]
          refine m_found (f := 6) hA (by omega) (by decide) ?_
          rw [ef, e]
          exact q'
    · refine ⟨-1, 0, rfC hC i 1, rfM hM 1, rfC_f, rfM_f, fun q' => ?_, fun q' => ?_, Or.inr ⟨j_ref R (by decide), rfl⟩⟩
      · exact bX3_toldIndex_0 a 6 ha _ _ ⟨fun _ => c_kind R.1 ⟨fun z => absurd z k1, fun _ => c_ref R q'⟩, fun z => absurd f0 z⟩
      · exact bX10_atHand_0 A 12 hA _ _ _ ⟨fun _ => ⟨fun z => absurd z k2, fun _ => m_wrg g0 (bX10_atHand_44 A 12 hA _ _ _ ⟨fun z => absurd z (bm (by decide)), fun _ => q'⟩)⟩, fun z => absurd g0 z⟩
  · exact ⟨-1, 0, hC, hM, fC_rfl, fM_rfl, fun q => bX3_toldIndex_0 a 6 ha _ _ ⟨fun z => absurd z B.1, fun _ => q⟩, fun q => bX10_atHand_0 A 12 hA _ _ _ ⟨fun z => absurd z (bd_m B), fun _ => q⟩, Or.inr ⟨B, rfl⟩⟩
theorem nn1 {x : Nat} (h : x < 2 ^ 31) : ¬ nI x = -1 := fun z => absurd (show nI x < 0 by rw [z]; decide) (nI_pos h)
/-- a told name, and on; the reference writes it down between -/
theorem j_tlA {a A q aw p : Nat} {x2 x3 : Int32} (ha : GC.2.2.2.1[a]? = some (.inr (.int, 6))) (hA : (GM adK adV).2.2.2.1[A]? = some (.inr (.int, 12))) (hq : q ≤ 6) (hw : 2 ≤ aw ∧ aw ≤ 20 ∧ hf aw ≤ p) (J : RD τ i hC hM ∨ BD hC hM) (hr : RD τ i hC hM → x2 = nI q ∧ x3 = nI q ∧ ∀ p, p < q → hM.1 A (6 + p) = hC.1 a p) : ∃ z w hC' hM1 hM2, fC y hC hC' ∧ fM hM hM2 ∧ (∀ {l : Launch} {ad : Nat → Nat} {d : Nat} {Q : Int32 → aH → Prop}, Q z hC' → AW GC l ad (d + 2) mX3_takeToldName 0 [(0, .ref (ad 2)), (1, .ref (ad a)), (2, .int x2), (3, .int (-1 : Int32))] [] hC (qi Q)) ∧ (∀ {l : Launch} {ad : Nat → Nat} {d : Nat} {Q : Int32 → aH → Prop}, Q w hM1 → AW (GM adK adV) l ad (d + 1) mX10_atHand 0 [(0, .ref (ad 0)), (1, .ref (ad A)), (2, .int (6 : Int32)), (3, .int x3)] [] hM (qi Q)) ∧ (∀ {l : Launch} {ad : Nat → Nat} {d : Nat} {Q : aH → Prop}, Q hM2 → AW (GM adK adV) l ad (d + 6) mX10_goOn 0 [(0, .ref (ad 0))] [] (sI hM1 aw p w) (qv Q)) ∧ ((RD τ i hC hM ∧ RD τ (i + 1) hC' hM2 ∧ hC' = sI hC 2 2 (nI (i + 1)) ∧ frM (sI hM aw p w) hM2 ∧ ∃ x, x < q ∧ z = nI x ∧ w = nI x) ∨ BD hC' hM2) := by
  obtain ⟨z, w, hC1, hM1, f1, f2, r1, r2, ⟨R, e1, e2, k35, x, hx, ez, ew⟩ | ⟨B, ez⟩⟩ := j_ind (y := y) ha hA hq J hr
  · have nz : ¬ z = -1 := by rw [ez]; exact nn1 (by omega)
    obtain ⟨hM2, a1, a2, a3, a4⟩ := j_adv (adK := adK) (adV := adV) (rd_m (v := w) (k := p) (a := aw) R (Or.inl hw.1)) (by rw [k35]; decide)
    refine ⟨z, w, _, hM1, hM2, fC_s fC_rfl (by omega), fM_tr (fM_s fM_rfl (Or.inr hw)) (fM_fr a2), fun q' => ?_, r2, fun q' => ?_, Or.inl ⟨R, a1, rfl, a2, x, hx, ez, ew⟩⟩
    · refine bX3_takeToldName_0 a 6 ha _ _ _ (r1 ?_)
      rw [e1]
      exact ⟨fun q => absurd q nz, fun _ => ⟨fun _ => bX3_takeToldName_25 a 6 ha _ _ (a3 q'), fun q => absurd q nz⟩⟩
    · rw [e2]
      exact bX10_goOn_0 _ ⟨fun q => absurd (rd_m0 (rd_m (v := w) (k := p) (a := aw) R (Or.inl hw.1))) q, fun _ => a4 q'⟩
  · obtain ⟨hC2, s1, s2⟩ := c_stepX hC1
    have B2 : BD hC1 (sI hM1 aw p w) := bd_mw B (by omega)
    refine ⟨z, w, hC2, hM1, sI hM1 aw p w, fC_tr f1 (stX_fC s1), fM_s f2 (Or.inr hw), fun q' => ?_, r2, fun q' => ?_, Or.inr (stX_bd s1 B2)⟩
    · exact bX3_takeToldName_0 a 6 ha _ _ _ (r1 ⟨fun _ => bX3_takeToldName_25 a 6 ha _ _ (s2 q'), fun q => absurd ez q⟩)
    · exact bX10_goOn_0 _ ⟨fun _ => q', fun q => absurd q (bd_m B2)⟩
/-- the same, where it must be another one than one before -/
theorem j_tlB {a A q aw p : Nat} {x2 x3 x4 w0 : Int32} (ha : GC.2.2.2.1[a]? = some (.inr (.int, 6))) (hA : (GM adK adV).2.2.2.1[A]? = some (.inr (.int, 12))) (hq : q ≤ 6) (hw : 2 ≤ aw ∧ aw ≤ 20 ∧ hf aw ≤ p) (J : RD τ i hC hM ∨ BD hC hM) (hr : RD τ i hC hM → x2 = nI q ∧ x3 = nI q ∧ ∀ p, p < q → hM.1 A (6 + p) = hC.1 a p) (h0 : RD τ i hC hM → x4 = w0) : ∃ z w hC' hM1 hMx hM2, fC y hC hC' ∧ fM hM hM1 ∧ fM hM hM2 ∧ (∀ {l : Launch} {ad : Nat → Nat} {d : Nat} {Q : Int32 → aH → Prop}, Q z hC' → AW GC l ad (d + 2) mX3_takeToldName 0 [(0, .ref (ad 2)), (1, .ref (ad a)), (2, .int x2), (3, .int x4)] [] hC (qi Q)) ∧ (∀ {l : Launch} {ad : Nat → Nat} {d : Nat} {Q : Int32 → aH → Prop}, Q w hM1 → AW (GM adK adV) l ad (d + 1) mX10_atHand 0 [(0, .ref (ad 0)), (1, .ref (ad A)), (2, .int (6 : Int32)), (3, .int x3)] [] hM (qi Q)) ∧ (hM1.1 0 29 = 0 → hM1 = hM) ∧ (hM1.1 0 29 = 0 → w = w0 → ∀ {l : Launch} {ad : Nat → Nat} {d : Nat} {Q : aH → Prop}, Q hMx → AW (GM adK adV) l ad d mX10_wrong 0 [(0, .ref (ad 0)), (1, .int (5 : Int32))] [] (sI hM1 aw p w) (qv Q)) ∧ (¬ (hM1.1 0 29 = 0 ∧ w = w0) → hMx = sI hM1 aw p w) ∧ (∀ {l : Launch} {ad : Nat → Nat} {d : Nat} {Q : aH → Prop}, Q hM2 → AW (GM adK adV) l ad (d + 6) mX10_goOn 0 [(0, .ref (ad 0))] [] hMx (qv Q)) ∧ ((RD τ i hC hM ∧ RD τ (i + 1) hC' hM2 ∧ hC' = sI hC 2 2 (nI (i + 1)) ∧ frM (sI hM aw p w) hM2 ∧ ¬ w = w0 ∧ ∃ x, x < q ∧ z = nI x ∧ w = nI x) ∨ BD hC' hM2) := by
  obtain ⟨z, w, hC1, hM1, f1, f2, r1, r2, ⟨R, e1, e2, k35, x, hx, ez, ew⟩ | ⟨B, ez⟩⟩ := j_ind (y := y) ha hA hq J hr
  · have nz : ¬ z = -1 := by rw [ez]; exact nn1 (by omega)
    have R2 : RD τ i hC (sI hM aw p w) := rd_m R (Or.inl hw.1)
    have h4 := h0 R
    have ezw : z = w := ez.trans ew.symm
    by_cases e : w = w0
    · obtain ⟨hC2, s1, s2⟩ := c_stepX (rfC hC i 5)
      have B2 : BD (rfC hC i 5) (rfM (sI hM aw p w) 5) := j_ref R2 (by decide)
      refine ⟨z, w, hC2, hM1, rfM (sI hM aw p w) 5, rfM (sI hM aw p w) 5, fC_tr rfC_f (stX_fC s1), f2, fM_tr (fM_s fM_rfl (Or.inr hw)) rfM_f, fun q' => ?_, r2, fun _ => e2, fun _ _ => fun q' => ?_, fun q => absurd ⟨by rw [e2]; exact rd_m0 R, e⟩ q, fun q' => ?_, Or.inr (stX_bd s1 B2)⟩
      · refine bX3_takeToldName_0 a 6 ha _ _ _ (r1 ?_)
        rw [e1]
        exact ⟨fun q => absurd q nz, fun _ => ⟨fun q => absurd (ezw.trans (e.trans h4.symm)) q, fun _ => c_ref R (bX3_takeToldName_25 a 6 ha _ _ (s2 q'))⟩⟩
      · rw [e2]; exact m_wrg (rd_m0 R2) q'
      · exact bX10_goOn_0 _ ⟨fun _ => q', fun q => absurd q (bd_m B2)⟩
    · obtain ⟨hM2, a1, a2, a3, a4⟩ := j_adv (adK := adK) (adV := adV) R2 (by rw [k35]; decide)
      refine ⟨z, w, _, hM1, sI hM aw p w, hM2, fC_s fC_rfl (by omega), f2, fM_tr (fM_s fM_rfl (Or.inr hw)) (fM_fr a2), fun q' => ?_, r2, fun _ => e2, fun _ q => absurd q e, fun _ => by rw [e2], fun q' => ?_, Or.inl ⟨R, a1, rfl, a2, e, x, hx, ez, ew⟩⟩
      · refine bX3_takeToldName_0 a 6 ha _ _ _ (r1 ?_)
        rw [e1]
        exact ⟨fun q => absurd q nz, fun _ => ⟨fun _ => bX3_takeToldName_25 a 6 ha _ _ (a3 q'), fun q => absurd (ezw.symm.trans (q.trans h4)) e⟩⟩
      · exact bX10_goOn_0 _ ⟨fun q => absurd (rd_m0 R2) q, fun _ => a4 q'⟩
  · obtain ⟨hC2, s1, s2⟩ := c_stepX hC1
    have B2 : BD hC1 (sI hM1 aw p w) := bd_mw B (by omega)
    refine ⟨z, w, hC2, hM1, sI hM1 aw p w, sI hM1 aw p w, fC_tr f1 (stX_fC s1), f2, fM_s f2 (Or.inr hw), fun q' => ?_, r2, fun q => absurd q (bd_m B), fun q => absurd q (bd_m B), fun _ => rfl, fun q' => ?_, Or.inr (stX_bd s1 B2)⟩
    · exact bX3_takeToldName_0 a 6 ha _ _ _ (r1 ⟨fun _ => bX3_takeToldName_25 a 6 ha _ _ (s2 q'), fun q => absurd ez q⟩)
    · exact bX10_goOn_0 _ ⟨fun _ => q', fun q => absurd q (bd_m B2)⟩
end RN
