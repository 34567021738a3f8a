/-! ===== the parts of an E; an E whole ===== -/
section LV4
variable {l l' : Launch} {ad ad' adK adV : Nat → Nat} {τ : tX} {i y lw f q K p s o B : Nat} {hC hM h : aH}
theorem li_open {o' : Nat} (L : LI y lw f q K p s o hC hM) : LI y lw f q K p s o' hC (sI hM 0 33 (nI o')) := by
  obtain ⟨h1, h2, h3, h4, h5, h6, h7, h8, h9, h10⟩ := L
  refine ⟨h1, (sI_c (by decide)).trans h2, h3, h4, fun i hi => ?_, h6, h7, h8, (sI_k (by decide)).trans h9, sI_s⟩
  rw [sI_c (by decide), sI_c (by decide)]
  exact h5 i hi
theorem m_goB {d : Nat} {Q : aH → Prop} (h0 : ¬ h.1 0 29 = 0) (qq : Q h) : AW (GM adK adV) l' ad' (d + 1) mX10_goOn 0 [(0, .ref (ad' 0))] [] h (qv Q) := bX10_goOn_0 _ ⟨fun _ => qq, fun z => absurd z h0⟩
theorem pr_B {d : Nat} {x1 : Int32} {Q : aH → Prop} (h0 : ¬ h.1 0 29 = 0) (qq : Q h) : AW (GM adK adV) l' ad' (d + 2) mX10_primary 162 [(0, .ref (ad' 0)), (1, .int x1)] [] h (qv Q) := by
  have f194 : ∀ {a b : Int32}, AW (GM adK adV) l' ad' (d + 2) mX10_primary 194 [(0, .ref (ad' 0))] [.int a, .int b, .ref (ad' 0)] h (qv Q) := fun {a b} => bX10_primary_194 _ _ _ (m_putB h0 (m_goB h0 qq))
  have f176 : ∀ {a : Int32}, AW (GM adK adV) l' ad' (d + 2) mX10_primary 176 [(0, .ref (ad' 0)), (1, .int x1)] [.int a, .ref (ad' 0)] h (qv Q) := fun {a} => bX10_primary_176 _ _ _ ⟨fun _ => f194, fun _ => f194⟩
  exact bX10_primary_162 _ _ (bX10_knot_0 _ ⟨fun z => absurd z h0, fun _ => ⟨fun _ => f176, fun _ => f176⟩⟩)
theorem ex_part (ho : o ≤ 8) (hb : 10 ≤ B) (A : lwA y lw) (sub : o < 8 → EX l ad l' ad' adK adV τ y lw f 0 (o + 1) mX10_expression B) : EX l ad l' ad' adK adV τ y lw f 6 o mX10_primary (B + 1) := by
  have HL := lwA_L A
  have hd6 : ∀ {d : Nat} {h : aH} {Q : aH → Prop}, AW GC l ad d mX3_readPart 0 [(0, .ref (ad 2)), (1, .int (nI o)), (2, .ref (ad lw))] [] h (qv Q) → AW GC l ad (d + 1) mX3_readLevel 0 [(0, .ref (ad 2)), (1, .int (nI 6)), (2, .int (nI o)), (3, .ref (ad lw))] [] h (qv Q) := fun H => bX3_readLevel_0 lw HL _ _ _ ⟨fun z => absurd z (by decide), fun _ => H⟩
  intro K0 p s hC hM ey g
  rcases g with ⟨i, q, K, hK, R, L⟩ | b
  · have f0 := rd_c0 R
    have g0 := rd_m0 R
    have hq64 : q ≤ 64 := by
      have := L.2.2.2.2.2.1
      have := L.2.2.2.2.2.2.1
      omega
    -- a fault here, on both sides
    have flt : ∀ u : Int32, ¬ u = 0 → GL τ y lw f (K0 + 1) p (s + 1) o (rfC hC i u) (rfM hM u) := fun u hu => by
      refine Or.inr ⟨j_ref R hu, q, hq64, ?_⟩
      unfold lwA at A
      unfold rfC
      rw [sI_c (by omega), sI_c (by omega)]
      exact L.1
    have bm : ∀ u : Int32, ¬ u = 0 → ¬ (rfM hM u).1 0 29 = 0 := fun u hu => bd_m (j_ref R hu)
    rcases dec22 (rd_tm R) with ⟨k1, k2, k3⟩ | ⟨k1, k2⟩
    · have bm0 : ∀ {d : Nat} {Q : aH → Prop}, ((¬ hM.1 0 33 = (8 : Int32) → AW (GM adK adV) l' ad' (d + 1) mX10_primary 31 [(0, .ref (ad' 0))] [] hM (qv Q)) ∧ (hM.1 0 33 = (8 : Int32) → AW (GM adK adV) l' ad' d mX10_wrong 0 [(0, .ref (ad' 0)), (1, .int (2 : Int32))] [] hM (qv fun h4 => AW (GM adK adV) l' ad' (d + 1) mX10_primary 31 [(0, .ref (ad' 0))] [] h4 (qv Q)))) → AW (GM adK adV) l' ad' (d + 1) mX10_primary 0 [(0, .ref (ad' 0))] [] hM (qv Q) := fun H => bX10_primary_0 _ ⟨fun _ => m_isSn (fun _ _ _ => ⟨fun z => absurd z (by decide), fun _ => H⟩) (fun z => absurd ⟨k2, k3⟩ (z g0)), fun z => absurd g0 z⟩
      have e33 := L.2.2.2.2.2.2.2.2.2
      by_cases w : o < 8
      · have R2 : RD τ i hC (sI hM 0 33 (nI (o + 1))) := rd_m R (by omega)
        obtain ⟨hM1, a1, a2, a3, a4⟩ := j_adv (adK := adK) (adV := adV) R2 (by rw [k1]; decide)
        have L1 := li_adv A (li_open (o' := o + 1) L) (v := nI (i + 1)) a2
        have g1 : GL τ y lw f K0 p s (o + 1) _ _ := Or.inl ⟨i + 1, q, K, by omega, a1, L1⟩
        obtain ⟨hC2, hM2, c2, m2, r1, r2, g2⟩ := sub w _ _ _ _ _ (by exact ey) g1
        have cc : lC y lw hC hC2 := lC_tr (lC_s lC_rfl (by omega)) c2
        have mm : lM f hM hM2 := lM_tr (lM_s lM_rfl (by omega)) (lM_tr (lM_fr a2) m2)
        have cstart : ∀ {d : Nat} {Q : aH → Prop}, 5 + 8 * (8 - o) ≤ d + 2 → AW GC l ad d mX3_take 0 [(0, .ref (ad 2)), (1, .int (23 : Int32))] [] hC2 (qv Q) → AW GC l ad (d + 1 + 1) mX3_readLevel 0 [(0, .ref (ad 2)), (1, .int (nI 6)), (2, .int (nI o)), (3, .ref (ad lw))] [] hC (qv Q) := by
          intro d Q hd H
          refine hd6 (bX3_readPart_0 lw HL _ _ ⟨fun _ => c_kind R.1 ⟨fun z => absurd k1 z, fun _ => ⟨fun _ => bX3_readPart_54 lw HL _ _ _ _ ⟨fun _ => ⟨fun z => absurd k1 z, fun _ => a3 ?_⟩, fun z => absurd rfl z⟩, fun z => absurd (nI_lt (b := 8) w (by decide)) z⟩⟩, fun z => absurd f0 z⟩)
          rw [nI_1]
          exact r1 _ (by omega) _ H
        have mstart : ∀ {d : Nat} {Q : aH → Prop}, B + (65 - K0) ≤ d → 10 ≤ d → ((¬ (hM2.1 0 29) = 0 → (AW (GM adK adV) l' ad' (d + 1) mX10_primary 78 [(0, .ref (ad' 0))] [] hM2 (qv Q))) ∧ ((hM2.1 0 29) = 0 → (AW (GM adK adV) l' ad' d mX10_isSign 0 [(0, .ref (ad' 0)), (1, .int (41 : Int32))] [] hM2 (qi fun z6 h5 => (¬ z6 = 0 → (AW (GM adK adV) l' ad' (d + 1) mX10_primary 78 [(0, .ref (ad' 0))] [] h5 (qv Q))) ∧ (z6 = 0 → (AW (GM adK adV) l' ad' d mX10_wrong 0 [(0, .ref (ad' 0)), (1, .int (1 : Int32))] [] h5 (qv fun h7 => AW (GM adK adV) l' ad' (d + 1) mX10_primary 78 [(0, .ref (ad' 0))] [] h7 (qv Q)))))))) → AW (GM adK adV) l' ad' (d + 1) mX10_primary 0 [(0, .ref (ad' 0))] [] hM (qv Q) := by
          intro d Q hd hd2 H
          obtain ⟨e, rfl⟩ : ∃ e, d = e + 5 := ⟨d - 5, by omega⟩
          refine bm0 ⟨fun _ => bX10_primary_31 _ ⟨fun _ => ?_, fun z => absurd g0 z⟩, fun z => ?_⟩
          · rw [e33, nI_1]
            exact a4 (r2 _ (by omega) _ H)
          · rw [e33] at z
            have := (nI_eq (b := 8) (by omega) (by decide)).mp z
            omega
        rcases g2 with ⟨i2, q2, K2, hK2, R3, L2⟩ | b2
        · rcases dec23 (rd_tm R3) with ⟨n1, n2, n3⟩ | ⟨n1, n2⟩
          · have R4 : RD τ i2 hC2 (sI hM2 0 33 (nI o)) := rd_m R3 (by omega)
            obtain ⟨hM3, b1, b2, b3, b4⟩ := j_adv (adK := adK) (adV := adV) R4 (by rw [n1]; decide)
            refine ⟨_, hM3, lC_s cc (by omega), lM_tr (lM_s mm (by omega)) (lM_fr b2), fun d hd Q qq => ?_, fun d hd Q qq => ?_, Or.inl ⟨i2 + 1, q2, K2, by omega, b1, li_adv A (li_open L2) b2⟩⟩
            · obtain ⟨e, rfl⟩ : ∃ e, d = e + 1 + 1 + 1 := ⟨d - 3, by omega⟩
              exact cstart (by omega) (bX3_take_0 _ _ ⟨fun _ => c_kind R3.1 ⟨fun z => absurd n1 z, fun _ => b3 qq⟩, fun z => absurd (rd_c0 R3) z⟩)
            · obtain ⟨e, rfl⟩ : ∃ e, d = e + 5 + 1 := ⟨d - 6, by omega⟩
              refine mstart (by omega) (by omega) ⟨fun z => absurd (rd_m0 R3) z, fun _ => m_isSn (fun _ _ _ => ⟨fun _ => bX10_primary_78 _ ⟨fun _ => ?_, fun z => absurd (rd_m0 R3) z⟩, fun z => absurd z (by decide)⟩) (fun z => absurd ⟨n2, n3⟩ (z (rd_m0 R3)))⟩
              have e34 : hM2.1 0 33 - (1 : Int32) = nI o := by
                rw [L2.2.2.2.2.2.2.2.2.2]
                exact nI_sub' (a := o + 1) (b := 1) (by omega)
              rw [e34]
              exact b4 qq
          · have B3 := j_ref (x := 1) R3 (by decide)
            have hq2 : q2 ≤ 64 := by
              have := L2.2.2.2.2.2.1
              have := L2.2.2.2.2.2.2.1
              omega
            refine ⟨rfC hC2 i2 1, rfM hM2 1, lC_tr cc lC_rf, lM_tr mm lM_rf, fun d hd Q qq => ?_, fun d hd Q qq => ?_, Or.inr ⟨B3, q2, hq2, ?_⟩⟩
            · obtain ⟨e, rfl⟩ : ∃ e, d = e + 1 + 1 + 1 := ⟨d - 3, by omega⟩
              exact cstart (by omega) (bX3_take_0 _ _ ⟨fun _ => c_kind R3.1 ⟨fun _ => c_ref R3 qq, fun z => absurd z n1⟩, fun z => absurd (rd_c0 R3) z⟩)
            · obtain ⟨e, rfl⟩ : ∃ e, d = e + 5 + 1 := ⟨d - 6, by omega⟩
              exact mstart (by omega) (by omega) ⟨fun z => absurd (rd_m0 R3) z, fun _ => m_isSn (fun _ z2 z3 => absurd ⟨z2, z3⟩ n2) (fun _ => ⟨fun z => absurd rfl z, fun _ => m_wrg (rd_m0 R3) (bX10_primary_78 _ ⟨fun z => absurd z (bd_m B3), fun _ => qq⟩)⟩)⟩
            · unfold lwA at A
              unfold rfC
              rw [sI_c (by omega), sI_c (by omega)]
              exact L2.1
        · refine ⟨hC2, hM2, cc, mm, fun d hd Q qq => ?_, fun d hd Q qq => ?_, Or.inr b2⟩
          · obtain ⟨e, rfl⟩ : ∃ e, d = e + 1 + 1 + 1 := ⟨d - 3, by omega⟩
            exact cstart (by omega) (bX3_take_0 _ _ ⟨fun z => absurd z b2.1.1, fun _ => qq⟩)
          · obtain ⟨e, rfl⟩ : ∃ e, d = e + 5 + 1 := ⟨d - 6, by omega⟩
            exact mstart (by omega) (by omega) ⟨fun _ => bX10_primary_78 _ ⟨fun z => absurd z (bd_m b2.1), fun _ => qq⟩, fun z => absurd z (bd_m b2.1)⟩
      · have eo : o = 8 := by omega
        refine ⟨rfC hC i 2, rfM hM 2, lC_rf, lM_rf, fun d hd Q qq => ?_, fun d hd Q qq => ?_, flt 2 (by decide)⟩
        · obtain ⟨e, rfl⟩ : ∃ e, d = e + 1 + 1 := ⟨d - 2, by omega⟩
          exact hd6 (bX3_readPart_0 lw HL _ _ ⟨fun _ => c_kind R.1 ⟨fun z => absurd k1 z, fun _ => ⟨fun z => absurd z (nI_nlt (b := 8) (by omega) (by omega)), fun _ => bX3_readPart_54 lw HL _ _ _ _ ⟨fun z => absurd z (by decide), fun _ => c_ref R qq⟩⟩⟩, fun z => absurd f0 z⟩)
        · obtain ⟨e, rfl⟩ : ∃ e, d = e + 1 := ⟨d - 1, by omega⟩
          refine bm0 ⟨fun z => absurd ?_ z, fun _ => m_wrg g0 (bX10_primary_31 _ ⟨fun z => absurd z (bm 2 (by decide)), fun _ => qq⟩)⟩
          rw [e33, eo]; rfl
    · -- no bracket
      have mst : ∀ {d : Nat} {Q : aH → Prop}, ((¬ (hM.1 0 27) = (2 : Int32) → (AW (GM adK adV) l' ad' (d + 1) mX10_primary 114 [(0, .ref (ad' 0))] [.int (0 : Int32)] hM (qv Q))) ∧ ((hM.1 0 27) = (2 : Int32) → (AW (GM adK adV) l' ad' (d + 1) mX10_primary 114 [(0, .ref (ad' 0))] [.int (1 : Int32)] hM (qv Q)))) → AW (GM adK adV) l' ad' (d + 1) mX10_primary 0 [(0, .ref (ad' 0))] [] hM (qv Q) := fun H => bX10_primary_0 _ ⟨fun _ => m_isSn (fun _ z2 z3 => absurd ⟨z2, z3⟩ k2) (fun _ => ⟨fun _ => H, fun z => absurd rfl z⟩), fun z => absurd g0 z⟩
      rcases dec_pt (rd_tm R) k1 with ⟨n1, n2, x, x', v1, v2, v3, v4, v5⟩ | ⟨j, hj, n1, n2, n3⟩ | ⟨n1, n2, n3, n4⟩
      · have n22 : ¬ (34 : Int32) = 22 := by decide
        by_cases ok : x ≤ 9999
        · have ex : x' = x := by omega
          subst ex
          have pz : partsN (64 + hC.1 6 i) = 0 := by
            rw [v1, show (64 : Int32) + nI x' = nI (64 + x') from nI_add 64 x']
            unfold partsN
            rw [if_pos (show (64 : Int32) ≤ nI (64 + x') from nI_le (a := 64) (by omega) (by omega))]
          obtain ⟨hC1, hC2, hM1, hM2, hM3, c1, m1, r1, r2, r3, e28, r4, r5, g1⟩ := j_leaf (adK := adK) (adV := adV) (c := 64 + hC.1 6 i) (u := 0) (v := hM.1 0 28) A ey hK R L (by rw [n1]; decide) (Or.inl ⟨rfl, x', ok, v2, by rw [v1]; exact nI_add 64 x'⟩) pz
          refine ⟨hC2, hM3, c1, m1, fun d hd Q qq => ?_, fun d hd Q qq => ?_, g1⟩
          · obtain ⟨e, rfl⟩ : ∃ e, d = e + 1 + 1 + 1 := ⟨d - 3, by omega⟩
            refine hd6 (bX3_readPart_0 lw HL _ _ ⟨fun _ => c_kind R.1 ⟨fun _ => ⟨fun z => absurd n1 z, fun _ => c_value R.1 ⟨fun _ => bX3_readPart_53 lw HL _ _ _ (bX3_readPart_54 lw HL _ _ _ _ ⟨fun _ => ⟨fun _ => ⟨fun z => absurd n1 z, fun _ => c_value R.1 (r1 (r2 qq))⟩, fun z => absurd z k1⟩, fun z => absurd rfl z⟩), fun z => ?_⟩⟩, fun z => absurd z k1⟩, fun z => absurd f0 z⟩)
            rw [v1] at z
            exact absurd (nI_le (b := 9999) ok (by decide)) z
          · obtain ⟨e, rfl⟩ : ∃ e, d = e + 6 + 1 := ⟨d - 7, by omega⟩
            refine mst ⟨fun z => absurd n2 z, fun _ => bX10_primary_114 _ _ ⟨fun z => absurd z (by decide), fun _ => ⟨fun _ => bX10_primary_137 _ _ ⟨fun _ => bX10_primary_162 _ _ (r3 ⟨fun z => absurd z (by decide), fun _ => bX10_primary_176 _ _ _ ⟨fun z => absurd z (by decide), fun _ => bX10_primary_194 _ _ _ ?_⟩⟩), fun z => absurd z (by decide)⟩, fun z => ?_⟩⟩⟩
            · rw [e28]
              exact r4 (r5 qq)
            · rw [v2] at z
              exact absurd (nI_le (b := 9999) ok (by decide)) z
        · refine ⟨rfC hC i 2, rfM hM 2, lC_rf, lM_rf, fun d hd Q qq => ?_, fun d hd Q qq => ?_, flt 2 (by decide)⟩
          · obtain ⟨e, rfl⟩ : ∃ e, d = e + 1 + 1 := ⟨d - 2, by omega⟩
            refine hd6 (bX3_readPart_0 lw HL _ _ ⟨fun _ => c_kind R.1 ⟨fun _ => ⟨fun z => absurd n1 z, fun _ => c_value R.1 ⟨fun z => ?_, fun _ => bX3_readPart_54 lw HL _ _ _ _ ⟨fun z => absurd z (by decide), fun _ => c_ref R qq⟩⟩⟩, fun z => absurd z k1⟩, fun z => absurd f0 z⟩)
            rw [v1] at z
            exact absurd ((nI_leI (b := 9999) (by omega) (by decide)).mp z) ok
          · obtain ⟨e, rfl⟩ : ∃ e, d = e + 2 := ⟨d - 2, by omega⟩
            refine mst ⟨fun z => absurd n2 z, fun _ => bX10_primary_114 _ _ ⟨fun z => absurd z (by decide), fun _ => ⟨fun z => ?_, fun _ => m_wrg g0 (pr_B (bm 2 (by decide)) qq)⟩⟩⟩
            rw [v2] at z
            have := (nI_leI (b := 9999) (by omega) (by decide)).mp z
            omega
      · have pz : ∀ j, j < 7 → partsN (nI (14 + j)) = 0 ∧ ¬ nI (14 + j) = 34 ∧ ¬ nI (14 + j) < 14 ∧ ¬ 20 < nI (14 + j) ∧ (14 : Int32) ≤ nI (14 + j) ∧ nI (14 + j) - 14 = nI j := by decide +kernel
        obtain ⟨p1, p2, p3, p4, p5, p6⟩ := pz j hj
        have q36 : ∀ j, j < 7 → ¬ nI (14 + j) = 36 := by decide +kernel
        have n36 : ¬ hC.1 4 i = 36 := by rw [n1]; exact q36 j hj
        obtain ⟨hC1, hC2, hM1, hM2, hM3, c1, m1, r1, r2, r3, e28, r4, r5, g1⟩ := j_leaf (adK := adK) (adV := adV) (c := hC.1 4 i) (u := 1) (v := hM.1 0 28 - 14) A ey hK R L n36 (Or.inr (Or.inl ⟨rfl, j, hj, by rw [n3]; exact p6, n1⟩)) (by rw [n1]; exact p1)
        refine ⟨hC2, hM3, c1, m1, fun d hd Q qq => ?_, fun d hd Q qq => ?_, g1⟩
        · obtain ⟨e, rfl⟩ : ∃ e, d = e + 1 + 1 + 1 := ⟨d - 3, by omega⟩
          have n34 : ¬ hC.1 4 i = 34 := by rw [n1]; exact p2
          exact hd6 (bX3_readPart_0 lw HL _ _ ⟨fun _ => c_kind R.1 ⟨fun _ => ⟨fun _ => bX3_readPart_53 lw HL _ _ _ (bX3_readPart_54 lw HL _ _ _ _ ⟨fun _ => ⟨fun _ => ⟨fun _ => ⟨fun z => absurd z (by rw [n1]; exact p3), fun _ => ⟨fun z => absurd z (by rw [n1]; exact p4), fun _ => r1 (r2 qq)⟩⟩, fun z => absurd z n34⟩, fun z => absurd z k1⟩, fun z => absurd rfl z⟩), fun z => absurd z n34⟩, fun z => absurd z k1⟩, fun z => absurd f0 z⟩)
        · obtain ⟨e, rfl⟩ : ∃ e, d = e + 6 + 1 := ⟨d - 7, by omega⟩
          refine mst ⟨fun _ => bX10_primary_114 _ _ ⟨fun _ => bX10_primary_137 _ _ ⟨fun z => absurd rfl z, fun _ => ⟨fun z => absurd n2 z, fun _ => ⟨fun _ => bX10_primary_162 _ _ (r3 ⟨fun _ => bX10_primary_176 _ _ _ ⟨fun _ => bX10_primary_194 _ _ _ ?_, fun z => absurd rfl z⟩, fun z => absurd rfl z⟩), fun z => absurd (by rw [n3]; exact p5) z⟩⟩⟩, fun z => absurd rfl z⟩, fun z => ?_⟩
          · rw [e28]
            exact r4 (r5 qq)
          · rw [n2] at z
            exact absurd z (by decide)
      · refine ⟨rfC hC i 1, rfM hM 1, lC_rf, lM_rf, fun d hd Q qq => ?_, fun d hd Q qq => ?_, flt 1 (by decide)⟩
        · obtain ⟨e, rfl⟩ : ∃ e, d = e + 1 + 1 := ⟨d - 2, by omega⟩
          have f145 : AW GC l ad (e + 1) mX3_readPart 145 [(0, .ref (ad 2))] [] hC (qv Q) := bX3_readPart_145 lw HL _ (c_ref R qq)
          refine hd6 (bX3_readPart_0 lw HL _ _ ⟨fun _ => c_kind R.1 ⟨fun _ => ⟨fun _ => bX3_readPart_53 lw HL _ _ _ (bX3_readPart_54 lw HL _ _ _ _ ⟨fun _ => ⟨fun _ => ⟨fun _ => ⟨fun _ => f145, fun z => ⟨fun _ => f145, fun z2 => ?_⟩⟩, fun z => absurd z n1⟩, fun z => absurd z k1⟩, fun z => absurd rfl z⟩), fun z => absurd z n1⟩, fun z => absurd z k1⟩, fun z => absurd f0 z⟩)
          exfalso
          rcases n2 with w | w
          · exact z w
          · exact z2 w
        · obtain ⟨e, rfl⟩ : ∃ e, d = e + 2 := ⟨d - 2, by omega⟩
          have f157 : AW (GM adK adV) l' ad' (e + 2) mX10_primary 157 [(0, .ref (ad' 0)), (1, .int (0 : Int32))] [] hM (qv Q) := bX10_primary_157 _ _ (m_wrg g0 (pr_B (bm 1 (by decide)) qq))
          refine mst ⟨fun _ => bX10_primary_114 _ _ ⟨fun _ => bX10_primary_137 _ _ ⟨fun z => absurd rfl z, fun _ => ⟨fun _ => f157, fun z => ⟨fun z2 => ?_, fun _ => f157⟩⟩⟩, fun z => absurd rfl z⟩, fun z => absurd z n3⟩
          exfalso
          rcases n4 with w | w
          · exact w z
          · exact w z2
  · refine ⟨hC, hM, lC_rfl, lM_rfl, fun d hd Q qq => ?_, fun d hd Q qq => ?_, Or.inr b⟩
    · obtain ⟨e, rfl⟩ : ∃ e, d = e + 1 + 1 := ⟨d - 2, by omega⟩
      exact hd6 (bX3_readPart_0 lw HL _ _ ⟨fun z => absurd z b.1.1, fun _ => qq⟩)
    · obtain ⟨e, rfl⟩ : ∃ e, d = e + 1 := ⟨d - 1, by omega⟩
      exact bX10_primary_0 _ ⟨fun z => absurd z (bd_m b.1), fun _ => qq⟩
/-- an E -/
theorem ex_all (A : lwA y lw) : ∀ r o, o + r = 8 → EX l ad l' ad' adK adV τ y lw f 0 o mX10_expression (6 * r + 20) := by
  intro r
  induction r with
  | zero =>
    intro o ho
    exact ex_expr (B := 19) (by decide) A (ex_conj (B := 18) (by decide) A (ex_neg (B := 17) (by decide) A (ex_sum (B := 16) (by decide) A (ex_product (B := 15) (by decide) A (ex_part (B := 14) (by omega) (by decide) A (fun z => absurd z (by omega)))))))
  | succ r ih =>
    intro o ho
    exact ex_expr (B := 6 * r + 25) (by omega) A (ex_conj (B := 6 * r + 24) (by omega) A (ex_neg (B := 6 * r + 23) (by omega) A (ex_sum (B := 6 * r + 22) (by omega) A (ex_product (B := 6 * r + 21) (by omega) A (ex_part (B := 6 * r + 20) (by omega) (by omega) A (fun _ => ih (o + 1) (by omega)))))))
end LV4
