/-! ===== line behind line, on both sides ===== -/
theorem sq_same {σ S σ' S' : wT} {T T' : Int32} {m t n D K : Nat} (Q : SQ σ S T m t n D K) (co : ∀ j k, ¬ (j = 0 ∧ k = 18) → σ' j k = σ j k) (mo : S' = S) (hT : T' = T) : SQ σ' S' T' m t n D K := by
  subst mo
  subst hT
  obtain ⟨⟨n1, n2, n3, n4, n5, n6, n7, n8, n9, n10, n11, n12, n13, n14, n15, n16⟩, QM, QT, QD, QL, QW, QB, k1, k2, k3⟩ := Q
  refine ⟨⟨?_, n2, n3, ?_, n5, n6, ?_, n8, n9, ?_, n11, n12, ?_, ?_, ?_, ?_⟩, qM_ext (fun j p h _ => co _ _ (by omega)) (fun a p h _ => rfl) QM, qT_ext (fun j p h _ => co _ _ (by omega)) (fun a p h _ => rfl) QT, qD_ext (Nat.le_refl _) (Nat.le_refl _) (fun j i h1 h2 _ => co _ _ (by omega)) (fun a i h1 h2 _ => rfl) QD, qL_ext (Nat.le_refl _) (fun j i h1 h2 _ => co _ _ (by omega)) (fun a i h1 h2 _ => rfl) QL, fun k hk => qW_ext (Nat.le_refl _) (co _ _ (by omega)) (fun i => co _ _ (by omega)) rfl rfl (fun a i h _ => rfl) (QW k hk), qB_ext ⟨rfl, rfl, fun _ _ => rfl⟩ (co _ _ (by omega)) (co _ _ (by omega)) (fun k hk => co _ _ (by omega)) QB, ?_, k2, k3⟩
  all_goals rw [co _ _ (by omega)]
  · exact n1
  · exact n4
  · exact n7
  · exact n10
  · exact n13
  · exact n14
  · exact n15
  · exact n16
  · exact k1
section LP
variable {l l' : Launch} {ad ad' adK adV : Nat → Nat} {τ : tX} {y : Nat}
/-- all lines -/
theorem rd_loop (Y : y = 8 ∨ y = 37) : ∀ fu i it m t n D K hC hM, τ.2.2.1 < i + fu → it ≤ i → hC.2.2 2 1 = y → RD τ i hC hM → SR y hC hM m t n D K → ∃ hC' hM', fC y hC hC' ∧ fM hM hM' ∧ (∀ {d : Nat} {Q : Int32 → aH → Prop}, AW GC l ad (d + 82) mX3_read 85 [(0, .ref (ad 2))] [] hC' (qi Q) → AW GC l ad (d + 82) mX3_read 33 [(0, .ref (ad 2)), (3, .int (nI it))] [] hC (qi Q)) ∧ (∀ {d : Nat} {Q : Int32 → aH → Prop}, AW (GM adK adV) l' ad' (d + 151) mX10_text 139 [(0, .ref (ad' 0))] [] hM' (qi Q) → AW (GM adK adV) l' ad' (d + 151) mX10_text 117 [(0, .ref (ad' 0))] [] hM (qi Q)) ∧ ((∃ i' m t n D K, RD τ i' hC' hM' ∧ SR y hC' hM' m t n D K) ∨ BD hC' hM') := by
  have HS := yS Y
  have ha : GC.2.2.2.1[1]? = some (.inr (.int, 700)) := rfl
  intro fu
  induction fu with
  | zero =>
    intro i it m t n D K hC hM hf hi ey R Z
    exfalso
    have := R.1.1
    omega
  | succ fu ih =>
    intro i it m t n D K hC hM hf hi ey R Z
    rcases tm_end (rd_tm R) with ⟨e1, e2⟩ | ⟨e1, e2⟩
    · refine ⟨hC, hM, fC_rfl, fM_rfl, fun H => bX3_read_33 1 700 ha _ _ ⟨fun _ => H, fun _ => ⟨fun _ => H, fun _ => c_kind R.1 ⟨fun _ => H, fun z => absurd e1 z⟩⟩⟩, fun H => bX10_text_117 _ ⟨fun _ => H, fun _ => ⟨fun _ => H, fun z => absurd e2 z⟩⟩, Or.inl ⟨i, m, t, n, D, K, R, Z⟩⟩
    · have hic := rdj_lt R e1
      have hc7 := R.1.2.1
      obtain ⟨hC1, hM1, f1, g1, r1, r2, P⟩ := ln_any (l := l) (ad := ad) (l' := l') (ad' := ad') (adK := adK) (adV := adV) Y ey R Z e1
      have ey1 : hC1.2.2 2 1 = y := by rw [f1.1]; exact ey
      have cst : ∀ {d : Nat} {hh : aH} {Q : Int32 → aH → Prop}, hh.2.2 2 1 = y → (∀ {R : aH → Prop}, R hh → AW GC l ad (d + 81) mX3_take 0 [(0, .ref (ad 2)), (1, .int (21 : Int32))] [] hC1 (qv R)) → AW GC l ad (d + 82) mX3_read 33 [(0, .ref (ad 2)), (3, .int (nI (it + 1)))] [] (sI hh y 18 (hh.1 y 18 + 1)) (qi Q) → AW GC l ad (d + 82) mX3_read 33 [(0, .ref (ad 2)), (3, .int (nI it))] [] hC (qi Q) := by
        intro d hh Q hy tk H
        refine bX3_read_33 1 700 ha _ _ ⟨fun z => absurd z (nI_ge (b := 700) (by omega) (by decide)), fun _ => ⟨fun z => absurd (rd_c0 R) z, fun _ => c_kind R.1 ⟨fun z => absurd z e1, fun _ => r1 (tk (mref hy ⟨HS, ?_⟩))⟩⟩⟩
        rw [nI_1]
        exact H
      have mst : ∀ {d : Nat} {Q : Int32 → aH → Prop}, AW (GM adK adV) l' ad' (d + 150) mX10_line 0 [(0, .ref (ad' 0))] [] hM (qv fun h1 => AW (GM adK adV) l' ad' (d + 151) mX10_text 117 [(0, .ref (ad' 0))] [] h1 (qi Q)) → AW (GM adK adV) l' ad' (d + 151) mX10_text 117 [(0, .ref (ad' 0))] [] hM (qi Q) := fun H => bX10_text_117 _ ⟨fun z => absurd (rd_m0 R) z, fun _ => ⟨fun z => absurd z e2, fun _ => H⟩⟩
      -- a fault: the loops end
      have cB : ∀ {d : Nat} {hh : aH} {Q : Int32 → aH → Prop}, ¬ hh.1 2 3 = 0 → AW GC l ad (d + 82) mX3_read 85 [(0, .ref (ad 2))] [] hh (qi Q) → AW GC l ad (d + 82) mX3_read 33 [(0, .ref (ad 2)), (3, .int (nI (it + 1)))] [] hh (qi Q) := fun hb H => bX3_read_33 1 700 ha _ _ ⟨fun _ => H, fun _ => ⟨fun _ => H, fun z => absurd z hb⟩⟩
      have mB : ∀ {d : Nat} {hh : aH} {Q : Int32 → aH → Prop}, ¬ hh.1 0 29 = 0 → AW (GM adK adV) l' ad' (d + 151) mX10_text 139 [(0, .ref (ad' 0))] [] hh (qi Q) → AW (GM adK adV) l' ad' (d + 151) mX10_text 117 [(0, .ref (ad' 0))] [] hh (qi Q) := fun hb H => bX10_text_117 _ ⟨fun _ => H, fun z => absurd z hb⟩
      rcases P with ⟨i1, m1, t1, n1, D1, K1, hi1, R1, ZQ, z34, z18, z33⟩ | B
      · rcases dec21 (rd_tm R1) with ⟨k1, k2, k3⟩ | ⟨k1, k2⟩
        · obtain ⟨hM2, a1, a2, a3, a4⟩ := j_adv (adK := adK) (adV := adV) R1 (by rw [k1]; decide)
          have eW : ∀ {v : Int32}, wd (sI hC1 2 2 v) y = wd hC1 y := wdo (by omega)
          have z18' : hC1.1 y 18 = hM1.1 0 23 := z18
          have e18 : (sI hC1 2 2 (nI (i1 + 1))).1 y 18 = hM1.1 0 23 := (sI_c (by omega)).trans z18'
          have e23 : hM2.1 0 23 = hM1.1 0 23 := a2.2 0 23 (by decide)
          obtain ⟨hC3, hM3, f3, g3, r3, r4, P3⟩ := ih (i1 + 1) (it + 1) m1 t1 n1 D1 K1 (sI (sI hC1 2 2 (nI (i1 + 1))) y 18 ((sI hC1 2 2 (nI (i1 + 1))).1 y 18 + 1)) (sI hM2 0 23 (hM2.1 0 23 + 1)) (by omega) (by omega) ey1 (rd_m (rd_c a1 (by omega)) (by omega)) ⟨sq_same ZQ (fun j k h1 => (wds (j0 := 0) (k0 := 18) h1).trans (congrFun (congrFun eW j) k)) ((sHo (by omega)).trans (sHf a2)) ((sI_k (by decide)).trans (a2.2 0 22 (by decide))), (sI_k (by decide)).trans ((a2.2 0 34 (by decide)).trans z34), (wde (j0 := 0) (by decide)).trans (by rw [sI_s, e18, e23]), (sI_k (by decide)).trans ((a2.2 0 33 (by decide)).trans z33)⟩
          refine ⟨hC3, hM3, fC_tr f1 (fC_tr (fC_s (fC_s fC_rfl (by omega)) (by omega)) f3), fM_tr g1 (fM_tr (fM_fr a2) (fM_tr (fM_s fM_rfl (Or.inl ⟨rfl, Or.inr (Or.inl rfl)⟩)) g3)), fun H => cst (hh := sI hC1 2 2 (nI (i1 + 1))) ey1 (fun q => bX3_take_0 _ _ ⟨fun _ => c_kind R1.1 ⟨fun z => absurd k1 z, fun _ => a3 q⟩, fun z => absurd (rd_c0 R1) z⟩) (r3 H), fun H => mst (r2 (fun z => absurd (rd_m0 R1) z) (fun _ => bX10_line_348 _ ⟨fun _ => m_isSn (fun _ _ _ => ⟨fun _ => a4 (r4 H), fun z => absurd z (by decide)⟩) (fun z => absurd ⟨k2, k3⟩ (z (rd_m0 R1))), fun z => absurd (rd_m0 R1) z⟩)), P3⟩
        · have B1 := j_ref (x := 1) R1 (by decide)
          have B2 : BD (sI (rfC hC1 i1 1) y 18 ((rfC hC1 i1 1).1 y 18 + 1)) (sI (rfM hM1 1) 0 23 ((rfM hM1 1).1 0 23 + 1)) := bd_mw (bd_cw B1 (by omega)) (by omega)
          exact ⟨_, _, fC_tr f1 (fC_s rfC_f (by omega)), fM_tr g1 (fM_s rfM_f (Or.inl ⟨rfl, Or.inr (Or.inl rfl)⟩)), fun H => cst (hh := rfC hC1 i1 1) ey1 (fun q => bX3_take_0 _ _ ⟨fun _ => c_kind R1.1 ⟨fun _ => c_ref R1 q, fun z => absurd z k1⟩, fun z => absurd (rd_c0 R1) z⟩) (cB B2.1 H), fun H => mst (r2 (fun z => absurd (rd_m0 R1) z) (fun _ => bX10_line_348 _ ⟨fun _ => m_isSn (fun _ z2 z3 => absurd ⟨z2, z3⟩ k2) (fun _ => ⟨fun z => absurd rfl z, fun _ => m_wrg (rd_m0 R1) (mB (bd_m B2) H)⟩), fun z => absurd (rd_m0 R1) z⟩)), Or.inr B2⟩
      · have B2 : BD (sI hC1 y 18 (hC1.1 y 18 + 1)) hM1 := bd_cw B (by omega)
        exact ⟨_, hM1, fC_s f1 (by omega), g1, fun H => cst (hh := hC1) ey1 (fun q => bX3_take_0 _ _ ⟨fun z => absurd z B.1, fun _ => q⟩) (cB B2.1 H), fun H => mst (r2 (fun _ => mB (bd_m B) H) (fun z => absurd z (bd_m B))), Or.inr B2⟩
end LP
