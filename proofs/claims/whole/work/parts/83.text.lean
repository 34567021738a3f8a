/-! ===== the call text ===== -/
/-- the class before the first line -/
def cE0 (y : Nat) (h : aH) : aH := sI (sI (sI h (y + 8) 2 0) (y + 11) 2 0) (y + 14) 2 0
def cE1 (y : Nat) (h : aH) : aH := sI (sI (sI (sI h (y + 17) 11 0) (y + 17) 12 0) (y + 17) 13 0) (y + 17) 14 0
def cE2 (y : Nat) (h : aH) : aH := sI (sI (sI (sI (sI h y 11 0) y 12 0) y 13 0) y 14 0) y 15 0
def cE3 (y : Nat) (h : aH) : aH := sI (sI (sI h y 16 0) y 17 0) y 18 0
def cEm (y : Nat) (h : aH) : aH := sI (sI (sI (cE3 y (cE2 y (cE1 y (cE0 y h)))) 2 2 0) 2 3 0) 2 4 (-1)
section TE
variable {l l' : Launch} {ad ad' adK adV : Nat → Nat} {d d' : Nat} {y : Nat} {h hC hM : aH}
theorem cE_f : fC y h (cEm y h) := by
  unfold cEm cE3 cE2 cE1 cE0
  exact fC_s (fC_s (fC_s (fC_s (fC_s (fC_s (fC_s (fC_s (fC_s (fC_s (fC_s (fC_s (fC_s (fC_s (fC_s (fC_s (fC_s (fC_s fC_rfl (by omega)) (by omega)) (by omega)) (by omega)) (by omega)) (by omega)) (by omega)) (by omega)) (by omega)) (by omega)) (by omega)) (by omega)) (by omega)) (by omega)) (by omega)) (by omega)) (by omega)) (by omega)
theorem cE_0 (Y : y = 8 ∨ y = 37) : (∀ k, 11 ≤ k → k ≤ 18 → wd (cEm y h) y 0 k = 0) ∧ (∀ k, 11 ≤ k → k ≤ 14 → wd (cEm y h) y 17 k = 0) ∧ ∀ k, k < 3 → wd (cEm y h) y (8 + 3 * k) 2 = 0 := by
  refine ⟨fun k h1 h2 => ?_, fun k h1 h2 => ?_, fun k hk => ?_⟩
  · have : k = 11 ∨ k = 12 ∨ k = 13 ∨ k = 14 ∨ k = 15 ∨ k = 16 ∨ k = 17 ∨ k = 18 := by omega
    rcases Y with rfl | rfl <;> rcases this with rfl | rfl | rfl | rfl | rfl | rfl | rfl | rfl <;> rfl
  · have : k = 11 ∨ k = 12 ∨ k = 13 ∨ k = 14 := by omega
    rcases Y with rfl | rfl <;> rcases this with rfl | rfl | rfl | rfl <;> rfl
  · have : k = 0 ∨ k = 1 ∨ k = 2 := by omega
    rcases Y with rfl | rfl <;> rcases this with rfl | rfl | rfl <;> rfl
def tZ (h : aH) (x : Int32) : aH := tD (tC (tB (tA h x)))
theorem tZ_S {x : Int32} : (∀ k, k < 7 → sH (tZ h x) 2 k = 0) ∧ ∀ k, k < 3 → sH (tZ h x) 17 k = 0 ∧ sH (tZ h x) 18 k = 0 := by
  refine ⟨fun k hk => ?_, fun k hk => ?_⟩
  · have : k = 0 ∨ k = 1 ∨ k = 2 ∨ k = 3 ∨ k = 4 ∨ k = 5 ∨ k = 6 := by omega
    rcases this with rfl | rfl | rfl | rfl | rfl | rfl | rfl <;> rfl
  · have : k = 0 ∨ k = 1 ∨ k = 2 := by omega
    rcases this with rfl | rfl | rfl <;> exact ⟨rfl, rfl⟩
theorem gr_mc {hC' hM' : aH} {σm σt σn σD K : Nat} (Z : SR y hC' hM' σm σt σn σD K) : MC (hv4 (sI (sI hM' 0 31 0) 0 32 (hM'.1 0 30))) (wd hC' y) σm σt σn ∧ gR (hv4 (sI (sI hM' 0 31 0) 0 32 (hM'.1 0 30))) (wd hC' y) σm σt σD := by
  have eS : ∀ a k, 2 ≤ a → a ≤ 20 → k < hf a → (hv4 (sI (sI hM' 0 31 0) 0 32 (hM'.1 0 30))).1 a k = sH hM' a k := fun a k h1 h2 h3 => by
    rw [hv4_lo h1 h2 h3, sI_c (by omega), sI_c (by omega), sH_at h1 h2]
  exact ⟨sq_MC eS Z.1, sq_gR eS Z.1⟩
theorem j_text {x : Int32} (g : GR hC hM) : AW GC l ad (d + 83) mX9_text 0 [(0, .ref (ad 0)), (1, .int x)] [] hC (qi (jq l' ad' (d' + 151) adK adV mX10_text [(0, .ref (ad' 0)), (1, .int x)] hM)) := by
  obtain ⟨sy, m, t, n, D0, D, g⟩ := g
  have g2 := g_thr g
  have G : GR hC (sI hM 0 0 0) := ⟨_, _, _, _, _, _, g2⟩
  obtain ⟨c0, hc0, e1, e2, eb⟩ := g.2.2.2.2.2.1
  have e2' : (sI hM 0 0 0).1 0 2 = nI (20 * c0) := (sI_k (by decide)).trans e2
  have ha : GC.2.2.2.1[1]? = some (.inr (.int, 700)) := rfl
  refine bX9_text_0 _ _ ⟨fun z => bX10_text_0 _ _ ⟨fun _ => ⟨rfl, G⟩, fun q => absurd z q⟩, fun z => ⟨fun z2 => ?_, fun z2 => bX10_text_0 _ _ ⟨fun q => absurd q z, fun _ => ⟨fun q => absurd (by rw [e1]; rw [e2'] at q; exact q) z2, fun _ => ⟨rfl, G⟩⟩⟩⟩⟩
  obtain ⟨N, hN, rfl⟩ := nI_of z
  rw [e1] at z2
  have hN2 : N ≤ 20 * c0 := (nI_leI hN (by omega)).mp z2
  obtain ⟨s1, s2, s3, s4, s5, s6⟩ := g.1
  -- the bytes
  have hb : ∀ k, k < N → hC.1 1 k = nI ((hC.1 1 k).toNatClampNeg) ∧ (hC.1 1 k).toNatClampNeg < 256 ∧ hM.1 1 k = nI ((hC.1 1 k).toNatClampNeg) := fun k hk => by
    obtain ⟨v, v1, v2, v3⟩ := eb k (by omega)
    rw [v2, nI_clamp (by omega)]
    exact ⟨rfl, v1, v3⟩
  generalize hyy : 45 - sy = y at s3
  have Y : y = 8 ∨ y = 37 := by omega
  have HS := yS Y
  refine bX3_read_0 1 700 ha _ _ (c_scan (n := N) (b := fun k => (hC.1 1 k).toNatClampNeg) (by omega) (fun k hk => ⟨(sI_c (by decide)).trans (hb k hk).1, (hb k hk).2.1⟩) (fun k hk => (sI_c (by decide)).trans (g.2.2.2.2.2.2.2.2.2.1 k hk)) (fun h' c P E fr hc e33 e4 TLh => ?_))
  have ey' : h'.2.2 2 1 = y := by rw [fr.1]; exact s3
  refine mref ey' ⟨HS, bX6_empty_0 y HS _ (bX8_empty_0 (y + 17) HS.2.2.2.2.2 _ (href ?_))⟩
  show AW GC l ad (d + 81 + 1) mX3_read 33 [(0, .ref (ad 2)), (3, .int (0 : Int32))] [] (cEm y h') _
  -- the reference before its first line
  have I0 : inT (tZ hM (nI N)) (fun k => (hC.1 1 k).toNatClampNeg) N 0 := ⟨by omega, fun k hk => ⟨(show (tZ hM (nI N)).1 1 k = hM.1 1 k from rfl).trans (hb k hk).2.2, (hb k hk).2.1⟩, rfl, rfl, Nat.zero_le _⟩
  have T0 := (TLh.2 0 (by omega)).2
  rw [TLh.1] at T0
  obtain ⟨s, w, tm, run⟩ := m_tokenX (adK := adK) (adV := adV) I0 T0
  have en : E (0 + 1) ≤ N := by
    obtain ⟨q1, q2, q3, q4 | q4⟩ := T0
    · omega
    · exact (tk_e q4).2
  have kc : ∀ a j, a < 8 → (a = 2 → j ≠ 2 ∧ j ≠ 3 ∧ j ≠ 4) → (cEm y h').1 a j = h'.1 a j := fun a j h1 h2 => cE_f.2 a j h2 (by omega)
  have R0 : RD ((fun k => (hC.1 1 k).toNatClampNeg), N, c, P, E, 0) 0 (cEm y h') (tkH (tZ hM (nI N)) (nI (E (0 + 1))) (nI (P 0)) s w) := by
    refine ⟨⟨Nat.zero_le _, (show c ≤ 700 by omega), rfl, (kc 3 3 (by decide) (by decide)).trans e33⟩, ⟨TLh.1, fun j hj => ?_⟩, (kc 4 c (by decide) (by omega)).trans e4, rfl, in_m I0 tk_fr tk_25 en, tk_26, ?_, tk_fr.2 0 29 (by decide), rfl, tk_fr.2 0 30 (by decide)⟩
    · rw [kc 5 j (by decide) (by omega), kc 4 j (by decide) (by omega), kc 6 j (by decide) (by omega)]; exact TLh.2 j hj
    · rw [kc 4 0 (by decide) (by decide), kc 6 0 (by decide) (by decide), tk_27, tk_28]; exact tm
  have eS0 : sH (tkH (tZ hM (nI N)) (nI (E (0 + 1))) (nI (P 0)) s w) = sH (tZ hM (nI N)) := sHf tk_fr
  have Z0 : SR y (cEm y h') (tkH (tZ hM (nI N)) (nI (E (0 + 1))) (nI (P 0)) s w) 0 0 0 0 0 := by
    obtain ⟨c1, c2, c3⟩ := cE_0 (h := h') Y
    refine ⟨?_, tk_fr.2 0 34 (by decide), (c1 18 (by decide) (by decide)).trans ((tk_fr.2 0 23 (by decide)).trans (show (tZ hM (nI N)).1 0 23 = 0 from rfl)).symm, tk_fr.2 0 33 (by decide)⟩
    rw [eS0, tk_fr.2 0 22 (by decide)]
    exact sq_0 (fun k h1 h2 => c1 k h1 (by omega)) c2 c3 tZ_S.1 tZ_S.2
  obtain ⟨hC', hM', f1, f2, rC, rM, Pp⟩ := rd_loop (l := l) (ad := ad) (l' := l') (ad' := ad') (adK := adK) (adV := adV) Y (c + 1) 0 0 0 0 0 0 0 (cEm y h') _ (by show c < 0 + (c + 1); omega) (Nat.le_refl _) ey' R0 Z0
  have FC : tfC y hC hC' := by
    refine tfC_tr (h' := sI hC 0 1 0) ⟨rfl, fun a j q1 _ _ _ _ _ _ => sI_v (fun z => q1 z.1 z.2)⟩ (tfC_tr (tfC_fT fr) (tfC_tr (tfC_fC cE_f) (tfC_fC f1)))
  have FM : tfM hM hM' := tfM_tr (tfM_D (tfM_C (tfM_B (tfM_A tfM_rfl)))) (tfM_tr (tfM_fM (fM_fr tk_fr)) (tfM_fM f2))
  have e1' : hC'.1 0 1 = 0 := (f1.2 0 1 (by decide) (by omega)).trans ((kc 0 1 (by decide) (by decide)).trans ((fr.2 0 1 (by decide) (by decide) (by decide) (by decide)).trans sI_s))
  have e2'' : hM'.1 0 2 = 0 := (f2.2 0 2 (by unfold mF; omega) (by decide)).trans (tk_fr.2 0 2 (by decide))
  have mrun : ∀ {Q : Int32 → aH → Prop}, AW (GM adK adV) l' ad' (d' + 151) mX10_text 139 [(0, .ref (ad' 0))] [] hM' (qi Q) → AW (GM adK adV) l' ad' (d' + 151) mX10_text 0 [(0, .ref (ad' 0)), (1, .int (nI N))] [] hM (qi Q) := by
    intro Q H
    refine bX10_text_0 _ _ ⟨fun q => absurd q z, fun _ => ⟨fun _ => href (m_tB (m_tC (run (rM H)))), fun q => ?_⟩⟩
    rw [e2'] at q
    exact absurd z2 q
  have e03 : hC'.2.2 0 3 = sy := by rw [FC.1]; exact s2
  have e21 : hC'.2.2 2 1 = y := by rw [FC.1]; exact s3
  have HSy : isS GC sy := by
    rcases s1 with rfl | rfl
    · exact isS_1
    · exact isS_2
  rcases Pp with ⟨i', m', t', n', D', K', R', Z'⟩ | B
  · refine rC (bX3_read_85 1 700 ha _ ⟨fun q => absurd (rd_c0 R') q, fun _ => ⟨fun _ => mref e03 ⟨HSy, bX3_exchange_0 sy HSy _ (mref e21 ⟨HS, HS, mref (b := y) rfl ⟨HS, sp_copyFrom isW_66 HS.2.2.2.2.2 (Or.inl (by omega)) (bX5_forget_0 _ (mref (b := y) rfl ⟨HS, ?_⟩))⟩⟩)⟩, fun q => absurd q (by decide)⟩⟩)
    have pl := rd_pl R'
    refine mrun (m_end (σ := wd hC' y) (m := m') (t := t') (n := n') (D0 := D') (rd_m0 R') ?_ ?_ (fun β' r => ?_))
    · exact (gr_mc Z').1
    · exact (gr_mc Z').2
    · have G9 := gr_txt g hyy.symm FC FM e1' e2'' (rd_c0 R') pl.1 pl.2 Z' r
      exact ⟨G9.2.2.1, _, _, _, _, _, _, G9.2.2.2⟩
  · refine rC (bX3_read_85 1 700 ha _ ⟨fun _ => ⟨fun q => absurd rfl q, fun _ => mrun (bX10_text_139 _ ?_)⟩, fun q => absurd q B.1⟩)
    have e30 : (sI hM' 0 31 (hM'.1 0 29)).1 0 30 = hM'.1 0 30 := sI_k (by decide)
    have e29 : (sI (sI hM' 0 31 (hM'.1 0 29)) 0 32 (hM'.1 0 30)).1 0 29 = hM'.1 0 29 := (sI_k (by decide)).trans (sI_k (by decide))
    rw [e30, e29]
    refine ⟨fun q => absurd q (bd_m B), fun _ => ⟨rfl, _, _, _, _, _, _, gr_flt g (by rw [hyy]; exact FC) (tfM_s (tfM_s FM (by omega)) (by omega)) e1' ?_ ?_ ?_⟩⟩
    · rw [sI_k (by decide), sI_k (by decide)]; exact e2''
    · rw [sI_k (by decide), sI_s]; exact B.2.1
    · rw [sI_s]; exact B.2.2
end TE
