/-! ===== a law as it is read, on both sides: knots, codes ===== -/
theorem sI_comm {h : aH} {a k a' k' : Nat} {v v' : Int32} (hne : ¬ (a = a' ∧ k = k')) : sI (sI h a k v) a' k' v' = sI (sI h a' k' v') a k v := by
  refine Prod.ext (funext fun c => funext fun j => ?_) rfl
  show (if c = a' ∧ j = k' then v' else if c = a ∧ j = k then v else h.1 c j) = (if c = a ∧ j = k then v else if c = a' ∧ j = k' then v' else h.1 c j)
  by_cases w : c = a ∧ j = k
  · rw [if_pos w, if_pos w, if_neg (fun z => hne ⟨w.1.symm.trans z.1, w.2.symm.trans z.2⟩)]
  · rw [if_neg w, if_neg w]
theorem sI_v {h : aH} {a k a' k' : Nat} {v : Int32} (hne : ¬ (a' = a ∧ k' = k)) : (sI h a k v).1 a' k' = h.1 a' k' := if_neg hne
theorem dpt_ext {cd cd' : Nat → Int32} : ∀ q, (∀ i, i < q → cd' i = cd i) → dpt cd' q = dpt cd q
  | 0, _ => rfl
  | q + 1, h => by
    show dpt cd' q + 1 - partsN (cd' q) = dpt cd q + 1 - partsN (cd q)
    rw [h q (by omega), dpt_ext q (fun i hi => h i (by omega))]
/-- what reading a law may change -/
def lC (y lw : Nat) (h h' : aH) : Prop := h'.2 = h.2 ∧ ∀ a j, (a = 2 → j ≠ 2 ∧ j ≠ 3 ∧ j ≠ 4) → (a = y → j ≠ 17) → (a = lw → j ≠ 2) → a ≠ lw + 1 → h'.1 a j = h.1 a j
def lM (f : Nat) (h h' : aH) : Prop := h'.2 = h.2 ∧ ∀ a j, (a = 0 → ¬ ((25 ≤ j ∧ j ≤ 30) ∨ j = 33 ∨ j = 34)) → (a = 2 → j ≠ 13) → (a = 19 ∨ a = 20 → j < 64 + f) → h'.1 a j = h.1 a j
section LF
variable {h h' h'' : aH} {y lw f : Nat}
theorem lC_rfl : lC y lw h h := ⟨rfl, fun _ _ _ _ _ _ => rfl⟩
theorem lC_tr (a : lC y lw h h') (b : lC y lw h' h'') : lC y lw h h'' := ⟨b.1.trans a.1, fun c k q r s t => (b.2 c k q r s t).trans (a.2 c k q r s t)⟩
theorem lC_s {a k : Nat} {v : Int32} (g : lC y lw h h') (hk : (a = 2 ∧ (k = 2 ∨ k = 3 ∨ k = 4)) ∨ (a = y ∧ k = 17) ∨ (a = lw ∧ k = 2) ∨ a = lw + 1) : lC y lw h (sI h' a k v) := by
  refine ⟨g.1, fun c j q r s t => ?_⟩
  rw [sI_v]
  · exact g.2 c j q r s t
  · rintro ⟨rfl, rfl⟩
    rcases hk with ⟨e, hk⟩ | ⟨e, hk⟩ | ⟨e, hk⟩ | e
    · have := q e; omega
    · exact r e hk
    · exact s e hk
    · exact t e
theorem lM_rfl : lM f h h := ⟨rfl, fun _ _ _ _ _ => rfl⟩
theorem lM_tr (a : lM f h h') (b : lM f h' h'') : lM f h h'' := ⟨b.1.trans a.1, fun c k q r s => (b.2 c k q r s).trans (a.2 c k q r s)⟩
theorem lM_s {a k : Nat} {v : Int32} (g : lM f h h') (hk : (a = 0 ∧ ((25 ≤ k ∧ k ≤ 30) ∨ k = 33 ∨ k = 34)) ∨ (a = 2 ∧ k = 13) ∨ ((a = 19 ∨ a = 20) ∧ 64 + f ≤ k)) : lM f h (sI h' a k v) := by
  refine ⟨g.1, fun c j q r s => ?_⟩
  rw [sI_v]
  · exact g.2 c j q r s
  · rintro ⟨rfl, rfl⟩
    rcases hk with ⟨e, hk⟩ | ⟨e, hk⟩ | ⟨e, hk⟩
    · exact q e hk
    · exact r e hk
    · have := s e; omega
theorem lM_fr (g : frM h h') : lM f h h' := ⟨g.1, fun a j q _ _ => g.2 a j (fun e => by have := q e; omega)⟩
theorem lC_st (s : stX h h') : lC y lw h h' := by
  rcases s with rfl | ⟨v, rfl⟩
  · exact lC_rfl
  · exact lC_s lC_rfl (by omega)
theorem lC_rf {i : Nat} {x : Int32} : lC y lw h (rfC h i x) := lC_s (lC_s lC_rfl (by omega)) (by omega)
theorem lM_rf {x : Int32} : lM f h (rfM h x) := lM_s (lM_s lM_rfl (by omega)) (by omega)
end LF
/-- the law at lw of the story at y: q codes, K knots so far, p of them signs that wait; o brackets -/
def LI (y lw f q K p s o : Nat) (hC hM : aH) : Prop := hC.1 lw 2 = nI q ∧ hM.1 2 13 = nI (f + q) ∧ (∀ i, i < q → partsN (hC.1 (lw + 1) i) ≤ dpt (hC.1 (lw + 1)) i ∧ (partsN (hC.1 (lw + 1) i) = 2 → isBin (hC.1 (lw + 1) i))) ∧ dpt (hC.1 (lw + 1)) q = s ∧ (∀ i, i < q → cR (hC.1 (lw + 1) i) (hM.1 19 (64 + (f + i))) (hM.1 20 (64 + (f + i)))) ∧ f + q + p = K ∧ K ≤ 64 ∧ hC.1 y 17 = nI K ∧ hM.1 0 34 = nI K ∧ hM.1 0 33 = nI o
/-- a fault was found -/
def BL (lw : Nat) (hC hM : aH) : Prop := BD hC hM ∧ ∃ q, q ≤ 64 ∧ hC.1 lw 2 = nI q
def GL (τ : tX) (y lw f K0 p s o : Nat) (hC hM : aH) : Prop := (∃ i q K, (K0 ≤ K ∧ τ.2.2.2.2.2 ≤ i) ∧ RD τ i hC hM ∧ LI y lw f q K p s o hC hM) ∨ BL lw hC hM
/-- where the law lies -/
def lwA (y lw : Nat) : Prop := (y = 8 ∨ y = 37) ∧ (lw = y + 8 ∨ lw = y + 11 ∨ lw = y + 14)
section LS
variable {adK adV : Nat → Nat} {τ : tX} {i y lw f q K p s o : Nat} {hC hM hC' hM' h h' : aH} {x : Int32}
theorem lwA_S (A : lwA y lw) : isS GC y := by
  rcases A.1 with rfl | rfl
  · exact isS_1
  · exact isS_2
theorem lwA_L (A : lwA y lw) : isL GC lw := by
  have S := lwA_S A
  rcases A.2 with rfl | rfl | rfl
  · exact S.2.2.1
  · exact S.2.2.2.1
  · exact S.2.2.2.2.1
theorem li_ext (L : LI y lw f q K p s o hC hM) (e1 : hC'.1 lw 2 = hC.1 lw 2) (e2 : hM'.1 2 13 = hM.1 2 13) (e3 : ∀ i, hC'.1 (lw + 1) i = hC.1 (lw + 1) i) (e4 : ∀ a i, (a = 19 ∨ a = 20) → hM'.1 a i = hM.1 a i) (e5 : hC'.1 y 17 = hC.1 y 17) (e6 : hM'.1 0 34 = hM.1 0 34) (e7 : hM'.1 0 33 = hM.1 0 33) : LI y lw f q K p s o hC' hM' := by
  have e3' : hC'.1 (lw + 1) = hC.1 (lw + 1) := funext e3
  unfold LI
  rw [e1, e2, e3', e5, e6, e7]
  refine ⟨L.1, L.2.1, L.2.2.1, L.2.2.2.1, fun i hi => ?_, L.2.2.2.2.2⟩
  rw [e4 _ _ (Or.inl rfl), e4 _ _ (Or.inr rfl)]
  exact L.2.2.2.2.1 i hi
theorem li_adv (A : lwA y lw) (L : LI y lw f q K p s o hC hM) {v : Int32} (f1 : frM hM hM') : LI y lw f q K p s o (sI hC 2 2 v) hM' := by
  unfold lwA at A
  exact li_ext L (sI_c (by omega)) (f1.2 _ _ (by decide)) (fun i => sI_c (by omega)) (fun a i ha => f1.2 _ _ (by omega)) (sI_c (by omega)) (f1.2 _ _ (by decide)) (f1.2 _ _ (by decide))
theorem li_kn (A : lwA y lw) (L : LI y lw f q K p s o hC hM) (hK : K < 64) : LI y lw f q (K + 1) (p + 1) s o (sI hC y 17 (nI (K + 1))) (sI hM 0 34 (nI (K + 1))) := by
  unfold lwA at A
  obtain ⟨h1, h2, h3, h4, h5, h6, h7, h8, h9, h10⟩ := L
  have e3' : (sI hC y 17 (nI (K + 1))).1 (lw + 1) = hC.1 (lw + 1) := funext fun i => sI_c (by omega)
  unfold LI
  rw [e3', sI_c (show lw ≠ y by omega), sI_c (show 2 ≠ 0 by decide), sI_s, sI_s, sI_k (show 33 ≠ 34 by decide)]
  refine ⟨h1, h2, h3, h4, fun i hi => ?_, by omega, by omega, rfl, rfl, h10⟩
  rw [sI_c (by decide), sI_c (by decide)]
  exact h5 i hi
def adH (h : aH) (lw q : Nat) (c : Int32) : aH := sI (sI h (lw + 1) q c) lw 2 (nI (q + 1))
def ptH (h : aH) (k : Nat) (u v : Int32) : aH := sI (sI (sI h 19 (64 + k) u) 20 (64 + k) v) 2 13 (nI (k + 1))
theorem li_pt {c u v : Int32} (A : lwA y lw) (L : LI y lw f q K (p + 1) s o hC hM) (hc : cR c u v) (hp : partsN c ≤ s) (hb : partsN c = 2 → isBin c) : LI y lw f (q + 1) K p (s + 1 - partsN c) o (adH hC lw q c) (ptH hM (f + q) u v) := by
  unfold lwA at A
  obtain ⟨h1, h2, h3, h4, h5, h6, h7, h8, h9, h10⟩ := L
  have eo : ∀ i, i < q → (adH hC lw q c).1 (lw + 1) i = hC.1 (lw + 1) i := fun i hi => by
    unfold adH; rw [sI_c (by omega), sI_k (by omega)]
  have eq : (adH hC lw q c).1 (lw + 1) q = c := by unfold adH; rw [sI_c (by omega), sI_s]
  have ed : ∀ j, j ≤ q → dpt ((adH hC lw q c).1 (lw + 1)) j = dpt (hC.1 (lw + 1)) j := fun j hj => dpt_ext j (fun i hi => eo i (by omega))
  have m19 : ∀ i, (ptH hM (f + q) u v).1 19 (64 + (f + i)) = if i = q then u else hM.1 19 (64 + (f + i)) := fun i => by
    unfold ptH
    rw [sI_c (by decide), sI_c (by decide)]
    by_cases w : i = q
    · subst w; rw [sI_s, if_pos rfl]
    · rw [sI_k (by omega), if_neg w]
  have m20 : ∀ i, (ptH hM (f + q) u v).1 20 (64 + (f + i)) = if i = q then v else hM.1 20 (64 + (f + i)) := fun i => by
    unfold ptH
    rw [sI_c (by decide)]
    by_cases w : i = q
    · subst w; rw [sI_s, if_pos rfl]
    · rw [sI_k (by omega), sI_c (by decide), if_neg w]
  have mo : ∀ j, (ptH hM (f + q) u v).1 0 j = hM.1 0 j := fun j => by
    unfold ptH
    rw [sI_c (by decide), sI_c (by decide), sI_c (by decide)]
  have co : (adH hC lw q c).1 y 17 = hC.1 y 17 := by
    unfold adH; rw [sI_c (by omega), sI_c (by omega)]
  refine ⟨by unfold adH; rw [sI_s], by unfold ptH; rw [sI_s, Nat.add_assoc], fun i hi => ?_, ?_, fun i hi => ?_, by omega, h7, co.trans h8, (mo 34).trans h9, (mo 33).trans h10⟩
  · by_cases w : i = q
    · subst w; rw [eq, ed i (by omega), h4]; exact ⟨hp, hb⟩
    · rw [eo i (by omega), ed i (by omega)]; exact h3 i (by omega)
  · show dpt ((adH hC lw q c).1 (lw + 1)) q + 1 - partsN ((adH hC lw q c).1 (lw + 1) q) = _
    rw [ed q (Nat.le_refl _), eq, h4]
  · rw [m19, m20]
    by_cases w : i = q
    · subst w; rw [eq, if_pos rfl, if_pos rfl]; exact hc
    · rw [eo i (by omega), if_neg w, if_neg w]; exact h5 i (by omega)
theorem gl_m {K0 K1 : Nat} (hk : K1 ≤ K0) (g : GL τ y lw f K0 p s o hC hM) : GL τ y lw f K1 p s o hC hM := by
  rcases g with ⟨i, q, K, h1, h2, h3⟩ | b
  · exact Or.inl ⟨i, q, K, by omega, h2, h3⟩
  · exact Or.inr b
/-- a code more, whatever stands there -/
theorem c_cadd {c : Int32} (A : lwA y lw) (hq : h.1 lw 2 = nI q) (hl : q ≤ 64) : ∃ h', lC y lw h h' ∧ (q < 64 → h' = adH h lw q c) ∧ (¬ q < 64 → h' = h) ∧ (∃ q', q' ≤ 64 ∧ h'.1 lw 2 = nI q') ∧ (∀ j, h'.1 2 j = h.1 2 j) ∧ ∀ {l : Launch} {ad : Nat → Nat} {d : Nat} {Q : aH → Prop}, Q h' → AW GC l ad d mX1_add 0 [(0, .ref (ad lw)), (1, .int c)] [] h (qv Q) := by
  have HL := lwA_L A
  unfold lwA at A
  by_cases w : q < 64
  · refine ⟨adH h lw q c, lC_s (lC_s lC_rfl (by omega)) (by omega), fun _ => rfl, fun z => absurd w z, ⟨q + 1, by omega, by unfold adH; rw [sI_s]⟩, fun j => by unfold adH; rw [sI_c (by omega), sI_c (by omega)], fun qq => ?_⟩
    refine bX1_add_0 lw HL _ _ ?_
    have e : (sI h (lw + 1) q c).1 lw 2 = nI q := (sI_c (by omega)).trans hq
    rw [hq, nI_clamp (by omega), e, nI_1]
    exact ⟨fun z => absurd z (nI_ge (b := 64) w (by decide)), fun _ => ⟨vp_in_nI w (by decide), href qq⟩⟩
  · have e : q = 64 := by omega
    subst e
    refine ⟨h, lC_rfl, fun z => absurd z w, fun _ => rfl, ⟨64, by omega, hq⟩, fun _ => rfl, fun qq => ?_⟩
    refine bX1_add_0 lw HL _ _ ?_
    rw [hq]
    exact ⟨fun _ => qq, fun z => absurd (Int32.le_refl _) z⟩
theorem m_put {u v : Int32} {k : Nat} (hk : k < 64) (h0 : h.1 0 29 = 0) (hq : h.1 2 13 = nI k) {l : Launch} {ad : Nat → Nat} {d : Nat} {Q : aH → Prop} (qq : Q (ptH h k u v)) : AW (GM adK adV) l ad (d + 1) mX10_puts 0 [(0, .ref (ad 0)), (1, .int u), (2, .int v)] [] h (qv Q) := by
  refine bX10_puts_0 _ _ _ ⟨fun _ => ?_, fun z => absurd h0 z⟩
  have i13 : ((7 : Int32) + 6).toNatClampNeg = 13 := by decide
  have v13 : vp_in ((7 : Int32) + 6) 14 := by
    have e : (7 : Int32) + 6 = nI 13 := by decide
    rw [e]; exact vp_in_nI (by decide) (by decide)
  have a64 : (64 : Int32) + nI k = nI (64 + k) := nI_add 64 k
  have v64 : vp_in (nI (64 + k)) 128 := vp_in_nI (by omega) (by decide)
  have c64 : (nI (64 + k)).toNatClampNeg = 64 + k := nI_clamp (by omega)
  refine bX10_fresher_0 _ _ ⟨v13, ?_⟩
  rw [i13, hq, a64, c64]
  refine ⟨v64, bX10_fresher_0 _ _ ⟨v13, ?_⟩⟩
  rw [i13, sI_c (by decide), hq, a64, c64]
  refine ⟨v64, bX10_fresher_0 _ _ ⟨v13, ?_⟩⟩
  rw [i13, sI_c (by decide), sI_c (by decide), hq, nI_1]
  refine bX10_reads_0 _ _ _ ⟨v13, ?_⟩
  rw [i13]
  exact qq
theorem m_putB {u v : Int32} (h0 : ¬ h.1 0 29 = 0) {l : Launch} {ad : Nat → Nat} {d : Nat} {Q : aH → Prop} (qq : Q h) : AW (GM adK adV) l ad (d + 1) mX10_puts 0 [(0, .ref (ad 0)), (1, .int u), (2, .int v)] [] h (qv Q) := bX10_puts_0 _ _ _ ⟨fun z => absurd z h0, fun _ => qq⟩
theorem lC_23 (A : lwA y lw) (e : ∀ j, h'.1 2 j = hC.1 2 j) (B : BD hC hM) : BD h' hM := by
  unfold BD; rw [e, e]; exact B
/-- a sign's code behind what it joins -/
theorem j_put {c u v : Int32} {K0 : Nat} (A : lwA y lw) (hc : cR c u v) (hp : partsN c ≤ s) (hb : partsN c = 2 → isBin c) (g : GL τ y lw f K0 (p + 1) s o hC hM) : ∃ hC' hM', lC y lw hC hC' ∧ lM f hM hM' ∧ (∀ {l : Launch} {ad : Nat → Nat} {d : Nat} {Q : aH → Prop}, Q hC' → AW GC l ad d mX1_add 0 [(0, .ref (ad lw)), (1, .int c)] [] hC (qv Q)) ∧ (∀ {l : Launch} {ad : Nat → Nat} {d : Nat} {Q : aH → Prop}, Q hM' → AW (GM adK adV) l ad (d + 1) mX10_puts 0 [(0, .ref (ad 0)), (1, .int u), (2, .int v)] [] hM (qv Q)) ∧ GL τ y lw f K0 p (s + 1 - partsN c) o hC' hM' := by
  rcases g with ⟨i, q, K, hK, R, L⟩ | ⟨B, q, hq, eq⟩
  · have hl := L.2.2.2.2.2.1
    have hk := L.2.2.2.2.2.2.1
    obtain ⟨h', a1, a2, -, a3, a4, a5⟩ := c_cadd (c := c) A L.1 (by omega)
    have e := a2 (by omega)
    refine ⟨h', ptH hM (f + q) u v, a1, lM_s (lM_s (lM_s lM_rfl (by omega)) (by omega)) (by omega), a5, fun qq => m_put (by omega) (rd_m0 R) L.2.1 qq, Or.inl ⟨i, q + 1, K, hK, ?_, ?_⟩⟩
    · rw [e]
      unfold lwA at A
      unfold adH ptH
      exact rd_m (rd_m (rd_m (rd_c (rd_c R (by omega)) (by omega)) (by omega)) (by omega)) (by omega)
    · rw [e]; exact li_pt A L hc hp hb
  · obtain ⟨h', a1, a2, -, a3, a4, a5⟩ := c_cadd (c := c) A eq hq
    exact ⟨h', hM, a1, lM_rfl, a5, fun qq => m_putB (bd_m B) qq, Or.inr ⟨lC_23 A a4 B, a3⟩⟩
/-- a knot that is one too many, or not, and on -/
theorem c_knX (A : lwA y lw) (ey : hC.2.2 2 1 = y) (R : RD τ i hC hM) (e64 : hC.1 y 17 = nI 64) (B2 : BD (rfC hC i 2) hM') : ∃ hC', lC y lw hC hC' ∧ BD hC' hM' ∧ hC'.1 lw 2 = hC.1 lw 2 ∧ ∀ {l : Launch} {ad : Nat → Nat} {d : Nat} {Q : aH → Prop}, Q hC' → AW GC l ad (d + 1) mX3_takeKnot 0 [(0, .ref (ad 2))] [] hC (qv Q) := by
  have HS := lwA_S A
  unfold lwA at A
  obtain ⟨h', s1, s2⟩ := c_stepX (sI (rfC hC i 2) y 17 ((rfC hC i 2).1 y 17 + 1))
  have el : h'.1 lw 2 = hC.1 lw 2 := by
    have e0 : (sI (rfC hC i 2) y 17 ((rfC hC i 2).1 y 17 + 1)).1 lw 2 = hC.1 lw 2 := by
      unfold rfC
      rw [sI_c (by omega), sI_c (by omega), sI_c (by omega)]
    rcases s1 with rfl | ⟨v, rfl⟩
    · exact e0
    · rw [sI_c (by omega)]; exact e0
  refine ⟨h', lC_tr (lC_s lC_rf (by omega)) (lC_st s1), stX_bd s1 (bd_cw B2 (by omega)), el, fun q => ?_⟩
  refine bX3_takeKnot_0 _ (mref ey ⟨HS, fun z => ?_, fun _ => c_ref R (bX3_takeKnot_17 _ (mref ey ⟨HS, s2 q⟩))⟩)
  rw [e64] at z
  exact absurd z (by decide)
theorem j_knt {K0 : Nat} (A : lwA y lw) (ey : hC.2.2 2 1 = y) (hK : K0 ≤ K ∧ τ.2.2.2.2.2 ≤ i) (R : RD τ i hC hM) (L : LI y lw f q K p s o hC hM) (k36 : ¬ hC.1 4 i = 36) : ∃ hC' hM1 hM2, lC y lw hC hC' ∧ lM f hM hM2 ∧ (∀ {l : Launch} {ad : Nat → Nat} {d : Nat} {Q : aH → Prop}, Q hC' → AW GC l ad (d + 1) mX3_takeKnot 0 [(0, .ref (ad 2))] [] hC (qv Q)) ∧ (∀ {l : Launch} {ad : Nat → Nat} {d : Nat} {Q : aH → Prop}, Q hM1 → AW (GM adK adV) l ad (d + 1) mX10_knot 0 [(0, .ref (ad 0))] [] hM (qv Q)) ∧ (∀ {l : Launch} {ad : Nat → Nat} {d : Nat} {Q : aH → Prop}, Q hM2 → AW (GM adK adV) l ad (d + 6) mX10_goOn 0 [(0, .ref (ad 0))] [] hM1 (qv Q)) ∧ GL τ y lw f (K0 + 1) (p + 1) s o hC' hM2 := by
  have HS := lwA_S A
  have hk := L.2.2.2.2.2.2.1
  have e17 := L.2.2.2.2.2.2.2.1
  have e34 := L.2.2.2.2.2.2.2.2.1
  have hl := L.2.2.2.2.2.1
  by_cases w : K < 64
  · have R2 : RD τ i (sI hC y 17 (nI (K + 1))) (sI hM 0 34 (nI (K + 1))) := by
      unfold lwA at A
      exact rd_m (rd_c R (by omega)) (by omega)
    obtain ⟨hM2, a1, a2, a3, a4⟩ := j_adv (adK := adK) (adV := adV) R2 (by unfold lwA at A; rw [sI_c (by omega)]; exact k36)
    refine ⟨_, sI hM 0 34 (nI (K + 1)), hM2, lC_s (lC_s lC_rfl (by omega)) (by omega), lM_tr (lM_s lM_rfl (by omega)) (lM_fr a2), fun qq => ?_, fun qq => ?_, fun qq => ?_, Or.inl ⟨i + 1, q, K + 1, by omega, a1, li_adv A (li_kn A L w) a2⟩⟩
    · refine bX3_takeKnot_0 _ (mref ey ⟨HS, fun _ => bX3_takeKnot_17 _ (mref ey ⟨HS, ?_⟩), fun z => ?_⟩)
      · rw [e17, nI_1]; exact a3 qq
      · rw [e17] at z
        exact absurd (nI_lt (b := 64) w (by decide)) z
    · refine bX10_knot_0 _ ⟨fun _ => ⟨fun _ => ?_, fun z => ?_⟩, fun z => absurd (rd_m0 R) z⟩
      · rw [e34, nI_1]; exact qq
      · rw [e34] at z
        have := (nI_eq (b := 64) (by omega) (by decide)).mp z
        omega
    · exact bX10_goOn_0 _ ⟨fun z => absurd (rd_m0 R2) z, fun _ => a4 qq⟩
  · have e : K = 64 := by omega
    subst e
    have B2 := j_ref (x := 2) R (by decide)
    obtain ⟨hC', b1, b2, b3, b4⟩ := c_knX A ey R e17 B2
    refine ⟨hC', rfM hM 2, rfM hM 2, b1, lM_rf, b4, fun qq => ?_, fun qq => ?_, Or.inr ⟨b2, q, by omega, b3.trans L.1⟩⟩
    · exact bX10_knot_0 _ ⟨fun _ => ⟨fun z => absurd e34 z, fun _ => m_wrg (rd_m0 R) qq⟩, fun z => absurd (rd_m0 R) z⟩
    · exact bX10_goOn_0 _ ⟨fun _ => qq, fun z => absurd z (bd_m B2)⟩
/-- a number or a name in a law -/
theorem j_leaf {c u v : Int32} {K0 : Nat} (A : lwA y lw) (ey : hC.2.2 2 1 = y) (hK : K0 ≤ K ∧ τ.2.2.2.2.2 ≤ i) (R : RD τ i hC hM) (L : LI y lw f q K p s o hC hM) (k36 : ¬ hC.1 4 i = 36) (hc : cR c u v) (hp : partsN c = 0) : ∃ hC1 hC' hM1 hM2 hM', lC y lw hC hC' ∧ lM f hM hM' ∧ (∀ {l : Launch} {ad : Nat → Nat} {d : Nat} {Q : aH → Prop}, Q hC1 → AW GC l ad d mX1_add 0 [(0, .ref (ad lw)), (1, .int c)] [] hC (qv Q)) ∧ (∀ {l : Launch} {ad : Nat → Nat} {d : Nat} {Q : aH → Prop}, Q hC' → AW GC l ad (d + 1) mX3_takeKnot 0 [(0, .ref (ad 2))] [] hC1 (qv Q)) ∧ (∀ {l : Launch} {ad : Nat → Nat} {d : Nat} {Q : aH → Prop}, Q hM1 → AW (GM adK adV) l ad (d + 1) mX10_knot 0 [(0, .ref (ad 0))] [] hM (qv Q)) ∧ hM1.1 0 28 = hM.1 0 28 ∧ (∀ {l : Launch} {ad : Nat → Nat} {d : Nat} {Q : aH → Prop}, Q hM2 → AW (GM adK adV) l ad (d + 1) mX10_puts 0 [(0, .ref (ad 0)), (1, .int u), (2, .int v)] [] hM1 (qv Q)) ∧ (∀ {l : Launch} {ad : Nat → Nat} {d : Nat} {Q : aH → Prop}, Q hM' → AW (GM adK adV) l ad (d + 6) mX10_goOn 0 [(0, .ref (ad 0))] [] hM2 (qv Q)) ∧ GL τ y lw f (K0 + 1) p (s + 1) o hC' hM' := by
  have HS := lwA_S A
  have hk := L.2.2.2.2.2.2.1
  have e17 := L.2.2.2.2.2.2.2.1
  have e34 := L.2.2.2.2.2.2.2.2.1
  have hl := L.2.2.2.2.2.1
  obtain ⟨hC1, a1, a2, a22, a3, a4, a5⟩ := c_cadd (c := c) A L.1 (by omega)
  by_cases w : K < 64
  · have e := a2 (by omega)
    have L2 := li_pt A (li_kn A L w) hc (by omega) (by omega)
    have Ry : (adH hC lw q c).1 y 17 = nI K := by
      unfold adH; unfold lwA at A
      rw [sI_c (by omega), sI_c (by omega)]; exact e17
    have em : adH (sI hC y 17 (nI (K + 1))) lw q c = sI hC1 y 17 (nI (K + 1)) := by
      rw [e]; unfold adH; unfold lwA at A
      rw [sI_comm (a := y) (a' := lw + 1) (by omega), sI_comm (a := y) (a' := lw) (by omega)]
    rw [em] at L2
    have R2 : RD τ i (sI hC1 y 17 (nI (K + 1))) (ptH (sI hM 0 34 (nI (K + 1))) (f + q) u v) := by
      rw [e]
      unfold lwA at A
      unfold adH ptH
      exact rd_m (rd_m (rd_m (rd_m (rd_c (rd_c (rd_c R (by omega)) (by omega)) (by omega)) (by omega)) (by omega)) (by omega)) (by omega)
    obtain ⟨hM2, b1, b2, b3, b4⟩ := j_adv (adK := adK) (adV := adV) R2 (by rw [e]; unfold adH; unfold lwA at A; rw [sI_c (by omega), sI_c (by omega), sI_c (by omega)]; exact k36)
    refine ⟨hC1, _, sI hM 0 34 (nI (K + 1)), _, hM2, lC_s (lC_s a1 (by omega)) (by omega), lM_tr (lM_s (lM_s (lM_s (lM_s lM_rfl (by omega)) (by omega)) (by omega)) (by omega)) (lM_fr b2), a5, fun qq => ?_, fun qq => ?_, sI_k (by decide), fun qq => m_put (by omega) ((sI_k (by decide)).trans (rd_m0 R)) ((sI_c (by decide)).trans L.2.1) qq, fun qq => ?_, Or.inl ⟨i + 1, q + 1, K + 1, by omega, b1, ?_⟩⟩
    · have ey1 : hC1.2.2 2 1 = y := by rw [a1.1]; exact ey
      have e17' : hC1.1 y 17 = nI K := by rw [e]; exact Ry
      refine bX3_takeKnot_0 _ (mref ey1 ⟨HS, fun _ => bX3_takeKnot_17 _ (mref ey1 ⟨HS, ?_⟩), fun z => ?_⟩)
      · rw [e17', nI_1]; exact b3 qq
      · rw [e17'] at z
        exact absurd (nI_lt (b := 64) w (by decide)) z
    · refine bX10_knot_0 _ ⟨fun _ => ⟨fun _ => ?_, fun z => ?_⟩, fun z => absurd (rd_m0 R) z⟩
      · rw [e34, nI_1]; exact qq
      · rw [e34] at z
        have := (nI_eq (b := 64) (by omega) (by decide)).mp z
        omega
    · exact bX10_goOn_0 _ ⟨fun z => absurd (rd_m0 R2) z, fun _ => b4 qq⟩
    · rw [hp] at L2
      exact li_adv A L2 b2
  · have e : K = 64 := by omega
    subst e
    have B2 := j_ref (x := 2) R (by decide)
    have ey1 : hC1.2.2 2 1 = y := by rw [a1.1]; exact ey
    have e17' : hC1.1 y 17 = nI 64 := by
      unfold lwA at A
      by_cases w2 : q < 64
      · rw [a2 w2]; unfold adH; rw [sI_c (by omega), sI_c (by omega)]; exact e17
      · rw [a22 w2]; exact e17
    have R1 : RD τ i hC1 hM := by
      unfold lwA at A
      exact rd_ext R (fun a j ha => by
        by_cases w : a = 2
        · subst w; exact a4 j
        · exact a1.2 a j (fun z => absurd z w) (by omega) (by omega) (by omega)) (fun _ _ _ => rfl)
    have B3 := j_ref (x := 2) R1 (by decide)
    obtain ⟨hC', b1, b2, b3, b4⟩ := c_knX A ey1 R1 e17' B3
    refine ⟨hC1, hC', rfM hM 2, rfM hM 2, rfM hM 2, lC_tr a1 b1, lM_rf, a5, b4, fun qq => ?_, ?_, fun qq => m_putB (bd_m B2) qq, fun qq => ?_, Or.inr ⟨b2, by rw [b3]; exact a3⟩⟩
    · exact bX10_knot_0 _ ⟨fun _ => ⟨fun z => absurd e34 z, fun _ => m_wrg (rd_m0 R) qq⟩, fun z => absurd (rd_m0 R) z⟩
    · unfold rfM; rw [sI_k (by decide), sI_k (by decide)]
    · exact bX10_goOn_0 _ ⟨fun _ => qq, fun z => absurd z (bd_m B2)⟩
end LS
