/-! ===== a text: its answer, and what stays alike ===== -/
def tfC (y : Nat) (h h' : aH) : Prop := h'.2 = h.2 ∧ ∀ a j, (a = 0 → j ≠ 1) → (a = 2 → j ≠ 2 ∧ j ≠ 3 ∧ j ≠ 4) → (a = 3 → j ≠ 3) → a ≠ 4 → a ≠ 5 → a ≠ 6 → (a < y ∨ y + 29 ≤ a) → h'.1 a j = h.1 a j
def tfM (h h' : aH) : Prop := h'.2 = h.2 ∧ ∀ a j, (a = 0 → ¬ (j = 0 ∨ j = 2 ∨ (22 ≤ j ∧ j ≤ 34))) → (2 ≤ a → a ≤ 20 → j < hf a) → h'.1 a j = h.1 a j
section TF
variable {y : Nat} {h h' h'' : aH}
theorem tfC_tr (a : tfC y h h') (b : tfC y h' h'') : tfC y h h'' := ⟨b.1.trans a.1, fun c k q1 q2 q3 q4 q5 q6 q7 => (b.2 c k q1 q2 q3 q4 q5 q6 q7).trans (a.2 c k q1 q2 q3 q4 q5 q6 q7)⟩
theorem tfM_tr (a : tfM h h') (b : tfM h' h'') : tfM h h'' := ⟨b.1.trans a.1, fun c k q r => (b.2 c k q r).trans (a.2 c k q r)⟩
theorem tfC_fC (a : fC y h h') : tfC y h h' := ⟨a.1, fun c k _ q2 _ _ _ _ q7 => a.2 c k q2 q7⟩
theorem tfC_fT (a : frT h h') : tfC y h h' := ⟨a.1, fun c k _ _ q3 q4 q5 q6 _ => a.2 c k q4 q5 q6 q3⟩
theorem tfM_fM (a : fM h h') : tfM h h' := ⟨a.1, fun c k q r => a.2 c k (fun e z => by have := q e; unfold mF at z; omega) r⟩
theorem tfM_rfl : tfM h h := ⟨rfl, fun _ _ _ _ => rfl⟩
theorem tfM_s {a k : Nat} {v : Int32} (f : tfM h h') (hk : (a = 0 ∧ (k = 0 ∨ k = 2 ∨ (22 ≤ k ∧ k ≤ 34))) ∨ (2 ≤ a ∧ a ≤ 20 ∧ hf a ≤ k)) : tfM h (sI h' a k v) := by
  refine ⟨f.1, fun c j q r => ?_⟩
  rw [sI_v]
  · exact f.2 c j q r
  · rintro ⟨rfl, rfl⟩
    rcases hk with ⟨e, hk⟩ | ⟨h1, h2, h3⟩
    · exact q e hk
    · have := r h1 h2; omega
theorem tfM_A {x : Int32} (f : tfM h h') : tfM h (tA h' x) := tfM_s (tfM_s (tfM_s (tfM_s (tfM_s (tfM_s f (by omega)) (by omega)) (by omega)) (by omega)) (by omega)) (by omega)
theorem tfM_B (f : tfM h h') : tfM h (tB h') := by
  have h2 : ∀ k, 7 ≤ k → (2 ≤ 2 ∧ 2 ≤ 20 ∧ hf 2 ≤ k) := fun k hk => ⟨by decide, by decide, hk⟩
  exact tfM_s (tfM_s (tfM_s (tfM_s (tfM_s (tfM_s (tfM_s f (Or.inr (h2 _ (by decide)))) (Or.inr (h2 _ (by decide)))) (Or.inr (h2 _ (by decide)))) (Or.inr (h2 _ (by decide)))) (Or.inr (h2 _ (by decide)))) (Or.inr (h2 _ (by decide)))) (Or.inr (h2 _ (by decide)))
theorem tfM_C (f : tfM h h') : tfM h (tC h') := by
  have h7 : ∀ k, 3 ≤ k → (2 ≤ 17 ∧ 17 ≤ 20 ∧ hf 17 ≤ k) := fun k hk => ⟨by decide, by decide, hk⟩
  have h8 : ∀ k, 3 ≤ k → (2 ≤ 18 ∧ 18 ≤ 20 ∧ hf 18 ≤ k) := fun k hk => ⟨by decide, by decide, hk⟩
  exact tfM_s (tfM_s (tfM_s (tfM_s (tfM_s (tfM_s f (Or.inr (h7 _ (by decide)))) (Or.inr (h8 _ (by decide)))) (Or.inr (h7 _ (by decide)))) (Or.inr (h8 _ (by decide)))) (Or.inr (h7 _ (by decide)))) (Or.inr (h8 _ (by decide)))
theorem tfM_D (f : tfM h h') : tfM h (tD h') := tfM_s (tfM_s (tfM_s (tfM_s f (by omega)) (by omega)) (by omega)) (by omega)
theorem mc_ext2 {σ : wT} {m t n : Nat} (hn : n ≤ 10) (ht : t ≤ 6) (H : ∀ c k, 2 ≤ c → c ≤ 20 → k < hf c → h'.1 c k = h.1 c k) (C : MC h σ m t n) : MC h' σ m t n := by
  obtain ⟨h1, h2, h3, h4, h5, h6, h7, h8, h9⟩ := C
  have W : ∀ {k j}, k < 3 → ML h σ k j → ML h' σ k j := fun {k j} hk L => by
    obtain ⟨f, q, h1, h2, h3, h4, h5, h6⟩ := L
    refine ⟨f, q, (H 17 k (by decide) (by decide) hk).trans h1, (H 18 k (by decide) (by decide) hk).trans h2, h3, h4, h5, fun i hi => ?_⟩
    rw [H 19 (f + i) (by decide) (by decide) (show f + i < 64 by omega), H 20 (f + i) (by decide) (by decide) (show f + i < 64 by omega)]
    exact h6 i hi
  refine ⟨(H 2 0 (by decide) (by decide) (by decide)).trans h1, (H 2 1 (by decide) (by decide) (by decide)).trans h2, (H 2 3 (by decide) (by decide) (by decide)).trans h3, (H 2 4 (by decide) (by decide) (by decide)).trans h4, fun p hp => ?_, fun k hk => ?_, W (by decide) h7, W (by decide) h8, W (by decide) h9⟩
  · rw [H 7 p (by decide) (by decide) (show p < 6 by omega), H 8 p (by decide) (by decide) (show p < 6 by omega)]; exact h5 p hp
  · rw [H 14 k (by decide) (by decide) (show k < 10 by omega), H 15 k (by decide) (by decide) (show k < 10 by omega), H 16 k (by decide) (by decide) (show k < 10 by omega)]; exact h6 k hk
theorem gR_ext2 {σ : wT} {m t D0 : Nat} (H : ∀ c k, 2 ≤ c → c ≤ 20 → k < hf c → h'.1 c k = h.1 c k) (C : gR h σ m t D0) : gR h' σ m t D0 := by
  obtain ⟨h1, h2, h3, h4, h5, h6, h7, h8, h9, h10⟩ := C
  have hm := h7.1.1
  have ht := h7.1.2.1
  have hD := h7.1.2.2.1
  refine ⟨fun p hp => ?_, fun e he => ?_, (H 2 2 (by decide) (by decide) (by decide)).trans h3, (H 2 5 (by decide) (by decide) (by decide)).trans h4, (H 2 6 (by decide) (by decide) (by decide)).trans h5, fun i hi j q1 q2 => ?_, h7, h8, h9, h10⟩
  · rw [H 3 p (by decide) (by decide) (show p < 6 by omega), H 4 p (by decide) (by decide) (show p < 6 by omega)]; exact h1 p hp
  · rw [H 5 e (by decide) (by decide) (show e < 6 by omega), H 6 e (by decide) (by decide) (show e < 6 by omega)]; exact h2 e he
  · have e8 : hf (6 + j) = 8 := by
      unfold hf
      rw [if_neg (by omega), if_neg (by omega), if_pos (by omega)]
    rw [H (6 + j) i (by omega) (by omega) (by omega)]; exact h6 i hi j q1 q2
theorem tfM_bk (f : tfM h h') {b : Nat} : bkT h' b = bkT h b := by
  refine bk_ext (fun c k p e => ?_)
  have hc : 23 ≤ c ∧ c ≤ 36 := by
    refine Decidable.byContradiction (fun z => ?_)
    rw [a_off (by omega)] at e
    cases e
  exact f.2 c k (by omega) (by omega)
end TF
section TX2
variable {hC hM hC' hM' : aH} {sy m t n D0 D y : Nat}
/-- a text at fault: what was told stays -/
theorem gr_flt (g : GQ hC hM sy m t n D0 D) (fC' : tfC (45 - sy) hC hC') (fM' : tfM hM hM') (e1 : hC'.1 0 1 = 0) (e2 : hM'.1 0 2 = 0) (f1 : hC'.1 2 3 = hM'.1 0 31) (f2 : hC'.1 2 4 = hM'.1 0 32) : GQ hC' hM' sy m t n D0 D := by
  obtain ⟨⟨s1, s2, s3, s4, s5, s6⟩, g2, g3, g4, g5, g6, g7⟩ := g
  have hi : ∀ a j, 66 ≤ a → hC'.1 a j = hC.1 a j := fun a j ha => fC'.2 a j (by omega) (by omega) (by omega) (by omega) (by omega) (by omega) (by omega)
  have eW : wd hC' sy = wd hC sy := by
    funext j k
    unfold wd
    by_cases w : j < 29
    · rw [if_pos w, if_pos w]
      exact fC'.2 (sy + j) k (by omega) (by omega) (by omega) (by omega) (by omega) (by omega) (by omega)
    · rw [if_neg w, if_neg w]
  have H2 : ∀ c k, 2 ≤ c → c ≤ 20 → k < hf c → hM'.1 c k = hM.1 c k := fun c k h1 h2 h3 => fM'.2 c k (by omega) (fun _ _ => h3)
  refine ⟨⟨s1, by rw [fC'.1]; exact s2, by rw [fC'.1]; exact s3, ?_, ?_, ?_⟩, gW_ext (fun j k hj => hi _ _ (by omega)) (tfM_bk fM') g2, ⟨?_, fun z => ?_⟩, gP_ext (fun c k h1 h2 => hi _ _ (by omega)) (fun k => by rw [fC'.1]) (fM'.2 0 53 (by decide) (by decide)) (fun i _ => tfM_bk fM') g4, gE_ext (fun c k h1 h2 => hi _ _ (by omega)) (fM'.2 0 62 (by decide) (by decide)) (fM'.2 0 63 (by decide) (by decide)) (fun c k h1 h2 => fM'.2 c k (by omega) (by omega)) g5, ⟨0, by omega, e1, e2, fun k hk => absurd hk (by omega)⟩, ⟨f1, f2, ?_, fun k hk => ?_, ?_⟩⟩
  · rw [eW]; exact s4
  · rw [eW]; exact mc_ext2 s4.2.2.2.1 s6.2.2.2.2.2.2.1.1.2.1 H2 s5
  · rw [eW]; exact gR_ext2 H2 s6
  · rw [fC'.2 0 7 (by decide) (by decide) (by decide) (by decide) (by decide) (by decide) (by omega), fM'.2 0 52 (by decide) (by decide)]; exact g3.1
  · rw [fC'.2 0 7 (by decide) (by decide) (by decide) (by decide) (by decide) (by decide) (by omega)] at z
    obtain ⟨D', gg⟩ := g3.2 z
    exact ⟨D', gW_ext (fun j k hj => hi _ _ (by omega)) (tfM_bk fM') gg⟩
  · rw [fM'.2 0 54 (by decide) (by decide)]; exact g7.2.2.1
  · rw [fC'.2 7 k (by omega) (by omega) (by omega) (by decide) (by decide) (by decide) (by omega)]; exact g7.2.2.2.1 k hk
  · rw [hi 354 0 (by decide)]; exact g7.2.2.2.2
/-- the class behind a text that is right -/
def fin (y sy : Nat) (h : aH) : aH := sI (sI (sI (sI (pW (sR (sR h 2 1 sy) 0 3 y) 66 (cpW (wq h 66) (wq h (y + 17)))) 346 5 0) 346 6 (-1)) 102 1 0) 0 7 0
theorem fin_at {h : aH} {c k : Nat} (h1 : c < 66 ∨ 78 ≤ c) (h2 : c = 346 → k ≠ 5 ∧ k ≠ 6) (h3 : c = 102 → k ≠ 1) (h4 : c = 0 → k ≠ 7) : (fin y sy h).1 c k = h.1 c k := by
  unfold fin
  rw [sI_v (by omega), sI_v (by omega), sI_v (by omega), sI_v (by omega), pW_off (by omega)]
  rfl
theorem hv4_lo {h : aH} {a k : Nat} (h1 : 2 ≤ a) (h2 : a ≤ 20) (hk : k < hf a) : (hv4 h).1 a k = h.1 a (hf a + k) := by
  unfold hv4
  rw [sI_c (by omega), sI_c (by omega), sI_c (by omega), sI_c (by omega)]
  show (if 2 ≤ a ∧ a < 21 ∧ k < hf a then h.1 a (hf a + k) else h.1 a k) = _
  rw [if_pos ⟨h1, by omega, hk⟩]
theorem hv4_0 {h : aH} {k : Nat} (hk : k ≠ 62 ∧ k ≠ 63 ∧ k ≠ 52 ∧ k ≠ 53) : (hv4 h).1 0 k = h.1 0 k := by
  unfold hv4
  rw [sI_k hk.2.2.2, sI_k hk.2.2.1, sI_k hk.2.1, sI_k hk.1]
  rfl
/-- a text that is right: the new story -/
theorem gr_txt {σm σt σn σD K : Nat} {β' : wT} (g : GQ hC hM sy m t n D0 D) (ey : y = 45 - sy) (fC' : tfC y hC hC') (fM' : tfM hM hM') (e1 : hC'.1 0 1 = 0) (e2 : hM'.1 0 2 = 0) (c3 : hC'.1 2 3 = 0) (c4 : hC'.1 2 4 = -1) (m30 : hM'.1 0 30 = -1) (Z : SR y hC' hM' σm σt σn σD K) (r : RelW σm σt σD (stW (wd hC' y)) β') : MC (hv4 (sI (sI hM' 0 31 0) 0 32 (hM'.1 0 30))) (wd hC' y) σm σt σn ∧ gR (hv4 (sI (sI hM' 0 31 0) 0 32 (hM'.1 0 30))) (wd hC' y) σm σt σD ∧ (pB (hv4 (sI (sI hM' 0 31 0) 0 32 (hM'.1 0 30))) 0 β').1 0 23 = (fin y sy hC').1 y 18 ∧ GQ (fin y sy hC') (pB (hv4 (sI (sI hM' 0 31 0) 0 32 (hM'.1 0 30))) 0 β') y σm σt σn σD σD := by
  obtain ⟨ZQ, z34, z18, z33⟩ := Z
  obtain ⟨⟨s1, s2, s3, s4, s5, s6⟩, g2, g3, g4, g5, g6, g7⟩ := g
  have Y : y = 8 ∨ y = 37 := by omega
  have es : sy = 45 - y := by omega
  have eS : ∀ a k, 2 ≤ a → a ≤ 20 → k < hf a → (hv4 (sI (sI hM' 0 31 0) 0 32 (hM'.1 0 30))).1 a k = sH hM' a k := fun a k h1 h2 h3 => by
    rw [hv4_lo h1 h2 h3, sI_c (by omega), sI_c (by omega), sH_at h1 h2]
  have C := sq_MC eS ZQ
  have gr := sq_gR eS ZQ
  have e0 : ∀ k, k ≠ 62 ∧ k ≠ 63 ∧ k ≠ 52 ∧ k ≠ 53 → k ≠ 31 → k ≠ 32 → (pB (hv4 (sI (sI hM' 0 31 0) 0 32 (hM'.1 0 30))) 0 β').1 0 k = hM'.1 0 k := fun k h1 h2 h3 => by
    rw [pB_off (a_off (by omega)), hv4_0 h1, sI_k h3, sI_k h2]
  have eWy : wd (fin y sy hC') y = wd hC' y := by
    funext j k
    unfold wd
    by_cases w : j < 29
    · rw [if_pos w, if_pos w, fin_at (by omega) (by omega) (by omega) (by omega)]
    · rw [if_neg w, if_neg w]
  have I := gr.2.2.2.2.2.2.1
  have N := gr.2.2.2.2.2.2.2.2.2.2.1
  have hv : ∀ j k, vlW j k → wq (fin y sy hC') 66 j k = stW (wd hC' y) j k := fun j k hv => by
    have hj : j < 12 := by unfold vlW at hv; omega
    rw [wq_at hj]
    unfold fin
    rw [sI_c (by omega), sI_c (by omega), sI_c (by omega), sI_c (by omega), pW_get hj, cpW_at hv, wq_st]
  refine ⟨C, gr, ?_, ⟨Y, rfl, ?_, ?_, ?_, ?_⟩, ⟨inv_ext I hv, ?_, invN_ext I.1.2.2.1 N hv⟩, ⟨?_, fun z => absurd sI_s z⟩, ⟨?_, 0, by omega, ?_, ?_, fun i hi => absurd hi (by omega)⟩, ⟨0, by omega, ?_, ?_, ?_, Or.inl ?_, fun k hk => absurd hk (by omega)⟩, ⟨0, by omega, ?_, ?_, fun k hk => absurd hk (by omega)⟩, ⟨?_, ?_, ?_, fun k hk => ?_, ?_⟩⟩
  · rw [e0 23 (by decide) (by decide) (by decide), fin_at (by omega) (by omega) (by omega) (by omega)]
    exact z18.symm
  · exact es
  · rw [eWy]; exact sq_SF ZQ
  · rw [eWy]; exact mc_ext (fun c k h1 h2 => pB_off (a_off (by omega))) C
  · rw [eWy]; exact gR_ext (fun c k h1 h2 => pB_off (a_off (by omega))) gr
  · exact rel_extL I.1.1 I.1.2.1 I.1.2.2.1 (rel_bk I.1.1 I.1.2.1 I.1.2.2.1 r) hv
  · rw [pB_off (a_off (by omega))]
    unfold fin hv4
    rw [sI_s, sI_k (by decide), sI_s]
  · obtain ⟨π, hp, hj⟩ := g4.1
    refine ⟨π, fun i hi => ?_, hj⟩
    have : (fin y sy hC').2.2 103 i = hC'.2.2 103 i := rfl
    rw [this, fC'.1]
    exact hp i hi
  · unfold fin
    rw [sI_c (by decide), sI_s]; rfl
  · rw [pB_off (a_off (by omega))]
    unfold hv4
    rw [sI_s]; rfl
  · unfold fin
    rw [sI_c (by decide), sI_c (by decide), sI_k (by decide), sI_s]; rfl
  · rw [pB_off (a_off (by omega))]
    unfold hv4
    rw [sI_k (by decide), sI_k (by decide), sI_k (by decide), sI_s]; rfl
  · rw [pB_off (a_off (by omega))]
    unfold fin hv4
    rw [sI_c (by decide), sI_c (by decide), sI_s, sI_k (by decide), sI_k (by decide), sI_s]
  · rw [pB_off (a_off (by omega))]
    unfold hv4
    rw [sI_k (by decide), sI_k (by decide), sI_s]
  · rw [fin_at (by omega) (by omega) (by omega) (by omega)]; exact e1
  · rw [e0 2 (by decide) (by decide) (by decide)]; exact e2
  · rw [fin_at (by omega) (by omega) (by omega) (by omega), c3, pB_off (a_off (by omega)), hv4_0 (by decide), sI_k (by decide), sI_s]
  · rw [fin_at (by omega) (by omega) (by omega) (by omega), c4, pB_off (a_off (by omega)), hv4_0 (by decide), sI_s, m30]
  · rw [e0 54 (by decide) (by decide) (by decide), fM'.2 0 54 (by decide) (by decide)]; exact g7.2.2.1
  · rw [fin_at (by omega) (by omega) (by omega) (by omega), fC'.2 7 k (by omega) (by omega) (by omega) (by decide) (by decide) (by decide) (by omega)]; exact g7.2.2.2.1 k hk
  · rw [fin_at (by omega) (by omega) (by omega) (by omega), fC'.2 354 0 (by decide) (by decide) (by decide) (by decide) (by decide) (by decide) (by omega)]; exact g7.2.2.2.2
end TX2
