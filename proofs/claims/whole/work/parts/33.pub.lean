/-! ===== calls, class and reference: questions ===== -/
def isIn (x : Int32) (m : Nat) : Bool := decide (¬ x < 0) && decide (¬ nI m ≤ x)
theorem isIn_of {x : Int32} {m : Nat} (hm : m < 2 ^ 31) (h : isIn x m = true) : ∃ p, p < m ∧ x = nI p := by
  unfold isIn at h
  rw [Bool.and_eq_true, decide_eq_true_eq, decide_eq_true_eq] at h
  obtain ⟨p, hp, e⟩ := nI_of h.1
  refine ⟨p, ?_, e⟩
  rw [e] at h
  exact Nat.lt_of_not_le (fun q => h.2 ((nI_leI hm hp).mpr q))
theorem isIn_nI {m p : Nat} (hm : m < 2 ^ 31) (hp : p < m) : isIn (nI p) m = true := by
  unfold isIn
  rw [decide_eq_true (nI_pos (by omega)), decide_eq_true (nI_ge hp hm)]
  rfl
theorem cH {l : Launch} {ad : Nat → Nat} {d w : Nat} {M : aM} {pc : Nat} {ls : List (Nat × Value)} {st : List Value} {h : aH} {Q : Option Value → aH → Prop} (H : AW GC l ad d M pc ls st (pW h w (wq h w)) Q) : AW GC l ad d M pc ls st h Q := by
  rw [pW_wq] at H; exact H
theorem mH {adK adV : Nat → Nat} {l : Launch} {ad : Nat → Nat} {d b : Nat} {M : aM} {pc : Nat} {ls : List (Nat × Value)} {st : List Value} {h : aH} {Q : Option Value → aH → Prop} (H : AW (GM adK adV) l ad d M pc ls st (pB h b (bkT h b)) Q) : AW (GM adK adV) l ad d M pc ls st h Q := by
  rw [pB_bk] at H; exact H
theorem mHS {adK adV : Nat → Nat} {l : Launch} {ad : Nat → Nat} {d b : Nat} {M : aM} {pc : Nat} {ls : List (Nat × Value)} {st : List Value} {h : aH} {Q : Option Value → aH → Prop} (H : AW (GM adK adV) l ad d M pc ls st (pB (hS h h.2.1 (h.1 0 37)) b (bkT h b)) Q) : AW (GM adK adV) l ad d M pc ls st h Q := by
  rw [hS_self, pB_bk] at H; exact H
theorem pBS_self {h : aH} {b : Nat} : pB (hS h h.2.1 (h.1 0 37)) b (bkT h b) = h := by rw [hS_self, pB_bk]
/-- the reference's call behind the class's: the same answer, and alike again -/
def jq (l : Launch) (ad : Nat → Nat) (d : Nat) (adK adV : Nat → Nat) (M : aM) (ls : List (Nat × Value)) (hM : aH) : Int32 → aH → Prop := fun z hC' => AW (GM adK adV) l ad d M 0 ls [] hM (qi fun z' hM' => z' = z ∧ GR hC' hM')
def jl (l : Launch) (ad : Nat → Nat) (d : Nat) (adK adV : Nat → Nat) (M : aM) (ls : List (Nat × Value)) (hM : aH) : Int64 → aH → Prop := fun z hC' => AW (GM adK adV) l ad d M 0 ls [] hM (ql fun z' hM' => z' = z ∧ GR hC' hM')
section PU
variable {adK adV : Nat → Nat} {l l' : Launch} {ad ad' : Nat → Nat} {d d' : Nat} {hC hM : aH} {sy m t n D0 D : Nat}
theorem kM_s0 {k : Nat} {v : Int32} (hk : k = 0 ∨ k = 37 ∨ k = 55 ∨ k = 60 ∨ k = 61) : kM hM (sI hM 0 k v) := by
  intro c q h1 h2 h3
  by_cases hc : c = 0
  · exact sI_k (by have := h1 hc; omega)
  · exact sI_c hc
theorem g_thr (g : GQ hC hM sy m t n D0 D) : GQ hC (sI hM 0 0 0) sy m t n D0 D := gq_frame kC_rfl (kM_s0 (Or.inl rfl)) g
theorem g_S (g : GQ hC hM sy m t n D0 D) : hC.2.2 0 3 = sy ∧ isS GC sy ∧ hC.1 sy 11 = nI m ∧ hC.1 sy 12 = nI t ∧ hM.1 2 0 = nI m ∧ hM.1 2 1 = nI t ∧ m ≤ 6 ∧ t ≤ 6 ∧ D ≤ 8 := by
  obtain ⟨⟨s1, s2, s3, s4, s5, s6⟩, ⟨I, r, N⟩, -⟩ := g
  refine ⟨s2, ?_, ?_, ?_, s5.1, s5.2.1, I.1.1, I.1.2.1, I.1.2.2.1⟩
  · rcases s1 with rfl | rfl
    · exact isS_1
    · exact isS_2
  · have := s4.1
    rw [wd_at (by decide)] at this
    exact this
  · have := s4.2.1
    rw [wd_at (by decide)] at this
    exact this
theorem c_isMan {R : Int32 → aH → Prop} {x : Int32} (g : GQ hC hM sy m t n D0 D) (H : R (if isIn x m then 1 else 0) hC) : AW GC l ad d mX9_isMan 0 [(0, .ref (ad 0)), (1, .int x)] [] hC (qi R) := by
  obtain ⟨e1, e2, e3, e4, e5, e6, hm, ht, hD⟩ := g_S g
  unfold isIn at H
  refine bX9_isMan_0 _ _ ⟨fun z => ?_, fun z => mref e1 ⟨e2, ?_⟩⟩
  · rw [decide_eq_false (fun q => q z)] at H; exact H
  · rw [e3]
    rw [decide_eq_true z, Bool.true_and] at H
    refine ⟨fun z2 => ?_, fun z2 => ?_⟩
    · rw [decide_eq_false (fun q => q z2)] at H; exact H
    · rw [decide_eq_true z2] at H; exact H
theorem c_isTusk {R : Int32 → aH → Prop} {x : Int32} (g : GQ hC hM sy m t n D0 D) (H : R (if isIn x t then 1 else 0) hC) : AW GC l ad d mX9_isTusk 0 [(0, .ref (ad 0)), (1, .int x)] [] hC (qi R) := by
  obtain ⟨e1, e2, e3, e4, e5, e6, hm, ht, hD⟩ := g_S g
  unfold isIn at H
  refine bX9_isTusk_0 _ _ ⟨fun z => ?_, fun z => mref e1 ⟨e2, ?_⟩⟩
  · rw [decide_eq_false (fun q => q z)] at H; exact H
  · rw [e4]
    rw [decide_eq_true z, Bool.true_and] at H
    refine ⟨fun z2 => ?_, fun z2 => ?_⟩
    · rw [decide_eq_false (fun q => q z2)] at H; exact H
    · rw [decide_eq_true z2] at H; exact H
theorem g_D (g : GQ hC hM sy m t n D0 D) : hC.1 66 11 = nI D ∧ hM.1 25 0 = nI D := by
  obtain ⟨-, ⟨I, r, N⟩, -⟩ := g
  refine ⟨?_, r.1⟩
  have := I.1.2.2.2.1
  rw [wq_at (by decide)] at this
  exact this
theorem c_isDebt {R : Int32 → aH → Prop} {x : Int32} (g : GQ hC hM sy m t n D0 D) (H : R (if isIn x D then 1 else 0) hC) : AW GC l ad d mX9_isDebt 0 [(0, .ref (ad 0)), (1, .int x)] [] hC (qi R) := by
  obtain ⟨e1, e2⟩ := g_D g
  unfold isIn at H
  refine bX9_isDebt_0 _ _ ⟨fun z => ?_, fun z => ?_⟩
  · rw [decide_eq_false (fun q => q z)] at H; exact H
  · rw [e1]
    rw [decide_eq_true z, Bool.true_and] at H
    refine ⟨fun z2 => ?_, fun z2 => ?_⟩
    · rw [decide_eq_false (fun q => q z2)] at H; exact H
    · rw [decide_eq_true z2] at H; exact H
theorem m_isMan {R : Int32 → aH → Prop} {x : Int32} (g : GQ hC hM sy m t n D0 D) (H : R (if isIn x m then 1 else 0) hM) : AW (GM adK adV) l ad d mX10_isMan 0 [(0, .ref (ad 0)), (1, .int x)] [] hM (qi R) := by
  obtain ⟨e1, e2, e3, e4, e5, e6, hm, ht, hD⟩ := g_S g
  unfold isIn at H
  refine bX10_isMan_0 _ _ ⟨fun z => ?_, fun z => ?_⟩
  · rw [decide_eq_false (fun q => q z)] at H; exact H
  · rw [e5]
    rw [decide_eq_true z, Bool.true_and] at H
    refine ⟨fun z2 => ?_, fun z2 => ?_⟩
    · rw [decide_eq_false (fun q => q z2)] at H; exact H
    · rw [decide_eq_true z2] at H; exact H
theorem m_isTusk {R : Int32 → aH → Prop} {x : Int32} (g : GQ hC hM sy m t n D0 D) (H : R (if isIn x t then 1 else 0) hM) : AW (GM adK adV) l ad d mX10_isTusk 0 [(0, .ref (ad 0)), (1, .int x)] [] hM (qi R) := by
  obtain ⟨e1, e2, e3, e4, e5, e6, hm, ht, hD⟩ := g_S g
  unfold isIn at H
  refine bX10_isTusk_0 _ _ ⟨fun z => ?_, fun z => ?_⟩
  · rw [decide_eq_false (fun q => q z)] at H; exact H
  · rw [e6]
    rw [decide_eq_true z, Bool.true_and] at H
    refine ⟨fun z2 => ?_, fun z2 => ?_⟩
    · rw [decide_eq_false (fun q => q z2)] at H; exact H
    · rw [decide_eq_true z2] at H; exact H
theorem m_isDebt {R : Int32 → aH → Prop} {x : Int32} (g : GQ hC hM sy m t n D0 D) (H : R (if isIn x D then 1 else 0) hM) : AW (GM adK adV) l ad d mX10_isDebt 0 [(0, .ref (ad 0)), (1, .int x)] [] hM (qi R) := by
  obtain ⟨e1, e2⟩ := g_D g
  unfold isIn at H
  refine bX10_isDebt_0 _ _ ⟨fun z => ?_, fun z => ?_⟩
  · rw [decide_eq_false (fun q => q z)] at H; exact H
  · rw [e2]
    rw [decide_eq_true z, Bool.true_and] at H
    refine ⟨fun z2 => ?_, fun z2 => ?_⟩
    · rw [decide_eq_false (fun q => q z2)] at H; exact H
    · rw [decide_eq_true z2] at H; exact H
theorem j_fault {x : Int32} (g : GR hC hM) : AW GC l ad d mX9_fault 0 [(0, .ref (ad 0)), (1, .int x)] [] hC (qi (jq l' ad' d' adK adV mX10_fault [(0, .ref (ad' 0)), (1, .int x)] hM)) := by
  obtain ⟨sy, m, t, n, D0, D, g⟩ := g
  have g2 := g_thr g
  have gF := g2.2.2.2.2.2.2
  have G : GR hC (sI hM 0 0 0) := ⟨_, _, _, _, _, _, g2⟩
  refine bX9_fault_0 _ _ ⟨fun z => ⟨fun z2 => ?_, fun z2 => ?_⟩, fun z => ?_⟩
  · exact bX10_fault_0 _ _ ⟨fun _ => ⟨fun _ => ⟨rfl, G⟩, fun q => absurd q z2⟩, fun q => absurd q z⟩
  · exact bX10_fault_0 _ _ ⟨fun _ => ⟨fun q => absurd z2 q, fun _ => ⟨gF.2.1.symm, G⟩⟩, fun q => absurd q z⟩
  · exact bX10_fault_0 _ _ ⟨fun q => absurd z q, fun _ => ⟨gF.1.symm, G⟩⟩
/-- a name's place among others -/
def fdS (f : Nat → Int32) (x : Int32) : Nat → Nat → Int32
  | _, 0 => -1
  | i, k + 1 => if f i = x then nI i else fdS f x (i + 1) k
theorem fdS_ext {f g : Nat → Int32} {x : Int32} : ∀ k i, (∀ j, i ≤ j → j < i + k → f j = g j) → fdS f x i k = fdS g x i k
  | 0, _, _ => rfl
  | k + 1, i, h => by
    show (if f i = x then nI i else fdS f x (i + 1) k) = (if g i = x then nI i else fdS g x (i + 1) k)
    rw [h i (Nat.le_refl _) (by omega), fdS_ext k (i + 1) (fun j h1 h2 => h j (by omega) (by omega))]
theorem sp_indexOf {R : Int32 → aH → Prop} {a N k : Nat} {x : Int32} {h : aH} (ha : GC.2.2.2.1[a]? = some (.inr (.int, N))) (hN : k ≤ N) (hN2 : N < 2 ^ 31) (H : R (fdS (h.1 a) x 0 k) h) : AW GC l ad d mX9_indexOf 0 [(0, .int x), (1, .ref (ad a)), (2, .int (nI k))] [] h (qi R) := by
  refine bX9_indexOf_0 a N ha _ _ _ ?_
  have key : ∀ q i, i + q = k → R (fdS (h.1 a) x i q) h → AW GC l ad d mX9_indexOf 2 [(0, .int x), (1, .ref (ad a)), (2, .int (nI k)), (3, .int (nI i))] [] h (qi R) := by
    intro q
    induction q with
    | zero =>
      intro i hi H2
      have : i = k := by omega
      subst this
      exact bX9_indexOf_2 a N ha _ _ _ _ ⟨fun _ => H2, fun z => absurd (Int32.le_refl _) z⟩
    | succ q ih =>
      intro i hi H2
      refine bX9_indexOf_2 a N ha _ _ _ _ ⟨fun z => absurd z (nI_ge (by omega) (by omega)), fun _ => ⟨fun z => absurd z (nI_ge (by omega) (by omega)), fun _ => ⟨vp_in_nI (by omega) (by omega), fun z => ?_, fun z => ?_⟩⟩⟩
      · rw [nI_clamp (by omega)] at z
        have e : fdS (h.1 a) x i (q + 1) = fdS (h.1 a) x (i + 1) q := if_neg z
        rw [e] at H2
        rw [nI_1]
        exact ih (i + 1) (by omega) H2
      · rw [nI_clamp (by omega)] at z
        have e : fdS (h.1 a) x i (q + 1) = nI i := if_pos z
        rw [e] at H2
        exact H2
  exact key k 0 (by omega) H
theorem m_found {R : Int32 → aH → Prop} {a N f k : Nat} {x : Int32} {h : aH} (ha : (GM adK adV).2.2.2.1[a]? = some (.inr (.int, N))) (hN : f + k ≤ N) (hN2 : N < 2 ^ 31) (H : R (fdS (fun i => h.1 a (f + i)) x 0 k) h) : AW (GM adK adV) l ad d mX10_found 0 [(0, .ref (ad a)), (1, .int (nI f)), (2, .int (nI k)), (3, .int x)] [] h (qi R) := by
  refine bX10_found_0 a N ha _ _ _ _ ?_
  have key : ∀ q i, i + q = k → R (fdS (fun i => h.1 a (f + i)) x i q) h → AW (GM adK adV) l ad d mX10_found 3 [(0, .ref (ad a)), (1, .int (nI f)), (2, .int (nI k)), (3, .int x), (4, .int (nI i))] [] h (qi R) := by
    intro q
    induction q with
    | zero =>
      intro i hi H2
      have : i = k := by omega
      subst this
      exact bX10_found_3 a N ha _ _ _ _ _ ⟨fun _ => H2, fun z => absurd (Int32.le_refl _) z⟩
    | succ q ih =>
      intro i hi H2
      refine bX10_found_3 a N ha _ _ _ _ _ ⟨fun z => absurd z (nI_ge (by omega) (by omega)), fun _ => ?_⟩
      rw [nI_add, nI_clamp (by omega)]
      refine ⟨vp_in_nI (by omega) (by omega), fun z => ?_, fun z => ?_⟩
      · have e : fdS (fun i => h.1 a (f + i)) x i (q + 1) = fdS (fun i => h.1 a (f + i)) x (i + 1) q := if_neg z
        rw [e] at H2
        rw [nI_1]
        exact ih (i + 1) (by omega) H2
      · have e : fdS (fun i => h.1 a (f + i)) x i (q + 1) = nI i := if_pos z
        rw [e] at H2
        exact H2
  exact key k 0 (by omega) H
theorem j_named {x y : Int32} (g : GR hC hM) : AW GC l ad (d + 1) mX9_named 0 [(0, .ref (ad 0)), (1, .int x), (2, .int y)] [] hC (qi (jq l' ad' (d' + 1) adK adV mX10_named [(0, .ref (ad' 0)), (1, .int x), (2, .int y)] hM)) := by
  obtain ⟨sy, m, t, n, D0, D, g⟩ := g
  have g2 := g_thr g
  have G : GR hC (sI hM 0 0 0) := ⟨_, _, _, _, _, _, g2⟩
  obtain ⟨e1, e2, e3, e4, e5, e6, hm, ht, hD⟩ := g_S g2
  obtain ⟨⟨s1, s2, s3, s4, s5, s6⟩, -⟩ := g2
  refine bX9_named_0 _ _ _ ⟨fun z => ⟨fun z2 => ?_, fun z2 => mref e1 ⟨e2, ?_⟩⟩, fun z => mref e1 ⟨e2, ?_⟩⟩
  · exact bX10_named_0 _ _ _ ⟨fun q => absurd q z, fun q => absurd q z2, fun _ _ => ⟨rfl, G⟩⟩
  · rw [e4]
    refine sp_indexOf (N := 6) (e2.2.1 1 (by decide)) ht (by decide) ?_
    refine bX10_named_0 _ _ _ ⟨fun q => absurd q z, fun _ => ?_, fun _ q => absurd z2 q⟩
    rw [e6]
    refine m_found (f := 0) (N := 12) rfl (by omega) (by decide) ⟨?_, G⟩
    refine fdS_ext t 0 (fun j h1 h2 => ?_)
    rw [Nat.zero_add, (s6.2.1 j (by omega)).1, wd_at (by decide)]
  · rw [e3]
    refine sp_indexOf (N := 6) (e2.2.1 0 (by decide)) hm (by decide) ?_
    refine bX10_named_0 _ _ _ ⟨fun _ => ?_, fun q => absurd (z.symm.trans q) (by decide), fun q _ => absurd z q⟩
    rw [e5]
    refine m_found (f := 0) (N := 12) rfl (by omega) (by decide) ⟨?_, G⟩
    refine fdS_ext m 0 (fun j h1 h2 => ?_)
    rw [Nat.zero_add, (s6.1 j (by omega)).1, wd_at (by decide)]
end PU
