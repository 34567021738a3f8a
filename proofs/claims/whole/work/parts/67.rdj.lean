/-! ===== reading, both sides side by side: what may change, the smallest steps ===== -/
def hf (a : Nat) : Nat := if a = 2 then 7 else if a ≤ 8 then 6 else if a ≤ 13 then 8 else if a ≤ 16 then 10 else if a ≤ 18 then 3 else 64
/-- what reading may change of the class: where it stands, the fault, the story that is read -/
def fC (y : Nat) (h h' : aH) : Prop := h'.2 = h.2 ∧ ∀ a j, (a = 2 → j ≠ 2 ∧ j ≠ 3 ∧ j ≠ 4) → (a < y ∨ y + 29 ≤ a) → h'.1 a j = h.1 a j
def mF (j : Nat) : Prop := j = 22 ∨ j = 23 ∨ (25 ≤ j ∧ j ≤ 30) ∨ j = 33 ∨ j = 34
/-- and of the reference: its second halves, and what it reads by -/
def fM (h h' : aH) : Prop := h'.2 = h.2 ∧ ∀ a j, (a = 0 → ¬ mF j) → (2 ≤ a → a ≤ 20 → j < hf a) → h'.1 a j = h.1 a j
section FR
variable {h h' h'' : aH} {y : Nat}
theorem fC_rfl : fC y h h := ⟨rfl, fun _ _ _ _ => rfl⟩
theorem fC_tr (a : fC y h h') (b : fC y h' h'') : fC y h h'' := ⟨b.1.trans a.1, fun c k q r => (b.2 c k q r).trans (a.2 c k q r)⟩
theorem fC_s {a k : Nat} {v : Int32} (f : fC y h h') (hk : (a = 2 ∧ (k = 2 ∨ k = 3 ∨ k = 4)) ∨ (y ≤ a ∧ a < y + 29)) : fC y h (sI h' a k v) := by
  refine ⟨f.1, fun c j q r => ?_⟩
  by_cases w : c = a ∧ j = k
  · obtain ⟨rfl, rfl⟩ := w
    exfalso
    rcases hk with ⟨e, hk⟩ | hk
    · have := q e; omega
    · omega
  · show (if c = a ∧ j = k then v else h'.1 c j) = _
    rw [if_neg w]; exact f.2 c j q r
theorem fM_rfl : fM h h := ⟨rfl, fun _ _ _ _ => rfl⟩
theorem fM_tr (a : fM h h') (b : fM h' h'') : fM h h'' := ⟨b.1.trans a.1, fun c k q r => (b.2 c k q r).trans (a.2 c k q r)⟩
theorem fM_s {a k : Nat} {v : Int32} (f : fM h h') (hk : (a = 0 ∧ mF k) ∨ (2 ≤ a ∧ a ≤ 20 ∧ hf a ≤ k)) : fM h (sI h' a k v) := by
  refine ⟨f.1, fun c j q r => ?_⟩
  by_cases w : c = a ∧ j = k
  · obtain ⟨rfl, rfl⟩ := w
    exfalso
    rcases hk with ⟨e, hk⟩ | ⟨h1, h2, h3⟩
    · exact q e hk
    · have := r h1 h2; omega
  · show (if c = a ∧ j = k then v else h'.1 c j) = _
    rw [if_neg w]; exact f.2 c j q r
theorem fM_fr (f : frM h h') : fM h h' := ⟨f.1, fun a j q _ => f.2 a j (fun e => by have := q e; unfold mF at this; omega)⟩
theorem fm_tr (a : frM h h') (b : frM h' h'') : frM h h'' := ⟨b.1.trans a.1, fun c k q => (b.2 c k q).trans (a.2 c k q)⟩
end FR
section TKH
variable {h : aH} {x1 x2 x3 x4 : Int32}
theorem tk_25 : (tkH h x1 x2 x3 x4).1 0 25 = x1 := by unfold tkH; rw [sI_k (by decide), sI_k (by decide), sI_k (by decide), sI_s]
theorem tk_26 : (tkH h x1 x2 x3 x4).1 0 26 = x2 := by unfold tkH; rw [sI_k (by decide), sI_k (by decide), sI_s]
theorem tk_27 : (tkH h x1 x2 x3 x4).1 0 27 = x3 := by unfold tkH; rw [sI_k (by decide), sI_s]
theorem tk_28 : (tkH h x1 x2 x3 x4).1 0 28 = x4 := by unfold tkH; rw [sI_s]
theorem tk_fr : frM h (tkH h x1 x2 x3 x4) := fm_s (fm_s (fm_s (fm_s fm_rfl (by omega)) (by omega)) (by omega)) (by omega)
end TKH
/-! what tokens alike say -/
section TMI
variable {k v s w : Int32}
theorem tm_num (t : TM k v s w) : (k = 34 ∧ s = 2 ∧ ∃ x y, v = nI x ∧ w = nI y ∧ x ≤ 1000000 ∧ y ≤ 1000000 ∧ (x ≤ 99999 ∧ y = x ∨ 99999 < x ∧ 99999 < y)) ∨ (¬ k = 34 ∧ ¬ s = 2) := by
  have hn : ∀ i, i < 21 → ¬ nI i = 34 := by decide +kernel
  rcases t with ⟨i, h1, h2, h3, h4⟩ | ⟨h1, h2, h3⟩ | h | ⟨h1, h2⟩ | ⟨h1, h2⟩ | ⟨h1, h2⟩
  · exact Or.inr ⟨by rw [h2]; exact hn i h1, by rw [h3]; decide⟩
  · exact Or.inr ⟨by rw [h1]; decide, by rw [h2]; decide⟩
  · exact Or.inl h
  · refine Or.inr ⟨?_, by rw [h1]; decide⟩
    rcases h2 with h | h | h | h | h | h | h | h | h | h | h | h | h <;> rw [h.1] <;> decide
  · exact Or.inr ⟨by rw [h1]; decide, by rw [h2]; decide⟩
  · exact Or.inr ⟨by rw [h1]; decide, by rw [h2]; decide⟩
theorem tm_name (t : TM k v s w) : (k = 35 ∧ s = 1 ∧ w = v) ∨ (¬ k = 35 ∧ ¬ s = 1) := by
  have hn : ∀ i, i < 21 → ¬ nI i = 35 := by decide +kernel
  rcases t with ⟨i, h1, h2, h3, h4⟩ | h | ⟨h1, h2, -⟩ | ⟨h1, h2⟩ | ⟨h1, h2⟩ | ⟨h1, h2⟩
  · exact Or.inr ⟨by rw [h2]; exact hn i h1, by rw [h3]; decide⟩
  · exact Or.inl h
  · exact Or.inr ⟨by rw [h1]; decide, by rw [h2]; decide⟩
  · refine Or.inr ⟨?_, by rw [h1]; decide⟩
    rcases h2 with h | h | h | h | h | h | h | h | h | h | h | h | h <;> rw [h.1] <;> decide
  · exact Or.inr ⟨by rw [h1]; decide, by rw [h2]; decide⟩
  · exact Or.inr ⟨by rw [h1]; decide, by rw [h2]; decide⟩
theorem tm_word (t : TM k v s w) : (∃ i, i < 21 ∧ k = nI i ∧ s = 0 ∧ w = nI (pm i)) ∨ (¬ s = 0 ∧ ∀ i, i < 21 → ¬ k = nI i) := by
  rcases t with h | ⟨h1, h2, -⟩ | ⟨h1, h2, -⟩ | ⟨h1, h2⟩ | ⟨h1, h2⟩ | ⟨h1, h2⟩
  · exact Or.inl h
  · exact Or.inr ⟨by rw [h2]; decide, by rw [h1]; decide +kernel⟩
  · exact Or.inr ⟨by rw [h2]; decide, by rw [h1]; decide +kernel⟩
  · refine Or.inr ⟨by rw [h1]; decide, ?_⟩
    rcases h2 with h | h | h | h | h | h | h | h | h | h | h | h | h <;> rw [h.1] <;> decide +kernel
  · exact Or.inr ⟨by rw [h2]; decide, by rw [h1]; decide +kernel⟩
  · exact Or.inr ⟨by rw [h2]; decide, by rw [h1]; decide +kernel⟩
theorem tm_sign (t : TM k v s w) : (s = 3 ∧ sgR k w) ∨ (¬ s = 3 ∧ ∀ j, j < 13 → ¬ k = nI (21 + j)) := by
  have hn : ∀ i, i < 21 → ∀ j, j < 13 → ¬ nI i = nI (21 + j) := fun i hi j hj z => by
    have := (nI_eq (by omega) (by omega)).mp z
    omega
  rcases t with ⟨i, h1, h2, h3, h4⟩ | ⟨h1, h2, -⟩ | ⟨h1, h2, -⟩ | h | ⟨h1, h2⟩ | ⟨h1, h2⟩
  · exact Or.inr ⟨by rw [h3]; decide, by rw [h2]; exact hn i h1⟩
  · exact Or.inr ⟨by rw [h2]; decide, by rw [h1]; decide +kernel⟩
  · exact Or.inr ⟨by rw [h2]; decide, by rw [h1]; decide +kernel⟩
  · exact Or.inl h
  · exact Or.inr ⟨by rw [h2]; decide, by rw [h1]; decide +kernel⟩
  · exact Or.inr ⟨by rw [h2]; decide, by rw [h1]; decide +kernel⟩
theorem tm_end (t : TM k v s w) : (k = 36 ∧ s = 4) ∨ (¬ k = 36 ∧ ¬ s = 4) := by
  have hn : ∀ i, i < 21 → ¬ nI i = 36 := by decide +kernel
  rcases t with ⟨i, h1, h2, h3, h4⟩ | ⟨h1, h2, -⟩ | ⟨h1, h2, -⟩ | ⟨h1, h2⟩ | h | ⟨h1, h2⟩
  · exact Or.inr ⟨by rw [h2]; exact hn i h1, by rw [h3]; decide⟩
  · exact Or.inr ⟨by rw [h1]; decide, by rw [h2]; decide⟩
  · exact Or.inr ⟨by rw [h1]; decide, by rw [h2]; decide⟩
  · refine Or.inr ⟨?_, by rw [h1]; decide⟩
    rcases h2 with h | h | h | h | h | h | h | h | h | h | h | h | h <;> rw [h.1] <;> decide
  · exact Or.inl h
  · exact Or.inr ⟨by rw [h1]; decide, by rw [h2]; decide⟩
end TMI
/-- a text: its bytes, how many, the last token, places and ends of tokens; a token behind which one stands -/
abbrev tX : Type := (Nat → Nat) × Nat × Nat × (Nat → Nat) × (Nat → Nat) × Nat
/-- both stand at token i, without a fault -/
def RD (τ : tX) (i : Nat) (hC hM : aH) : Prop := atT hC i τ.2.2.1 ∧ TL τ.1 τ.2.1 hC (τ.2.2.1 + 1) τ.2.2.2.1 τ.2.2.2.2.1 ∧ hC.1 4 τ.2.2.1 = 36 ∧ hC.1 2 3 = 0 ∧ inT hM τ.1 τ.2.1 (τ.2.2.2.2.1 (i + 1)) ∧ hM.1 0 26 = nI (τ.2.2.2.1 i) ∧ TM (hC.1 4 i) (hC.1 6 i) (hM.1 0 27) (hM.1 0 28) ∧ hM.1 0 29 = 0 ∧ hC.1 2 4 = -1 ∧ hM.1 0 30 = -1
/-- both have found the same fault -/
def BD (hC hM : aH) : Prop := ¬ hC.1 2 3 = 0 ∧ hC.1 2 3 = hM.1 0 29 ∧ hC.1 2 4 = hM.1 0 30
def rfC (h : aH) (i : Nat) (x : Int32) : aH := sI (sI h 2 3 x) 2 4 (h.1 5 i)
def rfM (h : aH) (x : Int32) : aH := sI (sI h 0 29 x) 0 30 (h.1 0 26)
def stX (h h' : aH) : Prop := h' = h ∨ ∃ v, h' = sI h 2 2 v
section RJ
variable {adK adV : Nat → Nat} {τ : tX} {i y : Nat} {hC hM hC' hM' h h' : aH} {x : Int32}
theorem rd_tm (R : RD τ i hC hM) : TM (hC.1 4 i) (hC.1 6 i) (hM.1 0 27) (hM.1 0 28) := R.2.2.2.2.2.2.1
theorem rd_c0 (R : RD τ i hC hM) : hC.1 2 3 = 0 := R.2.2.2.1
theorem rd_m0 (R : RD τ i hC hM) : hM.1 0 29 = 0 := R.2.2.2.2.2.2.2.1
theorem rd_pl (R : RD τ i hC hM) : hC.1 2 4 = -1 ∧ hM.1 0 30 = -1 := R.2.2.2.2.2.2.2.2
theorem bd_m (B : BD hC hM) : ¬ hM.1 0 29 = 0 := by rw [← B.2.1]; exact B.1
theorem rd_bd (R : RD τ i hC hM) (B : BD hC hM) : False := B.1 (rd_c0 R)
theorem rd_ext (R : RD τ i hC hM) (eC : ∀ a j, a < 7 → hC'.1 a j = hC.1 a j) (eM : ∀ a j, a = 1 ∨ (a = 0 ∧ 24 ≤ j ∧ j ≤ 30) → hM'.1 a j = hM.1 a j) : RD τ i hC' hM' := by
  obtain ⟨⟨t1, t2, t3, t4⟩, T, k36, f0, ⟨i1, i2, i3, i4, i5⟩, p, tm, g0, p1, p2⟩ := R
  refine ⟨⟨t1, t2, (eC _ _ (by omega)).trans t3, (eC _ _ (by omega)).trans t4⟩, ⟨T.1, fun j hj => ?_⟩, (eC _ _ (by omega)).trans k36, (eC _ _ (by omega)).trans f0, ⟨i1, fun k hk => ?_, (eM _ _ (by omega)).trans i3, (eM _ _ (by omega)).trans i4, i5⟩, (eM _ _ (by omega)).trans p, ?_, (eM _ _ (by omega)).trans g0, (eC _ _ (by omega)).trans p1, (eM _ _ (by omega)).trans p2⟩
  · rw [eC _ _ (by omega), eC _ _ (by omega), eC _ _ (by omega)]; exact T.2 j hj
  · rw [eM _ _ (by omega)]; exact i2 k hk
  · rw [eC _ _ (by omega), eC _ _ (by omega), eM _ _ (by omega), eM _ _ (by omega)]; exact tm
theorem rd_m {a k : Nat} {v : Int32} (R : RD τ i hC hM) (ha : 2 ≤ a ∨ (a = 0 ∧ (k < 24 ∨ 30 < k))) : RD τ i hC (sI hM a k v) := by
  refine rd_ext R (fun _ _ _ => rfl) (fun c j q => ?_)
  show (if c = a ∧ j = k then v else hM.1 c j) = _
  rw [if_neg (fun w => by omega)]
theorem rd_c {a k : Nat} {v : Int32} (R : RD τ i hC hM) (ha : 7 ≤ a) : RD τ i (sI hC a k v) hM := by
  refine rd_ext R (fun c j q => ?_) (fun _ _ _ => rfl)
  show (if c = a ∧ j = k then v else hC.1 c j) = _
  rw [if_neg (fun w => by omega)]
theorem bd_mw {a k : Nat} {v : Int32} (B : BD hC hM) (ha : a = 0 → k ≠ 29 ∧ k ≠ 30) : BD hC (sI hM a k v) := by
  have e : ∀ j, j = 29 ∨ j = 30 → (sI hM a k v).1 0 j = hM.1 0 j := fun j hj => by
    show (if 0 = a ∧ j = k then v else hM.1 0 j) = _
    rw [if_neg (fun w => by have := ha w.1.symm; omega)]
  unfold BD
  rw [e 29 (by omega), e 30 (by omega)]
  exact B
theorem bd_cw {a k : Nat} {v : Int32} (B : BD hC hM) (ha : a = 2 → k ≠ 3 ∧ k ≠ 4) : BD (sI hC a k v) hM := by
  have e : ∀ j, j = 3 ∨ j = 4 → (sI hC a k v).1 2 j = hC.1 2 j := fun j hj => by
    show (if 2 = a ∧ j = k then v else hC.1 2 j) = _
    rw [if_neg (fun w => by have := ha w.1.symm; omega)]
  unfold BD
  rw [e 3 (by omega), e 4 (by omega)]
  exact B
theorem stX_fC (s : stX h h') : fC y h h' := by
  rcases s with rfl | ⟨v, rfl⟩
  · exact fC_rfl
  · exact fC_s fC_rfl (by omega)
theorem stX_bd (s : stX hC hC') (B : BD hC hM) : BD hC' hM := by
  rcases s with rfl | ⟨v, rfl⟩
  · exact B
  · exact bd_cw B (fun _ => ⟨by decide, by decide⟩)
theorem rdj_lt (R : RD τ i hC hM) (k : ¬ hC.1 4 i = 36) : i < τ.2.2.1 := by
  obtain ⟨⟨t1, -⟩, -, k36, -⟩ := R
  rcases Nat.lt_or_ge i τ.2.2.1 with w | w
  · exact w
  · exfalso
    apply k
    rw [show i = τ.2.2.1 by omega]; exact k36
/-- on to the next token -/
theorem j_adv (R : RD τ i hC hM) (k : ¬ hC.1 4 i = 36) : ∃ hM', RD τ (i + 1) (sI hC 2 2 (nI (i + 1))) hM' ∧ frM hM hM' ∧ (∀ {l : Launch} {ad : Nat → Nat} {d : Nat} {Q : aH → Prop}, Q (sI hC 2 2 (nI (i + 1))) → AW GC l ad d mX3_step 0 [(0, .ref (ad 2))] [] hC (qv Q)) ∧ ∀ {l : Launch} {ad : Nat → Nat} {d : Nat} {Q : aH → Prop}, Q hM' → AW (GM adK adV) l ad (d + 5) mX10_token 0 [(0, .ref (ad 0))] [] hM (qv Q) := by
  have hi := rdj_lt R k
  obtain ⟨⟨t1, t2, t3, t4⟩, T, k36, f0, I, p, tm, g0, p1, p2⟩ := R
  obtain ⟨T1, T2⟩ := T.2 (i + 1) (by omega)
  obtain ⟨s, w, m1, m2⟩ := m_tokenX (adK := adK) (adV := adV) I T2
  have en : τ.2.2.2.2.1 (i + 1 + 1) ≤ τ.2.1 := by
    obtain ⟨q1, q2, q3, q4 | q4⟩ := T2
    · omega
    · exact (tk_e q4).2
  refine ⟨_, ⟨⟨by omega, t2, sI_s, (sI_c (by decide)).trans t4⟩, ⟨T.1, fun j hj => ?_⟩, (sI_c (by decide)).trans k36, (sI_k (by decide)).trans f0, in_m I tk_fr tk_25 en, tk_26, ?_, (tk_fr.2 0 29 (by decide)).trans g0, (sI_k (by decide)).trans p1, (tk_fr.2 0 30 (by decide)).trans p2⟩, tk_fr, fun q => ?_, m2⟩
  · rw [sI_c (by decide), sI_c (by decide), sI_c (by decide)]; exact T.2 j hj
  · rw [sI_c (by decide), sI_c (by decide), tk_27, tk_28]; exact m1
  · exact c_step ⟨t1, t2, t3, t4⟩ (fun _ => q) (fun w => absurd w (by omega))
theorem c_ref {l : Launch} {ad : Nat → Nat} {d : Nat} {Q : aH → Prop} (R : RD τ i hC hM) (q : Q (rfC hC i x)) : AW GC l ad d mX3_refuse 0 [(0, .ref (ad 2)), (1, .int x)] [] hC (qv Q) := c_refuse R.1 (fun _ => q) (fun z => absurd (rd_c0 R) z)
theorem c_refB {l : Launch} {ad : Nat → Nat} {d : Nat} {Q : aH → Prop} (B : ¬ h.1 2 3 = 0) (q : Q h) : AW GC l ad d mX3_refuse 0 [(0, .ref (ad 2)), (1, .int x)] [] h (qv Q) := bX3_refuse_0 _ _ ⟨fun _ => q, fun z => absurd z B⟩
theorem m_wrg {l : Launch} {ad : Nat → Nat} {d : Nat} {Q : aH → Prop} (e : h.1 0 29 = 0) (q : Q (rfM h x)) : AW (GM adK adV) l ad d mX10_wrong 0 [(0, .ref (ad 0)), (1, .int x)] [] h (qv Q) := by
  refine bX10_wrong_0 _ _ ⟨fun _ => ?_, fun z => absurd e z⟩
  rw [sI_k (by decide)]; exact q
theorem c_stepX (h : aH) : ∃ h', stX h h' ∧ ∀ {l : Launch} {ad : Nat → Nat} {d : Nat} {Q : aH → Prop}, Q h' → AW GC l ad d mX3_step 0 [(0, .ref (ad 2))] [] h (qv Q) := by
  by_cases z : h.1 3 3 ≤ h.1 2 2 + 1
  · exact ⟨h, Or.inl rfl, fun q => bX3_step_0 _ ⟨fun _ => q, fun w => absurd z w⟩⟩
  · exact ⟨_, Or.inr ⟨_, rfl⟩, fun q => bX3_step_0 _ ⟨fun w => absurd w z, fun _ => q⟩⟩
theorem j_ref (R : RD τ i hC hM) (hx : ¬ x = 0) : BD (rfC hC i x) (rfM hM x) := by
  have p := R.2.2.2.2.2.1
  have T := (R.2.1.2 i (by have := R.1.1; omega)).1
  unfold BD rfC rfM
  rw [sI_k (a := 2) (b := 3) (by decide), sI_s, sI_s, sI_k (a := 0) (b := 29) (by decide), sI_s, sI_s, T, p]
  exact ⟨hx, rfl, rfl⟩
theorem rfC_f : fC y h (rfC h i x) := fC_s (fC_s fC_rfl (by omega)) (by omega)
theorem rfM_f : fM h (rfM h x) := fM_s (fM_s fM_rfl (Or.inl ⟨rfl, by unfold mF; omega⟩)) (Or.inl ⟨rfl, by unfold mF; omega⟩)
/-- a number -/
theorem j_num {x1 x2 : Int32} {lo hi : Nat} (e1 : x1 = nI lo) (e2 : x2 = nI hi) (hlo : lo ≤ hi) (hhi : hi ≤ 99999) (J : RD τ i hC hM ∨ BD hC hM) : ∃ z w hC' hM', fC y hC hC' ∧ fM hM hM' ∧ (∀ {l : Launch} {ad : Nat → Nat} {d : Nat} {Q : Int32 → aH → Prop}, Q z hC' → AW GC l ad (d + 1) mX3_takeNumber 0 [(0, .ref (ad 2)), (1, .int x1), (2, .int x2)] [] hC (qi Q)) ∧ (∀ {l : Launch} {ad : Nat → Nat} {d : Nat} {Q : Int32 → aH → Prop}, Q w hM' → AW (GM adK adV) l ad (d + 6) mX10_numeral 0 [(0, .ref (ad 0)), (1, .int x1), (2, .int x2)] [] hM (qi Q)) ∧ ((RD τ i hC hM ∧ RD τ (i + 1) hC' hM' ∧ hC' = sI hC 2 2 (nI (i + 1)) ∧ frM hM hM' ∧ ∃ x, lo ≤ x ∧ x ≤ hi ∧ z = nI x ∧ w = nI x) ∨ BD hC' hM') := by
  rcases J with R | B
  · have F : ∀ {u : Int32} (hu : ¬ u = 0), ∃ hC', stX (rfC hC i u) hC' ∧ BD hC' (rfM hM u) ∧ ∀ {l : Launch} {ad : Nat → Nat} {d : Nat} {v : Int32} {Q : Int32 → aH → Prop}, Q v hC' → AW GC l ad d mX3_refuse 0 [(0, .ref (ad 2)), (1, .int u)] [] hC (qv fun h7 => AW GC l ad (d + 1) mX3_takeNumber 46 [(0, .ref (ad 2)), (3, .int v)] [] h7 (qi Q)) := by
      intro u hu
      obtain ⟨h', s1, s2⟩ := c_stepX (rfC hC i u)
      exact ⟨h', s1, stX_bd s1 (j_ref R hu), fun q => c_ref R (bX3_takeNumber_46 _ _ (s2 q))⟩
    have f0 := rd_c0 R
    have g0 := rd_m0 R
    have bm : ∀ {u : Int32}, ¬ u = 0 → ¬ (rfM hM u).1 0 29 = 0 := fun hu => bd_m (j_ref R hu)
    rcases tm_num (rd_tm R) with ⟨k1, k2, x, y', v1, v2, v3, v4, v5⟩ | ⟨k1, k2⟩
    · by_cases ok : lo ≤ x ∧ x ≤ hi
      · have ey : y' = x := by omega
        subst ey
        obtain ⟨hM', a1, a2, a3, a4⟩ := j_adv (adK := adK) (adV := adV) R (by rw [k1]; decide)
        refine ⟨nI y', nI y', _, hM', fC_s fC_rfl (by omega), fM_fr a2, fun q => ?_, fun q => ?_, Or.inl ⟨R, a1, rfl, a2, y', ok.1, ok.2, rfl, rfl⟩⟩
        · refine bX3_takeNumber_0 _ _ _ ⟨fun _ => c_value R.1 (c_kind R.1 ?_), fun z => absurd f0 z⟩
          rw [k1, v1, e1, e2]
          exact ⟨fun _ => ⟨fun z => absurd z (nI_nlt ok.1 (by omega)), fun _ => ⟨fun _ => bX3_takeNumber_46 _ _ (a3 q), fun z => absurd (nI_le ok.2 (by omega)) z⟩⟩, fun z => absurd rfl z⟩
        · refine bX10_numeral_0 _ _ _ ?_
          rw [g0, k2, v2, e1, e2]
          refine ⟨fun _ => ⟨fun _ => ⟨fun z => absurd z (nI_nlt ok.1 (by omega)), fun _ => ⟨fun _ => bX10_numeral_46 _ _ ⟨fun _ => a4 ?_, fun z => absurd g0 z⟩, fun z => absurd (nI_le ok.2 (by omega)) z⟩⟩, fun z => absurd rfl z⟩, fun z => absurd rfl z⟩
          rw [v2]; exact q
      · obtain ⟨hC', s1, s2, s3⟩ := F (u := 2) (by decide)
        refine ⟨nI x, x1, hC', rfM hM 2, fC_tr rfC_f (stX_fC s1), rfM_f, fun q => ?_, @fun l ad d Q q => ?_, Or.inr s2⟩
        · refine bX3_takeNumber_0 _ _ _ ⟨fun _ => c_value R.1 (c_kind R.1 ?_), fun z => absurd f0 z⟩
          rw [k1, v1, e1, e2]
          refine ⟨fun _ => ⟨fun _ => bX3_takeNumber_41 _ _ (s3 q), fun z => ⟨fun z2 => absurd ?_ ok, fun _ => bX3_takeNumber_41 _ _ (s3 q)⟩⟩, fun z => absurd rfl z⟩
          refine ⟨?_, (nI_leI (by omega) (by omega)).mp z2⟩
          rcases Nat.lt_or_ge x lo with w | w
          · exact absurd (nI_lt w (by omega)) z
          · exact w
        · have nx : AW (GM adK adV) l ad (d + 6) mX10_numeral 41 [(0, .ref (ad 0)), (1, .int x1)] [] hM (qi Q) := bX10_numeral_41 x1 hM (m_wrg g0 (bX10_numeral_46 _ _ ⟨fun z => absurd z (bm (by decide)), fun _ => q⟩))
          refine bX10_numeral_0 _ _ _ ?_
          rw [g0, k2, v2]
          refine ⟨fun _ => ⟨fun _ => ⟨fun _ => nx, fun z => ⟨fun z2 => absurd ?_ ok, fun _ => nx⟩⟩, fun z => absurd rfl z⟩, fun z => absurd rfl z⟩
          rw [e1] at z
          rw [e2] at z2
          have hy : lo ≤ y' := by
            rcases Nat.lt_or_ge y' lo with w | w
            · exact absurd (nI_lt w (by omega)) z
            · exact w
          have hy2 := (nI_leI (by omega) (by omega)).mp z2
          omega
    · obtain ⟨hC', s1, s2, s3⟩ := F (u := 1) (by decide)
      refine ⟨hC.1 6 i, x1, hC', rfM hM 1, fC_tr rfC_f (stX_fC s1), rfM_f, fun q => ?_, fun q => ?_, Or.inr s2⟩
      · exact bX3_takeNumber_0 _ _ _ ⟨fun _ => c_value R.1 (c_kind R.1 ⟨fun z => absurd z k1, fun _ => s3 q⟩), fun z => absurd f0 z⟩
      · exact bX10_numeral_0 _ _ _ ⟨fun _ => ⟨fun z => absurd z k2, fun _ => m_wrg g0 (bX10_numeral_46 _ _ ⟨fun z => absurd z (bm (by decide)), fun _ => q⟩)⟩, fun z => absurd g0 z⟩
  · exact ⟨0, x1, hC, hM, fC_rfl, fM_rfl, fun q => bX3_takeNumber_0 _ _ _ ⟨fun z => absurd z B.1, fun _ => q⟩, fun q => bX10_numeral_0 _ _ _ ⟨fun z => absurd z (bd_m B), fun _ => q⟩, Or.inr B⟩
end RJ
