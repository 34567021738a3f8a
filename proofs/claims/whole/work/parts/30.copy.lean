/-! ===== books and worlds copied ===== -/
def bkT (h : aH) (b : Nat) : wT := fun j i => if j = 0 then (if i = 13 then h.1 23 b else if i = 14 then h.1 24 b else if i = 11 then h.1 25 b else if i = 12 then h.1 26 b else 0) else if j = 1 then (if i < 6 then h.1 27 (6 * b + i) else 0) else if j = 2 then (if i < 6 then h.1 28 (6 * b + i) else 0) else if j = 12 then (if i < 6 then h.1 29 (6 * b + i) else 0) else if 3 ≤ j ∧ j ≤ 9 then (if i < 8 then h.1 (27 + j) (8 * b + i) else 0) else 0
section BK
variable {h : aH} {b : Nat}
theorem bk13 : bkT h b 0 13 = h.1 23 b := rfl
theorem bk14 : bkT h b 0 14 = h.1 24 b := rfl
theorem bk11 : bkT h b 0 11 = h.1 25 b := rfl
theorem bk12 : bkT h b 0 12 = h.1 26 b := rfl
theorem bk1 {i : Nat} (hi : i < 6) : bkT h b 1 i = h.1 27 (6 * b + i) := by
  show (if i < 6 then h.1 27 (6 * b + i) else 0) = _
  rw [if_pos hi]
theorem bk2 {i : Nat} (hi : i < 6) : bkT h b 2 i = h.1 28 (6 * b + i) := by
  show (if i < 6 then h.1 28 (6 * b + i) else 0) = _
  rw [if_pos hi]
theorem bkK {i : Nat} (hi : i < 6) : bkT h b 12 i = h.1 29 (6 * b + i) := by
  show (if i < 6 then h.1 29 (6 * b + i) else 0) = _
  rw [if_pos hi]
theorem bkR {j i : Nat} (h1 : 3 ≤ j) (h2 : j ≤ 9) (hi : i < 8) : bkT h b j i = h.1 (27 + j) (8 * b + i) := by
  unfold bkT
  rw [if_neg (by omega), if_neg (by omega), if_neg (by omega), if_neg (by omega), if_pos ⟨h1, h2⟩, if_pos hi]
end BK
theorem pB_bk (h : aH) (b : Nat) : pB h b (bkT h b) = h := by
  refine Prod.ext ?_ rfl
  funext c k
  cases e : adr b c k with
  | none => rw [pB_off e]
  | some p =>
    obtain ⟨j, i⟩ := p
    rw [pB_get e]
    unfold adr at e
    by_cases h1 : c = 23
    · rw [if_pos h1] at e; split at e
      · cases e; subst h1; rename_i e; subst e; rfl
      · cases e
    rw [if_neg h1] at e
    by_cases h2 : c = 24
    · rw [if_pos h2] at e; split at e
      · cases e; subst h2; rename_i e; subst e; rfl
      · cases e
    rw [if_neg h2] at e
    by_cases h3 : c = 25
    · rw [if_pos h3] at e; split at e
      · cases e; subst h3; rename_i e; subst e; rfl
      · cases e
    rw [if_neg h3] at e
    by_cases h4 : c = 26
    · rw [if_pos h4] at e; split at e
      · cases e; subst h4; rename_i e; subst e; rfl
      · cases e
    rw [if_neg h4] at e
    by_cases h5 : c = 27
    · rw [if_pos h5] at e; split at e
      · rename_i q; cases e; subst h5; rw [bk1 (by omega), Nat.add_sub_cancel' q.1]
      · cases e
    rw [if_neg h5] at e
    by_cases h6 : c = 28
    · rw [if_pos h6] at e; split at e
      · rename_i q; cases e; subst h6; rw [bk2 (by omega), Nat.add_sub_cancel' q.1]
      · cases e
    rw [if_neg h6] at e
    by_cases h7 : c = 29
    · rw [if_pos h7] at e; split at e
      · rename_i q; cases e; subst h7; rw [bkK (by omega), Nat.add_sub_cancel' q.1]
      · cases e
    rw [if_neg h7] at e
    split at e
    · rename_i q1
      split at e
      · rename_i q; cases e
        rw [bkR (by omega) (by omega) (by omega), Nat.add_sub_cancel' q.1, Nat.add_sub_cancel' (by omega)]
      · cases e
    · cases e
/-- another book's cells -/
theorem a_other {b b' c k : Nat} {p : Nat × Nat} (e : adr b c k = some p) (hb : b ≠ b') : adr b' c k = none := by
  have h := adr_inv e
  obtain ⟨j, i⟩ := p
  cases e2 : adr b' c k with
  | none => rfl
  | some p' =>
    exfalso
    unfold adr at e e2
    by_cases h1 : c = 23
    · rw [if_pos h1] at e e2; split at e <;> split at e2 <;> first | (cases e; done) | (cases e2; done) | omega
    rw [if_neg h1] at e e2
    by_cases h2 : c = 24
    · rw [if_pos h2] at e e2; split at e <;> split at e2 <;> first | (cases e; done) | (cases e2; done) | omega
    rw [if_neg h2] at e e2
    by_cases h3 : c = 25
    · rw [if_pos h3] at e e2; split at e <;> split at e2 <;> first | (cases e; done) | (cases e2; done) | omega
    rw [if_neg h3] at e e2
    by_cases h4 : c = 26
    · rw [if_pos h4] at e e2; split at e <;> split at e2 <;> first | (cases e; done) | (cases e2; done) | omega
    rw [if_neg h4] at e e2
    by_cases h5 : c = 27
    · rw [if_pos h5] at e e2; split at e <;> split at e2 <;> first | (cases e; done) | (cases e2; done) | omega
    rw [if_neg h5] at e e2
    by_cases h6 : c = 28
    · rw [if_pos h6] at e e2; split at e <;> split at e2 <;> first | (cases e; done) | (cases e2; done) | omega
    rw [if_neg h6] at e e2
    by_cases h7 : c = 29
    · rw [if_pos h7] at e e2; split at e <;> split at e2 <;> first | (cases e; done) | (cases e2; done) | omega
    rw [if_neg h7] at e e2
    by_cases h8 : 30 ≤ c ∧ c ≤ 36
    · rw [if_pos h8] at e e2; split at e <;> split at e2 <;> first | (cases e; done) | (cases e2; done) | omega
    · rw [if_neg h8] at e; cases e
theorem bk_ext {h h' : aH} {b : Nat} (H : ∀ c k p, adr b c k = some p → h'.1 c k = h.1 c k) : bkT h' b = bkT h b := by
  funext j i
  by_cases h0 : j = 0
  · subst h0
    show (if i = 13 then h'.1 23 b else if i = 14 then h'.1 24 b else if i = 11 then h'.1 25 b else if i = 12 then h'.1 26 b else 0) = (if i = 13 then h.1 23 b else if i = 14 then h.1 24 b else if i = 11 then h.1 25 b else if i = 12 then h.1 26 b else 0)
    rw [H 23 b _ a23, H 24 b _ a24, H 25 b _ a25, H 26 b _ a26]
  by_cases h1 : j = 1
  · subst h1
    show (if i < 6 then h'.1 27 (6 * b + i) else 0) = (if i < 6 then h.1 27 (6 * b + i) else 0)
    by_cases hi : i < 6
    · rw [if_pos hi, if_pos hi, H _ _ _ (a27 hi)]
    · rw [if_neg hi, if_neg hi]
  by_cases h2 : j = 2
  · subst h2
    show (if i < 6 then h'.1 28 (6 * b + i) else 0) = (if i < 6 then h.1 28 (6 * b + i) else 0)
    by_cases hi : i < 6
    · rw [if_pos hi, if_pos hi, H _ _ _ (a28 hi)]
    · rw [if_neg hi, if_neg hi]
  by_cases h3 : j = 12
  · subst h3
    show (if i < 6 then h'.1 29 (6 * b + i) else 0) = (if i < 6 then h.1 29 (6 * b + i) else 0)
    by_cases hi : i < 6
    · rw [if_pos hi, if_pos hi, H _ _ _ (a29 hi)]
    · rw [if_neg hi, if_neg hi]
  unfold bkT
  rw [if_neg h0, if_neg h1, if_neg h2, if_neg h3, if_neg h0, if_neg h1, if_neg h2, if_neg h3]
  by_cases h4 : 3 ≤ j ∧ j ≤ 9
  · rw [if_pos h4, if_pos h4]
    by_cases hi : i < 8
    · rw [if_pos hi, if_pos hi, H _ _ _ (a30 hi h4.1 h4.2)]
    · rw [if_neg hi, if_neg hi]
  · rw [if_neg h4, if_neg h4]
theorem bk_o {h : aH} {b b' : Nat} {β : wT} (hb : b' ≠ b) : bkT (pB h b β) b' = bkT h b' := bk_ext (fun _ _ _ e => pB_off (a_other e hb))
theorem pB_ext {h : aH} {b : Nat} {β β' : wT} (H : ∀ c k j i, adr b c k = some (j, i) → β j i = β' j i) : pB h b β = pB h b β' := by
  refine Prod.ext ?_ rfl
  funext c k
  cases e : adr b c k with
  | none => rw [pB_off e, pB_off e]
  | some p => obtain ⟨j, i⟩ := p; rw [pB_get e, pB_get e]; exact H c k j i e
/-- what a book's table can be asked -/
def vlB (j i : Nat) : Prop := (j = 0 ∧ (i = 11 ∨ i = 12 ∨ i = 13 ∨ i = 14)) ∨ ((j = 1 ∨ j = 2 ∨ j = 12) ∧ i < 6) ∨ (3 ≤ j ∧ j ≤ 9 ∧ i < 8)
theorem adr_vl {b c k j i : Nat} (e : adr b c k = some (j, i)) : vlB j i := by
  unfold adr at e
  unfold vlB
  by_cases h1 : c = 23
  · rw [if_pos h1] at e; split at e <;> cases e; exact Or.inl ⟨rfl, by omega⟩
  rw [if_neg h1] at e
  by_cases h2 : c = 24
  · rw [if_pos h2] at e; split at e <;> cases e; exact Or.inl ⟨rfl, by omega⟩
  rw [if_neg h2] at e
  by_cases h3 : c = 25
  · rw [if_pos h3] at e; split at e <;> cases e; exact Or.inl ⟨rfl, by omega⟩
  rw [if_neg h3] at e
  by_cases h4 : c = 26
  · rw [if_pos h4] at e; split at e <;> cases e; exact Or.inl ⟨rfl, by omega⟩
  rw [if_neg h4] at e
  by_cases h5 : c = 27
  · rw [if_pos h5] at e; split at e <;> cases e; exact Or.inr (Or.inl ⟨by omega, by omega⟩)
  rw [if_neg h5] at e
  by_cases h6 : c = 28
  · rw [if_pos h6] at e; split at e <;> cases e; exact Or.inr (Or.inl ⟨by omega, by omega⟩)
  rw [if_neg h6] at e
  by_cases h7 : c = 29
  · rw [if_pos h7] at e; split at e <;> cases e; exact Or.inr (Or.inl ⟨by omega, by omega⟩)
  rw [if_neg h7] at e
  split at e
  · split at e <;> cases e; exact Or.inr (Or.inr ⟨by omega, by omega, by omega⟩)
  · cases e
theorem bk_pB {h : aH} {b j i : Nat} {β : wT} (hv : vlB j i) : bkT (pB h b β) b j i = β j i := by
  rcases hv with ⟨rfl, h | h | h | h⟩ | ⟨h | h | h, hi⟩ | ⟨h1, h2, hi⟩
  · subst h; rw [bk11, pB_get a25]
  · subst h; rw [bk12, pB_get a26]
  · subst h; rw [bk13, pB_get a23]
  · subst h; rw [bk14, pB_get a24]
  · subst h; rw [bk1 hi, pB_get (a27 hi)]
  · subst h; rw [bk2 hi, pB_get (a28 hi)]
  · subst h; rw [bkK hi, pB_get (a29 hi)]
  · rw [bkR h1 h2 hi, pB_get (a30 hi h1 h2)]
theorem rel_ext {m t D : Nat} {ω β β' : wT} (hm : m ≤ 6) (ht : t ≤ 6) (hD : D ≤ 8) (r : RelW m t D ω β) (H : ∀ j i, vlB j i → β' j i = β j i) : RelW m t D ω β' := by
  obtain ⟨a1, a2, a3, a4, a5, a6, a7, a8⟩ := r
  refine ⟨(H _ _ (Or.inl ⟨rfl, by omega⟩)).trans a1, (H _ _ (Or.inl ⟨rfl, by omega⟩)).trans a2, (H _ _ (Or.inl ⟨rfl, by omega⟩)).trans a3, (H _ _ (Or.inl ⟨rfl, by omega⟩)).trans a4, fun p hp => (H _ _ (Or.inr (Or.inl ⟨by omega, by omega⟩))).trans (a5 p hp), fun e he => (H _ _ (Or.inr (Or.inl ⟨by omega, by omega⟩))).trans (a6 e he), fun i hi j h1 h2 => (H _ _ (Or.inr (Or.inr ⟨h1, h2, by omega⟩))).trans (a7 i hi j h1 h2), fun e he => ?_⟩
  rw [H _ _ (Or.inr (Or.inl ⟨by omega, by omega⟩))]
  exact a8 e he
theorem rel_bk {m t D b : Nat} {h : aH} {ω β : wT} (hm : m ≤ 6) (ht : t ≤ 6) (hD : D ≤ 8) (r : RelW m t D ω β) : RelW m t D ω (bkT (pB h b β) b) := rel_ext hm ht hD r (fun _ _ hv => bk_pB hv)
/-- rows of a table set one behind another -/
theorem it_set {F : Nat → wT → wT} {S : Nat → Bool} {f : wT} (hF : ∀ i β a c, F i β a c = if S a = true ∧ c = i then f a c else β a c) : ∀ n (β : wT) (a c : Nat), itR F n β a c = if S a = true ∧ c < n then f a c else β a c := by
  intro n
  induction n with
  | zero => intro β a c; show β a c = _; rw [if_neg (fun q => Nat.not_lt_zero _ q.2)]
  | succ n ih =>
    intro β a c
    show F n (itR F n β) a c = _
    rw [hF, ih]
    by_cases h1 : S a = true
    · by_cases h2 : c = n
      · rw [if_pos ⟨h1, h2⟩, if_pos ⟨h1, by omega⟩]
      · rw [if_neg (fun q => h2 q.2)]
        by_cases h3 : c < n
        · rw [if_pos ⟨h1, h3⟩, if_pos ⟨h1, by omega⟩]
        · rw [if_neg (fun q => h3 q.2), if_neg (fun q => h3 (by omega))]
    · rw [if_neg (fun q => h1 q.1), if_neg (fun q => h1 q.1), if_neg (fun q => h1 q.1)]
section CPY
variable {adK adV : Nat → Nat} {l : Launch} {ad : Nat → Nat} {d : Nat}
def cpS1 (γ : wT) : Nat → wT → wT := fun i β => u2 β 1 i (γ 1 i)
def cpS2 (γ : wT) : Nat → wT → wT := fun i β => u2 (u2 β 2 i (γ 2 i)) 12 i (γ 12 i)
def cpS3 (γ : wT) : Nat → wT → wT := fun i β => u2 (u2 (u2 (u2 (u2 (u2 (u2 β 3 i (γ 3 i)) 4 i (γ 4 i)) 5 i (γ 5 i)) 6 i (γ 6 i)) 7 i (γ 7 i)) 8 i (γ 8 i)) 9 i (γ 9 i)
theorem u2_app {ω : wT} {j k a c : Nat} {v : Int32} : u2 ω j k v a c = if a = j ∧ c = k then v else ω a c := rfl
theorem cpS1_at (γ : wT) (i : Nat) (β : wT) (a c : Nat) : cpS1 γ i β a c = if (fun a => decide (a = 1)) a = true ∧ c = i then γ a c else β a c := by
  unfold cpS1
  rw [u2_app]
  by_cases h1 : a = 1
  · subst h1
    by_cases h2 : c = i
    · subst h2; simp
    · simp [h2]
  · simp [h1]
theorem cpS2_at (γ : wT) (i : Nat) (β : wT) (a c : Nat) : cpS2 γ i β a c = if (fun a => decide (a = 2 ∨ a = 12)) a = true ∧ c = i then γ a c else β a c := by
  unfold cpS2
  rw [u2_app, u2_app]
  by_cases h2 : c = i
  · subst h2
    by_cases h1 : a = 12
    · subst h1; simp
    · by_cases h3 : a = 2
      · subst h3; simp
      · simp [h1, h3]
  · simp [h2]
theorem cpS3_at (γ : wT) (i : Nat) (β : wT) (a c : Nat) : cpS3 γ i β a c = if (fun a => decide (3 ≤ a ∧ a ≤ 9)) a = true ∧ c = i then γ a c else β a c := by
  unfold cpS3
  rw [u2_app, u2_app, u2_app, u2_app, u2_app, u2_app, u2_app]
  by_cases h2 : c = i
  · subst h2
    by_cases h9 : a = 9
    · subst h9; simp
    by_cases h8 : a = 8
    · subst h8; simp
    by_cases h7 : a = 7
    · subst h7; simp
    by_cases h6 : a = 6
    · subst h6; simp
    by_cases h5 : a = 5
    · subst h5; simp
    by_cases h4 : a = 4
    · subst h4; simp
    by_cases h3 : a = 3
    · subst h3; simp
    · have : ¬ (3 ≤ a ∧ a ≤ 9) := by omega
      simp [h9, h8, h7, h6, h5, h4, h3, this]
  · simp [h2]
theorem m_copies {R : aH → Prop} {h : aH} {x y : Nat} (hx : x < 23) (hy : y < 23) (hxy : x ≠ y) (H : R (pB h x (bkT h y))) : AW (GM adK adV) l ad d mX10_copies 0 [(0, .ref (ad 0)), (1, .int (nI x)), (2, .int (nI y))] [] h (qv R) := by
  have o23 : adr x 23 y = none := a_other a23 (Ne.symm hxy)
  have o24 : adr x 24 y = none := a_other a24 (Ne.symm hxy)
  have o25 : adr x 25 y = none := a_other a25 (Ne.symm hxy)
  have o26 : adr x 26 y = none := a_other a26 (Ne.symm hxy)
  have o27 : ∀ {p}, p < 6 → adr x 27 (6 * y + p) = none := fun hp => a_other (a27 hp) (Ne.symm hxy)
  have o28 : ∀ {p}, p < 6 → adr x 28 (6 * y + p) = none := fun hp => a_other (a28 hp) (Ne.symm hxy)
  have o29 : ∀ {p}, p < 6 → adr x 29 (6 * y + p) = none := fun hp => a_other (a29 hp) (Ne.symm hxy)
  have o30 : ∀ {j p}, p < 8 → 3 ≤ j → j ≤ 9 → adr x (27 + j) (8 * y + p) = none := fun hp h1 h2 => a_other (a30 hp h1 h2) (Ne.symm hxy)
  have K4 : ∀ β : wT, (∀ i, bkT h y 0 i = β 0 i ∨ ¬ vlB 0 i) → (∀ i, i < 6 → bkT h y 1 i = β 1 i ∧ bkT h y 2 i = β 2 i ∧ bkT h y 12 i = β 12 i) → AW (GM adK adV) l ad d mX10_copies 144 [(0, .ref (ad 0)), (1, .int (nI x)), (2, .int (nI y)), (3, .int 0)] [] (pB h x β) (qv R) := by
    intro β hb0 hb1
    refine up_ind (P := fun i => AW (GM adK adV) l ad d mX10_copies 144 [(0, .ref (ad 0)), (1, .int (nI x)), (2, .int (nI y)), (3, .int (nI i))] [] (pB h x (itR (cpS3 (bkT h y)) i β)) (qv R)) 8 ?_ (fun i hi ih => ?_)
    · refine bX10_copies_144 _ _ _ _ ⟨fun _ => ?_, fun z => absurd (by decide) z⟩
      rw [pB_ext (β' := bkT h y)]
      · exact H
      · intro c k j i e
        rw [it_set (cpS3_at _)]
        rcases adr_vl e with ⟨rfl, q⟩ | ⟨q, hi⟩ | ⟨q1, q2, hi⟩
        · rw [if_neg (by simp)]
          rcases hb0 i with z | z
          · exact z.symm
          · exact absurd (Or.inl ⟨rfl, q⟩) z
        · rw [if_neg (by simp; omega)]
          rcases q with rfl | rfl | rfl
          · exact (hb1 i hi).1.symm
          · exact (hb1 i hi).2.1.symm
          · exact (hb1 i hi).2.2.symm
        · rw [if_pos ⟨by simp; omega, hi⟩]
    · refine bX10_copies_144 _ _ _ _ ⟨fun z => absurd z (nI_ge (b := 8) hi (by omega)), fun _ => ⟨?_, ?_, ?_⟩⟩
      · rw [i8]; exact vp_in_nI (by omega) (by omega)
      · rw [i8]; exact vp_in_nI (by omega) (by omega)
      rw [i8, i8, nI_clamp (by omega), nI_clamp (by omega)]
      refine href ?_
      rw [pB_off (o30 (j := 3) hi (by decide) (by decide)), sI_pB (a30 (j := 3) hi (by decide) (by decide)), pB_off (o30 (j := 4) hi (by decide) (by decide)), sI_pB (a30 (j := 4) hi (by decide) (by decide))]
      refine href ?_
      rw [pB_off (o30 (j := 5) hi (by decide) (by decide)), sI_pB (a30 (j := 5) hi (by decide) (by decide)), pB_off (o30 (j := 6) hi (by decide) (by decide)), sI_pB (a30 (j := 6) hi (by decide) (by decide))]
      refine href ?_
      rw [pB_off (o30 (j := 7) hi (by decide) (by decide)), sI_pB (a30 (j := 7) hi (by decide) (by decide)), pB_off (o30 (j := 8) hi (by decide) (by decide)), sI_pB (a30 (j := 8) hi (by decide) (by decide)), pB_off (o30 (j := 9) hi (by decide) (by decide)), sI_pB (a30 (j := 9) hi (by decide) (by decide)), nI_1]
      have e : itR (cpS3 (bkT h y)) (i + 1) β = cpS3 (bkT h y) i (itR (cpS3 (bkT h y)) i β) := rfl
      rw [e] at ih
      unfold cpS3 at ih
      rw [bkR (j := 3) (by decide) (by decide) hi, bkR (j := 4) (by decide) (by decide) hi, bkR (j := 5) (by decide) (by decide) hi, bkR (j := 6) (by decide) (by decide) hi, bkR (j := 7) (by decide) (by decide) hi, bkR (j := 8) (by decide) (by decide) hi, bkR (j := 9) (by decide) (by decide) hi] at ih
      exact ih
  have K3 : ∀ β : wT, (∀ i, bkT h y 0 i = β 0 i ∨ ¬ vlB 0 i) → (∀ i, i < 6 → bkT h y 1 i = β 1 i) → AW (GM adK adV) l ad d mX10_copies 86 [(0, .ref (ad 0)), (1, .int (nI x)), (2, .int (nI y)), (3, .int 0)] [] (pB h x β) (qv R) := by
    intro β hb0 hb1
    refine up_ind (P := fun i => AW (GM adK adV) l ad d mX10_copies 86 [(0, .ref (ad 0)), (1, .int (nI x)), (2, .int (nI y)), (3, .int (nI i))] [] (pB h x (itR (cpS2 (bkT h y)) i β)) (qv R)) 6 ?_ (fun i hi ih => ?_)
    · refine bX10_copies_86 _ _ _ _ ⟨fun _ => K4 _ (fun i => ?_) (fun i hi => ⟨?_, ?_, ?_⟩), fun z => absurd (by decide) z⟩
      · rw [it_set (cpS2_at _), if_neg (by simp)]; exact hb0 i
      · rw [it_set (cpS2_at _), if_neg (by simp)]; exact hb1 i hi
      · rw [it_set (cpS2_at _), if_pos ⟨by simp, hi⟩]
      · rw [it_set (cpS2_at _), if_pos ⟨by simp, hi⟩]
    · refine bX10_copies_86 _ _ _ _ ⟨fun z => absurd z (nI_ge (b := 6) hi (by omega)), fun _ => ⟨?_, ?_, ?_⟩⟩
      · rw [i6]; exact vp_in_nI (by omega) (by omega)
      · rw [i6]; exact vp_in_nI (by omega) (by omega)
      rw [i6, i6, nI_clamp (by omega), nI_clamp (by omega)]
      refine href ?_
      rw [pB_off (o28 hi), sI_pB (a28 hi), pB_off (o29 hi), sI_pB (a29 hi), nI_1]
      have e : itR (cpS2 (bkT h y)) (i + 1) β = cpS2 (bkT h y) i (itR (cpS2 (bkT h y)) i β) := rfl
      rw [e] at ih
      unfold cpS2 at ih
      rw [bk2 hi, bkK hi] at ih
      exact ih
  refine bX10_copies_0 _ _ _ ⟨vp_in_nI hy (by omega), vp_in_nI hx (by omega), ?_⟩
  rw [nI_clamp (by omega), nI_clamp (by omega)]
  have e0 : h = pB h x (bkT h x) := (pB_bk h x).symm
  refine href ?_
  have e1 : (sI (sI h 23 x (h.1 23 y)) 24 x ((sI h 23 x (h.1 23 y)).1 24 y)) = pB h x (u2 (u2 (bkT h x) 0 13 (h.1 23 y)) 0 14 (h.1 24 y)) := by
    have e2 : sI h 23 x (h.1 23 y) = pB h x (u2 (bkT h x) 0 13 (h.1 23 y)) := by
      rw [← sI_pB a23, pB_bk]
    rw [e2, pB_off o24, sI_pB a24]
  rw [e1]
  refine href ?_
  rw [pB_off o25, sI_pB a25, pB_off o26, sI_pB a26]
  refine up_ind (P := fun i => AW (GM adK adV) l ad d mX10_copies 50 [(0, .ref (ad 0)), (1, .int (nI x)), (2, .int (nI y)), (3, .int (nI i))] [] (pB h x (itR (cpS1 (bkT h y)) i (u2 (u2 (u2 (u2 (bkT h x) 0 13 (h.1 23 y)) 0 14 (h.1 24 y)) 0 11 (h.1 25 y)) 0 12 (h.1 26 y)))) (qv R)) 6 ?_ (fun i hi ih => ?_)
  · refine bX10_copies_50 _ _ _ _ ⟨fun _ => K3 _ (fun i => ?_) (fun i hi => ?_), fun z => absurd (by decide) z⟩
    · rw [it_set (cpS1_at _), if_neg (by simp), u2_app, u2_app, u2_app, u2_app]
      by_cases h1 : i = 12
      · subst h1; left; rfl
      by_cases h2 : i = 11
      · subst h2; left; rfl
      by_cases h3 : i = 14
      · subst h3; left; rfl
      by_cases h4 : i = 13
      · subst h4; left; rfl
      · right; unfold vlB; omega
    · rw [it_set (cpS1_at _), if_pos ⟨by simp, hi⟩]
  · refine bX10_copies_50 _ _ _ _ ⟨fun z => absurd z (nI_ge (b := 6) hi (by omega)), fun _ => ⟨?_, ?_, ?_⟩⟩
    · rw [i6]; exact vp_in_nI (by omega) (by omega)
    · rw [i6]; exact vp_in_nI (by omega) (by omega)
    rw [i6, i6, nI_clamp (by omega), nI_clamp (by omega), pB_off (o27 hi), sI_pB (a27 hi), nI_1]
    have e : itR (cpS1 (bkT h y)) (i + 1) (u2 (u2 (u2 (u2 (bkT h x) 0 13 (h.1 23 y)) 0 14 (h.1 24 y)) 0 11 (h.1 25 y)) 0 12 (h.1 26 y)) = cpS1 (bkT h y) i (itR (cpS1 (bkT h y)) i (u2 (u2 (u2 (u2 (bkT h x) 0 13 (h.1 23 y)) 0 14 (h.1 24 y)) 0 11 (h.1 25 y)) 0 12 (h.1 26 y))) := rfl
    rw [e] at ih
    unfold cpS1 at ih
    rw [bk1 hi] at ih
    exact ih
end CPY
