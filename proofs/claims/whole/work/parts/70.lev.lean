/-! ===== an E, level by level, on both sides ===== -/
def lvl (k : Int32) : Int32 := if k = 12 then 1 else if k = 13 then 0 else if k = 24 ∨ k = 25 then 4 else if k = 26 ∨ k = 27 then 5 else if k = 28 ∨ k = 29 ∨ k = 30 ∨ k = 31 ∨ k = 32 ∨ k = 33 then 3 else -1
theorem lvl_cases (k : Int32) : (k = 12 ∧ lvl k = 1) ∨ (k = 13 ∧ lvl k = 0) ∨ ((k = 24 ∨ k = 25) ∧ lvl k = 4) ∨ ((k = 26 ∨ k = 27) ∧ lvl k = 5) ∨ ((k = 28 ∨ k = 29 ∨ k = 30 ∨ k = 31 ∨ k = 32 ∨ k = 33) ∧ lvl k = 3) ∨ lvl k = -1 := by
  unfold lvl
  by_cases h1 : k = 12
  · rw [if_pos h1]; exact Or.inl ⟨h1, rfl⟩
  rw [if_neg h1]
  by_cases h2 : k = 13
  · rw [if_pos h2]; exact Or.inr (Or.inl ⟨h2, rfl⟩)
  rw [if_neg h2]
  by_cases h3 : k = 24 ∨ k = 25
  · rw [if_pos h3]; exact Or.inr (Or.inr (Or.inl ⟨h3, rfl⟩))
  rw [if_neg h3]
  by_cases h4 : k = 26 ∨ k = 27
  · rw [if_pos h4]; exact Or.inr (Or.inr (Or.inr (Or.inl ⟨h4, rfl⟩)))
  rw [if_neg h4]
  by_cases h5 : k = 28 ∨ k = 29 ∨ k = 30 ∨ k = 31 ∨ k = 32 ∨ k = 33
  · rw [if_pos h5]; exact Or.inr (Or.inr (Or.inr (Or.inr (Or.inl ⟨h5, rfl⟩))))
  rw [if_neg h5]; exact Or.inr (Or.inr (Or.inr (Or.inr (Or.inr rfl))))
theorem lvl_bin {k : Int32} (h : ¬ lvl k = -1) : partsN k = 2 ∧ isBin k := by
  unfold isBin
  rcases lvl_cases k with ⟨rfl, -⟩ | ⟨rfl, -⟩ | ⟨rfl | rfl, -⟩ | ⟨rfl | rfl, -⟩ | ⟨rfl | rfl | rfl | rfl | rfl | rfl, -⟩ | e
  all_goals first | exact absurd e h | decide
theorem lvl_ne2 (k : Int32) : ¬ lvl k = 2 := by
  rcases lvl_cases k with ⟨-, e⟩ | ⟨-, e⟩ | ⟨-, e⟩ | ⟨-, e⟩ | ⟨-, e⟩ | e <;> rw [e] <;> decide
theorem lvl_0 {k : Int32} (h : lvl k = 0) : k = 13 := by
  rcases lvl_cases k with ⟨-, e⟩ | ⟨w, e⟩ | ⟨-, e⟩ | ⟨-, e⟩ | ⟨-, e⟩ | e
  all_goals first | exact w | (rw [e] at h; exact absurd h (by decide))
theorem lvl_1 {k : Int32} (h : lvl k = 1) : k = 12 := by
  rcases lvl_cases k with ⟨w, e⟩ | ⟨-, e⟩ | ⟨-, e⟩ | ⟨-, e⟩ | ⟨-, e⟩ | e
  all_goals first | exact w | (rw [e] at h; exact absurd h (by decide))
theorem lvl_4 {k : Int32} (h : lvl k = 4) : k = 24 ∨ k = 25 := by
  rcases lvl_cases k with ⟨-, e⟩ | ⟨-, e⟩ | ⟨w, e⟩ | ⟨-, e⟩ | ⟨-, e⟩ | e
  all_goals first | exact w | (rw [e] at h; exact absurd h (by decide))
theorem lvl_5 {k : Int32} (h : lvl k = 5) : k = 26 ∨ k = 27 := by
  rcases lvl_cases k with ⟨-, e⟩ | ⟨-, e⟩ | ⟨-, e⟩ | ⟨w, e⟩ | ⟨-, e⟩ | e
  all_goals first | exact w | (rw [e] at h; exact absurd h (by decide))
theorem lvl_3 {k : Int32} (h : lvl k = 3) : k = 28 ∨ k = 29 ∨ k = 30 ∨ k = 31 ∨ k = 32 ∨ k = 33 := by
  rcases lvl_cases k with ⟨-, e⟩ | ⟨-, e⟩ | ⟨-, e⟩ | ⟨-, e⟩ | ⟨w, e⟩ | e
  all_goals first | exact w | (rw [e] at h; exact absurd h (by decide))
/-! tokens that are signs of a level, on both sides -/
section DEC
variable {k v s w : Int32}
theorem dec0 (t : TM k v s w) : (lvl k = 0 ∧ (s = 0 ∧ w = 11) ∧ cR k 2 262) ∨ (¬ lvl k = 0 ∧ ¬ (s = 0 ∧ w = 11)) := by
  rcases tm_word t with ⟨i, hi, h2, h3, h4⟩ | ⟨h1, h2⟩
  · by_cases e : i = 13
    · subst e
      rw [h2]
      exact Or.inl ⟨by decide, ⟨h3, by rw [h4]; decide⟩, Or.inr (Or.inr (Or.inr ⟨rfl, by decide⟩))⟩
    · have n1 : ∀ i, i < 21 → i ≠ 13 → ¬ lvl (nI i) = 0 := by decide +kernel
      have n2 : ∀ i, i < 21 → i ≠ 13 → ¬ nI (pm i) = 11 := by decide +kernel
      exact Or.inr ⟨by rw [h2]; exact n1 i hi e, fun z => by rw [h4] at z; exact n2 i hi e z.2⟩
  · exact Or.inr ⟨fun z => h2 13 (by decide) (lvl_0 z), fun z => h1 z.1⟩
theorem dec1 (t : TM k v s w) : (lvl k = 1 ∧ (s = 0 ∧ w = 12) ∧ cR k 2 261) ∨ (¬ lvl k = 1 ∧ ¬ (s = 0 ∧ w = 12)) := by
  rcases tm_word t with ⟨i, hi, h2, h3, h4⟩ | ⟨h1, h2⟩
  · by_cases e : i = 12
    · subst e
      rw [h2]
      exact Or.inl ⟨by decide, ⟨h3, by rw [h4]; decide⟩, Or.inr (Or.inr (Or.inr ⟨rfl, by decide⟩))⟩
    · have n1 : ∀ i, i < 21 → i ≠ 12 → ¬ lvl (nI i) = 1 := by decide +kernel
      have n2 : ∀ i, i < 21 → i ≠ 12 → ¬ nI (pm i) = 12 := by decide +kernel
      exact Or.inr ⟨by rw [h2]; exact n1 i hi e, fun z => by rw [h4] at z; exact n2 i hi e z.2⟩
  · exact Or.inr ⟨fun z => h2 12 (by decide) (lvl_1 z), fun z => h1 z.1⟩
theorem dec11 (t : TM k v s w) : (k = 11 ∧ s = 0 ∧ w = 13) ∨ (¬ k = 11 ∧ ¬ (s = 0 ∧ w = 13)) := by
  rcases tm_word t with ⟨i, hi, h2, h3, h4⟩ | ⟨h1, h2⟩
  · by_cases e : i = 11
    · subst e
      rw [h2]
      exact Or.inl ⟨by decide, h3, by rw [h4]; decide⟩
    · have n1 : ∀ i, i < 21 → i ≠ 11 → ¬ nI i = 11 := by decide +kernel
      have n2 : ∀ i, i < 21 → i ≠ 11 → ¬ nI (pm i) = 13 := by decide +kernel
      exact Or.inr ⟨by rw [h2]; exact n1 i hi e, fun z => by rw [h4] at z; exact n2 i hi e z.2⟩
  · exact Or.inr ⟨fun z => h2 11 (by decide) z, fun z => h1 z.1⟩
theorem dec4 (t : TM k v s w) : (lvl k = 4 ∧ (s = 3 ∧ (w = 43 ∨ w = 45)) ∧ cR k 2 w) ∨ (¬ lvl k = 4 ∧ ¬ (s = 3 ∧ (w = 43 ∨ w = 45))) := by
  rcases tm_sign t with ⟨s3, sg⟩ | ⟨h1, h2⟩
  · rcases sg with ⟨e1, e2⟩ | ⟨e1, e2⟩ | ⟨e1, e2⟩ | ⟨e1, e2⟩ | ⟨e1, e2⟩ | ⟨e1, e2⟩ | ⟨e1, e2⟩ | ⟨e1, e2⟩ | ⟨e1, e2⟩ | ⟨e1, e2⟩ | ⟨e1, e2⟩ | ⟨e1, e2⟩ | ⟨e1, e2⟩ <;> rw [e1, e2] <;> first | exact Or.inl ⟨by decide, ⟨s3, by decide⟩, Or.inr (Or.inr (Or.inr ⟨rfl, by decide⟩))⟩ | exact Or.inr ⟨by decide, fun z => absurd z.2 (by decide)⟩
  · refine Or.inr ⟨fun z => ?_, fun z => h1 z.1⟩
    rcases lvl_4 z with e | e
    · exact h2 3 (by decide) e
    · exact h2 4 (by decide) e
theorem dec5 (t : TM k v s w) : (lvl k = 5 ∧ (s = 3 ∧ (w = 42 ∨ w = 47)) ∧ cR k 2 w) ∨ (¬ lvl k = 5 ∧ ¬ (s = 3 ∧ (w = 42 ∨ w = 47))) := by
  rcases tm_sign t with ⟨s3, sg⟩ | ⟨h1, h2⟩
  · rcases sg with ⟨e1, e2⟩ | ⟨e1, e2⟩ | ⟨e1, e2⟩ | ⟨e1, e2⟩ | ⟨e1, e2⟩ | ⟨e1, e2⟩ | ⟨e1, e2⟩ | ⟨e1, e2⟩ | ⟨e1, e2⟩ | ⟨e1, e2⟩ | ⟨e1, e2⟩ | ⟨e1, e2⟩ | ⟨e1, e2⟩ <;> rw [e1, e2] <;> first | exact Or.inl ⟨by decide, ⟨s3, by decide⟩, Or.inr (Or.inr (Or.inr ⟨rfl, by decide⟩))⟩ | exact Or.inr ⟨by decide, fun z => absurd z.2 (by decide)⟩
  · refine Or.inr ⟨fun z => ?_, fun z => h1 z.1⟩
    rcases lvl_5 z with e | e
    · exact h2 5 (by decide) e
    · exact h2 6 (by decide) e
theorem dec3 (t : TM k v s w) : (lvl k = 3 ∧ (s = 3 ∧ (w = 60 ∨ w = 62 ∨ w = 61 ∨ 256 ≤ w)) ∧ cR k 2 w) ∨ (¬ lvl k = 3 ∧ ¬ (s = 3 ∧ (w = 60 ∨ w = 62 ∨ w = 61 ∨ 256 ≤ w))) := by
  rcases tm_sign t with ⟨s3, sg⟩ | ⟨h1, h2⟩
  · rcases sg with ⟨e1, e2⟩ | ⟨e1, e2⟩ | ⟨e1, e2⟩ | ⟨e1, e2⟩ | ⟨e1, e2⟩ | ⟨e1, e2⟩ | ⟨e1, e2⟩ | ⟨e1, e2⟩ | ⟨e1, e2⟩ | ⟨e1, e2⟩ | ⟨e1, e2⟩ | ⟨e1, e2⟩ | ⟨e1, e2⟩ <;> rw [e1, e2] <;> first | exact Or.inl ⟨by decide, ⟨s3, by decide⟩, Or.inr (Or.inr (Or.inr ⟨rfl, by decide⟩))⟩ | exact Or.inr ⟨by decide, fun z => absurd z.2 (by decide)⟩
  · refine Or.inr ⟨fun z => ?_, fun z => h1 z.1⟩
    rcases lvl_3 z with e | e | e | e | e | e
    · exact h2 7 (by decide) e
    · exact h2 8 (by decide) e
    · exact h2 9 (by decide) e
    · exact h2 10 (by decide) e
    · exact h2 11 (by decide) e
    · exact h2 12 (by decide) e
theorem dec_sg {kk ww : Int32} {j : Nat} (t : TM k v s w) (hj : j < 13) (ek : kk = nI (21 + j)) (h : ∀ k w, sgR k w → (k = kk ∧ w = ww) ∨ (¬ k = kk ∧ ¬ w = ww)) : (k = kk ∧ s = 3 ∧ w = ww) ∨ (¬ k = kk ∧ ¬ (s = 3 ∧ w = ww)) := by
  rcases tm_sign t with ⟨s3, sg⟩ | ⟨h1, h2⟩
  · rcases h k w sg with ⟨e1, e2⟩ | ⟨e1, e2⟩
    · exact Or.inl ⟨e1, s3, e2⟩
    · exact Or.inr ⟨e1, fun z => e2 z.2⟩
  · exact Or.inr ⟨fun z => h2 j hj (z.trans ek), fun z => h1 z.1⟩
theorem dec21 (t : TM k v s w) : (k = 21 ∧ s = 3 ∧ w = 59) ∨ (¬ k = 21 ∧ ¬ (s = 3 ∧ w = 59)) := dec_sg (j := 0) t (by decide) (by decide) (fun k w sg => by
  rcases sg with ⟨e1, e2⟩ | ⟨e1, e2⟩ | ⟨e1, e2⟩ | ⟨e1, e2⟩ | ⟨e1, e2⟩ | ⟨e1, e2⟩ | ⟨e1, e2⟩ | ⟨e1, e2⟩ | ⟨e1, e2⟩ | ⟨e1, e2⟩ | ⟨e1, e2⟩ | ⟨e1, e2⟩ | ⟨e1, e2⟩ <;> rw [e1, e2] <;> decide)
theorem dec22 (t : TM k v s w) : (k = 22 ∧ s = 3 ∧ w = 40) ∨ (¬ k = 22 ∧ ¬ (s = 3 ∧ w = 40)) := dec_sg (j := 1) t (by decide) (by decide) (fun k w sg => by
  rcases sg with ⟨e1, e2⟩ | ⟨e1, e2⟩ | ⟨e1, e2⟩ | ⟨e1, e2⟩ | ⟨e1, e2⟩ | ⟨e1, e2⟩ | ⟨e1, e2⟩ | ⟨e1, e2⟩ | ⟨e1, e2⟩ | ⟨e1, e2⟩ | ⟨e1, e2⟩ | ⟨e1, e2⟩ | ⟨e1, e2⟩ <;> rw [e1, e2] <;> decide)
theorem dec23 (t : TM k v s w) : (k = 23 ∧ s = 3 ∧ w = 41) ∨ (¬ k = 23 ∧ ¬ (s = 3 ∧ w = 41)) := dec_sg (j := 2) t (by decide) (by decide) (fun k w sg => by
  rcases sg with ⟨e1, e2⟩ | ⟨e1, e2⟩ | ⟨e1, e2⟩ | ⟨e1, e2⟩ | ⟨e1, e2⟩ | ⟨e1, e2⟩ | ⟨e1, e2⟩ | ⟨e1, e2⟩ | ⟨e1, e2⟩ | ⟨e1, e2⟩ | ⟨e1, e2⟩ | ⟨e1, e2⟩ | ⟨e1, e2⟩ <;> rw [e1, e2] <;> decide)
/-- what a part of an E can begin with -/
theorem dec_pt (t : TM k v s w) (n22 : ¬ k = 22) : (k = 34 ∧ s = 2 ∧ ∃ x y, v = nI x ∧ w = nI y ∧ x ≤ 1000000 ∧ y ≤ 1000000 ∧ (x ≤ 99999 ∧ y = x ∨ 99999 < x ∧ 99999 < y)) ∨ (∃ j, j < 7 ∧ k = nI (14 + j) ∧ s = 0 ∧ w = nI (14 + j)) ∨ (¬ k = 34 ∧ (k < 14 ∨ 20 < k) ∧ ¬ s = 2 ∧ (¬ s = 0 ∨ ¬ 14 ≤ w)) := by
  rcases t with ⟨i, h1, h2, h3, h4⟩ | ⟨h1, h2, h3⟩ | h | ⟨h1, h2⟩ | ⟨h1, h2⟩ | ⟨h1, h2⟩
  · rcases Nat.lt_or_ge i 14 with w1 | w1
    · have n1 : ∀ i, i < 14 → ¬ nI i = 34 ∧ nI i < 14 ∧ ¬ 14 ≤ nI (pm i) := by decide +kernel
      have := n1 i w1
      exact Or.inr (Or.inr ⟨by rw [h2]; exact this.1, Or.inl (by rw [h2]; exact this.2.1), by rw [h3]; decide, Or.inr (by rw [h4]; exact this.2.2)⟩)
    · have n1 : ∀ i, 14 ≤ i → pm i = i := fun i hi => by unfold pm; rw [if_neg (by omega), if_neg (by omega)]
      refine Or.inr (Or.inl ⟨i - 14, by omega, ?_, h3, ?_⟩)
      · rw [h2, Nat.add_sub_cancel' w1]
      · rw [h4, n1 i w1, Nat.add_sub_cancel' w1]
  · exact Or.inr (Or.inr ⟨by rw [h1]; decide, Or.inr (by rw [h1]; decide), by rw [h2]; decide, Or.inl (by rw [h2]; decide)⟩)
  · exact Or.inl h
  · refine Or.inr (Or.inr ⟨?_, Or.inr ?_, by rw [h1]; decide, Or.inl (by rw [h1]; decide)⟩)
    all_goals rcases h2 with h | h | h | h | h | h | h | h | h | h | h | h | h <;> rw [h.1] <;> decide
  · exact Or.inr (Or.inr ⟨by rw [h1]; decide, Or.inr (by rw [h1]; decide), by rw [h2]; decide, Or.inl (by rw [h2]; decide)⟩)
  · exact Or.inr (Or.inr ⟨by rw [h1]; decide, Or.inr (by rw [h1]; decide), by rw [h2]; decide, Or.inl (by rw [h2]; decide)⟩)
end DEC
section LV1
variable {l : Launch} {ad : Nat → Nat} {d : Nat} {h : aH} {adK adV : Nat → Nat}
theorem sp_lvl {R : Int32 → aH → Prop} {k : Int32} (H : R (lvl k) h) : AW GC l ad d mX3_levelOf 0 [(0, .int k)] [] h (qi R) := by
  have key : ∀ v, lvl k = v → R v h := fun v e => e ▸ H
  refine bX3_levelOf_0 _ _ ⟨fun z => key _ (by rw [z]; decide), fun z => key _ (by rw [z]; decide), fun z => key _ (by rw [z]; decide), fun z => key _ (by rw [z]; decide), fun z => key _ (by rw [z]; decide), fun z => key _ (by rw [z]; decide), fun z => key _ (by rw [z]; decide), fun z => key _ (by rw [z]; decide), fun z => key _ (by rw [z]; decide), fun z => key _ (by rw [z]; decide), fun z => key _ (by rw [z]; decide), fun z => key _ (by rw [z]; decide), fun z => key _ (by rw [z]; decide), fun z => key _ (by rw [z]; decide), fun z => key _ (by rw [z]; decide), fun z => key _ (by rw [z]; decide), fun z => key _ (by rw [z]; decide), fun z => key _ (by rw [z]; decide), fun z => key _ (by rw [z]; decide), fun z => key _ (by rw [z]; decide), fun z => key _ (by rw [z]; decide), fun z => key _ (by rw [z]; decide), fun a b _ _ _ _ _ _ _ _ _ _ a1 a2 a3 a4 a5 a6 a7 a8 a9 a10 => key _ ?_⟩
  unfold lvl
  rw [if_neg a, if_neg b, if_neg (fun z => z.elim a1 a2), if_neg (fun z => z.elim a3 a4), if_neg (fun z => z.elim a5 (fun z => z.elim a6 (fun z => z.elim a7 (fun z => z.elim a8 (fun z => z.elim a9 a10)))))]
theorem m_isW {R : Int32 → aH → Prop} {x : Int32} (H1 : h.1 0 29 = 0 → h.1 0 27 = 0 → h.1 0 28 = x → R 1 h) (H0 : (h.1 0 29 = 0 → ¬ (h.1 0 27 = 0 ∧ h.1 0 28 = x)) → R 0 h) : AW (GM adK adV) l ad d mX10_isWord 0 [(0, .ref (ad 0)), (1, .int x)] [] h (qi R) :=
  bX10_isWord_0 _ _ ⟨fun z => H0 (fun q => absurd q z), fun z => ⟨fun z2 => H0 (fun _ q => z2 q.1), fun z2 => ⟨fun z3 => H0 (fun _ q => z3 q.2), fun z3 => H1 z z2 z3⟩⟩⟩
theorem m_isSn {R : Int32 → aH → Prop} {x : Int32} (H1 : h.1 0 29 = 0 → h.1 0 27 = 3 → h.1 0 28 = x → R 1 h) (H0 : (h.1 0 29 = 0 → ¬ (h.1 0 27 = 3 ∧ h.1 0 28 = x)) → R 0 h) : AW (GM adK adV) l ad d mX10_isSign 0 [(0, .ref (ad 0)), (1, .int x)] [] h (qi R) :=
  bX10_isSign_0 _ _ ⟨fun z => H0 (fun q => absurd q z), fun z => ⟨fun z2 => H0 (fun _ q => z2 q.1), fun z2 => ⟨fun z3 => H0 (fun _ q => z3 q.2), fun z3 => H1 z z2 z3⟩⟩⟩
end LV1
/-- the class's reading of a level -/
def xC (l : Launch) (ad : Nat → Nat) (lw L o D : Nat) (h h' : aH) : Prop := ∀ d, D ≤ d → ∀ Q : aH → Prop, Q h' → AW GC l ad d mX3_readLevel 0 [(0, .ref (ad 2)), (1, .int (nI L)), (2, .int (nI o)), (3, .ref (ad lw))] [] h (qv Q)
def xM (l : Launch) (ad adK adV : Nat → Nat) (mm : aM) (D : Nat) (h h' : aH) : Prop := ∀ d, D ≤ d → ∀ Q : aH → Prop, Q h' → AW (GM adK adV) l ad d mm 0 [(0, .ref (ad 0))] [] h (qv Q)
def EX (l : Launch) (ad : Nat → Nat) (l' : Launch) (ad' adK adV : Nat → Nat) (τ : tX) (y lw f L o : Nat) (mm : aM) (B : Nat) : Prop := ∀ K0 p s hC hM, hC.2.2 2 1 = y → GL τ y lw f K0 p s o hC hM → ∃ hC' hM', lC y lw hC hC' ∧ lM f hM hM' ∧ xC l ad lw L o (5 + (6 - L) + 8 * (8 - o)) hC hC' ∧ xM l' ad' adK adV mm (B + (65 - K0)) hM hM' ∧ GL τ y lw f (K0 + 1) p (s + 1) o hC' hM'
section LV2
variable {l l' : Launch} {ad ad' adK adV : Nat → Nat} {τ : tX} {y lw f o L B : Nat} {mm mL : aM} {mop : Int32 → Int32 → Prop} {pv : Int32 → Int32}
theorem nI_ne {a b : Nat} (h : a ≠ b) (ha : a < 2 ^ 31) (hb : b < 2 ^ 31) : ¬ nI a = nI b := fun z => h ((nI_eq ha hb).mp z)
/-- signs of one level, one behind another -/
theorem lp_gen (hL : L < 6) (hb : 10 ≤ B) (A : lwA y lw) (sub : EX l ad l' ad' adK adV τ y lw f (L + 1) o mm B)
    (stp : ∀ d h (Q : aH → Prop), (h.1 0 29 = 0 → ¬ mop (h.1 0 27) (h.1 0 28)) → Q h → AW (GM adK adV) l' ad' (d + 1) mL 4 [(0, .ref (ad' 0))] [] h (qv Q))
    (go : ∀ d h (Q : aH → Prop), h.1 0 29 = 0 → mop (h.1 0 27) (h.1 0 28) → AW (GM adK adV) l' ad' d mX10_knot 0 [(0, .ref (ad' 0))] [] h (qv fun h3 => AW (GM adK adV) l' ad' d mX10_goOn 0 [(0, .ref (ad' 0))] [] h3 (qv fun h5 => AW (GM adK adV) l' ad' d mm 0 [(0, .ref (ad' 0))] [] h5 (qv fun h7 => AW (GM adK adV) l' ad' d mX10_puts 0 [(0, .ref (ad' 0)), (1, .int (2 : Int32)), (2, .int (pv (h.1 0 28)))] [] h7 (qv fun h9 => AW (GM adK adV) l' ad' (d + 1) mL 4 [(0, .ref (ad' 0))] [] h9 (qv Q))))) → AW (GM adK adV) l' ad' (d + 1) mL 4 [(0, .ref (ad' 0))] [] h (qv Q))
    (dec : ∀ k v s w, TM k v s w → (lvl k = nI L ∧ mop s w ∧ cR k 2 (pv w)) ∨ (¬ lvl k = nI L ∧ ¬ mop s w)) :
    ∀ fu K0 it p s hC hM, 65 ≤ K0 + fu → it < K0 → hC.2.2 2 1 = y → GL τ y lw f K0 p (s + 1) o hC hM → ∃ hC' hM', lC y lw hC hC' ∧ lM f hM hM' ∧ (∀ d, 5 + (5 - L) + 8 * (8 - o) ≤ d → ∀ Q : aH → Prop, Q hC' → AW GC l ad (d + 1) mX3_readLevel 53 [(0, .ref (ad 2)), (1, .int (nI L)), (2, .int (nI o)), (3, .ref (ad lw)), (4, .int (0 : Int32)), (5, .int (64 : Int32)), (6, .int (nI it))] [] hC (qv Q)) ∧ (∀ d, B + (65 - K0) ≤ d → ∀ Q : aH → Prop, Q hM' → AW (GM adK adV) l' ad' (d + 1) mL 4 [(0, .ref (ad' 0))] [] hM (qv Q)) ∧ GL τ y lw f K0 p (s + 1) o hC' hM' := by
  have HL := lwA_L A
  have fin : ∀ {d : Nat} {h : aH} {Q : aH → Prop}, Q h → AW GC l ad (d + 1) mX3_readLevel 112 [(3, .ref (ad lw)), (4, .int (0 : Int32)), (6, .int (0 : Int32))] [] h (qv Q) := fun qq => bX3_readLevel_112 lw HL _ _ _ ⟨fun _ => qq, fun z => absurd (Int32.le_refl _) z⟩
  have bad : ∀ K0 it p s hC hM, BL lw hC hM → ∃ hC' hM', lC y lw hC hC' ∧ lM f hM hM' ∧ (∀ d, 5 + (5 - L) + 8 * (8 - o) ≤ d → ∀ Q : aH → Prop, Q hC' → AW GC l ad (d + 1) mX3_readLevel 53 [(0, .ref (ad 2)), (1, .int (nI L)), (2, .int (nI o)), (3, .ref (ad lw)), (4, .int (0 : Int32)), (5, .int (64 : Int32)), (6, .int (nI it))] [] hC (qv Q)) ∧ (∀ d, B + (65 - K0) ≤ d → ∀ Q : aH → Prop, Q hM' → AW (GM adK adV) l' ad' (d + 1) mL 4 [(0, .ref (ad' 0))] [] hM (qv Q)) ∧ GL τ y lw f K0 p (s + 1) o hC' hM' := by
    intro K0 it p s hC hM b
    exact ⟨hC, hM, lC_rfl, lM_rfl, fun d _ Q qq => bX3_readLevel_53 lw HL _ _ _ _ _ _ ⟨fun _ => fin qq, fun _ => ⟨fun _ => fin qq, fun z => absurd z b.1.1⟩⟩, fun d _ Q qq => stp d hM Q (fun z => absurd z (bd_m b.1)) qq, Or.inr b⟩
  intro fu
  induction fu with
  | zero =>
    intro K0 it p s hC hM hf hi ey g
    rcases g with ⟨i, q, K, hK, R, Li⟩ | b
    · exfalso
      have := Li.2.2.2.2.2.2.1
      omega
    · exact bad K0 it p s hC hM b
  | succ fu ih =>
    intro K0 it p s hC hM hf hi ey g
    rcases g with ⟨i, q, K, hK, R, Li⟩ | b
    · have hk := Li.2.2.2.2.2.2.1
      rcases dec _ _ _ _ (rd_tm R) with ⟨d1, d2, d3⟩ | ⟨d1, d2⟩
      · have n1 : ¬ lvl (hC.1 4 i) = -1 := by rw [d1]; exact nn1 (by omega)
        have k36 : ¬ hC.1 4 i = 36 := fun z => n1 (by rw [z]; decide)
        obtain ⟨bp, bb⟩ := lvl_bin n1
        obtain ⟨hC1, hMa, hM1, c1, m1, r1, r2, r3, g1⟩ := j_knt (adK := adK) (adV := adV) A ey hK R Li k36
        have ey1 : hC1.2.2 2 1 = y := by rw [c1.1]; exact ey
        obtain ⟨hC2, hM2, c2, m2, r4, r5, g2⟩ := sub _ _ _ _ _ ey1 g1
        have ey2 : hC2.2.2 2 1 = y := by rw [c2.1]; exact ey1
        obtain ⟨hC3, hM3, c3, m3, r6, r7, g3⟩ := j_put (adK := adK) (adV := adV) A d3 (by omega) (fun _ => bb) g2
        have ey3 : hC3.2.2 2 1 = y := by rw [c3.1]; exact ey2
        rw [bp, show s + 1 + 1 + 1 - 2 = s + 1 by omega] at g3
        obtain ⟨hC4, hM4, c4, m4, r8, r9, g4⟩ := ih _ (it + 1) _ _ _ _ (by omega) (by omega) ey3 g3
        refine ⟨hC4, hM4, lC_tr c1 (lC_tr c2 (lC_tr c3 c4)), lM_tr m1 (lM_tr m2 (lM_tr m3 m4)), fun d hd Q qq => ?_, fun d hd Q qq => ?_, gl_m (by omega) g4⟩
        · obtain ⟨e, rfl⟩ : ∃ e, d = e + 1 := ⟨d - 1, by omega⟩
          refine bX3_readLevel_53 lw HL _ _ _ _ _ _ ⟨fun z => absurd z (nI_ge (b := 64) (by omega) (by decide)), fun _ => ⟨fun z => absurd (rd_c0 R) z, fun _ => c_kind R.1 (sp_lvl ⟨fun z => absurd d1 z, fun _ => c_kind R.1 ?_⟩)⟩⟩
          rw [nI_1, nI_1]
          exact r1 (r4 _ (by omega) _ (r6 (r8 _ (by omega) Q qq)))
        · obtain ⟨e, rfl⟩ : ∃ e, d = e + 6 := ⟨d - 6, by omega⟩
          exact go _ _ _ (rd_m0 R) d2 (r2 (r3 (r5 _ (by omega) _ (r7 (r9 _ (by omega) Q qq)))))
      · exact ⟨hC, hM, lC_rfl, lM_rfl, fun d _ Q qq => bX3_readLevel_53 lw HL _ _ _ _ _ _ ⟨fun _ => fin qq, fun _ => ⟨fun _ => fin qq, fun _ => c_kind R.1 (sp_lvl ⟨fun _ => fin qq, fun z => absurd z d1⟩)⟩⟩, fun d _ Q qq => stp d hM Q (fun _ => d2) qq, Or.inl ⟨i, q, K, hK, R, Li⟩⟩
    · exact bad K0 it p s hC hM b
theorem ex_gen (hL : L < 6) (h2 : L ≠ 2) (h3 : L ≠ 3) (hb : 10 ≤ B) (A : lwA y lw) (sub : EX l ad l' ad' adK adV τ y lw f (L + 1) o mm B)
    (hd0 : ∀ d h (Q : aH → Prop), AW (GM adK adV) l' ad' d mm 0 [(0, .ref (ad' 0))] [] h (qv fun h1 => AW (GM adK adV) l' ad' (d + 1) mL 4 [(0, .ref (ad' 0))] [] h1 (qv Q)) → AW (GM adK adV) l' ad' (d + 1) mL 0 [(0, .ref (ad' 0))] [] h (qv Q))
    (lp : ∀ fu K0 it p s hC hM, 65 ≤ K0 + fu → it < K0 → hC.2.2 2 1 = y → GL τ y lw f K0 p (s + 1) o hC hM → ∃ hC' hM', lC y lw hC hC' ∧ lM f hM hM' ∧ (∀ d, 5 + (5 - L) + 8 * (8 - o) ≤ d → ∀ Q : aH → Prop, Q hC' → AW GC l ad (d + 1) mX3_readLevel 53 [(0, .ref (ad 2)), (1, .int (nI L)), (2, .int (nI o)), (3, .ref (ad lw)), (4, .int (0 : Int32)), (5, .int (64 : Int32)), (6, .int (nI it))] [] hC (qv Q)) ∧ (∀ d, B + (65 - K0) ≤ d → ∀ Q : aH → Prop, Q hM' → AW (GM adK adV) l' ad' (d + 1) mL 4 [(0, .ref (ad' 0))] [] hM (qv Q)) ∧ GL τ y lw f K0 p (s + 1) o hC' hM') : EX l ad l' ad' adK adV τ y lw f L o mL (B + 1) := by
  have HL := lwA_L A
  intro K0 p s hC hM ey g
  obtain ⟨hC1, hM1, c1, m1, r1, r2, g1⟩ := sub _ _ _ _ _ ey g
  have ey1 : hC1.2.2 2 1 = y := by rw [c1.1]; exact ey
  obtain ⟨hC2, hM2, c2, m2, r3, r4, g2⟩ := lp 65 (K0 + 1) 0 p s hC1 hM1 (by omega) (by omega) ey1 g1
  refine ⟨hC2, hM2, lC_tr c1 c2, lM_tr m1 m2, fun d hd Q qq => ?_, fun d hd Q qq => ?_, g2⟩
  · obtain ⟨e, rfl⟩ : ∃ e, d = e + 1 := ⟨d - 1, by omega⟩
    refine bX3_readLevel_0 lw HL _ _ _ ⟨fun _ => ⟨fun _ => bX3_readLevel_26 lw HL _ _ _ _ ?_, fun z => absurd z (nI_ne (b := 2) h2 (by omega) (by decide))⟩, fun z => absurd (nI_lt (b := 6) hL (by decide)) z⟩
    rw [nI_1]
    exact r1 _ (by omega) _ ⟨fun _ => r3 _ (by omega) Q qq, fun z => absurd z (nI_ne (b := 3) h3 (by omega) (by decide))⟩
  · obtain ⟨e, rfl⟩ : ∃ e, d = e + 1 := ⟨d - 1, by omega⟩
    exact hd0 _ _ _ (r2 _ (by omega) _ (r4 _ (by omega) Q qq))
end LV2
