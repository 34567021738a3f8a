/-! ===== the class's reader, step by step ===== -/
/-- at token i of c + 1 -/
def atT (h : aH) (i c : Nat) : Prop := i ≤ c ∧ c ≤ 700 ∧ h.1 2 2 = nI i ∧ h.1 3 3 = nI (c + 1)
section RD
variable {l : Launch} {ad : Nat → Nat} {d : Nat} {h : aH} {i c : Nat}
theorem c_kind {R : Int32 → aH → Prop} (T : atT h i c) (H : R (h.1 4 i) h) : AW GC l ad d mX3_kind 0 [(0, .ref (ad 2))] [] h (qi R) := by
  obtain ⟨t1, t2, t3, t4⟩ := T
  refine bX3_kind_0 _ ?_
  rw [t3, nI_clamp (by omega)]
  exact ⟨fun z => absurd z (nI_pos (by omega)), fun _ => ⟨fun z => absurd z (nI_ge (b := 701) (by omega) (by decide)), fun _ => ⟨vp_in_nI (by omega) (by decide), H⟩⟩⟩
theorem c_value {R : Int32 → aH → Prop} (T : atT h i c) (H : R (h.1 6 i) h) : AW GC l ad d mX3_value 0 [(0, .ref (ad 2))] [] h (qi R) := by
  obtain ⟨t1, t2, t3, t4⟩ := T
  refine bX3_value_0 _ ?_
  rw [t3, nI_clamp (by omega)]
  exact ⟨fun z => absurd z (nI_pos (by omega)), fun _ => ⟨fun z => absurd z (nI_ge (b := 701) (by omega) (by decide)), fun _ => ⟨vp_in_nI (by omega) (by decide), H⟩⟩⟩
theorem c_step {R : aH → Prop} (T : atT h i c) (H1 : i < c → R (sI h 2 2 (nI (i + 1)))) (H0 : i = c → R h) : AW GC l ad d mX3_step 0 [(0, .ref (ad 2))] [] h (qv R) := by
  obtain ⟨t1, t2, t3, t4⟩ := T
  refine bX3_step_0 _ ?_
  rw [t3, t4, nI_1]
  refine ⟨fun z => H0 ?_, fun z => H1 ?_⟩
  · have := (nI_leI (by omega) (by omega)).mp z
    omega
  · rcases Nat.lt_or_ge i c with w | w
    · exact w
    · exact absurd (nI_le (show c + 1 ≤ i + 1 by omega) (by omega)) z
theorem c_refuse {R : aH → Prop} {x : Int32} (T : atT h i c) (H1 : h.1 2 3 = 0 → R (sI (sI h 2 3 x) 2 4 (h.1 5 i))) (H0 : ¬ h.1 2 3 = 0 → R h) : AW GC l ad d mX3_refuse 0 [(0, .ref (ad 2)), (1, .int x)] [] h (qv R) := by
  obtain ⟨t1, t2, t3, t4⟩ := T
  refine bX3_refuse_0 _ _ ?_
  have e1 : (sI h 2 3 x).1 2 2 = nI i := (sI_k (by decide)).trans t3
  have e2 : ∀ j, (sI h 2 3 x).1 5 j = h.1 5 j := fun j => sI_c (by decide)
  rw [t3, e1, nI_clamp (by omega), e2]
  exact ⟨H0, fun z => ⟨fun w => absurd w (nI_pos (by omega)), fun _ => ⟨fun w => absurd w (nI_ge (b := 701) (by omega) (by decide)), fun _ => ⟨vp_in_nI (by omega) (by decide), H1 z⟩⟩⟩⟩
theorem at_s {a k : Nat} {v : Int32} (T : atT h i c) (h1 : a = 2 → k ≠ 2) (h2 : a = 3 → k ≠ 3) : atT (sI h a k v) i c := by
  obtain ⟨t1, t2, t3, t4⟩ := T
  refine ⟨t1, t2, ?_, ?_⟩
  · by_cases w : 2 = a
    · subst w; rw [sI_k (Ne.symm (h1 rfl))]; exact t3
    · rw [sI_c w]; exact t3
  · by_cases w : 3 = a
    · subst w; rw [sI_k (Ne.symm (h2 rfl))]; exact t4
    · rw [sI_c w]; exact t4
end RD
