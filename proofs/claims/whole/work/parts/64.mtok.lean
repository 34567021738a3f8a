section MT4
variable {adK adV : Nat → Nat} {l : Launch} {ad : Nat → Nat} {d : Nat} {h h0 : aH} {b : Nat → Nat} {n p q e : Nat}
theorem m_isS {R : Int32 → aH → Prop} {x : Nat} (hx : x < 256) (H1 : isLt x → R 1 h) (H0 : ¬ isLt x → R 0 h) : AW (GM adK adV) l ad d mX10_isSmall 0 [(0, .int (nI x))] [] h (qi R) := by
  refine bX10_isSmall_0 _ _ ⟨fun z => H0 (fun w => absurd z (nI_nlt (b := 97) w.1 (by omega))), fun z => ⟨fun z2 => H0 (fun w => absurd z2 (nI_nlt (a := 122) w.2 (by omega))), fun z2 => H1 ⟨?_, ?_⟩⟩⟩
  · rcases Nat.lt_or_ge x 97 with w | w
    · exact absurd (nI_lt (b := 97) w (by decide)) z
    · exact w
  · rcases Nat.lt_or_ge 122 x with w | w
    · exact absurd (nI_lt (a := 122) w (by omega)) z2
    · exact w
theorem dgN_lt {x : Nat} (h : isDg x) : ¬ isLt x := fun w => by
  have := h.2
  have := w.1
  omega
/-- which sort and value a token gets; y: the value before -/
def TW (b : Nat → Nat) (n p e : Nat) (y s w : Int32) : Prop := (p = n ∧ s = 4 ∧ w = y) ∨ (p < n ∧ isLt (b p) ∧ SW b p e s w) ∨ (p < n ∧ isDg (b p) ∧ s = 2 ∧ w = nI (wN (fun j => b (p + j)) (e - p))) ∨ (p < n ∧ ¬ isLt (b p) ∧ ¬ isDg (b p) ∧ (isSg (b p) ∧ s = 3 ∨ ¬ isSg (b p) ∧ s = 5) ∧ w = sgW (b p) (nxB b n p))
/-- the reference's token() reads the token that the class's list has -/
theorem m_token {R : aH → Prop} {k v : Int32} (I0 : inT h0 b n q) (T : Tok b n q p e k v) (H : ∀ h' s w, frM h0 h' → h'.1 0 25 = nI e → h'.1 0 26 = nI p → h'.1 0 27 = s → h'.1 0 28 = w → TM k v s w → TW b n p e (h0.1 0 28) s w → R h') : AW (GM adK adV) l ad (d + 5) mX10_token 0 [(0, .ref (ad 0))] [] h0 (qv R) := by
  obtain ⟨q1, q2, q3, T⟩ := T
  have hn := I0.1
  refine up_ind (P := fun i => q + i ≤ p → ∀ h, frM h0 h → h.1 0 28 = h0.1 0 28 → h.1 0 25 = nI (q + i) → AW (GM adK adV) l ad (d + 5) mX10_token 0 [(0, .ref (ad 0))] [] h (qv R)) (p - q) (fun _ h f y28 e25 => ?_) (fun i hi ih i1 h f y28 e25 => ?_) (by omega) h0 fm_rfl rfl I0.2.2.2.1
  · rw [show q + (p - q) = p by omega] at e25
    have I := in_m I0 f e25 q2
    have f5 : frM h0 (sI h 0 26 (nI p)) := fm_s f (by omega)
    have a25 : (sI h 0 26 (nI p)).1 0 25 = nI p := (sI_k (by decide)).trans e25
    have I5 := in_m I0 f5 a25 q2
    rcases T with ⟨t1, t2, t3, t4⟩ | ⟨pn, T⟩
    · refine bX10_token_0 _ (m_here I (fun w => absurd w (by omega)) (fun _ => ⟨fun z => absurd z (by decide), fun _ => m_here I (fun w => absurd w (by omega)) (fun _ => ⟨fun _ => ?_, fun z => absurd z (by decide)⟩)⟩))
      rw [e25]
      refine m_here I5 (fun w => absurd w (by omega)) (fun _ => ⟨fun z => absurd rfl z, fun _ => ?_⟩)
      exact H _ 4 _ (fm_s f5 (by omega)) (by rw [sI_k (by decide), a25, t1, t2]) (by rw [sI_k (by decide), sI_s]) sI_s rfl (Or.inr (Or.inr (Or.inr (Or.inr (Or.inl ⟨t3, rfl⟩))))) (Or.inl ⟨t1, rfl, by rw [sI_k (by decide), sI_k (by decide)]; exact y28⟩)
    · have hx := (I0.2.1 p pn).2
      have nb : ¬ isBl (b p) := by
        rcases T with T | T | T
        · intro c
          have h1 := T.1.1
          rcases c with c | c <;> omega
        · intro c
          have h1 := T.1.1
          rcases c with c | c <;> omega
        · exact T.2.2.1
      have n1 : ¬ nI (b p) = -1 := fun z => absurd (show nI (b p) < 0 by rw [z]; decide) (nI_pos (by omega))
      refine bX10_token_0 _ (m_here I (fun _ => ⟨fun z => absurd (Or.inl ((nI_eq (b := 10) (by omega) (by decide)).mp z)) nb, fun _ => m_here I (fun _ => ⟨fun _ => ?_, fun z => absurd (Or.inr ((nI_eq (b := 32) (by omega) (by decide)).mp z)) nb⟩) (fun w => absurd w (by omega))⟩) (fun w => absurd w (by omega)))
      rw [e25]
      refine m_here I5 (fun _ => ⟨fun _ => ?_, fun z => absurd z n1⟩) (fun w => absurd w (by omega))
      refine m_isS hx (fun w => ⟨fun z => absurd z (by decide), fun _ => ?_⟩) (fun w => ⟨fun _ => m_isD hx (fun w2 => ⟨fun z => absurd z (by decide), fun _ => ?_⟩) (fun w2 => ⟨fun _ => ?_, fun z => absurd rfl z⟩), fun z => absurd rfl z⟩)
      · rcases T with T | T | T
        · exact m_letters I0 T f5 a25 sI_s (fun h' s w c1 c2 c3 c4 c5 c6 c7 => H h' s w c1 c2 c3 c4 c5 c6 (Or.inr (Or.inl ⟨pn, T.1, c7⟩)))
        · exact absurd w (dgN_lt T.1)
        · exact absurd w T.1
      · rcases T with T | T | T
        · exact absurd T.1 w
        · obtain ⟨t1, t2, t3, t4, t5, t6, t7⟩ := T
          refine m_number I0 (by omega) t3 t4 t5 (fm_s (fm_s f5 (by omega)) (by omega)) ?_ ?_ ?_ sI_s (fun h' f' c25 c26 c27 c28 => H h' 2 _ f' c25 c26 c27 c28 ?_ (Or.inr (Or.inr (Or.inl ⟨pn, t1, rfl, rfl⟩))))
          · rw [sI_k (by decide), sI_k (by decide)]; exact a25
          · rw [sI_k (by decide), sI_k (by decide), sI_s]
          · rw [sI_k (by decide), sI_s]
          · have bw := wN_vN (f := fun j => b (p + j)) (e - p) (fun j hj => t4 (p + j) (by omega) (by omega))
            refine Or.inr (Or.inr (Or.inl ⟨t6, rfl, _, _, t7, rfl, vN_le _, bw.1, ?_⟩))
            exact bw.2
        · exact absurd w2 T.2.1
      · rcases T with T | T | T
        · exact absurd T.1 w
        · exact absurd T.1 w2
        · exact m_sign I0 pn T f5 a25 sI_s (fun h' s w' c1 c2 c3 c4 c5 c6 c7 => H h' s w' c1 c2 c3 c4 c5 c6 (Or.inr (Or.inr (Or.inr ⟨pn, w, w2, c7⟩))))
  · have I := in_m I0 f e25 (by omega)
    have hbl := q3 (q + i) (by omega) (by omega)
    have hx := (I0.2.1 (q + i) (by omega)).2
    have nx : AW (GM adK adV) l ad (d + 5) mX10_token 0 [(0, .ref (ad 0))] [] (sI h 0 25 (h.1 0 25 + 1)) (qv R) := by
      rw [e25, nI_1]
      exact ih (by omega) _ (fm_s f (by omega)) ((sI_k (by decide)).trans y28) sI_s
    refine bX10_token_0 _ (m_here I (fun _ => ⟨fun _ => nx, fun z => m_here I (fun _ => ⟨fun z2 => ?_, fun _ => nx⟩) (fun w => absurd w (by omega))⟩) (fun w => absurd w (by omega)))
    rcases hbl with c | c
    · exact absurd (by rw [c]; rfl) z
    · exact absurd (by rw [c]; rfl) z2
end MT4
