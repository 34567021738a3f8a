/-! ===== the reference's token(), exactly ===== -/
def tkH (h : aH) (x1 x2 x3 x4 : Int32) : aH := sI (sI (sI (sI h 0 25 x1) 0 26 x2) 0 27 x3) 0 28 x4
theorem fm_eq {h h' : aH} {x1 x2 x3 x4 : Int32} (f : frM h h') (e1 : h'.1 0 25 = x1) (e2 : h'.1 0 26 = x2) (e3 : h'.1 0 27 = x3) (e4 : h'.1 0 28 = x4) : h' = tkH h x1 x2 x3 x4 := by
  refine Prod.ext (funext fun a => funext fun j => ?_) f.1
  unfold tkH
  by_cases w : a = 0
  · subst w
    by_cases w4 : j = 28
    · subst w4; rw [sI_s]; exact e4
    · rw [sI_k w4]
      by_cases w3 : j = 27
      · subst w3; rw [sI_s]; exact e3
      · rw [sI_k w3]
        by_cases w2 : j = 26
        · subst w2; rw [sI_s]; exact e2
        · rw [sI_k w2]
          by_cases w1 : j = 25
          · subst w1; rw [sI_s]; exact e1
          · rw [sI_k w1]; exact f.2 0 j (fun _ => ⟨w1, w2, w3, w4⟩)
  · rw [sI_c w, sI_c w, sI_c w, sI_c w]; exact f.2 a j (fun z => absurd z w)
section TX
variable {b : Nat → Nat} {n p q e : Nat} {k v y s w s' w' : Int32}
theorem sw_fun (h : SW b p e s w) (h' : SW b p e s' w') : s = s' ∧ w = w' := by
  have ni : ∀ j, j < 21 → ¬ nI j = -1 := by decide +kernel
  rcases h with ⟨a1, a2, a3⟩ | ⟨a1, a2, a3, a4⟩ | ⟨a1, i, a2, a3, a4, a5⟩
  · rcases h' with ⟨c1, c2, c3⟩ | ⟨c1, -⟩ | ⟨c1, -⟩
    · exact ⟨a2.trans c2.symm, a3.trans c3.symm⟩
    · omega
    · omega
  · rcases h' with ⟨c1, -⟩ | ⟨c1, c2, c3, c4⟩ | ⟨c1, j, c2, c3, -⟩
    · omega
    · exact ⟨a3.trans c3.symm, a4.trans c4.symm⟩
    · exact absurd (c3.symm.trans a2) (ni j c2)
  · rcases h' with ⟨c1, -⟩ | ⟨c1, c2, -⟩ | ⟨c1, j, c2, c3, c4, c5⟩
    · omega
    · exact absurd (a3.symm.trans c2) (ni i a2)
    · have : i = j := (nI_eq (by omega) (by omega)).mp (a3.symm.trans c3)
      subst this
      exact ⟨a4.trans c4.symm, a5.trans c5.symm⟩
theorem tw_fun (h : TW b n p e y s w) (h' : TW b n p e y s' w') : s = s' ∧ w = w' := by
  rcases h with ⟨a1, a2, a3⟩ | ⟨a1, a2, a3⟩ | ⟨a1, a2, a3, a4⟩ | ⟨a1, a2, a3, a4, a5⟩
  · rcases h' with ⟨c1, c2, c3⟩ | ⟨c1, -⟩ | ⟨c1, -⟩ | ⟨c1, -⟩
    · exact ⟨a2.trans c2.symm, a3.trans c3.symm⟩
    · omega
    · omega
    · omega
  · rcases h' with ⟨c1, -⟩ | ⟨c1, c2, c3⟩ | ⟨c1, c2, -⟩ | ⟨c1, c2, -⟩
    · omega
    · exact sw_fun a3 c3
    · exact absurd a2 (dgN_lt c2)
    · exact absurd a2 c2
  · rcases h' with ⟨c1, -⟩ | ⟨c1, c2, -⟩ | ⟨c1, c2, c3, c4⟩ | ⟨c1, c2, c3, -⟩
    · omega
    · exact absurd c2 (dgN_lt a2)
    · exact ⟨a3.trans c3.symm, a4.trans c4.symm⟩
    · exact absurd a2 c3
  · rcases h' with ⟨c1, -⟩ | ⟨c1, c2, -⟩ | ⟨c1, c2, -⟩ | ⟨c1, c2, c3, c4, c5⟩
    · omega
    · exact absurd c2 a2
    · exact absurd c2 a3
    · refine ⟨?_, a5.trans c5.symm⟩
      rcases a4 with a4 | a4
      · rcases c4 with c4 | c4
        · exact a4.2.trans c4.2.symm
        · exact absurd a4.1 c4.1
      · rcases c4 with c4 | c4
        · exact absurd c4.1 a4.1
        · exact a4.2.trans c4.2.symm
theorem tw_ex (hb : ∀ j, j < n → b j < 256) (T : Tok b n q p e k v) : ∃ s w, TW b n p e y s w ∧ TM k v s w := by
  obtain ⟨q1, q2, q3, T⟩ := T
  rcases T with ⟨t1, t2, t3, t4⟩ | ⟨pn, T | T | T⟩
  · exact ⟨4, y, Or.inl ⟨t1, rfl, rfl⟩, Or.inr (Or.inr (Or.inr (Or.inr (Or.inl ⟨t3, rfl⟩))))⟩
  · obtain ⟨t1, t2, t3, t4, t5, t6⟩ := T
    rcases t6 with ⟨w6, ek, ev⟩ | ⟨w6, ev, ek⟩
    · exact ⟨5, -1, Or.inr (Or.inl ⟨pn, t1, Or.inl ⟨w6, rfl, rfl⟩⟩), Or.inr (Or.inr (Or.inr (Or.inr (Or.inr ⟨ek, rfl⟩))))⟩
    · rcases kw_res (f := fun j => b (p + j)) w6 (fun j hj => t4 (p + j) (by omega) (by omega)) with ⟨k1, k2⟩ | ⟨i, k0, k1, k2⟩
      · have k1' : knd (wC b p e) = -1 := k1
        rw [if_pos k1'] at ek
        exact ⟨1, _, Or.inr (Or.inl ⟨pn, t1, Or.inr (Or.inl ⟨w6, k1', rfl, rfl⟩)⟩), Or.inr (Or.inl ⟨ek, rfl, ev.symm⟩)⟩
      · have k1' : knd (wC b p e) = nI i := k1
        have ni : ∀ j, j < 21 → ¬ nI j = -1 := by decide +kernel
        rw [k1', if_neg (ni i k0)] at ek
        exact ⟨0, _, Or.inr (Or.inl ⟨pn, t1, Or.inr (Or.inr ⟨w6, i, k0, k1', rfl, rfl⟩)⟩), Or.inl ⟨i, k0, ek, rfl, rfl⟩⟩
  · obtain ⟨t1, t2, t3, t4, t5, t6, t7⟩ := T
    have bw := wN_vN (f := fun j => b (p + j)) (e - p) (fun j hj => t4 (p + j) (by omega) (by omega))
    exact ⟨2, _, Or.inr (Or.inr (Or.inl ⟨pn, t1, rfl, rfl⟩)), Or.inr (Or.inr (Or.inl ⟨t6, rfl, _, _, t7, rfl, vN_le _, bw.1, bw.2⟩))⟩
  · have hx := hb p pn
    by_cases c : isSg (b p)
    · exact ⟨3, _, Or.inr (Or.inr (Or.inr ⟨pn, T.1, T.2.1, Or.inl ⟨c, rfl⟩, rfl⟩)), (sg_tm hx T 3 (Or.inl ⟨c, rfl⟩)).1⟩
    · exact ⟨5, _, Or.inr (Or.inr (Or.inr ⟨pn, T.1, T.2.1, Or.inr ⟨c, rfl⟩, rfl⟩)), (sg_tm hx T 5 (Or.inr ⟨c, rfl⟩)).1⟩
end TX
/-- the reference's token() ends in one picture -/
theorem m_tokenX {adK adV : Nat → Nat} {h0 : aH} {b : Nat → Nat} {n p q e : Nat} {k v : Int32} (I0 : inT h0 b n q) (T : Tok b n q p e k v) : ∃ s w, TM k v s w ∧ ∀ {l : Launch} {ad : Nat → Nat} {d : Nat} {R : aH → Prop}, R (tkH h0 (nI e) (nI p) s w) → AW (GM adK adV) l ad (d + 5) mX10_token 0 [(0, .ref (ad 0))] [] h0 (qv R) := by
  obtain ⟨s, w, t1, t2⟩ := tw_ex (y := h0.1 0 28) (fun j hj => (I0.2.1 j hj).2) T
  refine ⟨s, w, t2, fun H => m_token I0 T (fun h' s' w' f c1 c2 c3 c4 _ tw => ?_)⟩
  obtain ⟨e1, e2⟩ := tw_fun tw t1
  rw [e1] at c3
  rw [e2] at c4
  rw [fm_eq f c1 c2 c3 c4]
  exact H
