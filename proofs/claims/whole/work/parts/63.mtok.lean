section MT3
variable {adK adV : Nat → Nat} {l : Launch} {ad : Nat → Nat} {d : Nat} {h h0 : aH} {b : Nat → Nat} {n p q e : Nat}
theorem m_hereN {R : Int32 → aH → Prop} (I : inT h b n (p + 1)) (H : ∀ z, (z = 61 ↔ nxB b n p = 61) → (z = 62 ↔ nxB b n p = 62) → R z h) : AW (GM adK adV) l ad d mX10_here 0 [(0, .ref (ad 0))] [] h (qi R) := by
  refine m_here I (fun w => ?_) (fun w => ?_)
  · have hx := (I.2.1 (p + 1) w).2
    have e0 : nxB b n p = b (p + 1) := by unfold nxB; exact if_pos w
    refine H _ ?_ ?_
    · rw [e0]; exact nI_eq (b := 61) (by omega) (by decide)
    · rw [e0]; exact nI_eq (b := 62) (by omega) (by decide)
  · have e0 : nxB b n p = 0 := by unfold nxB; exact if_neg (by omega)
    refine H _ ?_ ?_
    · rw [e0]; exact ⟨fun z => absurd z (by decide), fun z => absurd z (by decide)⟩
    · rw [e0]; exact ⟨fun z => absurd z (by decide), fun z => absurd z (by decide)⟩
def isSg (x : Nat) : Prop := x = 59 ∨ x = 40 ∨ x = 41 ∨ x = 43 ∨ x = 45 ∨ x = 42 ∨ x = 47 ∨ x = 60 ∨ x = 61 ∨ x = 62
def sgW (x y : Nat) : Int32 := if x = 60 ∧ y = 61 then 256 else if x = 60 ∧ y = 62 then 257 else if x = 62 ∧ y = 61 then 258 else nI x
/-- a sign as both sides have it -/
theorem sg_tm {k v : Int32} (hx : b p < 256) (T : tkS b n p e k v) (s : Int32) (hs : isSg (b p) ∧ s = 3 ∨ ¬ isSg (b p) ∧ s = 5) : TM k v s (sgW (b p) (nxB b n p)) ∧ (sgW (b p) (nxB b n p) < 256 → e = p + 1) ∧ (¬ sgW (b p) (nxB b n p) < 256 → e = p + 2) := by
  obtain ⟨-, -, -, -, T⟩ := T
  generalize nxB b n p = y at T ⊢
  generalize b p = x at T hs hx ⊢
  by_cases a : x = 60 ∧ y = 61
  · have e1 : pkS x y = 29 := by unfold pkS; exact if_pos a
    have e2 : sgW x y = 256 := by unfold sgW; exact if_pos a
    rw [e1] at T
    rw [e2]
    have es : s = 3 := by
      rcases hs with w | w
      · exact w.2
      · exact absurd (by unfold isSg; omega) w.1
    rcases T with ⟨-, t2, t3⟩ | ⟨t1, -⟩
    · exact ⟨Or.inr (Or.inr (Or.inr (Or.inl ⟨es, by unfold sgR; rw [t2]; simp⟩))), fun z => absurd z (by decide), fun _ => t3⟩
    · exact absurd t1 (by decide)
  · by_cases a2 : x = 60 ∧ y = 62
    · have e1 : pkS x y = 31 := by unfold pkS; rw [if_neg a]; exact if_pos a2
      have e2 : sgW x y = 257 := by unfold sgW; rw [if_neg a]; exact if_pos a2
      rw [e1] at T
      rw [e2]
      have es : s = 3 := by
        rcases hs with w | w
        · exact w.2
        · exact absurd (by unfold isSg; omega) w.1
      rcases T with ⟨-, t2, t3⟩ | ⟨t1, -⟩
      · exact ⟨Or.inr (Or.inr (Or.inr (Or.inl ⟨es, by unfold sgR; rw [t2]; simp⟩))), fun z => absurd z (by decide), fun _ => t3⟩
      · exact absurd t1 (by decide)
    · by_cases a3 : x = 62 ∧ y = 61
      · have e1 : pkS x y = 32 := by unfold pkS; rw [if_neg a, if_neg a2]; exact if_pos a3
        have e2 : sgW x y = 258 := by unfold sgW; rw [if_neg a, if_neg a2]; exact if_pos a3
        rw [e1] at T
        rw [e2]
        have es : s = 3 := by
          rcases hs with w | w
          · exact w.2
          · exact absurd (by unfold isSg; omega) w.1
        rcases T with ⟨-, t2, t3⟩ | ⟨t1, -⟩
        · exact ⟨Or.inr (Or.inr (Or.inr (Or.inl ⟨es, by unfold sgR; rw [t2]; simp⟩))), fun z => absurd z (by decide), fun _ => t3⟩
        · exact absurd t1 (by decide)
      · have e1 : pkS x y = 37 := by unfold pkS; rw [if_neg a, if_neg a2]; exact if_neg a3
        have e2 : sgW x y = nI x := by unfold sgW; rw [if_neg a, if_neg a2]; exact if_neg a3
        rw [e1] at T
        rw [e2]
        rcases T with ⟨t1, -⟩ | ⟨-, t2, t3⟩
        · exact absurd rfl t1
        · refine ⟨?_, fun _ => t3, fun z => absurd (nI_lt (b := 256) hx (by decide)) z⟩
          rcases hs with ⟨w, es⟩ | ⟨w, es⟩
          · refine Or.inr (Or.inr (Or.inr (Or.inl ⟨es, ?_⟩)))
            unfold isSg at w
            rcases w with rfl | rfl | rfl | rfl | rfl | rfl | rfl | rfl | rfl | rfl
            · exact Or.inl ⟨t2, rfl⟩
            · exact Or.inr (Or.inl ⟨t2, rfl⟩)
            · exact Or.inr (Or.inr (Or.inl ⟨t2, rfl⟩))
            · exact Or.inr (Or.inr (Or.inr (Or.inl ⟨t2, rfl⟩)))
            · exact Or.inr (Or.inr (Or.inr (Or.inr (Or.inl ⟨t2, rfl⟩))))
            · exact Or.inr (Or.inr (Or.inr (Or.inr (Or.inr (Or.inl ⟨t2, rfl⟩)))))
            · exact Or.inr (Or.inr (Or.inr (Or.inr (Or.inr (Or.inr (Or.inl ⟨t2, rfl⟩))))))
            · exact Or.inr (Or.inr (Or.inr (Or.inr (Or.inr (Or.inr (Or.inr (Or.inl ⟨t2, rfl⟩)))))))
            · exact Or.inr (Or.inr (Or.inr (Or.inr (Or.inr (Or.inr (Or.inr (Or.inr (Or.inr (Or.inl ⟨t2, rfl⟩)))))))))
            · exact Or.inr (Or.inr (Or.inr (Or.inr (Or.inr (Or.inr (Or.inr (Or.inr (Or.inr (Or.inr (Or.inr (Or.inr ⟨t2, rfl⟩)))))))))))
          · refine Or.inr (Or.inr (Or.inr (Or.inr (Or.inr ⟨?_, es⟩))))
            rw [t2]
            unfold isSg at w
            unfold sgS
            rw [if_neg (by omega), if_neg (by omega), if_neg (by omega), if_neg (by omega), if_neg (by omega), if_neg (by omega), if_neg (by omega), if_neg (by omega), if_neg (by omega), if_neg (by omega)]
theorem m_sign {R : aH → Prop} {k v : Int32} (I0 : inT h0 b n q) (hp : p < n) (T : tkS b n p e k v) (f : frM h0 h) (e25 : h.1 0 25 = nI p) (e26 : h.1 0 26 = nI p) (H : ∀ h' s w, frM h0 h' → h'.1 0 25 = nI e → h'.1 0 26 = nI p → h'.1 0 27 = s → h'.1 0 28 = w → TM k v s w → (isSg (b p) ∧ s = 3 ∨ ¬ isSg (b p) ∧ s = 5) ∧ w = sgW (b p) (nxB b n p) → R h') : AW (GM adK adV) l ad (d + 1) mX10_sign 0 [(0, .ref (ad 0)), (1, .int (nI (b p)))] [] h (qv R) := by
  have hx := (I0.2.1 p hp).2
  have hn := I0.1
  have ex : ∀ k : Nat, k < 256 → (nI (b p) = nI k → b p = k) := fun k hk z => (nI_eq (by omega) (by omega)).mp z
  have L150 : ∀ hh s, (isSg (b p) ∧ s = 3 ∨ ¬ isSg (b p) ∧ s = 5) → frM h0 hh → hh.1 0 25 = nI (p + 1) → hh.1 0 26 = nI p → hh.1 0 27 = s → hh.1 0 28 = sgW (b p) (nxB b n p) → AW (GM adK adV) l ad (d + 1) mX10_sign 150 [(0, .ref (ad 0))] [] hh (qv R) := by
    intro hh s hs f a25 a26 a27 a28
    obtain ⟨tm, t1, t2⟩ := sg_tm hx T s hs
    refine bX10_sign_150 _ ?_
    rw [a28]
    refine ⟨fun z => H hh s _ f (by rw [t1 z]; exact a25) a26 a27 a28 tm ⟨hs, rfl⟩, fun z => ?_⟩
    rw [a25, nI_1]
    refine H _ s _ (fm_s f (by omega)) (by rw [t2 z]; exact sI_s) ((sI_k (by decide)).trans a26) ((sI_k (by decide)).trans a27) ((sI_k (by decide)).trans a28) tm ⟨hs, rfl⟩
  have L128 : ∀ hh s, (isSg (b p) ∧ s = 3 ∨ ¬ isSg (b p) ∧ s = 5) → frM h0 hh → hh.1 0 25 = nI (p + 1) → hh.1 0 26 = nI p → hh.1 0 27 = s → (hh.1 0 28 = sgW (b p) (nxB b n p) ∨ hh.1 0 28 = nI (b p) ∧ ¬ (b p = 60 ∧ nxB b n p = 61) ∧ ¬ (b p = 60 ∧ nxB b n p = 62)) → (b p = 62 → hh.1 0 28 = nI (b p)) → AW (GM adK adV) l ad (d + 1) mX10_sign 128 [(0, .ref (ad 0)), (1, .int (nI (b p)))] [] hh (qv R) := by
    intro hh s hs f a25 a26 a27 a28 a62
    have I := in_m I0 f a25 (by omega)
    refine bX10_sign_128 _ _ ⟨fun z => L150 hh s hs f a25 a26 a27 ?_, fun z => m_hereN I (fun w w1 w2 => ⟨fun z2 => L150 hh s hs f a25 a26 a27 ?_, fun z2 => L150 _ s hs (fm_s f (by omega)) ((sI_k (by decide)).trans a25) ((sI_k (by decide)).trans a26) ((sI_k (by decide)).trans a27) ?_⟩)⟩
    · rcases a28 with w | ⟨w, w1, w2⟩
      · exact w
      · rw [w]
        unfold sgW
        rw [if_neg w1, if_neg w2, if_neg (fun c => z (by rw [c.1]; rfl))]
    · have x62 := ex 62 (by decide) z
      rw [a62 x62]
      unfold sgW
      rw [if_neg (by omega), if_neg (by omega), if_neg (fun c => z2 (w1.mpr c.2))]
    · have x62 := ex 62 (by decide) z
      rw [sI_s]
      unfold sgW
      rw [if_neg (by omega), if_neg (by omega), if_pos ⟨x62, w1.mp z2⟩]
  have L106 : ∀ hh s, (isSg (b p) ∧ s = 3 ∨ ¬ isSg (b p) ∧ s = 5) → frM h0 hh → hh.1 0 25 = nI (p + 1) → hh.1 0 26 = nI p → hh.1 0 27 = s → (b p = 60 ∧ nxB b n p = 61 ∧ hh.1 0 28 = 256 ∨ ¬ (b p = 60 ∧ nxB b n p = 61) ∧ hh.1 0 28 = nI (b p)) → AW (GM adK adV) l ad (d + 1) mX10_sign 106 [(0, .ref (ad 0)), (1, .int (nI (b p)))] [] hh (qv R) := by
    intro hh s hs f a25 a26 a27 a28
    have I := in_m I0 f a25 (by omega)
    refine bX10_sign_106 _ _ ⟨fun z => L128 hh s hs f a25 a26 a27 ?_ ?_, fun z => m_hereN I (fun w w1 w2 => ⟨fun z2 => L128 hh s hs f a25 a26 a27 ?_ ?_, fun z2 => L128 _ s hs (fm_s f (by omega)) ((sI_k (by decide)).trans a25) ((sI_k (by decide)).trans a26) ((sI_k (by decide)).trans a27) (Or.inl ?_) ?_⟩)⟩
    · have n60 : ¬ b p = 60 := fun c => z (by rw [c]; rfl)
      rcases a28 with c | c
      · exact absurd c.1 n60
      · exact Or.inr ⟨c.2, c.1, fun c => n60 c.1⟩
    · intro x62
      rcases a28 with c | c
      · omega
      · exact c.2
    · have x60 := ex 60 (by decide) z
      rcases a28 with c | c
      · refine Or.inl ?_
        rw [c.2.2]
        unfold sgW
        rw [if_pos ⟨c.1, c.2.1⟩]
      · exact Or.inr ⟨c.2, c.1, fun c => z2 (w2.mpr c.2)⟩
    · intro x62
      have x60 := ex 60 (by decide) z
      omega
    · have x60 := ex 60 (by decide) z
      have y62 := w2.mp z2
      rw [sI_s]
      unfold sgW
      rw [if_neg (by omega), if_pos ⟨x60, y62⟩]
    · intro x62
      have x60 := ex 60 (by decide) z
      omega
  have L76 : ∀ s, (isSg (b p) ∧ s = 3 ∨ ¬ isSg (b p) ∧ s = 5) → AW (GM adK adV) l ad (d + 1) mX10_sign 76 [(0, .ref (ad 0)), (1, .int (nI (b p)))] [.int s, .ref (ad 0)] (sI h 0 25 (h.1 0 25 + 1)) (qv R) := by
    intro s hs
    rw [e25, nI_1]
    have f2 : frM h0 (sI (sI (sI h 0 25 (nI (p + 1))) 0 27 s) 0 28 (nI (b p))) := fm_s (fm_s (fm_s f (by omega)) (by omega)) (by omega)
    have a25 : (sI (sI (sI h 0 25 (nI (p + 1))) 0 27 s) 0 28 (nI (b p))).1 0 25 = nI (p + 1) := by rw [sI_k (by decide), sI_k (by decide), sI_s]
    have a26 : (sI (sI (sI h 0 25 (nI (p + 1))) 0 27 s) 0 28 (nI (b p))).1 0 26 = nI p := by rw [sI_k (by decide), sI_k (by decide), sI_k (by decide)]; exact e26
    have a27 : (sI (sI (sI h 0 25 (nI (p + 1))) 0 27 s) 0 28 (nI (b p))).1 0 27 = s := by rw [sI_k (by decide), sI_s]
    have a28 : (sI (sI (sI h 0 25 (nI (p + 1))) 0 27 s) 0 28 (nI (b p))).1 0 28 = nI (b p) := sI_s
    have I := in_m I0 f2 a25 (by omega)
    refine bX10_sign_76 _ _ _ ⟨fun z => L106 _ s hs f2 a25 a26 a27 (Or.inr ⟨fun c => z (by rw [c.1]; rfl), a28⟩), fun z => m_hereN I (fun w w1 w2 => ⟨fun z2 => L106 _ s hs f2 a25 a26 a27 (Or.inr ⟨fun c => z2 (w1.mpr c.2), a28⟩), fun z2 => L106 _ s hs (fm_s f2 (by omega)) ((sI_k (by decide)).trans a25) ((sI_k (by decide)).trans a26) ((sI_k (by decide)).trans a27) (Or.inl ⟨ex 60 (by decide) z, w1.mp z2, sI_s⟩)⟩)⟩
  have L3 : ∀ k : Nat, k < 256 → isSg k → nI (b p) = nI k → AW (GM adK adV) l ad (d + 1) mX10_sign 71 [(0, .ref (ad 0)), (1, .int (nI (b p)))] [.ref (ad 0)] (sI h 0 25 (h.1 0 25 + 1)) (qv R) := fun k hk hs z => bX10_sign_71 _ _ (L76 3 (Or.inl ⟨by rw [ex k hk z]; exact hs, rfl⟩))
  have sg : ∀ k, k = 59 ∨ k = 40 ∨ k = 41 ∨ k = 43 ∨ k = 45 ∨ k = 42 ∨ k = 47 ∨ k = 60 ∨ k = 61 ∨ k = 62 → isSg k := fun _ w => w
  refine bX10_sign_0 _ _ ⟨L3 59 (by decide) (sg _ (by decide)), fun z1 => ⟨L3 40 (by decide) (sg _ (by decide)), fun z2 => ⟨L3 41 (by decide) (sg _ (by decide)), fun z3 => ⟨L3 43 (by decide) (sg _ (by decide)), fun z4 => ⟨L3 45 (by decide) (sg _ (by decide)), fun z5 => ⟨L3 42 (by decide) (sg _ (by decide)), fun z6 => ⟨L3 47 (by decide) (sg _ (by decide)), fun z7 => ⟨L3 60 (by decide) (sg _ (by decide)), fun z8 => ⟨L3 61 (by decide) (sg _ (by decide)), fun z9 => ⟨fun z10 => L76 5 (Or.inr ⟨?_, rfl⟩), L3 62 (by decide) (sg _ (by decide))⟩⟩⟩⟩⟩⟩⟩⟩⟩⟩
  rintro (c | c | c | c | c | c | c | c | c | c)
  · exact z1 (by rw [c]; rfl)
  · exact z2 (by rw [c]; rfl)
  · exact z3 (by rw [c]; rfl)
  · exact z4 (by rw [c]; rfl)
  · exact z5 (by rw [c]; rfl)
  · exact z6 (by rw [c]; rfl)
  · exact z7 (by rw [c]; rfl)
  · exact z8 (by rw [c]; rfl)
  · exact z9 (by rw [c]; rfl)
  · exact z10 (by rw [c]; rfl)
end MT3
