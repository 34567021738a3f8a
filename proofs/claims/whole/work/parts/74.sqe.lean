/-! ===== a story that is read is one as the questions want it ===== -/
section SX
variable {σ S : wT} {T : Int32} {m t n D K : Nat} {h : aH}
theorem sq_0 (c0 : ∀ k, 11 ≤ k → k ≤ 17 → σ 0 k = 0) (c1 : ∀ k, 11 ≤ k → k ≤ 14 → σ 17 k = 0) (c2 : ∀ k, k < 3 → σ (8 + 3 * k) 2 = 0) (m0 : ∀ k, k < 7 → S 2 k = 0) (m1 : ∀ k, k < 3 → S 17 k = 0 ∧ S 18 k = 0) : SQ σ S 0 0 0 0 0 0 := by
  refine ⟨⟨c0 11 (by omega) (by omega), m0 0 (by omega), by omega, c0 12 (by omega) (by omega), m0 1 (by omega), by omega, c1 11 (by omega) (by omega), m0 2 (by omega), by omega, c0 13 (by omega) (by omega), m0 3 (by omega), by omega, ⟨0, by omega, c0 14 (by omega) (by omega), m0 4 (by omega)⟩, (m0 5 (by omega)).trans (c1 14 (by omega) (by omega)).symm, c1 13 (by omega) (by omega), c1 12 (by omega) (by omega)⟩, fun p hp => absurd hp (Nat.not_lt_zero _), fun p hp => absurd hp (Nat.not_lt_zero _), fun p hp => absurd hp (Nat.not_lt_zero _), fun p hp => absurd hp (Nat.not_lt_zero _), fun k hk => ⟨0, 0, (m1 k hk).1, (m1 k hk).2, Nat.le_refl _, c2 k hk, ⟨fun i hi => absurd hi (Nat.not_lt_zero _), Or.inl rfl, by omega⟩, fun i hi => absurd hi (Nat.not_lt_zero _)⟩, ⟨?_, ?_, fun k hk => ?_⟩, c0 17 (by omega) (by omega), by omega, m0 6 (by omega)⟩
  · rw [bt_0, c0 15 (by omega) (by omega)]
    exact ⟨fun z => absurd z (by decide), fun z => absurd rfl z⟩
  · rw [bt_0, c0 16 (by omega) (by omega)]
    exact ⟨fun z => absurd z (by decide), fun z => absurd rfl z⟩
  · rw [bt_0, c2 k hk]
    exact ⟨fun z => absurd z (by decide), fun z => absurd rfl z⟩
theorem sq_SF (Q : SQ σ S T m t n D K) : SF σ m t n := by
  obtain ⟨⟨n1, n2, n3, n4, n5, n6, n7, n8, n9, n10, n11, n12, n13, n14, n15, n16⟩, QM, QT, QD, QL, QW, QB, k1, k2, k3⟩ := Q
  have W : ∀ k, k < 3 → ∃ q, σ (8 + 3 * k) 2 = nI q ∧ WFc (σ (9 + 3 * k)) q := fun k hk => by
    obtain ⟨f, q, h1, h2, h3, h4, h5, h6⟩ := QW k hk
    exact ⟨q, h4, h5⟩
  exact ⟨n1, n4, n10, n12, fun k hk => (QL k hk).2.2.2.1, fun k hk => (QL k hk).2.2.2.2, W 0 (by decide), W 1 (by decide), W 2 (by decide)⟩
theorem hf_19 : hf 19 = 64 := by decide
theorem sq_MC (e : ∀ a k, 2 ≤ a → a ≤ 20 → k < hf a → h.1 a k = S a k) (Q : SQ σ S T m t n D K) : MC h σ m t n := by
  obtain ⟨⟨n1, n2, n3, n4, n5, n6, n7, n8, n9, n10, n11, n12, n13, n14, n15, n16⟩, QM, QT, QD, QL, QW, QB, k1, k2, k3⟩ := Q
  have W : ∀ k, k < 3 → ∃ f q, h.1 17 k = nI f ∧ h.1 18 k = nI (f + q) ∧ f + q ≤ 64 ∧ σ (8 + 3 * k) 2 = nI q ∧ WFc (σ (9 + 3 * k)) q ∧ ∀ i, i < q → cR (σ (9 + 3 * k) i) (h.1 19 (f + i)) (h.1 20 (f + i)) := fun k hk => by
    obtain ⟨f, q, h1, h2, h3, h4, h5, h6⟩ := QW k hk
    refine ⟨f, q, (e 17 k (by decide) (by decide) hk).trans h1, (e 18 k (by decide) (by decide) hk).trans h2, by omega, h4, h5, fun i hi => ?_⟩
    rw [e 19 (f + i) (by decide) (by decide) (show f + i < 64 by omega), e 20 (f + i) (by decide) (by decide) (show f + i < 64 by omega)]
    exact h6 i hi
  obtain ⟨r, r1, r2, r3⟩ := n13
  refine ⟨(e 2 0 (by decide) (by decide) (by decide)).trans n2, (e 2 1 (by decide) (by decide) (by decide)).trans n5, (e 2 3 (by decide) (by decide) (by decide)).trans n11, (e 2 4 (by decide) (by decide) (by decide)).trans (r3.trans r2.symm), fun p hp => ?_, fun k hk => ?_, W 0 (by decide), W 1 (by decide), W 2 (by decide)⟩
  · rw [e 7 p (by decide) (by decide) (show p < 6 by omega), e 8 p (by decide) (by decide) (show p < 6 by omega)]
    exact ⟨(QT p hp).2.2.1, (QT p hp).2.2.2.1⟩
  · rw [e 14 k (by decide) (by decide) (show k < 10 by omega), e 15 k (by decide) (by decide) (show k < 10 by omega), e 16 k (by decide) (by decide) (show k < 10 by omega)]
    exact ⟨(QL k hk).1, (QL k hk).2.1, (QL k hk).2.2.1⟩
theorem sq_gR (e : ∀ a k, 2 ≤ a → a ≤ 20 → k < hf a → h.1 a k = S a k) (Q : SQ σ S T m t n D K) : gR h σ m t D := by
  obtain ⟨⟨n1, n2, n3, n4, n5, n6, n7, n8, n9, n10, n11, n12, n13, n14, n15, n16⟩, QM, QT, QD, QL, QW, QB, k1, k2, k3⟩ := Q
  have st : ∀ {j k : Nat}, j < 12 → stW σ j k = σ (17 + j) k := fun hj => stW_at hj
  have tp : 0 < 2 ^ t := Nat.two_pow_pos _
  obtain ⟨r, r1, r2, r3⟩ := n13
  refine ⟨fun p hp => ?_, fun p hp => ?_, (e 2 2 (by decide) (by decide) (by decide)).trans n8, (e 2 5 (by decide) (by decide) (by decide)).trans n14, (e 2 6 (by decide) (by decide) (by decide)).trans (k3.trans k1.symm), fun i hi j h1 h2 => ?_, ⟨⟨n3, n6, n9, ?_, ⟨2 ^ t - 1, by omega, ?_⟩, fun i hi => ?_⟩, ⟨fun i hi => ?_, fun p hp => ?_⟩, fun i hi p hp z => ?_⟩, fun i hi => (QD i hi).2.2.2.2.2.2.1, n15, n16, fun i hi => ?_, ⟨r, r1, r2⟩⟩
  · rw [e 3 p (by decide) (by decide) (show p < 6 by omega), e 4 p (by decide) (by decide) (show p < 6 by omega)]
    exact QM p hp
  · rw [e 5 p (by decide) (by decide) (show p < 6 by omega), e 6 p (by decide) (by decide) (show p < 6 by omega)]
    exact ⟨(QT p hp).1, (QT p hp).2.1⟩
  · rw [← (QD i hi).1 j h1 h2]
    refine e (6 + j) i (by omega) (by omega) ?_
    have : hf (6 + j) = 8 := by
      unfold hf
      rw [if_neg (by omega), if_neg (by omega), if_pos (by omega)]
    omega
  · rw [st (by decide)]; exact n7
  · rw [st (by decide)]; exact n16
  · obtain ⟨d1, d2, d3, d4, d5, d6, d7, d8, d9⟩ := QD i hi
    rw [st (by decide), st (by decide), st (by decide), st (by decide)]
    exact ⟨d2, d3, d5, 0, tp, d9⟩
  · obtain ⟨d1, d2, d3, d4, d5, d6, d7, d8, d9⟩ := QD i hi
    rw [st (by decide), st (by decide), st (by decide), st (by decide), st (by decide)]
    refine ⟨fun z => absurd (d7.symm.trans z) (by decide), fun _ => ⟨d8, d9⟩⟩
  · rw [st (by decide)]
    exact (QT p hp).2.2.2.2
  · rw [st (by decide)] at z
    have d9 : σ (17 + 11) i = 0 := (QD i hi).2.2.2.2.2.2.2.2
    rw [d9, bt_0] at z
    exact absurd z (by decide)
  · obtain ⟨d1, d2, d3, d4, d5, ⟨v, d6, d6'⟩, d7, d8, d9⟩ := QD i hi
    have x3 : stW σ 3 i = σ 20 i := st (by decide)
    have x4 : stW σ 4 i = σ 21 i := st (by decide)
    have x8 : stW σ 8 i = σ 25 i := st (by decide)
    have x9 : stW σ 9 i = σ 26 i := st (by decide)
    have x5 : stW σ 5 i = σ 22 i := st (by decide)
    refine ⟨?_, ?_, ⟨0, by omega, x9.trans d8⟩, ⟨v, d6, x5.trans d6'⟩⟩
    · rw [x3, x4]; exact d4
    · rw [x8, d7]; decide
end SX
