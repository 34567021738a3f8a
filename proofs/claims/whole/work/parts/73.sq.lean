/-! ===== a story as it is read, on both sides ===== -/
/-- the reference's second halves -/
def sH (h : aH) : wT := fun a k => if 2 ≤ a ∧ a ≤ 20 then h.1 a (hf a + k) else 0
theorem sH_at {h : aH} {a k : Nat} (h1 : 2 ≤ a) (h2 : a ≤ 20) : sH h a k = h.1 a (hf a + k) := if_pos ⟨h1, h2⟩
def qN (σ S : wT) (m t n D : Nat) : Prop := σ 0 11 = nI m ∧ S 2 0 = nI m ∧ m ≤ 6 ∧ σ 0 12 = nI t ∧ S 2 1 = nI t ∧ t ≤ 6 ∧ σ 17 11 = nI D ∧ S 2 2 = nI D ∧ D ≤ 8 ∧ σ 0 13 = nI n ∧ S 2 3 = nI n ∧ n ≤ 10 ∧ (∃ r, r ≤ 100 ∧ σ 0 14 = nI r ∧ S 2 4 = nI r) ∧ S 2 5 = σ 17 14 ∧ σ 17 13 = 0 ∧ σ 17 12 = nI (2 ^ t - 1)
def qM (σ S : wT) (m : Nat) : Prop := ∀ p, p < m → S 3 p = σ 1 p ∧ S 4 p = σ 18 p
def qT (σ S : wT) (t : Nat) : Prop := ∀ e, e < t → S 5 e = σ 2 e ∧ S 6 e = σ 19 e ∧ S 7 e = σ 3 e ∧ S 8 e = σ 4 e ∧ ∃ a, a ≤ 99 ∧ σ 19 e = nI a
def qD (σ S : wT) (m t D : Nat) : Prop := ∀ i, i < D → (∀ j, 3 ≤ j → j ≤ 7 → S (6 + j) i = σ (17 + j) i) ∧ (∃ a, a < m ∧ σ 20 i = nI a) ∧ (∃ b, b < m ∧ σ 21 i = nI b) ∧ ¬ σ 20 i = σ 21 i ∧ (∃ e, e < t ∧ σ 23 i = nI e) ∧ (∃ v, v ≤ 99 ∧ σ 22 i = nI v) ∧ σ 25 i = 0 ∧ σ 26 i = 0 ∧ σ 28 i = 0
def qL (σ S : wT) (t n : Nat) : Prop := ∀ k, k < n → S 14 k = σ 5 k ∧ S 15 k = σ 6 k ∧ S 16 k = σ 7 k ∧ (∃ a, a < t ∧ σ 5 k = nI a) ∧ ∃ a, a < t ∧ σ 6 k = nI a
def qW (σ S : wT) (K k : Nat) : Prop := ∃ f q, S 17 k = nI f ∧ S 18 k = nI (f + q) ∧ f + q ≤ K ∧ σ (8 + 3 * k) 2 = nI q ∧ WFc (σ (9 + 3 * k)) q ∧ ∀ i, i < q → cR (σ (9 + 3 * k) i) (S 19 (f + i)) (S 20 (f + i))
def qB (σ : wT) (T : Int32) : Prop := (bt T 5 = true ↔ ¬ σ 0 15 = 0) ∧ (bt T 6 = true ↔ ¬ σ 0 16 = 0) ∧ ∀ k, k < 3 → (bt T (16 + k) = true ↔ ¬ σ (8 + 3 * k) 2 = 0)
def SQ (σ S : wT) (T : Int32) (m t n D K : Nat) : Prop := qN σ S m t n D ∧ qM σ S m ∧ qT σ S t ∧ qD σ S m t D ∧ qL σ S t n ∧ (∀ k, k < 3 → qW σ S K k) ∧ qB σ T ∧ σ 0 17 = nI K ∧ K ≤ 64 ∧ S 2 6 = nI K
section SE
variable {σ S σ' S' : wT} {T T' : Int32} {m t n D K m' t' K' k : Nat}
theorem qM_ext (e : ∀ j p, (j = 1 ∨ j = 18) → p < m → σ' j p = σ j p) (e2 : ∀ a p, (a = 3 ∨ a = 4) → p < m → S' a p = S a p) (h : qM σ S m) : qM σ' S' m := fun p hp => by
  rw [e 1 p (by omega) hp, e 18 p (by omega) hp, e2 3 p (by omega) hp, e2 4 p (by omega) hp]; exact h p hp
theorem qT_ext (e : ∀ j p, (j = 2 ∨ j = 3 ∨ j = 4 ∨ j = 19) → p < t → σ' j p = σ j p) (e2 : ∀ a p, (5 ≤ a ∧ a ≤ 8) → p < t → S' a p = S a p) (h : qT σ S t) : qT σ' S' t := fun p hp => by
  rw [e 2 p (by omega) hp, e 3 p (by omega) hp, e 4 p (by omega) hp, e 19 p (by omega) hp, e2 5 p (by omega) hp, e2 6 p (by omega) hp, e2 7 p (by omega) hp, e2 8 p (by omega) hp]; exact h p hp
theorem qD_ext (hm : m ≤ m') (ht : t ≤ t') (e : ∀ j i, 20 ≤ j → j ≤ 28 → i < D → σ' j i = σ j i) (e2 : ∀ a i, 9 ≤ a → a ≤ 13 → i < D → S' a i = S a i) (h : qD σ S m t D) : qD σ' S' m' t' D := fun i hi => by
  obtain ⟨h1, ⟨a, a1, a2⟩, ⟨b, b1, b2⟩, h4, ⟨c, c1, c2⟩, h6, h7, h8, h9⟩ := h i hi
  refine ⟨fun j h3 h4 => ?_, ⟨a, by omega, ?_⟩, ⟨b, by omega, ?_⟩, ?_, ⟨c, by omega, ?_⟩, ?_, ?_, ?_, ?_⟩
  · rw [e _ _ (by omega) (by omega) hi, e2 _ _ (by omega) (by omega) hi]; exact h1 j h3 h4
  all_goals rw [e _ _ (by decide) (by decide) hi]
  · exact a2
  · exact b2
  · rw [e _ _ (by decide) (by decide) hi]; exact h4
  · exact c2
  · exact h6
  · exact h7
  · exact h8
  · exact h9
theorem qL_ext (ht : t ≤ t') (e : ∀ j i, 5 ≤ j → j ≤ 7 → i < n → σ' j i = σ j i) (e2 : ∀ a i, 14 ≤ a → a ≤ 16 → i < n → S' a i = S a i) (h : qL σ S t n) : qL σ' S' t' n := fun i hi => by
  obtain ⟨h1, h2, h3, ⟨a, a1, a2⟩, ⟨b, b1, b2⟩⟩ := h i hi
  rw [e 5 i (by omega) (by omega) hi, e 6 i (by omega) (by omega) hi, e 7 i (by omega) (by omega) hi, e2 14 i (by omega) (by omega) hi, e2 15 i (by omega) (by omega) hi, e2 16 i (by omega) (by omega) hi]
  exact ⟨h1, h2, h3, ⟨a, by omega, a2⟩, ⟨b, by omega, b2⟩⟩
theorem qW_ext (hK : K ≤ K') (e1 : σ' (8 + 3 * k) 2 = σ (8 + 3 * k) 2) (e2 : ∀ i, σ' (9 + 3 * k) i = σ (9 + 3 * k) i) (e3 : S' 17 k = S 17 k) (e4 : S' 18 k = S 18 k) (e5 : ∀ a i, (a = 19 ∨ a = 20) → i < K → S' a i = S a i) (h : qW σ S K k) : qW σ' S' K' k := by
  obtain ⟨f, q, h1, h2, h3, h4, h5, h6⟩ := h
  have e : σ' (9 + 3 * k) = σ (9 + 3 * k) := funext e2
  refine ⟨f, q, e3.trans h1, e4.trans h2, by omega, e1.trans h4, by rw [e]; exact h5, fun i hi => ?_⟩
  rw [e, e5 19 _ (by omega) (by omega), e5 20 _ (by omega) (by omega)]
  exact h6 i hi
def bSame (T T' : Int32) : Prop := bt T' 5 = bt T 5 ∧ bt T' 6 = bt T 6 ∧ ∀ k, k < 3 → bt T' (16 + k) = bt T (16 + k)
theorem qB_ext (b : bSame T T') (e1 : σ' 0 15 = σ 0 15) (e2 : σ' 0 16 = σ 0 16) (e3 : ∀ k, k < 3 → σ' (8 + 3 * k) 2 = σ (8 + 3 * k) 2) (h : qB σ T) : qB σ' T' := by
  refine ⟨by rw [b.1, e1]; exact h.1, by rw [b.2.1, e2]; exact h.2.1, fun k hk => ?_⟩
  rw [b.2.2 k hk, e3 k hk]; exact h.2.2 k hk
theorem bS_or {w : Nat} (hw : w < 32) (h5 : w ≠ 5) (h6 : w ≠ 6) (h7 : w < 16) : bSame T (T ||| ((1 : Int32) <<< (nI w &&& 31))) := by
  refine ⟨?_, ?_, fun k hk => ?_⟩
  all_goals rw [bt_or, bt_one hw (by omega), decide_eq_false (by omega), Bool.or_false]
/-- a man more -/
theorem sq_man {nm pu : Int32} (Q : SQ σ S T m t n D K) (hm : m < 6) (c1 : σ' 1 m = nm) (c2 : σ' 18 m = pu) (c3 : σ' 0 11 = nI (m + 1)) (co : ∀ j k, ¬ (j = 1 ∧ k = m) → ¬ (j = 18 ∧ k = m) → ¬ (j = 0 ∧ k = 11) → σ' j k = σ j k) (m1 : S' 3 m = nm) (m2 : S' 4 m = pu) (m3 : S' 2 0 = nI (m + 1)) (mo : ∀ a k, ¬ (a = 3 ∧ k = m) → ¬ (a = 4 ∧ k = m) → ¬ (a = 2 ∧ k = 0) → S' a k = S a k) (hT : bSame T T') : SQ σ' S' T' (m + 1) t n D K := by
  obtain ⟨⟨n1, n2, n3, n4, n5, n6, n7, n8, n9, n10, n11, n12, n13, n14, n15, n16⟩, QM, QT, QD, QL, QW, QB, k1, k2, k3⟩ := Q
  have C : ∀ j k, ¬ (j = 1 ∧ k = m) ∧ ¬ (j = 18 ∧ k = m) ∧ ¬ (j = 0 ∧ k = 11) → σ' j k = σ j k := fun j k h => co j k h.1 h.2.1 h.2.2
  have M : ∀ a k, ¬ (a = 3 ∧ k = m) ∧ ¬ (a = 4 ∧ k = m) ∧ ¬ (a = 2 ∧ k = 0) → S' a k = S a k := fun j k h => mo j k h.1 h.2.1 h.2.2
  refine ⟨⟨c3, m3, by omega, ?_, ?_, n6, ?_, ?_, n9, ?_, ?_, n12, ?_, ?_, ?_, ?_⟩, fun p hp => ?_, qT_ext (fun j p h _ => C _ _ (by omega)) (fun a p h _ => M _ _ (by omega)) QT, qD_ext (by omega) (Nat.le_refl _) (fun j i h1 h2 _ => C _ _ (by omega)) (fun a i h1 h2 _ => M _ _ (by omega)) QD, qL_ext (Nat.le_refl _) (fun j i h1 h2 _ => C _ _ (by omega)) (fun a i h1 h2 _ => M _ _ (by omega)) QL, fun k hk => qW_ext (Nat.le_refl _) (C _ _ (by omega)) (fun i => C _ _ (by omega)) (M _ _ (by omega)) (M _ _ (by omega)) (fun a i h _ => M _ _ (by omega)) (QW k hk), qB_ext hT (C _ _ (by omega)) (C _ _ (by omega)) (fun k hk => C _ _ (by omega)) QB, ?_, k2, ?_⟩
  · rw [C _ _ (by omega)]; exact n4
  · rw [M _ _ (by omega)]; exact n5
  · rw [C _ _ (by omega)]; exact n7
  · rw [M _ _ (by omega)]; exact n8
  · rw [C _ _ (by omega)]; exact n10
  · rw [M _ _ (by omega)]; exact n11
  · rw [C _ _ (by omega), M _ _ (by omega)]; exact n13
  · rw [C _ _ (by omega), M _ _ (by omega)]; exact n14
  · rw [C _ _ (by omega)]; exact n15
  · rw [C _ _ (by omega)]; exact n16
  · by_cases w : p = m
    · subst w; rw [c1, c2, m1, m2]; exact ⟨rfl, rfl⟩
    · rw [C _ _ (by omega), C _ _ (by omega), M _ _ (by omega), M _ _ (by omega)]; exact QM p (by omega)
  · rw [C _ _ (by omega)]; exact k1
  · rw [M _ _ (by omega)]; exact k3
theorem pow_or : ∀ t, t < 6 → nI (2 ^ t - 1) ||| ((1 : Int32) <<< (nI t &&& 31)) = nI (2 ^ (t + 1) - 1) := by decide +kernel
/-- an elephant more -/
theorem sq_tusk {nm bu : Int32} {ag : Nat} (Q : SQ σ S T m t n D K) (ht : t < 6) (ha : ag ≤ 99) (c1 : σ' 2 t = nm) (c2 : σ' 19 t = nI ag) (c3 : σ' 3 t = bu) (c4 : σ' 4 t = -1) (c5 : σ' 17 12 = nI (2 ^ (t + 1) - 1)) (c6 : σ' 0 12 = nI (t + 1)) (co : ∀ j k, ¬ ((j = 2 ∨ j = 19 ∨ j = 3 ∨ j = 4) ∧ k = t) → ¬ (j = 17 ∧ k = 12) → ¬ (j = 0 ∧ k = 12) → σ' j k = σ j k) (m1 : S' 5 t = nm) (m2 : S' 6 t = nI ag) (m3 : S' 7 t = bu) (m4 : S' 8 t = -1) (m5 : S' 2 1 = nI (t + 1)) (mo : ∀ a k, ¬ ((5 ≤ a ∧ a ≤ 8) ∧ k = t) → ¬ (a = 2 ∧ k = 1) → S' a k = S a k) (hT : bSame T T') : SQ σ' S' T' m (t + 1) n D K := by
  obtain ⟨⟨n1, n2, n3, n4, n5, n6, n7, n8, n9, n10, n11, n12, n13, n14, n15, n16⟩, QM, QT, QD, QL, QW, QB, k1, k2, k3⟩ := Q
  have C : ∀ j k, ¬ ((j = 2 ∨ j = 19 ∨ j = 3 ∨ j = 4) ∧ k = t) ∧ ¬ (j = 17 ∧ k = 12) ∧ ¬ (j = 0 ∧ k = 12) → σ' j k = σ j k := fun j k h => co j k h.1 h.2.1 h.2.2
  have M : ∀ a k, ¬ ((5 ≤ a ∧ a ≤ 8) ∧ k = t) ∧ ¬ (a = 2 ∧ k = 1) → S' a k = S a k := fun j k h => mo j k h.1 h.2
  refine ⟨⟨?_, ?_, n3, c6, m5, by omega, ?_, ?_, n9, ?_, ?_, n12, ?_, ?_, ?_, c5⟩, qM_ext (fun j p h _ => C _ _ (by omega)) (fun a p h _ => M _ _ (by omega)) QM, fun p hp => ?_, qD_ext (Nat.le_refl _) (by omega) (fun j i h1 h2 _ => C _ _ (by omega)) (fun a i h1 h2 _ => M _ _ (by omega)) QD, qL_ext (by omega) (fun j i h1 h2 _ => C _ _ (by omega)) (fun a i h1 h2 _ => M _ _ (by omega)) QL, fun k hk => qW_ext (Nat.le_refl _) (C _ _ (by omega)) (fun i => C _ _ (by omega)) (M _ _ (by omega)) (M _ _ (by omega)) (fun a i h _ => M _ _ (by omega)) (QW k hk), qB_ext hT (C _ _ (by omega)) (C _ _ (by omega)) (fun k hk => C _ _ (by omega)) QB, ?_, k2, ?_⟩
  · rw [C _ _ (by omega)]; exact n1
  · rw [M _ _ (by omega)]; exact n2
  · rw [C _ _ (by omega)]; exact n7
  · rw [M _ _ (by omega)]; exact n8
  · rw [C _ _ (by omega)]; exact n10
  · rw [M _ _ (by omega)]; exact n11
  · rw [C _ _ (by omega), M _ _ (by omega)]; exact n13
  · rw [C _ _ (by omega), M _ _ (by omega)]; exact n14
  · rw [C _ _ (by omega)]; exact n15
  · by_cases w : p = t
    · subst w; rw [c1, c2, c3, c4, m1, m2, m3, m4]; exact ⟨rfl, rfl, rfl, rfl, ag, ha, rfl⟩
    · rw [C _ _ (by omega), C _ _ (by omega), C _ _ (by omega), C _ _ (by omega), M _ _ (by omega), M _ _ (by omega), M _ _ (by omega), M _ _ (by omega)]; exact QT p (by omega)
  · rw [C _ _ (by omega)]; exact k1
  · rw [M _ _ (by omega)]; exact k3
/-- a debt more -/
theorem sq_debt {a b v e x : Nat} (Q : SQ σ S T m t n D K) (hD : D < 8) (ha : a < m) (hb : b < m) (hab : a ≠ b) (hv : v ≤ 99) (he : e < t) (c1 : σ' 20 D = nI a) (c2 : σ' 21 D = nI b) (c3 : σ' 22 D = nI v) (c4 : σ' 23 D = nI e) (c5 : σ' 24 D = nI x) (c6 : σ' 25 D = 0) (c7 : σ' 26 D = 0) (c8 : σ' 28 D = 0) (c9 : σ' 17 11 = nI (D + 1)) (co : ∀ j k, ¬ ((20 ≤ j ∧ j ≤ 28) ∧ k = D) → ¬ (j = 17 ∧ k = 11) → σ' j k = σ j k) (m1 : S' 9 D = nI a) (m2 : S' 10 D = nI b) (m3 : S' 11 D = nI v) (m4 : S' 12 D = nI e) (m5 : S' 13 D = nI x) (m6 : S' 2 2 = nI (D + 1)) (mo : ∀ a k, ¬ ((9 ≤ a ∧ a ≤ 13) ∧ k = D) → ¬ (a = 2 ∧ k = 2) → S' a k = S a k) (hT : bSame T T') : SQ σ' S' T' m t n (D + 1) K := by
  obtain ⟨⟨n1, n2, n3, n4, n5, n6, n7, n8, n9, n10, n11, n12, n13, n14, n15, n16⟩, QM, QT, QD, QL, QW, QB, k1, k2, k3⟩ := Q
  have C : ∀ j k, ¬ ((20 ≤ j ∧ j ≤ 28) ∧ k = D) ∧ ¬ (j = 17 ∧ k = 11) → σ' j k = σ j k := fun j k h => co j k h.1 h.2
  have M : ∀ a k, ¬ ((9 ≤ a ∧ a ≤ 13) ∧ k = D) ∧ ¬ (a = 2 ∧ k = 2) → S' a k = S a k := fun j k h => mo j k h.1 h.2
  refine ⟨⟨?_, ?_, n3, ?_, ?_, n6, c9, m6, by omega, ?_, ?_, n12, ?_, ?_, ?_, ?_⟩, qM_ext (fun j p h _ => C _ _ (by omega)) (fun a p h _ => M _ _ (by omega)) QM, qT_ext (fun j p h _ => C _ _ (by omega)) (fun a p h _ => M _ _ (by omega)) QT, fun i hi => ?_, qL_ext (Nat.le_refl _) (fun j i h1 h2 _ => C _ _ (by omega)) (fun a i h1 h2 _ => M _ _ (by omega)) QL, fun k hk => qW_ext (Nat.le_refl _) (C _ _ (by omega)) (fun i => C _ _ (by omega)) (M _ _ (by omega)) (M _ _ (by omega)) (fun a i h _ => M _ _ (by omega)) (QW k hk), qB_ext hT (C _ _ (by omega)) (C _ _ (by omega)) (fun k hk => C _ _ (by omega)) QB, ?_, k2, ?_⟩
  · rw [C _ _ (by omega)]; exact n1
  · rw [M _ _ (by omega)]; exact n2
  · rw [C _ _ (by omega)]; exact n4
  · rw [M _ _ (by omega)]; exact n5
  · rw [C _ _ (by omega)]; exact n10
  · rw [M _ _ (by omega)]; exact n11
  · rw [C _ _ (by omega), M _ _ (by omega)]; exact n13
  · rw [C _ _ (by omega), M _ _ (by omega)]; exact n14
  · rw [C _ _ (by omega)]; exact n15
  · rw [C _ _ (by omega)]; exact n16
  · by_cases w : i = D
    · subst w
      refine ⟨fun j h1 h2 => ?_, ⟨a, ha, c1⟩, ⟨b, hb, c2⟩, ?_, ⟨e, he, c4⟩, ⟨v, hv, c3⟩, c6, c7, c8⟩
      · have : j = 3 ∨ j = 4 ∨ j = 5 ∨ j = 6 ∨ j = 7 := by omega
        rcases this with rfl | rfl | rfl | rfl | rfl
        · exact m1.trans c1.symm
        · exact m2.trans c2.symm
        · exact m3.trans c3.symm
        · exact m4.trans c4.symm
        · exact m5.trans c5.symm
      · rw [c1, c2]; exact nI_ne hab (by omega) (by omega)
    · exact qD_ext (Nat.le_refl _) (Nat.le_refl _) (fun j i h1 h2 _ => C _ _ (by omega)) (fun a i h1 h2 _ => M _ _ (by omega)) QD i (by omega)
  · rw [C _ _ (by omega)]; exact k1
  · rw [M _ _ (by omega)]; exact k3
/-- a leaning more -/
theorem sq_lean {a b x : Nat} (Q : SQ σ S T m t n D K) (hn : n < 10) (ha : a < t) (hb : b < t) (c1 : σ' 5 n = nI a) (c2 : σ' 6 n = nI b) (c3 : σ' 7 n = nI x) (c4 : σ' 0 13 = nI (n + 1)) (co : ∀ j k, ¬ ((5 ≤ j ∧ j ≤ 7) ∧ k = n) → ¬ (j = 0 ∧ k = 13) → σ' j k = σ j k) (m1 : S' 14 n = nI a) (m2 : S' 15 n = nI b) (m3 : S' 16 n = nI x) (m4 : S' 2 3 = nI (n + 1)) (mo : ∀ a k, ¬ ((14 ≤ a ∧ a ≤ 16) ∧ k = n) → ¬ (a = 2 ∧ k = 3) → S' a k = S a k) (hT : bSame T T') : SQ σ' S' T' m t (n + 1) D K := by
  obtain ⟨⟨n1, n2, n3, n4, n5, n6, n7, n8, n9, n10, n11, n12, n13, n14, n15, n16⟩, QM, QT, QD, QL, QW, QB, k1, k2, k3⟩ := Q
  have C : ∀ j k, ¬ ((5 ≤ j ∧ j ≤ 7) ∧ k = n) ∧ ¬ (j = 0 ∧ k = 13) → σ' j k = σ j k := fun j k h => co j k h.1 h.2
  have M : ∀ a k, ¬ ((14 ≤ a ∧ a ≤ 16) ∧ k = n) ∧ ¬ (a = 2 ∧ k = 3) → S' a k = S a k := fun j k h => mo j k h.1 h.2
  refine ⟨⟨?_, ?_, n3, ?_, ?_, n6, ?_, ?_, n9, c4, m4, by omega, ?_, ?_, ?_, ?_⟩, qM_ext (fun j p h _ => C _ _ (by omega)) (fun a p h _ => M _ _ (by omega)) QM, qT_ext (fun j p h _ => C _ _ (by omega)) (fun a p h _ => M _ _ (by omega)) QT, qD_ext (Nat.le_refl _) (Nat.le_refl _) (fun j i h1 h2 _ => C _ _ (by omega)) (fun a i h1 h2 _ => M _ _ (by omega)) QD, fun k hk => ?_, fun k hk => qW_ext (Nat.le_refl _) (C _ _ (by omega)) (fun i => C _ _ (by omega)) (M _ _ (by omega)) (M _ _ (by omega)) (fun a i h _ => M _ _ (by omega)) (QW k hk), qB_ext hT (C _ _ (by omega)) (C _ _ (by omega)) (fun k hk => C _ _ (by omega)) QB, ?_, k2, ?_⟩
  · rw [C _ _ (by omega)]; exact n1
  · rw [M _ _ (by omega)]; exact n2
  · rw [C _ _ (by omega)]; exact n4
  · rw [M _ _ (by omega)]; exact n5
  · rw [C _ _ (by omega)]; exact n7
  · rw [M _ _ (by omega)]; exact n8
  · rw [C _ _ (by omega), M _ _ (by omega)]; exact n13
  · rw [C _ _ (by omega), M _ _ (by omega)]; exact n14
  · rw [C _ _ (by omega)]; exact n15
  · rw [C _ _ (by omega)]; exact n16
  · by_cases w : k = n
    · subst w
      rw [c1, c2, c3, m1, m2, m3]
      exact ⟨rfl, rfl, rfl, ⟨a, ha, rfl⟩, ⟨b, hb, rfl⟩⟩
    · exact qL_ext (Nat.le_refl _) (fun j i h1 h2 _ => C _ _ (by omega)) (fun a i h1 h2 _ => M _ _ (by omega)) QL k (by omega)
  · rw [C _ _ (by omega)]; exact k1
  · rw [M _ _ (by omega)]; exact k3
/-- changes that only touch entries in the table of entries that both sides have alike -/
theorem sq_cell {e : Nat} {x : Int32} (Q : SQ σ S T m t n D K) (he : e < t) (c1 : σ' 4 e = x) (co : ∀ j k, ¬ (j = 4 ∧ k = e) → σ' j k = σ j k) (m1 : S' 8 e = x) (mo : ∀ a k, ¬ (a = 8 ∧ k = e) → S' a k = S a k) (hT : bSame T T') : SQ σ' S' T' m t n D K := by
  obtain ⟨⟨n1, n2, n3, n4, n5, n6, n7, n8, n9, n10, n11, n12, n13, n14, n15, n16⟩, QM, QT, QD, QL, QW, QB, k1, k2, k3⟩ := Q
  refine ⟨⟨?_, ?_, n3, ?_, ?_, n6, ?_, ?_, n9, ?_, ?_, n12, ?_, ?_, ?_, ?_⟩, qM_ext (fun j p h _ => co _ _ (by omega)) (fun a p h _ => mo _ _ (by omega)) QM, fun p hp => ?_, qD_ext (Nat.le_refl _) (Nat.le_refl _) (fun j i h1 h2 _ => co _ _ (by omega)) (fun a i h1 h2 _ => mo _ _ (by omega)) QD, qL_ext (Nat.le_refl _) (fun j i h1 h2 _ => co _ _ (by omega)) (fun a i h1 h2 _ => mo _ _ (by omega)) QL, fun k hk => qW_ext (Nat.le_refl _) (co _ _ (by omega)) (fun i => co _ _ (by omega)) (mo _ _ (by omega)) (mo _ _ (by omega)) (fun a i h _ => mo _ _ (by omega)) (QW k hk), qB_ext hT (co _ _ (by omega)) (co _ _ (by omega)) (fun k hk => co _ _ (by omega)) QB, ?_, k2, ?_⟩
  · rw [co _ _ (by omega)]; exact n1
  · rw [mo _ _ (by omega)]; exact n2
  · rw [co _ _ (by omega)]; exact n4
  · rw [mo _ _ (by omega)]; exact n5
  · rw [co _ _ (by omega)]; exact n7
  · rw [mo _ _ (by omega)]; exact n8
  · rw [co _ _ (by omega)]; exact n10
  · rw [mo _ _ (by omega)]; exact n11
  · rw [co _ _ (by omega), mo _ _ (by omega)]; exact n13
  · rw [co _ _ (by omega), mo _ _ (by omega)]; exact n14
  · rw [co _ _ (by omega)]; exact n15
  · rw [co _ _ (by omega)]; exact n16
  · obtain ⟨t1, t2, t3, t4, t5⟩ := QT p hp
    refine ⟨by rw [co _ _ (by omega), mo _ _ (by omega)]; exact t1, by rw [co _ _ (by omega), mo _ _ (by omega)]; exact t2, by rw [co _ _ (by omega), mo _ _ (by omega)]; exact t3, ?_, by rw [co _ _ (by omega)]; exact t5⟩
    by_cases w : p = e
    · subst w; rw [c1, m1]
    · rw [co _ _ (by omega), mo _ _ (by omega)]; exact t4
  · rw [co _ _ (by omega)]; exact k1
  · rw [mo _ _ (by omega)]; exact k3
/-- a rate -/
theorem sq_rate {r : Nat} (Q : SQ σ S T m t n D K) (hr : r ≤ 100) (c1 : σ' 0 14 = nI r) (c2 : σ' 0 15 = 1) (co : ∀ j k, ¬ (j = 0 ∧ (k = 14 ∨ k = 15)) → σ' j k = σ j k) (m1 : S' 2 4 = nI r) (mo : ∀ a k, ¬ (a = 2 ∧ k = 4) → S' a k = S a k) (t5 : bt T' 5 = true) (t6 : bt T' 6 = bt T 6) (t7 : ∀ k, k < 3 → bt T' (16 + k) = bt T (16 + k)) : SQ σ' S' T' m t n D K := by
  obtain ⟨⟨n1, n2, n3, n4, n5, n6, n7, n8, n9, n10, n11, n12, n13, n14, n15, n16⟩, QM, QT, QD, QL, QW, QB, k1, k2, k3⟩ := Q
  refine ⟨⟨?_, ?_, n3, ?_, ?_, n6, ?_, ?_, n9, ?_, ?_, n12, ⟨r, hr, c1, m1⟩, ?_, ?_, ?_⟩, qM_ext (fun j p h _ => co _ _ (by omega)) (fun a p h _ => mo _ _ (by omega)) QM, qT_ext (fun j p h _ => co _ _ (by omega)) (fun a p h _ => mo _ _ (by omega)) QT, qD_ext (Nat.le_refl _) (Nat.le_refl _) (fun j i h1 h2 _ => co _ _ (by omega)) (fun a i h1 h2 _ => mo _ _ (by omega)) QD, qL_ext (Nat.le_refl _) (fun j i h1 h2 _ => co _ _ (by omega)) (fun a i h1 h2 _ => mo _ _ (by omega)) QL, fun k hk => qW_ext (Nat.le_refl _) (co _ _ (by omega)) (fun i => co _ _ (by omega)) (mo _ _ (by omega)) (mo _ _ (by omega)) (fun a i h _ => mo _ _ (by omega)) (QW k hk), ⟨?_, ?_, fun k hk => ?_⟩, ?_, k2, ?_⟩
  · rw [co _ _ (by omega)]; exact n1
  · rw [mo _ _ (by omega)]; exact n2
  · rw [co _ _ (by omega)]; exact n4
  · rw [mo _ _ (by omega)]; exact n5
  · rw [co _ _ (by omega)]; exact n7
  · rw [mo _ _ (by omega)]; exact n8
  · rw [co _ _ (by omega)]; exact n10
  · rw [mo _ _ (by omega)]; exact n11
  · rw [co _ _ (by omega), mo _ _ (by omega)]; exact n14
  · rw [co _ _ (by omega)]; exact n15
  · rw [co _ _ (by omega)]; exact n16
  · exact ⟨fun _ => by rw [c2]; decide, fun _ => t5⟩
  · rw [t6, co _ _ (by omega)]; exact QB.2.1
  · rw [t7 k hk, co _ _ (by omega)]; exact QB.2.2 k hk
  · rw [co _ _ (by omega)]; exact k1
  · rw [mo _ _ (by omega)]; exact k3
/-- a number to begin with -/
theorem sq_seed {v : Int32} (Q : SQ σ S T m t n D K) (c1 : σ' 17 14 = v) (c2 : σ' 0 16 = 1) (co : ∀ j k, ¬ (j = 17 ∧ k = 14) → ¬ (j = 0 ∧ k = 16) → σ' j k = σ j k) (m1 : S' 2 5 = v) (mo : ∀ a k, ¬ (a = 2 ∧ k = 5) → S' a k = S a k) (t5 : bt T' 5 = bt T 5) (t6 : bt T' 6 = true) (t7 : ∀ k, k < 3 → bt T' (16 + k) = bt T (16 + k)) : SQ σ' S' T' m t n D K := by
  obtain ⟨⟨n1, n2, n3, n4, n5, n6, n7, n8, n9, n10, n11, n12, n13, n14, n15, n16⟩, QM, QT, QD, QL, QW, QB, k1, k2, k3⟩ := Q
  have C : ∀ j k, ¬ (j = 17 ∧ k = 14) ∧ ¬ (j = 0 ∧ k = 16) → σ' j k = σ j k := fun j k h => co j k h.1 h.2
  refine ⟨⟨?_, ?_, n3, ?_, ?_, n6, ?_, ?_, n9, ?_, ?_, n12, ?_, ?_, ?_, ?_⟩, qM_ext (fun j p h _ => C _ _ (by omega)) (fun a p h _ => mo _ _ (by omega)) QM, qT_ext (fun j p h _ => C _ _ (by omega)) (fun a p h _ => mo _ _ (by omega)) QT, qD_ext (Nat.le_refl _) (Nat.le_refl _) (fun j i h1 h2 _ => C _ _ (by omega)) (fun a i h1 h2 _ => mo _ _ (by omega)) QD, qL_ext (Nat.le_refl _) (fun j i h1 h2 _ => C _ _ (by omega)) (fun a i h1 h2 _ => mo _ _ (by omega)) QL, fun k hk => qW_ext (Nat.le_refl _) (C _ _ (by omega)) (fun i => C _ _ (by omega)) (mo _ _ (by omega)) (mo _ _ (by omega)) (fun a i h _ => mo _ _ (by omega)) (QW k hk), ⟨?_, ?_, fun k hk => ?_⟩, ?_, k2, ?_⟩
  · rw [C _ _ (by omega)]; exact n1
  · rw [mo _ _ (by omega)]; exact n2
  · rw [C _ _ (by omega)]; exact n4
  · rw [mo _ _ (by omega)]; exact n5
  · rw [C _ _ (by omega)]; exact n7
  · rw [mo _ _ (by omega)]; exact n8
  · rw [C _ _ (by omega)]; exact n10
  · rw [mo _ _ (by omega)]; exact n11
  · rw [C _ _ (by omega), mo _ _ (by omega)]; exact n13
  · exact m1.trans c1.symm
  · rw [C _ _ (by omega)]; exact n15
  · rw [C _ _ (by omega)]; exact n16
  · rw [t5, C _ _ (by omega)]; exact QB.1
  · exact ⟨fun _ => by rw [c2]; decide, fun _ => t6⟩
  · rw [t7 k hk, C _ _ (by omega)]; exact QB.2.2 k hk
  · rw [C _ _ (by omega)]; exact k1
  · rw [mo _ _ (by omega)]; exact k3
/-- a law -/
theorem sq_law {kk q : Nat} (Q : SQ σ S T m t n D K) (hk : kk < 3) (hK : K ≤ K') (hK2 : K' ≤ 64) (hq : K + q = K') (q0 : q ≠ 0) (c1 : σ' (8 + 3 * kk) 2 = nI q) (c2 : WFc (σ' (9 + 3 * kk)) q) (c3 : ∀ i, i < q → cR (σ' (9 + 3 * kk) i) (S' 19 (K + i)) (S' 20 (K + i))) (c4 : σ' 0 17 = nI K') (co : ∀ j k, ¬ (j = 8 + 3 * kk ∧ k = 2) → ¬ (j = 9 + 3 * kk) → ¬ (j = 0 ∧ k = 17) → σ' j k = σ j k) (m1 : S' 17 kk = nI K) (m2 : S' 18 kk = nI K') (m3 : S' 2 6 = nI K') (mo : ∀ a k, ¬ ((a = 17 ∨ a = 18) ∧ k = kk) → ¬ ((a = 19 ∨ a = 20) ∧ K ≤ k) → ¬ (a = 2 ∧ k = 6) → S' a k = S a k) (t5 : bt T' 5 = bt T 5) (t6 : bt T' 6 = bt T 6) (t7 : ∀ k, k < 3 → bt T' (16 + k) = (bt T (16 + k) || decide (k = kk))) : SQ σ' S' T' m t n D K' := by
  obtain ⟨⟨n1, n2, n3, n4, n5, n6, n7, n8, n9, n10, n11, n12, n13, n14, n15, n16⟩, QM, QT, QD, QL, QW, QB, k1, k2, k3⟩ := Q
  have C : ∀ j k, ¬ (j = 8 + 3 * kk ∧ k = 2) ∧ ¬ (j = 9 + 3 * kk) ∧ ¬ (j = 0 ∧ k = 17) → σ' j k = σ j k := fun j k h => co j k h.1 h.2.1 h.2.2
  have M : ∀ a k, ¬ ((a = 17 ∨ a = 18) ∧ k = kk) ∧ ¬ ((a = 19 ∨ a = 20) ∧ K ≤ k) ∧ ¬ (a = 2 ∧ k = 6) → S' a k = S a k := fun j k h => mo j k h.1 h.2.1 h.2.2
  refine ⟨⟨?_, ?_, n3, ?_, ?_, n6, ?_, ?_, n9, ?_, ?_, n12, ?_, ?_, ?_, ?_⟩, qM_ext (fun j p h _ => C _ _ (by omega)) (fun a p h _ => M _ _ (by omega)) QM, qT_ext (fun j p h _ => C _ _ (by omega)) (fun a p h _ => M _ _ (by omega)) QT, qD_ext (Nat.le_refl _) (Nat.le_refl _) (fun j i h1 h2 _ => C _ _ (by omega)) (fun a i h1 h2 _ => M _ _ (by omega)) QD, qL_ext (Nat.le_refl _) (fun j i h1 h2 _ => C _ _ (by omega)) (fun a i h1 h2 _ => M _ _ (by omega)) QL, fun k hk => ?_, ⟨?_, ?_, fun k hk => ?_⟩, c4, hK2, m3⟩
  · rw [C _ _ (by omega)]; exact n1
  · rw [M _ _ (by omega)]; exact n2
  · rw [C _ _ (by omega)]; exact n4
  · rw [M _ _ (by omega)]; exact n5
  · rw [C _ _ (by omega)]; exact n7
  · rw [M _ _ (by omega)]; exact n8
  · rw [C _ _ (by omega)]; exact n10
  · rw [M _ _ (by omega)]; exact n11
  · rw [C _ _ (by omega), M _ _ (by omega)]; exact n13
  · rw [C _ _ (by omega), M _ _ (by omega)]; exact n14
  · rw [C _ _ (by omega)]; exact n15
  · rw [C _ _ (by omega)]; exact n16
  · by_cases w : k = kk
    · subst w
      exact ⟨K, q, m1, by rw [hq]; exact m2, by omega, c1, c2, c3⟩
    · exact qW_ext hK (C _ _ (by omega)) (fun i => C _ _ (by omega)) (M _ _ (by omega)) (M _ _ (by omega)) (fun a i h h2 => M _ _ (by omega)) (QW k hk)
  · rw [t5, C _ _ (by omega)]; exact QB.1
  · rw [t6, C _ _ (by omega)]; exact QB.2.1
  · rw [t7 k hk]
    by_cases w : k = kk
    · subst w
      rw [decide_eq_true rfl, Bool.or_true, c1]
      exact ⟨fun _ => nI_ne (b := 0) q0 (by omega) (by decide), fun _ => rfl⟩
    · rw [decide_eq_false w, Bool.or_false, C _ _ (by omega)]; exact QB.2.2 k hk
end SE
