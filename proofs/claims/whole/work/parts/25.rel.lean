/-! ===== changes on both sides ===== -/
theorem u2_comm {ω : wT} {j k j' k' : Nat} {v v' : Int32} (h : j ≠ j') : u2 (u2 ω j k v) j' k' v' = u2 (u2 ω j' k' v') j k v := by
  funext a c
  unfold u2
  by_cases h1 : a = j' ∧ c = k'
  · rw [if_pos h1, if_neg (fun q => h (q.1.symm.trans h1.1)), if_pos h1]
  · rw [if_neg h1]
    by_cases h2 : a = j ∧ c = k
    · rw [if_pos h2, if_pos h2]
    · rw [if_neg h2, if_neg h2, if_neg h1]
theorem u2_eq {ω β : wT} {j k a c : Nat} {v : Int32} (h : ω a c = β a c) : u2 ω j k v a c = u2 β j k v a c := by
  unfold u2; rw [h]
section RL
variable {m t D : Nat} {ω β : wT}
theorem rel_u (r : RelW m t D ω β) {j : Nat} (h1 : 3 ≤ j) (h2 : j ≤ 9) {i : Nat} {v : Int32} : RelW m t D (u2 ω j i v) (u2 β j i v) := by
  obtain ⟨a1, a2, a3, a4, a5, a6, a7, a8⟩ := r
  have n0 : ∀ {ω : wT} {k}, u2 ω j i v 0 k = ω 0 k := fun {ω} {k} => u2_j (by omega)
  have n1 : ∀ {ω : wT} {k}, u2 ω j i v 1 k = ω 1 k := fun {ω} {k} => u2_j (by omega)
  have n2 : ∀ {ω : wT} {k}, u2 ω j i v 2 k = ω 2 k := fun {ω} {k} => u2_j (by omega)
  have n11 : ∀ {ω : wT} {k}, u2 ω j i v 11 k = ω 11 k := fun {ω} {k} => u2_j (by omega)
  have n12 : ∀ {ω : wT} {k}, u2 ω j i v 12 k = ω 12 k := fun {ω} {k} => u2_j (by omega)
  refine ⟨by rw [n0]; exact a1, by rw [n0, n0]; exact a2, by rw [n0, n0]; exact a3, by rw [n0, n0]; exact a4, fun p hp => by rw [n1, n1]; exact a5 p hp, fun e he => by rw [n2, n2]; exact a6 e he, fun q hq j' h3 h4 => u2_eq (a7 q hq j' h3 h4), fun e he => ?_⟩
  · rw [n12]
    exact ⟨(a8 e he).1, fun q hq => by rw [n11]; exact (a8 e he).2 q hq⟩
theorem rel_p (r : RelW m t D ω β) {p : Nat} {v : Int32} : RelW m t D (u2 ω 1 p v) (u2 β 1 p v) := by
  obtain ⟨a1, a2, a3, a4, a5, a6, a7, a8⟩ := r
  refine ⟨by rw [u2_j (by decide)]; exact a1, by rw [u2_j (by decide), u2_j (by decide)]; exact a2, by rw [u2_j (by decide), u2_j (by decide)]; exact a3, by rw [u2_j (by decide), u2_j (by decide)]; exact a4, fun q hq => u2_eq (a5 q hq), fun e he => by rw [u2_j (by decide), u2_j (by decide)]; exact a6 e he, fun q hq j' h3 h4 => by rw [u2_j (by omega), u2_j (by omega)]; exact a7 q hq j' h3 h4, fun e he => ?_⟩
  rw [u2_j (by decide)]
  exact ⟨(a8 e he).1, fun q hq => by rw [u2_j (by decide)]; exact (a8 e he).2 q hq⟩
theorem rel_a (r : RelW m t D ω β) {p : Nat} {v : Int32} : RelW m t D (u2 ω 2 p v) (u2 β 2 p v) := by
  obtain ⟨a1, a2, a3, a4, a5, a6, a7, a8⟩ := r
  refine ⟨by rw [u2_j (by decide)]; exact a1, by rw [u2_j (by decide), u2_j (by decide)]; exact a2, by rw [u2_j (by decide), u2_j (by decide)]; exact a3, by rw [u2_j (by decide), u2_j (by decide)]; exact a4, fun q hq => by rw [u2_j (by decide), u2_j (by decide)]; exact a5 q hq, fun e he => u2_eq (a6 e he), fun q hq j' h3 h4 => by rw [u2_j (by omega), u2_j (by omega)]; exact a7 q hq j' h3 h4, fun e he => ?_⟩
  rw [u2_j (by decide)]
  exact ⟨(a8 e he).1, fun q hq => by rw [u2_j (by decide)]; exact (a8 e he).2 q hq⟩
theorem rel_0 (r : RelW m t D ω β) {k : Nat} (hk : k ≠ 11) {v : Int32} : RelW m t D (u2 ω 0 k v) (u2 β 0 k v) := by
  obtain ⟨a1, a2, a3, a4, a5, a6, a7, a8⟩ := r
  refine ⟨by rw [u2_k hk.symm]; exact a1, u2_eq a2, u2_eq a3, u2_eq a4, fun q hq => by rw [u2_j (by decide), u2_j (by decide)]; exact a5 q hq, fun e he => by rw [u2_j (by decide), u2_j (by decide)]; exact a6 e he, fun q hq j' h3 h4 => by rw [u2_j (by omega), u2_j (by omega)]; exact a7 q hq j' h3 h4, fun e he => ?_⟩
  rw [u2_j (by decide)]
  exact ⟨(a8 e he).1, fun q hq => by rw [u2_j (by decide)]; exact (a8 e he).2 q hq⟩
theorem rel_10 (r : RelW m t D ω β) {i : Nat} {v : Int32} : RelW m t D (u2 ω 10 i v) β := by
  obtain ⟨a1, a2, a3, a4, a5, a6, a7, a8⟩ := r
  exact ⟨a1, by rw [u2_j (by decide)]; exact a2, by rw [u2_j (by decide)]; exact a3, by rw [u2_j (by decide)]; exact a4, fun q hq => by rw [u2_j (by decide)]; exact a5 q hq, fun e he => by rw [u2_j (by decide)]; exact a6 e he, fun q hq j' h3 h4 => by rw [u2_j (by omega)]; exact a7 q hq j' h3 h4, fun e he => ⟨(a8 e he).1, fun q hq => by rw [u2_j (by decide)]; exact (a8 e he).2 q hq⟩⟩
/-- who knows: the tables of knowing changed on both sides -/
theorem rel_kn (r : RelW m t D ω β) {ω' β' : wT} (h1 : ∀ j k, j ≠ 11 → ω' j k = ω j k) (h2 : ∀ j k, j ≠ 12 → β' j k = β j k) (h3 : ∀ e, e < t → (∃ k, k < 2 ^ D ∧ β' 12 e = nI k) ∧ ∀ i, i < D → bt (β' 12 e) i = bt (ω' 11 i) e) : RelW m t D ω' β' := by
  obtain ⟨a1, a2, a3, a4, a5, a6, a7, a8⟩ := r
  exact ⟨by rw [h2 _ _ (by decide)]; exact a1, by rw [h2 _ _ (by decide), h1 _ _ (by decide)]; exact a2, by rw [h2 _ _ (by decide), h1 _ _ (by decide)]; exact a3, by rw [h2 _ _ (by decide), h1 _ _ (by decide)]; exact a4, fun q hq => by rw [h2 _ _ (by decide), h1 _ _ (by decide)]; exact a5 q hq, fun e he => by rw [h2 _ _ (by decide), h1 _ _ (by decide)]; exact a6 e he, fun q hq j' h4 h5 => by rw [h2 _ _ (by omega), h1 _ _ (by omega)]; exact a7 q hq j' h4 h5, h3⟩
/-- nothing of a debt known on either side: the class may write that nobody knows it -/
theorem rel_no (r : RelW m t D ω β) {i : Nat} (hz : ω 11 i = 0) : RelW m t D (u2 ω 11 i 0) β := by
  refine rel_kn r (fun j k hj => u2_j hj) (fun _ _ _ => rfl) (fun e he => ⟨(r.2.2.2.2.2.2.2 e he).1, fun q hq => ?_⟩)
  rw [(r.2.2.2.2.2.2.2 e he).2 q hq]
  by_cases h1 : q = i
  · subst h1; rw [u2_s, hz]
  · rw [u2_k h1]
/-- one elephant more knows a debt -/
theorem rel_learn (ht : t ≤ 6) (hD : D ≤ 8) (r : RelW m t D ω β) {i e : Nat} (hi : i < D) (he : e < t) {x : Int32} (hx : ∀ q, q < t → bt x q = (bt (ω 11 i) q || decide (q = e))) : RelW m t D (u2 ω 11 i x) (u2 β 12 e (β 12 e ||| ((1 : Int32) <<< (nI i &&& 31)))) := by
  refine rel_kn r (fun j k hj => u2_j hj) (fun j k hj => u2_j hj) (fun q hq => ?_)
  obtain ⟨⟨k, hk, ek⟩, hb⟩ := r.2.2.2.2.2.2.2 q hq
  by_cases h1 : q = e
  · subst h1
    rw [u2_s, ek, n_one i (by omega), n_or]
    refine ⟨⟨k ||| 2 ^ i, Nat.or_lt_two_pow hk (Nat.pow_lt_pow_right (by decide) hi), rfl⟩, fun c hc => ?_⟩
    rw [← n_or, ← n_one i (by omega), bt_or, bt_one (by omega) (by omega), ← ek, hb c hc]
    by_cases h2 : c = i
    · subst h2; rw [u2_s, hx q hq]; simp
    · rw [u2_k h2, decide_eq_false h2, Bool.or_false]
  · rw [u2_k h1]
    refine ⟨⟨k, hk, ek⟩, fun c hc => ?_⟩
    rw [hb c hc]
    by_cases h2 : c = i
    · subst h2; rw [u2_s, hx q hq, decide_eq_false h1, Bool.or_false]
    · rw [u2_k h2]
/-- nobody knows it any more -/
theorem rel_clear (r : RelW m t D ω β) (hD : D ≤ 8) {i : Nat} (hi : i < D) {β' : wT} (h2 : ∀ j k, j ≠ 12 → β' j k = β j k) (h3 : ∀ e, e < t → β' 12 e = β 12 e &&& (((1 : Int32) <<< (nI i &&& 31)) ^^^ (-1))) : RelW m t D (u2 ω 11 i 0) β' := by
  refine rel_kn r (fun j k hj => u2_j hj) h2 (fun e he => ?_)
  obtain ⟨⟨k, hk, ek⟩, hb⟩ := r.2.2.2.2.2.2.2 e he
  rw [h3 e he]
  refine ⟨?_, fun c hc => ?_⟩
  · obtain ⟨k2, hk2, e2⟩ := n_andL k (((1 : Int32) <<< (nI i &&& 31)) ^^^ (-1))
    exact ⟨k2, by omega, by rw [ek]; exact e2⟩
  · rw [bt_and, bt_not _ (by omega), bt_one (by omega) (by omega), hb c hc]
    by_cases h2 : c = i
    · subst h2; rw [u2_s, bt_0]; simp
    · rw [u2_k h2, decide_eq_false h2]; simp
/-- a death on both sides -/
theorem rel_bury (ht : t ≤ 6) (hD : D ≤ 8) (r : RelW m t D ω β) {e : Nat} (he : e < t) : RelW m t D (buryW ω (nI e)) (u2 (u2 β 0 12 (β 0 12 &&& (((1 : Int32) <<< (nI e &&& 31)) ^^^ (-1)))) 12 e 0) := by
  unfold buryW
  have r1 := rel_0 r (k := 12) (by decide) (v := ω 0 12 &&& (((1 : Int32) <<< (nI e &&& 31)) ^^^ (-1)))
  rw [r.2.1]
  refine rel_kn r1 (fun j k hj => fgW_off hj) (fun j k hj => u2_j hj) (fun q hq => ?_)
  obtain ⟨⟨k, hk, ek⟩, hb⟩ := r1.2.2.2.2.2.2.2 q hq
  by_cases h1 : q = e
  · subst h1
    rw [u2_s]
    refine ⟨⟨0, Nat.two_pow_pos _, rfl⟩, fun c hc => ?_⟩
    rw [fgW_at, if_pos ⟨rfl, by omega⟩, bt_and, bt_not _ (by omega), bt_one (by omega) (by omega), bt_0]
    simp
  · rw [u2_k h1]
    refine ⟨⟨k, hk, ek⟩, fun c hc => ?_⟩
    rw [hb c hc, fgW_at, if_pos ⟨rfl, by omega⟩, bt_and, bt_not _ (by omega), bt_one (by omega) (by omega), decide_eq_false h1]
    simp
end RL
