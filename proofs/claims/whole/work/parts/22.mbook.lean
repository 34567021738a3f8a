/-! ===== the reference's books: a book's contents as a table ===== -/
/-- where a cell's place lies in book b's table: rows as a world's; row 12: what each elephant knows -/
def adr (b c k : Nat) : Option (Nat × Nat) :=
  if c = 23 then (if k = b then some (0, 13) else none) else if c = 24 then (if k = b then some (0, 14) else none) else if c = 25 then (if k = b then some (0, 11) else none) else if c = 26 then (if k = b then some (0, 12) else none)
  else if c = 27 then (if 6 * b ≤ k ∧ k < 6 * b + 6 then some (1, k - 6 * b) else none) else if c = 28 then (if 6 * b ≤ k ∧ k < 6 * b + 6 then some (2, k - 6 * b) else none) else if c = 29 then (if 6 * b ≤ k ∧ k < 6 * b + 6 then some (12, k - 6 * b) else none)
  else if 30 ≤ c ∧ c ≤ 36 then (if 8 * b ≤ k ∧ k < 8 * b + 8 then some (c - 27, k - 8 * b) else none) else none
def adi (b : Nat) (p : Nat × Nat) : Nat × Nat :=
  if p.1 = 0 then (if p.2 = 13 then (23, b) else if p.2 = 14 then (24, b) else if p.2 = 11 then (25, b) else (26, b)) else if p.1 = 1 then (27, 6 * b + p.2) else if p.1 = 2 then (28, 6 * b + p.2) else if p.1 = 12 then (29, 6 * b + p.2) else (27 + p.1, 8 * b + p.2)
theorem adr_inv {b c k : Nat} {p : Nat × Nat} (h : adr b c k = some p) : adi b p = (c, k) := by
  unfold adr at h
  by_cases h1 : c = 23
  · rw [if_pos h1] at h; split at h
    · cases h; subst h1; rename_i e; subst e; rfl
    · cases h
  rw [if_neg h1] at h
  by_cases h2 : c = 24
  · rw [if_pos h2] at h; split at h
    · cases h; subst h2; rename_i e; subst e; rfl
    · cases h
  rw [if_neg h2] at h
  by_cases h3 : c = 25
  · rw [if_pos h3] at h; split at h
    · cases h; subst h3; rename_i e; subst e; rfl
    · cases h
  rw [if_neg h3] at h
  by_cases h4 : c = 26
  · rw [if_pos h4] at h; split at h
    · cases h; subst h4; rename_i e; subst e; rfl
    · cases h
  rw [if_neg h4] at h
  by_cases h5 : c = 27
  · rw [if_pos h5] at h; split at h
    · rename_i e; cases h; subst h5; show (27, 6 * b + (k - 6 * b)) = (27, k); rw [Nat.add_sub_cancel' e.1]
    · cases h
  rw [if_neg h5] at h
  by_cases h6 : c = 28
  · rw [if_pos h6] at h; split at h
    · rename_i e; cases h; subst h6; show (28, 6 * b + (k - 6 * b)) = (28, k); rw [Nat.add_sub_cancel' e.1]
    · cases h
  rw [if_neg h6] at h
  by_cases h7 : c = 29
  · rw [if_pos h7] at h; split at h
    · rename_i e; cases h; subst h7; show (29, 6 * b + (k - 6 * b)) = (29, k); rw [Nat.add_sub_cancel' e.1]
    · cases h
  rw [if_neg h7] at h
  split at h
  · rename_i e1
    split at h
    · rename_i e; cases h
      unfold adi
      rw [if_neg (show ¬ c - 27 = 0 by omega), if_neg (show ¬ c - 27 = 1 by omega), if_neg (show ¬ c - 27 = 2 by omega), if_neg (show ¬ c - 27 = 12 by omega)]
      show (27 + (c - 27), 8 * b + (k - 8 * b)) = (c, k)
      rw [Nat.add_sub_cancel' e.1, Nat.add_sub_cancel' (by omega)]
    · cases h
  · cases h
def pB (h : aH) (b : Nat) (β : wT) : aH := (fun c k => match adr b c k with
  | some p => β p.1 p.2
  | none => h.1 c k, h.2)
theorem pB_get {h : aH} {b c k j i : Nat} {β : wT} (e : adr b c k = some (j, i)) : (pB h b β).1 c k = β j i := by
  show (match adr b c k with
    | some p => β p.1 p.2
    | none => h.1 c k) = β j i
  rw [e]
theorem pB_off {h : aH} {b c k : Nat} {β : wT} (e : adr b c k = none) : (pB h b β).1 c k = h.1 c k := by
  show (match adr b c k with
    | some p => β p.1 p.2
    | none => h.1 c k) = h.1 c k
  rw [e]
theorem sI_pB {h : aH} {b c k j i : Nat} {β : wT} {v : Int32} (e : adr b c k = some (j, i)) : sI (pB h b β) c k v = pB h b (u2 β j i v) := by
  refine Prod.ext ?_ rfl
  funext c' k'
  show (if c' = c ∧ k' = k then v else (pB h b β).1 c' k') = (pB h b (u2 β j i v)).1 c' k'
  by_cases h1 : c' = c ∧ k' = k
  · rw [if_pos h1, h1.1, h1.2, pB_get e, u2_s]
  · rw [if_neg h1]
    cases e2 : adr b c' k' with
    | none => rw [pB_off e2, pB_off e2]
    | some p =>
      obtain ⟨j', i'⟩ := p
      rw [pB_get e2, pB_get e2]
      have hne : ¬ (j' = j ∧ i' = i) := by
        intro q
        rw [q.1, q.2] at e2
        have := (adr_inv e2).symm.trans (adr_inv e)
        cases this
        exact h1 ⟨rfl, rfl⟩
      unfold u2
      rw [if_neg hne]
theorem sI_pBo {h : aH} {b c k : Nat} {β : wT} {v : Int32} (e : adr b c k = none) : sI (pB h b β) c k v = pB (sI h c k v) b β := by
  refine Prod.ext ?_ rfl
  funext c' k'
  show (if c' = c ∧ k' = k then v else (pB h b β).1 c' k') = (pB (sI h c k v) b β).1 c' k'
  cases e2 : adr b c' k' with
  | none =>
    rw [pB_off e2, pB_off e2]; rfl
  | some p =>
    obtain ⟨j', i'⟩ := p
    rw [pB_get e2, pB_get e2, if_neg (fun q => by rw [q.1, q.2, e] at e2; cases e2)]
theorem a23 {b : Nat} : adr b 23 b = some (0, 13) := by unfold adr; rw [if_pos rfl, if_pos rfl]
theorem a24 {b : Nat} : adr b 24 b = some (0, 14) := by unfold adr; rw [if_neg (by decide), if_pos rfl, if_pos rfl]
theorem a25 {b : Nat} : adr b 25 b = some (0, 11) := by unfold adr; rw [if_neg (by decide), if_neg (by decide), if_pos rfl, if_pos rfl]
theorem a26 {b : Nat} : adr b 26 b = some (0, 12) := by unfold adr; rw [if_neg (by decide), if_neg (by decide), if_neg (by decide), if_pos rfl, if_pos rfl]
theorem a27 {b p : Nat} (hp : p < 6) : adr b 27 (6 * b + p) = some (1, p) := by
  unfold adr
  rw [if_neg (by decide), if_neg (by decide), if_neg (by decide), if_neg (by decide), if_pos rfl, if_pos ⟨by omega, by omega⟩, Nat.add_sub_cancel_left]
theorem a28 {b p : Nat} (hp : p < 6) : adr b 28 (6 * b + p) = some (2, p) := by
  unfold adr
  rw [if_neg (by decide), if_neg (by decide), if_neg (by decide), if_neg (by decide), if_neg (by decide), if_pos rfl, if_pos ⟨by omega, by omega⟩, Nat.add_sub_cancel_left]
theorem a29 {b p : Nat} (hp : p < 6) : adr b 29 (6 * b + p) = some (12, p) := by
  unfold adr
  rw [if_neg (by decide), if_neg (by decide), if_neg (by decide), if_neg (by decide), if_neg (by decide), if_neg (by decide), if_pos rfl, if_pos ⟨by omega, by omega⟩, Nat.add_sub_cancel_left]
theorem a30 {b j i : Nat} (hi : i < 8) (h1 : 3 ≤ j) (h2 : j ≤ 9) : adr b (27 + j) (8 * b + i) = some (j, i) := by
  unfold adr
  rw [if_neg (by omega), if_neg (by omega), if_neg (by omega), if_neg (by omega), if_neg (by omega), if_neg (by omega), if_neg (by omega), if_pos ⟨by omega, by omega⟩, if_pos ⟨by omega, by omega⟩, Nat.add_sub_cancel_left, Nat.add_sub_cancel_left]
theorem a_off {b c k : Nat} (h : c < 23 ∨ 36 < c) : adr b c k = none := by
  unfold adr
  rw [if_neg (by omega), if_neg (by omega), if_neg (by omega), if_neg (by omega), if_neg (by omega), if_neg (by omega), if_neg (by omega), if_neg (by omega)]
theorem sJ_pB {h : aH} {b c k : Nat} {β : wT} {v : Int64} : sJ (pB h b β) c k v = pB (sJ h c k v) b β := rfl
theorem hS_pB {h : aH} {b : Nat} {β : wT} {J : Nat → Nat → Int64} {n : Int32} : hS (pB h b β) J n = pB (hS h J n) b β := by
  refine Prod.ext ?_ rfl
  funext c k
  show (if c = 0 ∧ k = 37 then n else (pB h b β).1 c k) = (pB (hS h J n) b β).1 c k
  by_cases hc : c = 0 ∧ k = 37
  · rw [if_pos hc, hc.1, hc.2, pB_off (a_off (Or.inl (by decide))), hS_s]
  · rw [if_neg hc]
    cases e2 : adr b c k with
    | none =>
      rw [pB_off e2, pB_off e2]
      show _ = if c = 0 ∧ k = 37 then n else h.1 c k
      rw [if_neg hc]
    | some p => obtain ⟨j', i'⟩ := p; rw [pB_get e2, pB_get e2]
theorem i6 (b p : Nat) : (6 : Int32) * nI b + nI p = nI (6 * b + p) := by
  show nI 6 * nI b + nI p = _
  rw [pk_mul, nI_add]
theorem i8 (b p : Nat) : (8 : Int32) * nI b + nI p = nI (8 * b + p) := by
  show nI 8 * nI b + nI p = _
  rw [pk_mul, nI_add]
/-! bits -/
theorem bt_ext {x y : Int32} (h : ∀ i, i < 32 → bt x i = bt y i) : x = y := by
  apply Int32.toBitVec_inj.mp
  apply BitVec.eq_of_getLsbD_eq
  exact h
theorem bt_or (x y : Int32) (i : Nat) : bt (x ||| y) i = (bt x i || bt y i) := by
  unfold bt
  rw [Int32.toBitVec_or, BitVec.getLsbD_or]
theorem bt_and (x y : Int32) (i : Nat) : bt (x &&& y) i = (bt x i && bt y i) := by
  unfold bt
  rw [Int32.toBitVec_and, BitVec.getLsbD_and]
theorem bt_0 (i : Nat) : bt 0 i = false := BitVec.getLsbD_zero
theorem bt_one {e i : Nat} (he : e < 32) (hi : i < 32) : bt ((1 : Int32) <<< (nI e &&& 31)) i = decide (i = e) := by
  rw [n_one e he, bt_nI _ _ hi, Nat.testBit_two_pow]
  by_cases h : e = i
  · subst h; simp
  · rw [decide_eq_false h, decide_eq_false (fun q => h q.symm)]
theorem bt_not (y : Int32) {i : Nat} (hi : i < 32) : bt (y ^^^ (-1)) i = !bt y i := by
  unfold bt
  rw [Int32.toBitVec_xor, BitVec.getLsbD_xor]
  have e : ∀ i, i < 32 → (-1 : Int32).toBitVec.getLsbD i = true := by decide +kernel
  rw [e i hi, Bool.xor_true]
theorem bt_shl1 (x : Int32) {e i j : Nat} (he : e < 32) (hi : i < 32) (hj : j < 32) : bt (((x >>> (nI i &&& 31)) &&& 1) <<< (nI e &&& 31)) j = (decide (j = e) && bt x i) := by
  rw [bt_shr x hi]
  cases bt x i
  · have : ∀ e, e < 32 → ((0 : Int32) <<< (nI e &&& 31)) = 0 := by decide +kernel
    rw [if_neg (by decide), this e he, bt_0, Bool.and_false]
  · rw [if_pos rfl, bt_one he hj, Bool.and_true]
theorem bt_hi {k t i : Nat} (hk : k < 2 ^ t) (hi : t ≤ i) : bt (nI k) i = false := by
  by_cases h : i < 32
  · rw [bt_nI _ _ h]
    exact Nat.testBit_lt_two_pow (Nat.lt_of_lt_of_le hk (Nat.pow_le_pow_right (by decide) hi))
  · exact BitVec.getLsbD_of_ge _ _ (by omega)
