/-! ===== the reference's tokens ===== -/
/-- what its token() leaves alone -/
def frM (h h' : aH) : Prop := h'.2 = h.2 ∧ ∀ a j, (a = 0 → j ≠ 25 ∧ j ≠ 26 ∧ j ≠ 27 ∧ j ≠ 28) → h'.1 a j = h.1 a j
theorem fm_rfl {h : aH} : frM h h := ⟨rfl, fun _ _ _ => rfl⟩
theorem fm_s {h h' : aH} {k : Nat} {v : Int32} (f : frM h h') (hk : k = 25 ∨ k = 26 ∨ k = 27 ∨ k = 28) : frM h (sI h' 0 k v) := by
  refine ⟨f.1, fun a j hj => ?_⟩
  by_cases w : a = 0
  · subst w
    rw [sI_k (by have := hj rfl; omega)]
    exact f.2 0 j hj
  · rw [sI_c w]; exact f.2 a j hj
/-- digits as a number, as the reference has it -/
def wN (f : Nat → Nat) : Nat → Nat
  | 0 => 0
  | i + 1 => if wN f i ≤ 99999 then 10 * wN f i + (f i - 48) else wN f i
theorem wN_vN {f : Nat → Nat} : ∀ i, (∀ j, j < i → isDg (f j)) → wN f i ≤ 1000000 ∧ (vN f i ≤ 99999 ∧ wN f i = vN f i ∨ 99999 < vN f i ∧ 99999 < wN f i)
  | 0, _ => ⟨Nat.zero_le _, Or.inl ⟨Nat.zero_le _, rfl⟩⟩
  | i + 1, h => by
    obtain ⟨h1, h2⟩ := wN_vN i (fun j hj => h j (by omega))
    obtain ⟨d1, d2⟩ := h i (by omega)
    show (if wN f i ≤ 99999 then 10 * wN f i + (f i - 48) else wN f i) ≤ 1000000 ∧ ((if 10 * vN f i + (f i - 48) < 1000000 then 10 * vN f i + (f i - 48) else 1000000) ≤ 99999 ∧ (if wN f i ≤ 99999 then 10 * wN f i + (f i - 48) else wN f i) = (if 10 * vN f i + (f i - 48) < 1000000 then 10 * vN f i + (f i - 48) else 1000000) ∨ 99999 < (if 10 * vN f i + (f i - 48) < 1000000 then 10 * vN f i + (f i - 48) else 1000000) ∧ 99999 < (if wN f i ≤ 99999 then 10 * wN f i + (f i - 48) else wN f i))
    rcases h2 with ⟨a, e⟩ | ⟨a, c⟩
    · rw [e, if_pos a, if_pos (show 10 * vN f i + (f i - 48) < 1000000 by omega)]
      omega
    · rw [if_neg (show ¬ wN f i ≤ 99999 by omega), if_neg (show ¬ 10 * vN f i + (f i - 48) < 1000000 by omega)]
      omega
def sgR (k w : Int32) : Prop := (k = 21 ∧ w = 59) ∨ (k = 22 ∧ w = 40) ∨ (k = 23 ∧ w = 41) ∨ (k = 24 ∧ w = 43) ∨ (k = 25 ∧ w = 45) ∨ (k = 26 ∧ w = 42) ∨ (k = 27 ∧ w = 47) ∨ (k = 28 ∧ w = 60) ∨ (k = 29 ∧ w = 256) ∨ (k = 30 ∧ w = 61) ∨ (k = 31 ∧ w = 257) ∨ (k = 32 ∧ w = 258) ∨ (k = 33 ∧ w = 62)
/-- a token of the class (kind, value) and one of the reference (sort, value) -/
def TM (k v s w : Int32) : Prop := (∃ i, i < 21 ∧ k = nI i ∧ s = 0 ∧ w = nI (pm i)) ∨ (k = 35 ∧ s = 1 ∧ w = v) ∨ (k = 34 ∧ s = 2 ∧ ∃ x y, v = nI x ∧ w = nI y ∧ x ≤ 1000000 ∧ y ≤ 1000000 ∧ (x ≤ 99999 ∧ y = x ∨ 99999 < x ∧ 99999 < y)) ∨ (s = 3 ∧ sgR k w) ∨ (k = 36 ∧ s = 4) ∨ (k = 37 ∧ s = 5)
section MT1
variable {adK adV : Nat → Nat} {l : Launch} {ad : Nat → Nat} {d : Nat} {h : aH} {b : Nat → Nat} {n p q : Nat}
/-- its place in the text -/
def inT (h : aH) (b : Nat → Nat) (n q : Nat) : Prop := n ≤ 700 ∧ (∀ k, k < n → h.1 1 k = nI (b k) ∧ b k < 256) ∧ h.1 0 24 = nI n ∧ h.1 0 25 = nI q ∧ q ≤ n
theorem m_here {R : Int32 → aH → Prop} (I : inT h b n q) (H1 : q < n → R (nI (b q)) h) (H0 : q = n → R (-1) h) : AW (GM adK adV) l ad d mX10_here 0 [(0, .ref (ad 0))] [] h (qi R) := by
  obtain ⟨hn, hb, e24, e25, hq⟩ := I
  refine bX10_here_0 _ ?_
  rw [e24, e25]
  refine ⟨fun z => H0 ?_, fun z => ?_⟩
  · have := (nI_leI (by omega) (by omega)).mp z
    omega
  · have w : q < n := by
      rcases Nat.lt_or_ge q n with w | w
      · exact w
      · exact absurd (nI_le w (by omega)) z
    rw [nI_clamp (by omega), (hb q w).1]
    exact ⟨vp_in_nI (by omega) (by decide), H1 w⟩
theorem m_hereS {R : Int32 → aH → Prop} (I : inT h b n q) (H1 : q < n → isLt (b q) → R 1 h) (H0 : q = n ∨ ¬ isLt (b q) → R 0 h) : AW (GM adK adV) l ad d mX10_here 0 [(0, .ref (ad 0))] [] h (qi fun z h1 => AW (GM adK adV) l ad d mX10_isSmall 0 [(0, .int z)] [] h1 (qi R)) := by
  refine m_here I (fun w => ?_) (fun w => ?_)
  · have hx := (I.2.1 q w).2
    refine bX10_isSmall_0 _ _ ⟨fun z => H0 (Or.inr (fun w => absurd z (nI_nlt (b := 97) w.1 (by omega)))), fun z => ⟨fun z2 => H0 (Or.inr (fun w => absurd z2 (nI_nlt (a := 122) w.2 (by omega)))), fun z2 => H1 w ⟨?_, ?_⟩⟩⟩
    · rcases Nat.lt_or_ge (b q) 97 with w | w
      · exact absurd (nI_lt (b := 97) w (by decide)) z
      · exact w
    · rcases Nat.lt_or_ge 122 (b q) with w | w
      · exact absurd (nI_lt (a := 122) w (by omega)) z2
      · exact w
  · exact bX10_isSmall_0 _ _ ⟨fun _ => H0 (Or.inl w), fun z => absurd (by decide) z⟩
theorem m_isD {R : Int32 → aH → Prop} {x : Nat} (hx : x < 256) (H1 : isDg x → R 1 h) (H0 : ¬ isDg x → R 0 h) : AW (GM adK adV) l ad d mX10_isDigit 0 [(0, .int (nI x))] [] h (qi R) := by
  refine bX10_isDigit_0 _ _ ⟨fun z => H0 (fun w => absurd z (nI_nlt (b := 48) w.1 (by omega))), fun z => ⟨fun z2 => H0 (fun w => absurd z2 (nI_nlt (a := 57) w.2 (by omega))), fun z2 => H1 ⟨?_, ?_⟩⟩⟩
  · rcases Nat.lt_or_ge x 48 with w | w
    · exact absurd (nI_lt (b := 48) w (by decide)) z
    · exact w
  · rcases Nat.lt_or_ge 57 x with w | w
    · exact absurd (nI_lt (a := 57) w (by omega)) z2
    · exact w
theorem m_hereD {R : Int32 → aH → Prop} (I : inT h b n q) (H1 : q < n → isDg (b q) → R 1 h) (H0 : q = n ∨ ¬ isDg (b q) → R 0 h) : AW (GM adK adV) l ad d mX10_here 0 [(0, .ref (ad 0))] [] h (qi fun z h1 => AW (GM adK adV) l ad d mX10_isDigit 0 [(0, .int z)] [] h1 (qi R)) := by
  refine m_here I (fun w => m_isD (I.2.1 q w).2 (fun w2 => H1 w w2) (fun w2 => H0 (Or.inr w2))) (fun w => ?_)
  exact bX10_isDigit_0 _ _ ⟨fun _ => H0 (Or.inl w), fun z => absurd (by decide) z⟩
theorem in_m {h' : aH} {q' : Nat} (I : inT h b n q) (f : frM h h') (e : h'.1 0 25 = nI q') (hq : q' ≤ n) : inT h' b n q' := by
  obtain ⟨hn, hb, e24, -, -⟩ := I
  exact ⟨hn, fun k hk => ⟨(f.2 1 k (by omega)).trans (hb k hk).1, (hb k hk).2⟩, (f.2 0 24 (fun _ => by decide)).trans e24, e, hq⟩
/-- a number -/
theorem m_number {R : aH → Prop} {e : Nat} {h0 : aH} (I0 : inT h0 b n q) (hp : p ≤ e) (he : e ≤ n) (hd : ∀ j, p ≤ j → j < e → isDg (b j)) (hend : e = n ∨ ¬ isDg (b e)) (f : frM h0 h) (e25 : h.1 0 25 = nI p) (e26 : h.1 0 26 = nI p) (e27 : h.1 0 27 = 2) (e28 : h.1 0 28 = 0) (H : ∀ h', frM h0 h' → h'.1 0 25 = nI e → h'.1 0 26 = nI p → h'.1 0 27 = 2 → h'.1 0 28 = nI (wN (fun j => b (p + j)) (e - p)) → R h') : AW (GM adK adV) l ad (d + 1) mX10_token 162 [(0, .ref (ad 0))] [] h (qv R) := by
  refine up_ind (P := fun i => p + i ≤ e → ∀ h, frM h0 h → h.1 0 25 = nI (p + i) → h.1 0 26 = nI p → h.1 0 27 = 2 → h.1 0 28 = nI (wN (fun j => b (p + j)) i) → AW (GM adK adV) l ad (d + 1) mX10_token 162 [(0, .ref (ad 0))] [] h (qv R)) (e - p) (fun _ h f e25 e26 e27 e28 => ?_) (fun i hi ih i1 h f e25 e26 e27 e28 => ?_) (by omega) h f e25 e26 e27 e28
  · have I := in_m I0 f e25 (by omega)
    rw [show p + (e - p) = e by omega] at I e25
    exact bX10_token_162 _ (m_hereD I (fun w w2 => by rcases hend with z | z; exact absurd z (by omega); exact absurd w2 z) (fun _ => ⟨fun _ => H h f e25 e26 e27 e28, fun z => absurd rfl z⟩))
  · have I := in_m I0 f e25 (by omega)
    have hdi := hd (p + i) (by omega) (by omega)
    obtain ⟨d1, d2⟩ := hdi
    have bw := (wN_vN (f := fun j => b (p + j)) i (fun j hj => hd (p + j) (by omega) (by omega))).1
    refine bX10_token_162 _ (m_hereD I (fun w w2 => ⟨fun z => absurd z (by decide), fun _ => ?_⟩) (fun z => by rcases z with z | z; exact absurd z (by omega); exact absurd ⟨d1, d2⟩ z))
    rw [e28]
    have st : ∀ y : Int32, y = nI (wN (fun j => b (p + j)) (i + 1)) → AW (GM adK adV) l ad (d + 1) mX10_token 162 [(0, .ref (ad 0))] [] (sI (sI h 0 28 y) 0 25 ((sI h 0 28 y).1 0 25 + 1)) (qv R) := by
      intro y ey
      have e1 : (sI h 0 28 y).1 0 25 = nI (p + i) := (sI_k (by decide)).trans e25
      rw [e1, nI_1]
      refine ih (by omega) _ (fm_s (fm_s f (by omega)) (by omega)) sI_s ?_ ?_ ?_
      · rw [sI_k (by decide), sI_k (by decide)]; exact e26
      · rw [sI_k (by decide), sI_k (by decide)]; exact e27
      · rw [sI_k (by decide), sI_s]; exact ey
    refine ⟨fun z => m_here I (fun _ h7 e7 => ?_) (fun z2 => absurd z2 (by omega)), fun z => st _ ?_⟩
    · have w9 : wN (fun j => b (p + j)) i ≤ 99999 := (nI_leI (b := 99999) (by omega) (by decide)).mp z
      rw [e7]
      refine st _ ?_
      show nI 10 * nI (wN (fun j => b (p + j)) i) + nI (b (p + i)) - nI 48 = nI (if wN (fun j => b (p + j)) i ≤ 99999 then 10 * wN (fun j => b (p + j)) i + (b (p + i) - 48) else wN (fun j => b (p + j)) i)
      rw [if_pos w9, show nI 10 * nI (wN (fun j => b (p + j)) i) = nI (10 * wN (fun j => b (p + j)) i) from (Int32.ofNat_mul _ _).symm, nI_add, nI_sub' (by omega)]
      congr 1
      omega
    · have w9 : ¬ wN (fun j => b (p + j)) i ≤ 99999 := fun w => z (nI_le (b := 99999) w (by decide))
      show nI (wN (fun j => b (p + j)) i) = nI (if wN (fun j => b (p + j)) i ≤ 99999 then 10 * wN (fun j => b (p + j)) i + (b (p + i) - 48) else wN (fun j => b (p + j)) i)
      rw [if_neg w9]
end MT1
