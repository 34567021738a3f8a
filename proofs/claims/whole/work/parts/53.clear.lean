/-! ===== calls: clear ===== -/
/-- the sum of the nets of a set -/
def ztS (N : Nat → Int32) (s n : Nat) : Int32 := itR (fun p a => a + if s.testBit p then N p else 0) n 0
section ZT
variable {N : Nat → Int32}
theorem zt_add {s a : Nat} (h : a &&& s = a) : ∀ n, ztS N s n = ztS N a n + ztS N (s ^^^ a) n
  | 0 => rfl
  | n + 1 => by
    show ztS N s n + (if s.testBit n then N n else 0) = (ztS N a n + if a.testBit n then N n else 0) + (ztS N (s ^^^ a) n + if (s ^^^ a).testBit n then N n else 0)
    rw [zt_add h n, Nat.testBit_xor]
    have hb : (a.testBit n && s.testBit n) = a.testBit n := by rw [← Nat.testBit_and, h]
    generalize ztS N a n = u
    generalize ztS N (s ^^^ a) n = v
    cases h1 : a.testBit n <;> cases h2 : s.testBit n
    · simp [Int32.add_zero]
    · simp [Int32.add_zero, Int32.add_assoc]
    · rw [h1, h2] at hb; cases hb
    · rw [Bool.xor_self, if_pos rfl, if_neg Bool.false_ne_true, Int32.add_zero, Int32.add_assoc, Int32.add_comm v, ← Int32.add_assoc]
theorem zt_one {p : Nat} : ∀ n, ztS N (2 ^ p) n = if p < n then N p else 0
  | 0 => rfl
  | n + 1 => by
    show ztS N (2 ^ p) n + (if (2 ^ p).testBit n then N n else 0) = _
    rw [zt_one n, Nat.testBit_two_pow]
    by_cases z : p = n
    · subst z
      rw [if_neg (Nat.lt_irrefl _), decide_eq_true rfl, if_pos rfl, if_pos (Nat.lt_succ_self _), Int32.zero_add]
    · rw [decide_eq_false z]
      by_cases w : p < n
      · rw [if_pos w, if_pos (show p < n + 1 by omega)]; exact Int32.add_zero _
      · rw [if_neg w, if_neg (show ¬ p < n + 1 by omega)]; rfl
end ZT
/-- groups met as men are taken one by one; groups apart -/
def zB (ζ : Nat → Int32) (s : Nat) : Nat := if ζ s = 0 then 1 else 0
def GOK (ζ : Nat → Int32) (B : Nat) (gr : Nat → Nat) : Prop := gr 0 = 0 ∧ ∀ s, 0 < s → s < B → gr s ≤ s ∧ (∀ p, p < 6 → s.testBit p = true → gr (s ^^^ 2 ^ p) + zB ζ s ≤ gr s) ∧ ∃ p, p < 6 ∧ s.testBit p = true ∧ gr s = gr (s ^^^ 2 ^ p) + zB ζ s
def POK (ζ : Nat → Int32) (A B : Nat) (pt : Nat → Nat) : Prop := ∀ s, s < B → s &&& A = s → pt s ≤ s ∧ (∀ a, 0 < a → a &&& s = a → ζ a = 0 → 1 + pt (s ^^^ a) ≤ pt s) ∧ (pt s = 0 ∨ ∃ a, 0 < a ∧ a &&& s = a ∧ ζ a = 0 ∧ pt s = 1 + pt (s ^^^ a))
theorem bf1 : ∀ s, s < 64 → ∀ a, a < 64 → a &&& s = a → (s ^^^ a) + a = s := by decide +kernel
theorem bf2 : ∀ s, s < 64 → ∀ p, p < 6 → s.testBit p = true → 2 ^ p &&& s = 2 ^ p := by decide +kernel
theorem all3 {f : Nat → Nat → Nat → Bool} (h : (List.range 6).all (fun p => (List.range 64).all (fun s => (List.range 64).all (fun a => f p s a))) = true) {p s a : Nat} (hp : p < 6) (hs : s < 64) (ha : a < 64) : f p s a = true :=
  List.all_eq_true.mp (List.all_eq_true.mp (List.all_eq_true.mp h p (List.mem_range.mpr hp)) s (List.mem_range.mpr hs)) a (List.mem_range.mpr ha)
theorem bfT1b : (List.range 6).all (fun p => (List.range 64).all (fun s => (List.range 64).all (fun a => !(s.testBit p) || (!(a &&& (s ^^^ 2 ^ p) == a) || ((a &&& s == a) && ((s ^^^ a).testBit p && (s ^^^ a ^^^ 2 ^ p == s ^^^ 2 ^ p ^^^ a))))))) = true := by decide +kernel
theorem bfT1 (p : Nat) (hp : p < 6) (s : Nat) (hs : s < 64) (hb : s.testBit p = true) (a : Nat) (ha : a < 64) (h : a &&& (s ^^^ 2 ^ p) = a) : a &&& s = a ∧ (s ^^^ a).testBit p = true ∧ s ^^^ a ^^^ 2 ^ p = s ^^^ 2 ^ p ^^^ a := by
  have := all3 bfT1b hp hs ha
  rw [hb, beq_iff_eq.mpr h, Bool.not_true, Bool.false_or, Bool.false_or, Bool.and_eq_true, Bool.and_eq_true, beq_iff_eq, beq_iff_eq] at this
  exact this
theorem bfT2b : (List.range 6).all (fun p => (List.range 64).all (fun s => (List.range 64).all (fun a => !(a &&& s == a) || (!((s ^^^ a).testBit p) || (s.testBit p && ((a &&& (s ^^^ 2 ^ p) == a) && (s ^^^ 2 ^ p ^^^ a == s ^^^ a ^^^ 2 ^ p))))))) = true := by decide +kernel
theorem bfT2 (p : Nat) (hp : p < 6) (s : Nat) (hs : s < 64) (a : Nat) (ha : a < 64) (h : a &&& s = a) (hb : (s ^^^ a).testBit p = true) : s.testBit p = true ∧ a &&& (s ^^^ 2 ^ p) = a ∧ s ^^^ 2 ^ p ^^^ a = s ^^^ a ^^^ 2 ^ p := by
  have := all3 bfT2b hp hs ha
  rw [hb, beq_iff_eq.mpr h, Bool.not_true, Bool.false_or, Bool.false_or, Bool.and_eq_true, Bool.and_eq_true, beq_iff_eq, beq_iff_eq] at this
  exact this
theorem bf3 : ∀ s, s < 64 → 0 < s → (s.testBit 0 || s.testBit 1 || s.testBit 2 || s.testBit 3 || s.testBit 4 || s.testBit 5) = true := by decide +kernel
theorem bf3' {s : Nat} (h : s < 64) (h0 : 0 < s) : ∃ p, p < 6 ∧ s.testBit p = true := by
  have := bf3 s h h0
  simp only [Bool.or_eq_true] at this
  rcases this with ((((w | w) | w) | w) | w) | w
  · exact ⟨0, by omega, w⟩
  · exact ⟨1, by omega, w⟩
  · exact ⟨2, by omega, w⟩
  · exact ⟨3, by omega, w⟩
  · exact ⟨4, by omega, w⟩
  · exact ⟨5, by omega, w⟩
theorem sub_tr {a s A : Nat} (h1 : a &&& s = a) (h2 : s &&& A = s) : a &&& A = a := by
  rw [← h1, Nat.and_assoc, h2]
theorem sub_x {a s A : Nat} (h1 : a &&& A = a) (h2 : s &&& A = s) : (s ^^^ a) &&& A = s ^^^ a := by
  rw [Nat.and_xor_distrib_right, h1, h2]
theorem bf_a {a s : Nat} (h : a &&& s = a) : a ≤ s := by rw [← h]; exact Nat.and_le_right
section GP
variable {ζ : Nat → Int32} {A : Nat} {gr pt : Nat → Nat}
theorem pt_up (hA : A < 64) (P : POK ζ A (A + 1) pt) : ∀ s, s &&& A = s → ∀ p, p < 6 → s.testBit p = true → pt (s ^^^ 2 ^ p) ≤ pt s := by
  intro s
  induction s using Nat.strongRecOn with
  | _ s ih =>
    intro hs p hp hb
    have s64 : s ≤ A := bf_a hs
    have q1 := bf2 s (by omega) p hp hb
    have u1 := bf1 s (by omega) (2 ^ p) (Nat.lt_of_le_of_lt (bf_a q1) (by omega)) q1
    have hu := sub_x (sub_tr q1 hs) hs
    rcases (P (s ^^^ 2 ^ p) (by omega) hu).2.2 with w | ⟨a, a0, a1, a2, a3⟩
    · omega
    · have ale := bf_a a1
      have T := bfT1 p hp s (by omega) hb a (by omega) a1
      have b1 := bf1 s (by omega) a (by omega) T.1
      have c1 := (P s (by omega) hs).2.1 a a0 T.1 a2
      have c2 := ih (s ^^^ a) (by omega) (sub_x (sub_tr T.1 hs) hs) p hp T.2.1
      rw [T.2.2] at c2
      omega
theorem pt_z (hA : A < 64) (hζ : ∀ s a, s ≤ A → a &&& s = a → ζ s = ζ a + ζ (s ^^^ a)) (P : POK ζ A (A + 1) pt) : ∀ s, s &&& A = s → ζ s = 0 → ∀ p, p < 6 → s.testBit p = true → 1 + pt (s ^^^ 2 ^ p) ≤ pt s := by
  intro s
  induction s using Nat.strongRecOn with
  | _ s ih =>
    intro hs hz p hp hb
    have s64 : s ≤ A := bf_a hs
    have q1 := bf2 s (by omega) p hp hb
    have u1 := bf1 s (by omega) (2 ^ p) (Nat.lt_of_le_of_lt (bf_a q1) (by omega)) q1
    have hu := sub_x (sub_tr q1 hs) hs
    have p0 : 0 < 2 ^ p := Nat.two_pow_pos p
    have Ps := P s (by omega) hs
    rcases (P (s ^^^ 2 ^ p) (by omega) hu).2.2 with w | ⟨a, a0, a1, a2, a3⟩
    · have := Ps.2.1 s (by omega) (Nat.and_self s) hz
      omega
    · have ale := bf_a a1
      have T := bfT1 p hp s (by omega) hb a (by omega) a1
      have b1 := bf1 s (by omega) a (by omega) T.1
      have c1 := Ps.2.1 a a0 T.1 a2
      have z2 : ζ (s ^^^ a) = 0 := by
        have := hζ s a s64 T.1
        rw [hz, a2, Int32.zero_add] at this
        exact this.symm
      have c2 := ih (s ^^^ a) (by omega) (sub_x (sub_tr T.1 hs) hs) z2 p hp T.2.1
      rw [T.2.2] at c2
      omega
theorem gr_le (hA : A < 64) (hζ : ∀ s a, s ≤ A → a &&& s = a → ζ s = ζ a + ζ (s ^^^ a)) (G : GOK ζ (A + 1) gr) (P : POK ζ A (A + 1) pt) : ∀ s, s &&& A = s → gr s ≤ pt s := by
  intro s
  induction s using Nat.strongRecOn with
  | _ s ih =>
    intro hs
    have s64 : s ≤ A := bf_a hs
    by_cases h0 : s = 0
    · rw [h0, G.1]; exact Nat.zero_le _
    · obtain ⟨p, hp, hb, e⟩ := (G.2 s (by omega) (by omega)).2.2
      have q1 := bf2 s (by omega) p hp hb
      have u1 := bf1 s (by omega) (2 ^ p) (Nat.lt_of_le_of_lt (bf_a q1) (by omega)) q1
      have p0 : 0 < 2 ^ p := Nat.two_pow_pos p
      have c := ih (s ^^^ 2 ^ p) (by omega) (sub_x (sub_tr q1 hs) hs)
      unfold zB at e
      by_cases z : ζ s = 0
      · rw [if_pos z] at e
        have := pt_z hA hζ P s hs z p hp hb
        omega
      · rw [if_neg z] at e
        have := pt_up hA P s hs p hp hb
        omega
theorem gr_a (hA : A < 64) (hζ : ∀ s a, s ≤ A → a &&& s = a → ζ s = ζ a + ζ (s ^^^ a)) (G : GOK ζ (A + 1) gr) : ∀ s, s ≤ A → ∀ a, 0 < a → a &&& s = a → ζ a = 0 → 1 + gr (s ^^^ a) ≤ gr s := by
  intro s
  induction s using Nat.strongRecOn with
  | _ s ih =>
    intro s64 a a0 a1 a2
    have ale := bf_a a1
    have b1 := bf1 s (by omega) a (by omega) a1
    have ez := hζ s a s64 a1
    rw [a2, Int32.zero_add] at ez
    by_cases t0 : s ^^^ a = 0
    · obtain ⟨p, hp, hb⟩ := bf3' (s := s) (by omega) (by omega)
      have c := (G.2 s (by omega) (by omega)).2.1 p hp hb
      have e0 : ζ s = 0 := by
        have h := (show s = a by omega)
        rw [h]; exact a2
      unfold zB at c
      rw [if_pos e0] at c
      rw [t0, G.1]
      omega
    · obtain ⟨p, hp, hb, e⟩ := (G.2 (s ^^^ a) (by omega) (by omega)).2.2
      have T := bfT2 p hp s (by omega) a (by omega) a1 hb
      have q1 := bf2 s (by omega) p hp T.1
      have u1 := bf1 s (by omega) (2 ^ p) (Nat.lt_of_le_of_lt (bf_a q1) (by omega)) q1
      have p0 : 0 < 2 ^ p := Nat.two_pow_pos p
      have c := ih (s ^^^ 2 ^ p) (by omega) (by omega) a a0 T.2.1 a2
      rw [T.2.2] at c
      have c2 := (G.2 s (by omega) (by omega)).2.1 p hp T.1
      have ez2 : zB ζ s = zB ζ (s ^^^ a) := by unfold zB; rw [ez]
      omega
theorem gp_eq (hA : A < 64) (hζ : ∀ s a, s ≤ A → a &&& s = a → ζ s = ζ a + ζ (s ^^^ a)) (G : GOK ζ (A + 1) gr) (P : POK ζ A (A + 1) pt) : gr A = pt A := by
  have h1 := gr_le hA hζ G P A (Nat.and_self A)
  have h2 : ∀ s, s &&& A = s → pt s ≤ gr s := by
    intro s
    induction s using Nat.strongRecOn with
    | _ s ih =>
      intro hs
      have s64 : s ≤ A := bf_a hs
      rcases (P s (by omega) hs).2.2 with w | ⟨a, a0, a1, a2, a3⟩
      · omega
      · have ale := bf_a a1
        have b1 := bf1 s (by omega) a (by omega) a1
        have c := ih (s ^^^ a) (by omega) (sub_x (sub_tr a1 hs) hs)
        have := gr_a hA hζ G s s64 a a0 a1 a2
        omega
  have := h2 A (Nat.and_self A)
  omega
end GP
def updN (f : Nat → Nat) (k v : Nat) : Nat → Nat := fun s => if s = k then v else f s
theorem updN_s {f : Nat → Nat} {k v : Nat} : updN f k v k = v := if_pos rfl
theorem updN_o {f : Nat → Nat} {k v s : Nat} (h : s ≠ k) : updN f k v s = f s := if_neg h
theorem pw_inj : ∀ p, p < 6 → ∀ q, q < 6 → 2 ^ p = 2 ^ q → p = q := by decide
def lowb (k : Nat) : Nat := ix (nI k &&& -(nI k))
theorem low_ok : ∀ k, k < 64 → 0 < k → nI k &&& -(nI k) = nI (lowb k) ∧ lowb k &&& k = lowb k ∧ 0 < lowb k ∧ nI k ^^^ nI (lowb k) = nI (k ^^^ lowb k) := by decide +kernel
theorem low_one : ∀ k, k < 64 → 0 < k → lowb k = k → k = 2 ^ 0 ∨ k = 2 ^ 1 ∨ k = 2 ^ 2 ∨ k = 2 ^ 3 ∨ k = 2 ^ 4 ∨ k = 2 ^ 5 := by decide +kernel
theorem x_one : ∀ k, k < 64 → ∀ p, p < 6 → nI k ^^^ ((1 : Int32) <<< (nI p &&& 31)) = nI (k ^^^ 2 ^ p) := by decide +kernel
theorem x_lt : ∀ k, k < 64 → ∀ p, p < 6 → k ^^^ 2 ^ p < 64 := by decide +kernel
theorem sub_iff : ∀ a, a < 64 → ∀ s, s < 64 → ((nI s &&& (nI a ^^^ (-1))) = 0 ↔ s &&& a = s) := by decide +kernel
theorem and_x : ∀ s, s < 64 → ∀ a, a < 64 → a &&& s = a → nI s &&& (nI a ^^^ (-1)) = nI (s ^^^ a) := by decide +kernel
section CL
variable {adK adV : Nat → Nat} {l l' : Launch} {ad ad' : Nat → Nat} {d d' b : Nat} {hC hM hC' hM' h : aH} {sy m t n D0 D : Nat} {ω β σ : wT} {N : Nat → Int32}
/-- whose net isn't 0 -/
def alN (N : Nat → Int32) (n : Nat) : Nat := itR (fun p x => x ||| (if N p = 0 then 0 else 2 ^ p)) n 0
theorem alN_lt : ∀ n, alN N n < 2 ^ n
  | 0 => Nat.lt_succ_self 0
  | n + 1 => by
    show alN N n ||| (if N n = 0 then 0 else 2 ^ n) < 2 ^ (n + 1)
    have h1 : alN N n < 2 ^ (n + 1) := Nat.lt_of_lt_of_le (alN_lt n) (Nat.pow_le_pow_right (by decide) (by omega))
    refine Nat.or_lt_two_pow h1 ?_
    split
    · exact Nat.two_pow_pos _
    · exact Nat.pow_lt_pow_right (by decide) (by omega)
theorem al_st {n : Nat} (hn : n < 32) : nI (alN N n) ||| (if N n = 0 then (0 : Int32) else (1 : Int32) <<< (nI n &&& 31)) = nI (alN N (n + 1)) := by
  show _ = nI (alN N n ||| (if N n = 0 then 0 else 2 ^ n))
  by_cases z : N n = 0
  · rw [if_pos z, if_pos z, Int32.or_zero, Nat.or_zero]
  · rw [if_neg z, if_neg z, n_one n hn, n_or]
theorem c_count {R : aH → Prop} {k : Nat} {gr : Nat → Nat} {ζ : Nat → Int32} (hk : k < 64) (k0 : 0 < k) (hζ : ∀ a, a &&& k = a → ζ k = ζ a + ζ (k ^^^ a)) (hn : ∀ s, 0 < s → s < k → h.1 353 s = ζ s) (h1 : lowb k = k → h.1 353 k = ζ k) (hg : ∀ s, s < k → h.1 354 s = nI (gr s)) (G : GOK ζ k gr) (H : ∀ h' v, (∀ c q, c ≠ 353 → c ≠ 354 → h'.1 c q = h.1 c q) → h'.2 = h.2 → (∀ s, s ≠ k → h'.1 353 s = h.1 353 s ∧ h'.1 354 s = h.1 354 s) → h'.1 353 k = ζ k → h'.1 354 k = nI v → v ≤ k → (∀ p, p < 6 → k.testBit p = true → gr (k ^^^ 2 ^ p) + zB ζ k ≤ v) → (∃ p, p < 6 ∧ k.testBit p = true ∧ v = gr (k ^^^ 2 ^ p) + zB ζ k) → R h') : AW GC l ad (d + 1) mX4_countGroups 0 [(0, .ref (ad 352)), (1, .int (nI k))] [] h (qv R) := by
  have grl : ∀ s, s < k → gr s ≤ s := fun s hs => by
    by_cases z : s = 0
    · rw [z, G.1]; exact Nat.le_refl _
    · exact (G.2 s (by omega) hs).1
  have L36 : ∀ h', (∀ c q, c ≠ 353 → h'.1 c q = h.1 c q) → h'.2 = h.2 → (∀ s, s ≠ k → h'.1 353 s = h.1 353 s) → h'.1 353 k = ζ k → AW GC l ad (d + 1) mX4_countGroups 36 [(0, .ref (ad 352)), (1, .int (nI k)), (3, .int (0 : Int32)), (4, .int (0 : Int32))] [] h' (qv R) := by
    intro h' a1 a2 a3 a4
    refine up_ind (P := fun p => ∀ mx, (∀ q, q < p → k.testBit q = true → gr (k ^^^ 2 ^ q) ≤ mx) → (mx = 0 ∨ ∃ q, q < p ∧ k.testBit q = true ∧ mx = gr (k ^^^ 2 ^ q)) → AW GC l ad (d + 1) mX4_countGroups 36 [(0, .ref (ad 352)), (1, .int (nI k)), (3, .int (nI mx)), (4, .int (nI p))] [] h' (qv R)) 6 (fun mx b1 b2 => ?_) (fun p hp ih mx b1 b2 => ?_) 0 (fun q hq => absurd hq (Nat.not_lt_zero _)) (Or.inl rfl)
    · obtain ⟨q, hq, hqb, eq⟩ : ∃ q, q < 6 ∧ k.testBit q = true ∧ mx = gr (k ^^^ 2 ^ q) := by
        rcases b2 with w | w
        · obtain ⟨q, hq, hb⟩ := bf3' hk k0
          have := b1 q hq hb
          exact ⟨q, hq, hb, by omega⟩
        · exact w
      have q1 := bf2 k hk q hq hqb
      have u1 := bf1 k hk (2 ^ q) (Nat.lt_of_le_of_lt (bf_a q1) hk) q1
      have p0 : 0 < 2 ^ q := Nat.two_pow_pos q
      have g1 := grl (k ^^^ 2 ^ q) (by omega)
      have FIN : ∀ z : Nat, zB ζ k = z → z ≤ 1 → R (sI h' 354 k (nI (mx + z))) := by
        intro z ez z1
        refine H _ (mx + z) (fun c q h1 h2 => (sI_c h2).trans (a1 c q h1)) a2 (fun s hs => ⟨(sI_c (by decide)).trans (a3 s hs), (sI_k hs).trans (a1 354 s (by decide))⟩) ((sI_c (by decide)).trans a4) sI_s (by omega) (fun p hp hb => ?_) ⟨q, hq, hqb, by rw [← eq, ez]⟩
        have := b1 p hp hb
        omega
      refine bX4_countGroups_36 _ _ _ _ ⟨fun _ => ⟨vp_in_nI hk (by decide), ?_⟩, fun z => absurd (Int32.le_refl _) z⟩
      rw [nI_clamp (by omega), a4]
      refine ⟨fun z => ?_, fun z => ?_⟩
      · have := FIN 0 (if_neg z) (by omega)
        rw [Int32.add_zero]
        exact this
      · have := FIN 1 (if_pos z) (by omega)
        rw [nI_1]
        exact this
    · refine bX4_countGroups_36 _ _ _ _ ⟨fun z => absurd z (nI_ge (b := 6) hp (by decide)), fun _ => ?_⟩
      rw [bt_shr0 _ (by omega), bt_nI k p (by omega), x_one k hk p hp, nI_1 p]
      refine ⟨fun z => ih mx (fun q hq hb => ?_) (b2.imp id (fun ⟨q, h1, h2⟩ => ⟨q, by omega, h2⟩)), fun z => ⟨vp_in_nI (x_lt k hk p hp) (by decide), fun t4 e4 => ?_⟩⟩
      · by_cases w : q = p
        · rw [w, z] at hb; cases hb
        · exact b1 q (by omega) hb
      · have hb : k.testBit p = true := by cases w : k.testBit p; exact absurd w z; rfl
        have q1 := bf2 k hk p hp hb
        have u1 := bf1 k hk (2 ^ p) (Nat.lt_of_le_of_lt (bf_a q1) hk) q1
        have p0 : 0 < 2 ^ p := Nat.two_pow_pos p
        have g1 := grl (k ^^^ 2 ^ p) (by omega)
        have mxl : mx < 64 := by
          rcases b2 with w | ⟨q, h1, h2, h3⟩
          · omega
          · have q1 := bf2 k hk q (by omega) h2
            have u1 := bf1 k hk (2 ^ q) (Nat.lt_of_le_of_lt (bf_a q1) hk) q1
            have p0 : 0 < 2 ^ q := Nat.two_pow_pos q
            have := grl (k ^^^ 2 ^ q) (by omega)
            omega
        rw [e4, nI_clamp (by omega), a1 354 _ (by decide), hg (k ^^^ 2 ^ p) (by omega)]
        by_cases w : mx < gr (k ^^^ 2 ^ p)
        · rw [if_pos (nI_lt w (by omega))]
          refine ih _ (fun q hq hb => ?_) (Or.inr ⟨p, by omega, hb, rfl⟩)
          by_cases w2 : q = p
          · rw [w2]; exact Nat.le_refl _
          · have := b1 q (by omega) hb; omega
        · rw [if_neg (nI_nlt (by omega) (by omega))]
          refine ih mx (fun q hq hb => ?_) (b2.imp id (fun ⟨q, h1, h2⟩ => ⟨q, by omega, h2⟩))
          by_cases w2 : q = p
          · rw [w2]; omega
          · exact b1 q (by omega) hb
  obtain ⟨l1, l2, l3, l4⟩ := low_ok k hk k0
  have lle := bf_a l2
  have lx := bf1 k hk (lowb k) (by omega) l2
  refine bX4_countGroups_0 _ _ ?_
  rw [l1, l4]
  refine ⟨fun z => L36 h (fun _ _ _ => rfl) rfl (fun _ _ => rfl) (h1 ?_), fun z => ⟨vp_in_nI (by omega) (by decide), vp_in_nI (by omega) (by decide), vp_in_nI (by omega) (by decide), fun h4 e4 => ?_⟩⟩
  · exact ((nI_eq (by omega) (by omega)).mp z).symm
  · have nl : lowb k ≠ k := fun w => z (by rw [w])
    rw [nI_clamp (by omega), nI_clamp (by omega), nI_clamp (by omega), hn _ l3 (by omega), hn _ (by omega) (by omega), ← hζ _ l2] at e4
    rw [e4]
    exact L36 _ (fun c q hc => sI_c hc) rfl (fun s hs => sI_k hs) sI_s
theorem c_few {R : Int32 → aH → Prop} (g : GQ hC hM sy m t n D0 D) (H : ∀ hC' gr, kC hC hC' → GOK (fun s => ztS (fun p => netS (wq hC 66) (nI p) D) s m) (alN (fun p => netS (wq hC 66) (nI p) D) m + 1) gr → R (bcS (nI (alN (fun p => netS (wq hC 66) (nI p) D) m)) - nI (gr (alN (fun p => netS (wq hC 66) (nI p) D) m))) hC') : AW GC l ad (d + 2) mX4_fewestPayings 0 [(0, .ref (ad 352)), (1, .ref (ad 66)), (2, .int (nI m))] [] hC (qi R) := by
  obtain ⟨e1, e2, e3, e4, e5, e6, hm, ht, hD⟩ := g_S g
  obtain ⟨I, r, N⟩ := g.2.1
  have z354 : hC.1 354 0 = 0 := g.2.2.2.2.2.2.2.2.2.2
  generalize hN : (fun p => netS (wq hC 66) (nI p) D) = N at H
  have eN : ∀ p, N p = netS (wq hC 66) (nI p) D := fun p => by rw [← hN]
  have aL := alN_lt (N := N) m
  have p6 : 2 ^ m ≤ 64 := Nat.le_trans (Nat.pow_le_pow_right (by decide) hm) (by decide)
  have L62 : ∀ hC', kC hC hC' → (∀ p, p < m → hC'.1 353 (2 ^ p) = N p) → AW GC l ad (d + 2) mX4_fewestPayings 62 [(0, .ref (ad 352)), (3, .int (nI (alN N m))), (4, .int (1 : Int32))] [] hC' (qi R) := by
    intro hC' kc hv
    refine up_ind (P := fun k => ∀ hC' gr, kC hC hC' → (∀ p, p < m → hC'.1 353 (2 ^ p) = N p) → (∀ s, 0 < s → s < k + 1 → hC'.1 353 s = ztS N s m) → (∀ s, s < k + 1 → hC'.1 354 s = nI (gr s)) → GOK (fun s => ztS N s m) (k + 1) gr → AW GC l ad (d + 2) mX4_fewestPayings 62 [(0, .ref (ad 352)), (3, .int (nI (alN N m))), (4, .int (nI (k + 1)))] [] hC' (qi R)) (alN N m) (fun hC' gr kc hv hn hg G => ?_) (fun k hk ih hC' gr kc hv hn hg G => ?_) hC' (fun _ => 0) kc hv (fun s h1 h2 => by omega) (fun s hs => ?_) ⟨rfl, fun s h1 h2 => by omega⟩
    · refine bX4_fewestPayings_62 66 isW_66 _ _ _ ⟨fun _ => ⟨fun z => sp_bitCount (by omega) ⟨vp_in_nI (by omega) (by decide), ?_⟩, fun z => ?_⟩, fun z => absurd (nI_lt (by omega) (by omega)) z⟩
      · rw [nI_clamp (by omega), hg _ (by omega)]
        exact H _ gr kc G
      · have a0 : alN N m = 0 := (nI_eq (b := 0) (by omega) (by decide)).mp z
        have := H _ gr kc G
        rw [a0, G.1] at this
        have e0 : bcS (nI 0) - nI 0 = 0 := by decide
        rw [e0] at this
        exact this
    · refine bX4_fewestPayings_62 66 isW_66 _ _ _ ⟨fun z => absurd ((nI_ltI (by omega) (by omega)).mp z) (by omega), fun _ => ?_⟩
      refine c_count (k := k + 1) (gr := gr) (ζ := fun s => ztS N s m) (by omega) (by omega) (fun a ha => zt_add ha m) hn (fun lw => ?_) hg G (fun h' v c1 c2 c3 c4 c5 c6 c7 c8 => ?_)
      · have P : ∀ p, p < 6 → k + 1 = 2 ^ p → hC'.1 353 (k + 1) = ztS N (k + 1) m := by
          intro p hp ep
          have hpm : p < m := Nat.lt_of_not_le (fun w => by
            have : 2 ^ m ≤ 2 ^ p := Nat.pow_le_pow_right (by decide) w
            omega)
          rw [ep, hv p hpm, zt_one, if_pos hpm]
        rcases low_one (k + 1) (by omega) (by omega) lw with w | w | w | w | w | w
        · exact P 0 (by decide) w
        · exact P 1 (by decide) w
        · exact P 2 (by decide) w
        · exact P 3 (by decide) w
        · exact P 4 (by decide) w
        · exact P 5 (by decide) w
      · rw [nI_1]
        have xl : ∀ s p, 0 < s → s < k + 1 + 1 → p < 6 → s.testBit p = true → s ^^^ 2 ^ p ≠ k + 1 := by
          intro s p h1 h2 h3 h4
          have q1 := bf2 s (by omega) p h3 h4
          have u1 := bf1 s (by omega) (2 ^ p) (Nat.lt_of_le_of_lt (bf_a q1) (by omega)) q1
          have p0 : 0 < 2 ^ p := Nat.two_pow_pos p
          omega
        refine ih h' (updN gr (k + 1) v) ⟨fun c q hc => ?_, fun c q _ => by rw [c2]; exact kc.2 c q (by assumption)⟩ (fun p hp => ?_) (fun s s1 s2 => ?_) (fun s s2 => ?_) ⟨(updN_o (by omega)).trans G.1, fun s s1 s2 => ?_⟩
        · by_cases w : c = 354
          · have hq : q = 0 := by omega
            rw [w, hq, (c3 0 (by omega)).2]
            have := kc.1 354 0 (by omega)
            exact this
          · rw [c1 c q (by omega) w]; exact kc.1 c q hc
        · by_cases w : 2 ^ p = k + 1
          · rw [w, c4]
            show ztS N (k + 1) m = N p
            rw [← w, zt_one, if_pos hp]
          · rw [(c3 _ w).1]; exact hv p hp
        · by_cases w : s = k + 1
          · rw [w]; exact c4
          · rw [(c3 s w).1]; exact hn s s1 (by omega)
        · by_cases w : s = k + 1
          · rw [w, updN_s]; exact c5
          · rw [updN_o w, (c3 s w).2]; exact hg s (by omega)
        · by_cases w : s = k + 1
          · subst w
            obtain ⟨p, hp, hb, e⟩ := c8
            refine ⟨by rw [updN_s]; exact c6, fun p hp hb => ?_, p, hp, hb, ?_⟩
            · rw [updN_s, updN_o (xl _ p s1 s2 hp hb)]; exact c7 p hp hb
            · rw [updN_s, updN_o (xl _ p s1 s2 hp hb)]; exact e
          · obtain ⟨d1, d2, p, hp, hb, e⟩ := G.2 s s1 (by omega)
            refine ⟨by rw [updN_o w]; exact d1, fun p hp hb => ?_, p, hp, hb, ?_⟩
            · rw [updN_o w, updN_o (xl _ p s1 s2 hp hb)]; exact d2 p hp hb
            · rw [updN_o w, updN_o (xl _ p s1 s2 hp hb)]; exact e
    · have : s = 0 := by omega
      rw [this, kc.1 354 0 (by omega)]
      exact z354
  refine bX4_fewestPayings_0 66 isW_66 _ _ ?_
  refine up_ind (P := fun p => ∀ hC', kC hC hC' → (∀ q, q < p → hC'.1 353 (2 ^ q) = N q) → AW GC l ad (d + 2) mX4_fewestPayings 5 [(0, .ref (ad 352)), (1, .ref (ad 66)), (2, .int (nI m)), (3, .int (nI (alN N p))), (4, .int (nI p))] [] hC' (qi R)) m (fun hC' kc hv => ?_) (fun p hp ih hC' kc hv => ?_) hC kC_rfl (fun q hq => absurd hq (Nat.not_lt_zero _))
  · exact bX4_fewestPayings_5 66 isW_66 _ _ _ _ ⟨fun _ => L62 hC' kc hv, fun z => absurd (Int32.le_refl _) z⟩
  · have e66 := kC_66 kc
    refine bX4_fewestPayings_5 66 isW_66 _ _ _ _ ⟨fun z => absurd z (nI_ge hp (by omega)), fun _ => ⟨fun z => absurd z (nI_ge (b := 6) (by omega) (by decide)), fun _ => cH (w := 66) (sp_netOf (D := D) isW_66 hD (by rw [e66]; exact I.1.2.2.2.1) ?_)⟩⟩
    rw [pW_wq, e66, ← eN, n_one p (by omega), nI_clamp (Nat.lt_trans (Nat.pow_lt_pow_right (by decide) hp) (by omega)), nI_1]
    refine ⟨vp_in_nI (Nat.lt_of_lt_of_le (Nat.pow_lt_pow_right (by decide) hp) p6) (by decide), fun t4 e4 => ?_⟩
    have es := al_st (N := N) (n := p) (by omega)
    rw [n_one p (by omega)] at es
    rw [e4, es]
    refine ih _ (kC_tr kc ⟨fun c k hc => sI_c (by omega), fun _ _ _ => rfl⟩) (fun q hq => ?_)
    by_cases w : q = p
    · subst w; exact sI_s
    · rw [sI_k (fun e => w (pw_inj q (by omega) p (by omega) e))]
      exact hv q (by omega)
theorem m_isEven {R : Int32 → aH → Prop} {s : Nat} (hs : s < 2 ^ 31) (g : GQ hC hM sy m t n D0 D) (hM' : aH) (km : kM hM hM') (H1 : ztS (fun p => netS (wq hC 66) (nI p) D) s m = 0 → R 1 hM') (H0 : ¬ ztS (fun p => netS (wq hC 66) (nI p) D) s m = 0 → R 0 hM') : AW (GM adK adV) l ad (d + 2) mX10_isEven 0 [(0, .ref (ad 0)), (1, .int (nI s))] [] hM' (qi R) := by
  have g' := gq_frame kC_rfl km g
  obtain ⟨e1, e2, e3, e4, e5, e6, hm, ht, hD⟩ := g_S g'
  obtain ⟨I, r, N⟩ := g'.2.1
  refine bX10_isEven_0 _ _ (up_ind (P := fun p => AW (GM adK adV) l ad (d + 2) mX10_isEven 4 [(0, .ref (ad 0)), (1, .int (nI s)), (2, .int (ztS (fun p => netS (wq hC 66) (nI p) D) s p)), (3, .int (nI p))] [] hM' (qi R)) m ?_ (fun p hp ih => ?_))
  · refine bX10_isEven_4 _ _ _ _ ?_
    rw [e5]
    exact ⟨fun _ => ⟨H0, H1⟩, fun z => absurd (Int32.le_refl _) z⟩
  · have es : ztS (fun p => netS (wq hC 66) (nI p) D) s (p + 1) = ztS (fun p => netS (wq hC 66) (nI p) D) s p + if s.testBit p then netS (wq hC 66) (nI p) D else 0 := rfl
    rw [es] at ih
    refine bX10_isEven_4 _ _ _ _ ?_
    rw [e5, bt_shr _ (by omega), bt_nI s p (by omega), nI_1]
    cases hb : s.testBit p
    · rw [hb] at ih
      exact ⟨fun z => absurd z (nI_ge hp (by omega)), fun _ => ⟨fun _ => ih, fun z => absurd z (by decide)⟩⟩
    · rw [hb] at ih
      exact ⟨fun z => absurd z (nI_ge hp (by omega)), fun _ => ⟨fun z => absurd rfl z, fun _ => m_netOf I r N ih⟩⟩
theorem m_clear {R : Int32 → aH → Prop} (g : GQ hC hM sy m t n D0 D) (H : ∀ hM' pt, kM hM hM' → POK (fun s => ztS (fun p => netS (wq hC 66) (nI p) D) s m) (alN (fun p => netS (wq hC 66) (nI p) D) m) (alN (fun p => netS (wq hC 66) (nI p) D) m + 1) pt → R (bcS (nI (alN (fun p => netS (wq hC 66) (nI p) D) m)) - nI (pt (alN (fun p => netS (wq hC 66) (nI p) D) m))) hM') : AW (GM adK adV) l ad (d + 3) mX10_clear 9 [(0, .ref (ad 0)), (1, .int (0 : Int32)), (2, .int (0 : Int32))] [] hM (qi R) := by
  obtain ⟨e1, e2, e3, e4, e5, e6, hm, ht, hD⟩ := g_S g
  obtain ⟨I, r, Nv⟩ := g.2.1
  have EV := @m_isEven adK adV l ad (d) hC hM sy m t n D0 D
  generalize hN : (fun p => netS (wq hC 66) (nI p) D) = N at H EV
  have eN : ∀ p, N p = netS (wq hC 66) (nI p) D := fun p => by rw [← hN]
  have aL := alN_lt (N := N) m
  have p6 : 2 ^ m ≤ 64 := Nat.le_trans (Nat.pow_le_pow_right (by decide) hm) (by decide)
  have k37 : ∀ hM' k v, kM hM hM' → kM hM (sI hM' 37 k v) := fun hM' k v km => kM_tr km (fun c k _ h2 _ => sI_c (by omega))
  have L45 : AW (GM adK adV) l ad (d + 3) mX10_clear 45 [(0, .ref (ad 0)), (1, .int (nI (alN N m))), (2, .int (0 : Int32))] [] hM (qi R) := by
    refine up_ind (P := fun s => ∀ hM' pt, kM hM hM' → (∀ q, q < s → q &&& alN N m = q → hM'.1 37 q = nI (pt q)) → POK (fun s => ztS N s m) (alN N m) s pt → AW (GM adK adV) l ad (d + 3) mX10_clear 45 [(0, .ref (ad 0)), (1, .int (nI (alN N m))), (2, .int (nI s))] [] hM' (qi R)) (alN N m + 1) (fun hM' pt km hp P => ?_) (fun s hs ih hM' pt km hp P => ?_) hM (fun _ => 0) kM_rfl (fun q hq => absurd hq (Nat.not_lt_zero _)) (fun q hq => absurd hq (Nat.not_lt_zero _))
    · refine bX10_clear_45 _ _ _ ⟨fun _ => m_bitsOf ⟨vp_in_nI (by omega) (by decide), ?_⟩, fun z => absurd (nI_lt (by omega) (by omega)) z⟩
      rw [nI_clamp (by omega), hp _ (by omega) (Nat.and_self _)]
      exact H _ pt km P
    · refine bX10_clear_45 _ _ _ ⟨fun z => absurd ((nI_ltI (by omega) (by omega)).mp z) (by omega), fun _ => ⟨vp_in_nI (by omega) (by decide), ?_⟩⟩
      rw [nI_clamp (by omega)]
      -- the next set, whatever it was found to be
      have NX : ∀ hM' v, kM hM hM' → (∀ q, q < s → q &&& alN N m = q → hM'.1 37 q = nI (pt q)) → (s &&& alN N m = s → hM'.1 37 s = nI v ∧ v ≤ s ∧ (∀ a, 0 < a → a &&& s = a → ztS N a m = 0 → 1 + pt (s ^^^ a) ≤ v) ∧ (v = 0 ∨ ∃ a, 0 < a ∧ a &&& s = a ∧ ztS N a m = 0 ∧ v = 1 + pt (s ^^^ a))) → AW (GM adK adV) l ad (d + 3) mX10_clear 45 [(0, .ref (ad 0)), (1, .int (nI (alN N m))), (2, .int (nI s + 1))] [] hM' (qi R) := by
        intro hM' v km hp hv
        rw [nI_1]
        have xs : ∀ q a, q < s + 1 → 0 < a → a &&& q = a → q ^^^ a ≠ s := by
          intro q a h1 h2 h3
          have := bf_a h3
          have := bf1 q (by omega) a (by omega) h3
          omega
        refine ih hM' (updN pt s v) km (fun q hq hqA => ?_) (fun q hq hqA => ?_)
        · by_cases w : q = s
          · rw [w, updN_s]; rw [w] at hqA; exact (hv hqA).1
          · rw [updN_o w]; exact hp q (by omega) hqA
        · by_cases w : q = s
          · subst w
            obtain ⟨-, v1, v2, v3⟩ := hv hqA
            refine ⟨by rw [updN_s]; exact v1, fun a a0 a1 a2 => ?_, v3.imp (fun w => by rw [updN_s]; exact w) (fun ⟨a, a0, a1, a2, a3⟩ => ⟨a, a0, a1, a2, ?_⟩)⟩
            · rw [updN_s, updN_o (xs q a hq a0 a1)]; exact v2 a a0 a1 a2
            · rw [updN_s, updN_o (xs q a hq a0 a1)]; exact a3
          · obtain ⟨v1, v2, v3⟩ := P q (by omega) hqA
            refine ⟨by rw [updN_o w]; exact v1, fun a a0 a1 a2 => ?_, v3.imp (fun z => by rw [updN_o w]; exact z) (fun ⟨a, a0, a1, a2, a3⟩ => ⟨a, a0, a1, a2, ?_⟩)⟩
            · rw [updN_o w, updN_o (xs q a hq a0 a1)]; exact v2 a a0 a1 a2
            · rw [updN_o w, updN_o (xs q a hq a0 a1)]; exact a3
      have q37 : ∀ hM' k x, (∀ q, q < s → q &&& alN N m = q → hM'.1 37 q = nI (pt q)) → s ≤ k → ∀ q, q < s → q &&& alN N m = q → (sI hM' 37 k x).1 37 q = nI (pt q) := fun hM' k x hp hk q hq hqA => (sI_k (by omega)).trans (hp q hq hqA)
      have ptl : ∀ a, 0 < a → a &&& s = a → s &&& alN N m = s → pt (s ^^^ a) ≤ s ^^^ a := by
        intro a a0 a1 hA
        have := bf_a a1
        have := bf1 s (by omega) a (by omega) a1
        exact (P (s ^^^ a) (by omega) (sub_x (sub_tr a1 hA) hA)).1
      refine up_ind (P := fun a => ∀ hM' v, kM hM hM' → (∀ q, q < s → q &&& alN N m = q → hM'.1 37 q = nI (pt q)) → hM'.1 37 s = nI v → (v = 0 ∨ s &&& alN N m = s ∧ ∃ a', 0 < a' ∧ a' < a + 1 ∧ a' &&& s = a' ∧ ztS N a' m = 0 ∧ v = 1 + pt (s ^^^ a')) → (s &&& alN N m = s → ∀ a', 0 < a' → a' < a + 1 → a' &&& s = a' → ztS N a' m = 0 → 1 + pt (s ^^^ a') ≤ v) → AW (GM adK adV) l ad (d + 3) mX10_clear 59 [(0, .ref (ad 0)), (1, .int (nI (alN N m))), (2, .int (nI s)), (3, .int (nI (a + 1)))] [] hM' (qi R)) s (fun hM' v km hp hv v1 v2 => ?_) (fun a ha ih2 hM' v km hp hv v1 v2 => ?_) _ 0 (k37 _ _ _ km) (q37 _ _ _ hp (Nat.le_refl _)) sI_s (Or.inl rfl) (fun _ a' h1 h2 => by omega)
      · refine bX10_clear_59 _ _ _ _ ⟨fun _ => NX hM' v km hp (fun hA => ⟨hv, ?_, fun a' b0 b1 b2 => v2 hA a' b0 (by have := bf_a b1; omega) b1 b2, v1.imp id (fun ⟨_, a', b0, b1, b2, b3, b4⟩ => ⟨a', b0, b2, b3, b4⟩)⟩), fun z => absurd (nI_lt (by omega) (by omega)) z⟩
        rcases v1 with w | ⟨-, a', b0, b1, b2, b3, b4⟩
        · omega
        · have := ptl a' b0 b2 hA
          have := bf_a b2
          have := bf1 s (by omega) a' (by omega) b2
          omega
      · have SK : ∀ hM', kM hM hM' → (∀ q, q < s → q &&& alN N m = q → hM'.1 37 q = nI (pt q)) → hM'.1 37 s = nI v → (s &&& alN N m = s → (a + 1) &&& s = a + 1 → ztS N (a + 1) m = 0 → False) → AW (GM adK adV) l ad (d + 3) mX10_clear 59 [(0, .ref (ad 0)), (1, .int (nI (alN N m))), (2, .int (nI s)), (3, .int (nI (a + 1 + 1)))] [] hM' (qi R) := by
          intro hM' km hp hv no
          refine ih2 hM' v km hp hv (v1.imp id (fun ⟨w, a', b0, b1, b2⟩ => ⟨w, a', b0, by omega, b2⟩)) (fun hA a' b0 b1 b2 b3 => ?_)
          by_cases w : a' = a + 1
          · subst w; exact absurd (no hA b2 b3) id
          · exact v2 hA a' b0 (by omega) b2 b3
        refine bX10_clear_59 _ _ _ _ ⟨fun z => absurd ((nI_ltI (by omega) (by omega)).mp z) (by omega), fun _ => ?_⟩
        rw [sub_iff _ (by omega) _ (by omega), sub_iff _ (by omega) _ (by omega), nI_1 (a + 1)]
        refine ⟨fun z => NX hM' 0 km hp (fun hA => absurd hA z), fun zA => ⟨fun z => SK hM' km hp hv (fun _ w _ => z w), fun zs => EV (by omega) g hM' km (fun ze => ⟨fun w => absurd w (by decide), fun _ => ?_⟩) (fun ze => ⟨fun _ => SK hM' km hp hv (fun _ _ w => ze w), fun w => absurd rfl w⟩)⟩⟩
        rw [and_x s (by omega) (a + 1) (by omega) zs, nI_clamp (by omega)]
        have ale := bf_a zs
        have x1 := bf1 s (by omega) (a + 1) (by omega) zs
        have pl := ptl (a + 1) (by omega) zs zA
        rw [nI_clamp (by omega), hv, hp (s ^^^ (a + 1)) (by omega) (sub_x (sub_tr zs zA) zA), show (1 : Int32) + nI (pt (s ^^^ (a + 1))) = nI (1 + pt (s ^^^ (a + 1))) from nI_add 1 _]
        have vl : v < 64 := by
          rcases v1 with w | ⟨-, a', b0, b1, b2, b3, b4⟩
          · omega
          · have := ptl a' b0 b2 zA
            have := bf_a b2
            have := bf1 s (by omega) a' (by omega) b2
            omega
        refine ⟨vp_in_nI (by omega) (by decide), vp_in_nI (by omega) (by decide), fun h5 e5 => ?_⟩
        rw [e5]
        by_cases w : v < 1 + pt (s ^^^ (a + 1))
        · rw [if_pos (nI_lt w (by omega))]
          refine ih2 _ (1 + pt (s ^^^ (a + 1))) (k37 _ _ _ km) (q37 _ _ _ hp (Nat.le_refl _)) sI_s (Or.inr ⟨zA, a + 1, by omega, by omega, zs, ze, rfl⟩) (fun hA a' b0 b1 b2 b3 => ?_)
          by_cases w2 : a' = a + 1
          · rw [w2]; exact Nat.le_refl _
          · have := v2 hA a' b0 (by omega) b2 b3; omega
        · rw [if_neg (nI_nlt (by omega) (by omega))]
          refine ih2 _ v (k37 _ _ _ km) (q37 _ _ _ hp (Nat.le_refl _)) sI_s (v1.imp id (fun ⟨w, a', b0, b1, b2⟩ => ⟨w, a', b0, by omega, b2⟩)) (fun hA a' b0 b1 b2 b3 => ?_)
          by_cases w2 : a' = a + 1
          · rw [w2]; omega
          · exact v2 hA a' b0 (by omega) b2 b3
  refine up_ind (P := fun p => AW (GM adK adV) l ad (d + 3) mX10_clear 9 [(0, .ref (ad 0)), (1, .int (nI (alN N p))), (2, .int (nI p))] [] hM (qi R)) m ?_ (fun p hp ih => ?_)
  · refine bX10_clear_9 _ _ _ ?_
    rw [e5]
    exact ⟨fun _ => L45, fun z => absurd (Int32.le_refl _) z⟩
  · refine bX10_clear_9 _ _ _ ?_
    rw [e5, nI_1]
    refine ⟨fun z => absurd z (nI_ge hp (by omega)), fun _ => m_netOf I r Nv (fun t3 e3 => ?_)⟩
    rw [e3, ← eN, al_st (by omega)]
    exact ih
theorem j_clear (g : GR hC hM) : AW GC l ad (d + 3) mX9_clear 0 [(0, .ref (ad 0))] [] hC (qi (jq l' ad' (d' + 3) adK adV mX10_clear [(0, .ref (ad' 0))] hM)) := by
  obtain ⟨sy, m, t, n, D0, D, g⟩ := g
  have g2 := g_thr g
  obtain ⟨e1, e2, e3, e4, e5, e6, hm, ht, hD⟩ := g_S g2
  refine bX9_clear_0 _ (mref e1 ⟨e2, ?_⟩)
  rw [e3]
  refine c_few g (fun hC' gr kc Gk => bX10_clear_0 _ (m_clear g2 (fun hM' pt km Pk => ⟨?_, _, _, _, _, _, _, gq_frame kc km g2⟩)))
  have aL := alN_lt (N := fun p => netS (wq hC 66) (nI p) D) m
  have p6 : 2 ^ m ≤ 64 := Nat.le_trans (Nat.pow_le_pow_right (by decide) hm) (by decide)
  rw [gp_eq (by omega) (fun s a _ h => zt_add h m) Gk Pk]
end CL
