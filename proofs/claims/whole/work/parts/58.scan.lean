/-! ===== the class's list of tokens ===== -/
section SC
variable {l : Launch} {ad : Nat → Nat} {d : Nat} {h : aH} {b : Nat → Nat} {n p c : Nat}
theorem s5_6 : ∀ i, i < 7 → (5 : Int32) * ((6 : Int32) - nI i) = nI (5 * (6 - i)) := by decide +kernel
theorem p32 : ∀ i, i < 7 → 2 ^ (5 * (6 - i)) = 32 ^ (6 - i) := by decide
theorem by_in (hb : ∀ k, k < n → h.1 1 k = nI (b k) ∧ b k < 256) {j : Nat} (hj : j < n) (hn : n ≤ 700) : h.1 1 (nI j).toNatClampNeg = nI (b j) := by
  rw [nI_clamp (by omega)]; exact (hb j hj).1
theorem c_scanWord {R : Int32 → aH → Prop} (hn : n ≤ 700) (hb : ∀ k, k < n → h.1 1 k = nI (b k) ∧ b k < 256) (hw : ∀ k, k < 21 → h.1 7 k = nI (wdC k)) (hc : c ≤ 700) (e3 : h.1 3 3 = nI c) (hp : p < n) (hl : isLt (b p)) (H : ∀ e k v h', tkW b n p e k v → adT h h' c k (nI p) v → R (nI e) h') : AW GC l ad (d + 1) mX7_scanWord 0 [(0, .ref (ad 3)), (1, .ref (ad 1)), (2, .int (nI p)), (3, .int (nI n))] [] h (qi R) := by
  refine bX7_scanWord_0 1 700 shC1 _ _ _ ?_
  have fin : ∀ i x4, 0 < i → p + i ≤ n → (i ≤ 6 → x4 = nI (cN (fun j => b (p + j)) i)) → (∀ j, j < i → isLt (b (p + j))) → (p + i = n ∨ ¬ isLt (b (p + i))) → AW GC l ad (d + 1) mX7_scanWord 51 [(0, .ref (ad 3)), (2, .int (nI p)), (4, .int x4), (5, .int (nI (p + i)))] [] h (qi R) := by
    intro i x4 i0 i1 i2 i3 i4
    have ep : p + i - p = i := by omega
    have il : ∀ j, p ≤ j → j < p + i → isLt (b j) := fun j h1 h2 => by
      have := i3 (j - p) (by omega)
      rwa [show p + (j - p) = j by omega] at this
    have es : nI (p + i) - nI p = nI i := by rw [nI_sub' (by omega), ep]
    refine bX7_scanWord_51 1 700 shC1 _ _ _ _ ?_
    rw [es]
    refine ⟨fun z t1 e1 => ?_, fun z => c_tadd hc e3 (fun h' a => H (p + i) 37 0 h' ⟨hl, by omega, i1, il, i4, Or.inl ⟨?_, rfl, rfl⟩⟩ a)⟩
    · have i6 : i ≤ 6 := (nI_leI (b := 6) (by omega) (by decide)).mp z
      have et : t1 = nI (wC b p (p + i)) := by
        rw [e1, i2 i6, s5_6 i (by omega), shl_nI (by omega), p32 i (by omega)]
        unfold wC
        rw [ep]
      subst et
      refine sp_indexOf (N := 21) (k := 21) shC7 (Nat.le_refl _) (by decide) ?_
      have ek : fdS (h.1 7) (nI (wC b p (p + i))) 0 21 = knd (wC b p (p + i)) := fdS_ext 21 0 (fun j _ hj => hw j (by omega))
      rw [ek]
      refine ⟨fun z2 => ?_, fun z2 => ?_⟩
      · exact bX7_scanWord_117 1 700 shC1 _ _ _ _ _ (c_tadd hc e3 (fun h' a => H (p + i) _ _ h' ⟨hl, by omega, i1, il, i4, Or.inr ⟨by omega, rfl, by rw [if_neg z2]⟩⟩ a))
      · exact bX7_scanWord_117 1 700 shC1 _ _ _ _ _ (c_tadd hc e3 (fun h' a => H (p + i) _ _ h' ⟨hl, by omega, i1, il, i4, Or.inr ⟨by omega, rfl, by rw [if_pos z2]⟩⟩ a))
    · rcases Nat.lt_or_ge 6 i with w | w
      · omega
      · exact absurd (nI_le (b := 6) w (by decide)) z
  refine up_ind (P := fun i => p + i ≤ n → ∀ x4, (i ≤ 6 → x4 = nI (cN (fun j => b (p + j)) i)) → (∀ j, j < i → isLt (b (p + j))) → AW GC l ad (d + 1) mX7_scanWord 6 [(0, .ref (ad 3)), (1, .ref (ad 1)), (2, .int (nI p)), (3, .int (nI n)), (4, .int x4), (5, .int (nI (p + i)))] [] h (qi R)) (n - p) (fun i1 x4 i2 i3 => ?_) (fun i hi ih i1 x4 i2 i3 => ?_) (by omega) 0 (fun _ => rfl) (fun j hj => absurd hj (Nat.not_lt_zero _))
  · refine bX7_scanWord_6 1 700 shC1 _ _ _ _ _ ⟨fun _ => ?_, fun z => absurd (nI_le (by omega) (by omega)) z⟩
    exact fin (n - p) x4 (by omega) i1 i2 i3 (Or.inl (by omega))
  · refine bX7_scanWord_6 1 700 shC1 _ _ _ _ _ ⟨fun z => absurd z (nI_ge (by omega) (by omega)), fun _ => ⟨fun z => absurd z (nI_ge (b := 700) (by omega) (by decide)), fun _ => ⟨vp_in_nI (by omega) (by decide), ?_⟩⟩⟩
    rw [by_in hb (by omega) hn]
    refine c_isL (hb _ (by omega)).2 (fun w => ⟨fun z => absurd z (by decide), fun _ t4 e4 => ?_⟩) (fun w => ⟨fun _ => ?_, fun z => absurd rfl z⟩)
    · rw [by_in hb (by omega) hn] at e4
      rw [nI_1]
      refine ih (by omega) t4 (fun i6 => ?_) (fun j hj => ?_)
      · have b1 := cN_lt (f := fun j => b (p + j)) i i3
        have b2 : 32 ^ i ≤ 32 ^ 5 := Nat.pow_le_pow_right (by decide) (by omega)
        have b3 : (32 : Nat) ^ 5 = 33554432 := by decide
        obtain ⟨w1, w2⟩ := w
        have ec : nI (b (p + i)) - (97 : Int32) + 1 = nI (b (p + i) - 96) := by
          show nI (b (p + i)) - nI 97 + nI 1 = _
          rw [nI_sub' w1, nI_add]
          congr 1
          omega
        rw [e4, i2 (by omega), ec, sh5 (by omega) (by omega)]
        rfl
      · by_cases w3 : j = i
        · subst w3; exact w
        · exact i3 j (by omega)
    · refine fin i x4 ?_ i1 i2 i3 (Or.inr w)
      rcases Nat.eq_zero_or_pos i with w2 | w2
      · subst w2; exact absurd hl w
      · exact w2
theorem c_scanNumber {R : Int32 → aH → Prop} (hn : n ≤ 700) (hb : ∀ k, k < n → h.1 1 k = nI (b k) ∧ b k < 256) (hc : c ≤ 700) (e3 : h.1 3 3 = nI c) (hp : p < n) (hl : isDg (b p)) (H : ∀ e k v h', tkN b n p e k v → adT h h' c k (nI p) v → R (nI e) h') : AW GC l ad (d + 1) mX7_scanNumber 0 [(0, .ref (ad 3)), (1, .ref (ad 1)), (2, .int (nI p)), (3, .int (nI n))] [] h (qi R) := by
  refine bX7_scanNumber_0 1 700 shC1 _ _ _ ?_
  have fin : ∀ i, 0 < i → p + i ≤ n → (∀ j, j < i → isDg (b (p + j))) → (p + i = n ∨ ¬ isDg (b (p + i))) → AW GC l ad (d + 1) mX7_scanNumber 55 [(0, .ref (ad 3)), (2, .int (nI p)), (4, .int (nI (vN (fun j => b (p + j)) i))), (5, .int (nI (p + i)))] [] h (qi R) := by
    intro i i0 i1 i3 i4
    have ep : p + i - p = i := by omega
    have il : ∀ j, p ≤ j → j < p + i → isDg (b j) := fun j h1 h2 => by
      have := i3 (j - p) (by omega)
      rwa [show p + (j - p) = j by omega] at this
    refine bX7_scanNumber_55 1 700 shC1 _ _ _ _ (c_tadd hc e3 (fun h' a => H (p + i) _ _ h' ⟨hl, by omega, i1, il, i4, rfl, ?_⟩ a))
    rw [ep]
  refine up_ind (P := fun i => p + i ≤ n → (∀ j, j < i → isDg (b (p + j))) → AW GC l ad (d + 1) mX7_scanNumber 6 [(0, .ref (ad 3)), (1, .ref (ad 1)), (2, .int (nI p)), (3, .int (nI n)), (4, .int (nI (vN (fun j => b (p + j)) i))), (5, .int (nI (p + i)))] [] h (qi R)) (n - p) (fun i1 i3 => ?_) (fun i hi ih i1 i3 => ?_) (by omega) (fun j hj => absurd hj (Nat.not_lt_zero _))
  · refine bX7_scanNumber_6 1 700 shC1 _ _ _ _ _ ⟨fun _ => ?_, fun z => absurd (nI_le (by omega) (by omega)) z⟩
    exact fin (n - p) (by omega) i1 i3 (Or.inl (by omega))
  · refine bX7_scanNumber_6 1 700 shC1 _ _ _ _ _ ⟨fun z => absurd z (nI_ge (by omega) (by omega)), fun _ => ⟨fun z => absurd z (nI_ge (b := 700) (by omega) (by decide)), fun _ => ⟨vp_in_nI (by omega) (by decide), ?_⟩⟩⟩
    rw [by_in hb (by omega) hn]
    refine c_isD (hb _ (by omega)).2 (fun w => ⟨fun z => absurd z (by decide), fun _ t4 e4 => ?_⟩) (fun w => ⟨fun _ => ?_, fun z => absurd rfl z⟩)
    · rw [by_in hb (by omega) hn] at e4
      rw [nI_1]
      have b1 := vN_le (f := fun j => b (p + j)) i
      obtain ⟨w1, w2⟩ := w
      have ec : nI (vN (fun j => b (p + j)) i) * (10 : Int32) + nI (b (p + i)) - (48 : Int32) = nI (10 * vN (fun j => b (p + j)) i + (b (p + i) - 48)) := by
        show nI (vN (fun j => b (p + j)) i) * nI 10 + nI (b (p + i)) - nI 48 = _
        rw [show nI (vN (fun j => b (p + j)) i) * nI 10 = nI (vN (fun j => b (p + j)) i * 10) from (Int32.ofNat_mul _ _).symm, nI_add, nI_sub' (by omega)]
        congr 1
        omega
      have et : t4 = nI (vN (fun j => b (p + j)) (i + 1)) := by
        rw [e4, ec]
        show _ = nI (if 10 * vN (fun j => b (p + j)) i + (b (p + i) - 48) < 1000000 then 10 * vN (fun j => b (p + j)) i + (b (p + i) - 48) else 1000000)
        by_cases w3 : 10 * vN (fun j => b (p + j)) i + (b (p + i) - 48) < 1000000
        · rw [if_pos w3]; exact if_pos (nI_lt (b := 1000000) w3 (by decide))
        · rw [if_neg w3]; exact if_neg (nI_nlt (a := 10 * vN (fun j => b (p + j)) i + (b (p + i) - 48)) (b := 1000000) (by omega) (by omega))
      rw [et]
      refine ih (by omega) (fun j hj => ?_)
      by_cases w3 : j = i
      · subst w3; exact ⟨w1, w2⟩
      · exact i3 j (by omega)
    · refine fin i ?_ i1 i3 (Or.inr w)
      rcases Nat.eq_zero_or_pos i with w2 | w2
      · subst w2; exact absurd hl w
      · exact w2
end SC
