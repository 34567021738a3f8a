section SD
variable {l : Launch} {ad : Nat → Nat} {d : Nat} {h : aH} {b : Nat → Nat} {n p c : Nat}
theorem c_pair {R : Int32 → aH → Prop} {x y : Nat} (hx : x < 256) (hy : y < 256) (H : R (pkS x y) h) : AW GC l ad d mX7_pairKind 0 [(0, .int (nI x)), (1, .int (nI y))] [] h (qi R) := by
  have ex : ∀ k, k < 256 → (nI x = nI k → x = k) := fun k hk z => (nI_eq (by omega) (by omega)).mp z
  have ey : ∀ k, k < 256 → (nI y = nI k → y = k) := fun k hk z => (nI_eq (by omega) (by omega)).mp z
  have L30 : ¬ (x = 60 ∧ y = 61) → ¬ (x = 60 ∧ y = 62) → AW GC l ad d mX7_pairKind 30 [(0, .int (nI x)), (1, .int (nI y))] [] h (qi R) := by
    intro n1 n2
    have e0 : pkS x y = if x = 62 ∧ y = 61 then 32 else 37 := by unfold pkS; rw [if_neg n1, if_neg n2]
    rw [e0] at H
    refine bX7_pairKind_30 _ _ _ ⟨fun z => ?_, fun z => ⟨fun z2 => ?_, fun z2 => ?_⟩⟩
    · rw [if_neg (fun w => z (by rw [w.1]; rfl))] at H; exact H
    · rw [if_neg (fun w => z2 (by rw [w.2]; rfl))] at H; exact H
    · rw [if_pos ⟨ex 62 (by decide) z, ey 61 (by decide) z2⟩] at H; exact H
  have L15 : ¬ (x = 60 ∧ y = 61) → AW GC l ad d mX7_pairKind 15 [(0, .int (nI x)), (1, .int (nI y))] [] h (qi R) := by
    intro n1
    refine bX7_pairKind_15 _ _ _ ⟨fun z => L30 n1 (fun w => z (by rw [w.1]; rfl)), fun z => ⟨fun z2 => L30 n1 (fun w => z2 (by rw [w.2]; rfl)), fun z2 => ?_⟩⟩
    have e0 : pkS x y = 31 := by unfold pkS; rw [if_neg n1, if_pos ⟨ex 60 (by decide) z, ey 62 (by decide) z2⟩]
    rw [e0] at H; exact H
  refine bX7_pairKind_0 _ _ _ ⟨fun z => L15 (fun w => z (by rw [w.1]; rfl)), fun z => ⟨fun z2 => L15 (fun w => z2 (by rw [w.2]; rfl)), fun z2 => ?_⟩⟩
  have e0 : pkS x y = 29 := by unfold pkS; rw [if_pos ⟨ex 60 (by decide) z, ey 61 (by decide) z2⟩]
  rw [e0] at H; exact H
theorem c_sign {R : Int32 → aH → Prop} {x : Nat} (hx : x < 256) (H : R (sgS x) h) : AW GC l ad d mX7_signKind 0 [(0, .int (nI x))] [] h (qi R) := by
  have ex : ∀ k, k < 256 → (nI x = nI k → x = k) := fun k hk z => (nI_eq (by omega) (by omega)).mp z
  have q : ∀ (k : Nat) (v : Int32), k < 256 → sgS k = v → (nI x = nI k → R v h) := fun k v hk hv z => by
    rw [ex k hk z, hv] at H; exact H
  have q0 : ∀ k : Nat, ¬ nI x = nI k → ¬ x = k := fun k z w => z (by rw [w])
  refine bX7_signKind_0 _ _ ⟨q 40 _ (by decide) (by decide), q 41 _ (by decide) (by decide), q 42 _ (by decide) (by decide), q 43 _ (by decide) (by decide), q 44 _ (by decide) (by decide), q 45 _ (by decide) (by decide), q 46 _ (by decide) (by decide), q 47 _ (by decide) (by decide), q 48 _ (by decide) (by decide), q 49 _ (by decide) (by decide), q 50 _ (by decide) (by decide), q 51 _ (by decide) (by decide), q 52 _ (by decide) (by decide), q 53 _ (by decide) (by decide), q 54 _ (by decide) (by decide), q 55 _ (by decide) (by decide), q 56 _ (by decide) (by decide), q 57 _ (by decide) (by decide), q 58 _ (by decide) (by decide), q 59 _ (by decide) (by decide), q 60 _ (by decide) (by decide), q 61 _ (by decide) (by decide), q 62 _ (by decide) (by decide), fun z0 z1 z2 z3 z4 z5 z6 z7 z8 z9 z10 z11 z12 z13 z14 z15 z16 z17 z18 z19 z20 z21 z22 => ?_⟩
  have e0 : sgS x = 37 := by
    unfold sgS
    rw [if_neg (q0 40 z0), if_neg (q0 41 z1), if_neg (q0 42 z2), if_neg (q0 43 z3), if_neg (q0 45 z5), if_neg (q0 47 z7), if_neg (q0 59 z19), if_neg (q0 60 z20), if_neg (q0 61 z21), if_neg (q0 62 z22)]
  rw [e0] at H; exact H
theorem c_scanSign {R : Int32 → aH → Prop} (hn : n ≤ 700) (hb : ∀ k, k < n → h.1 1 k = nI (b k) ∧ b k < 256) (hc : c ≤ 700) (e3 : h.1 3 3 = nI c) (hp : p < n) (h1 : ¬ isLt (b p)) (h2 : ¬ isDg (b p)) (h3 : ¬ isBl (b p)) (H : ∀ e k v h', tkS b n p e k v → adT h h' c k (nI p) v → R (nI e) h') : AW GC l ad (d + 1) mX7_scanSign 0 [(0, .ref (ad 3)), (1, .ref (ad 1)), (2, .int (nI p)), (3, .int (nI n))] [] h (qi R) := by
  have core : ∀ y, y < 256 → y = nxB b n p → AW GC l ad (d + 1) mX7_scanSign 39 [(0, .ref (ad 3)), (2, .int (nI p)), (4, .int (nI (b p)))] [.int (nI y)] h (qi R) := by
    intro y hy ey
    refine bX7_scanSign_39 1 700 shC1 _ _ _ _ (c_pair (hb p hp).2 hy ⟨fun z => c_sign (hb p hp).2 (c_tadd hc e3 (fun h' a => ?_)), fun z => c_tadd hc e3 (fun h' a => ?_)⟩)
    · rw [nI_1]
      exact H (p + 1) _ _ h' ⟨h1, h2, h3, rfl, Or.inr ⟨by rw [← ey]; exact z, rfl, rfl⟩⟩ a
    · show R (nI p + nI 2) h'
      rw [nI_add]
      exact H (p + 2) _ _ h' ⟨h1, h2, h3, rfl, Or.inl ⟨by rw [← ey]; exact z, by rw [← ey], rfl⟩⟩ a
  refine bX7_scanSign_0 1 700 shC1 _ _ _ ⟨fun z => absurd z (nI_ge (b := 700) (by omega) (by decide)), fun _ => ⟨vp_in_nI (by omega) (by decide), ?_⟩⟩
  rw [by_in hb hp hn]
  refine bX7_scanSign_13 1 700 shC1 _ _ _ _ ?_
  rw [nI_1]
  rcases Nat.lt_or_ge (p + 1) n with w | w
  · refine ⟨fun z => absurd z (nI_ge w (by omega)), fun _ => ⟨fun z => absurd z (nI_ge (b := 700) (by omega) (by decide)), fun _ => ⟨vp_in_nI (by omega) (by decide), ?_⟩⟩⟩
    rw [by_in hb w hn]
    exact core _ (hb _ w).2 (by unfold nxB; rw [if_pos w])
  · exact ⟨fun _ => bX7_scanSign_38 1 700 shC1 _ _ _ (core 0 (by decide) (by unfold nxB; rw [if_neg (by omega)])), fun z => absurd (nI_le w (by omega)) z⟩
/-- what the list's making leaves alone -/
def frT (h h' : aH) : Prop := h'.2 = h.2 ∧ ∀ a j, a ≠ 4 → a ≠ 5 → a ≠ 6 → (a = 3 → j ≠ 3) → h'.1 a j = h.1 a j
theorem fr_ad {h h' h'' : aH} {k pl v : Int32} (f : frT h h') (a : adT h' h'' c k pl v) : frT h h'' := ⟨a.1.trans f.1, fun x j h1 h2 h3 h4 => (a.2.1 x j h1 h2 h3 h4).trans (f.2 x j h1 h2 h3 h4)⟩
theorem c_scan {R : aH → Prop} (hn : n ≤ 700) (hb : ∀ k, k < n → h.1 1 k = nI (b k) ∧ b k < 256) (hw : ∀ k, k < 21 → h.1 7 k = nI (wdC k)) (H : ∀ h' c P E, frT h h' → c ≤ n → h'.1 3 3 = nI (c + 1) → h'.1 4 c = 36 → TL b n h' (c + 1) P E → R h') : AW GC l ad (d + 2) mX7_scan 0 [(0, .ref (ad 3)), (1, .ref (ad 1)), (2, .int (nI n))] [] h (qv R) := by
  refine bX7_scan_0 1 700 shC1 _ _ ?_
  have main : ∀ r q, n - q = r → q ≤ n → ∀ i c P E h', i ≤ q → c ≤ q → frT h h' → h'.1 3 3 = nI c → TL b n h' c P E → E c ≤ q → (∀ j, E c ≤ j → j < q → isBl (b j)) → AW GC l ad (d + 2) mX7_scan 10 [(0, .ref (ad 3)), (1, .ref (ad 1)), (2, .int (nI n)), (3, .int (nI q)), (4, .int (nI i))] [] h' (qv R) := by
    intro r
    induction r using Nat.strongRecOn with
    | _ r ih =>
      intro q hr hq i c P E h' i1 c1 f e3 T E1 E2
      by_cases w : q = n
      · subst w
        have out : AW GC l ad (d + 2) mX7_scan 106 [(0, .ref (ad 3)), (2, .int (nI q))] [] h' (qv R) := by
          refine bX7_scan_106 1 700 shC1 _ _ (c_tadd (c := c) (by omega) e3 (fun h'' a => ?_))
          have tk : Tok b q q q q 36 0 := ⟨Nat.le_refl _, Nat.le_refl _, fun j h1 h2 => absurd h2 (by omega), Or.inl ⟨rfl, rfl, rfl, rfl⟩⟩
          exact H h'' c _ _ (fr_ad f a) c1 a.2.2.1 (by rw [a.2.2.2.1, if_pos rfl]) (tl_add T a E1 E2 tk)
        exact bX7_scan_10 1 700 shC1 _ _ _ _ ⟨fun _ => out, fun _ => ⟨fun _ => out, fun z => absurd (Int32.le_refl _) z⟩⟩
      · have qn : q < n := by omega
        have hb' : ∀ k, k < n → h'.1 1 k = nI (b k) ∧ b k < 256 := fun k hk => ⟨(f.2 1 k (by decide) (by decide) (by decide) (by omega)).trans (hb k hk).1, (hb k hk).2⟩
        have hw' : ∀ k, k < 21 → h'.1 7 k = nI (wdC k) := fun k hk => (f.2 7 k (by decide) (by decide) (by decide) (by omega)).trans (hw k hk)
        have blank : isBl (b q) → AW GC l ad (d + 2) mX7_scan 10 [(0, .ref (ad 3)), (1, .ref (ad 1)), (2, .int (nI n)), (3, .int (nI q + 1)), (4, .int (nI i + 1))] [] h' (qv R) := by
          intro hbl
          rw [nI_1, nI_1]
          refine ih (n - (q + 1)) (by omega) (q + 1) rfl (by omega) (i + 1) c P E h' (by omega) (by omega) f e3 T (by omega) (fun j h1 h2 => ?_)
          by_cases w2 : j = q
          · subst w2; exact hbl
          · exact E2 j h1 (by omega)
        have nxt : ∀ e k v h'', tkB b n q e k v → adT h' h'' c k (nI q) v → AW GC l ad (d + 2) mX7_scan 10 [(0, .ref (ad 3)), (1, .ref (ad 1)), (2, .int (nI n)), (3, .int (nI e)), (4, .int (nI i + 1))] [] h'' (qv R) := by
          intro e k v h'' tb a
          rw [nI_1]
          obtain ⟨e1, e2⟩ := tk_e tb
          have tk : Tok b n q q e k v := ⟨Nat.le_refl _, hq, fun j h1 h2 => absurd h2 (by omega), Or.inr tb⟩
          refine ih (n - e) (by omega) e rfl e2 (i + 1) (c + 1) _ _ h'' (by omega) (by omega) (fr_ad f a) a.2.2.1 (tl_add T a E1 E2 tk) ?_ (fun j h1 h2 => ?_)
          · show (if c + 1 = c + 1 then e else E (c + 1)) ≤ e
            rw [if_pos rfl]; exact Nat.le_refl _
          · have h1' : (if c + 1 = c + 1 then e else E (c + 1)) ≤ j := h1
            rw [if_pos rfl] at h1'
            omega
        refine bX7_scan_10 1 700 shC1 _ _ _ _ ⟨fun z => absurd z (nI_ge (b := 700) (by omega) (by decide)), fun _ => ⟨fun z => absurd z (nI_ge qn (by omega)), fun _ => ⟨fun z => absurd z (nI_ge (b := 700) (by omega) (by decide)), fun _ => ⟨vp_in_nI (by omega) (by decide), ?_⟩⟩⟩⟩
        rw [by_in hb' qn hn]
        have hx := (hb q qn).2
        refine ⟨fun z => blank (Or.inl ((nI_eq (b := 10) (by omega) (by decide)).mp z)), fun z => ⟨fun z2 => ?_, fun z2 => blank (Or.inr ((nI_eq (b := 32) (by omega) (by decide)).mp z2))⟩⟩
        have nb : ¬ isBl (b q) := by
          rintro (w2 | w2)
          · exact z (by rw [w2]; rfl)
          · exact z2 (by rw [w2]; rfl)
        refine c_isL hx (fun w2 => ⟨fun z => absurd z (by decide), fun _ => ?_⟩) (fun w2 => ⟨fun _ => ?_, fun z => absurd rfl z⟩)
        · exact c_scanWord hn hb' hw' (by omega) e3 qn w2 (fun e k v h'' t a => nxt e k v h'' ⟨qn, Or.inl t⟩ a)
        · refine c_isD hx (fun w3 => ⟨fun z => absurd z (by decide), fun _ => ?_⟩) (fun w3 => ⟨fun _ => ?_, fun z => absurd rfl z⟩)
          · exact c_scanNumber hn hb' (by omega) e3 qn w3 (fun e k v h'' t a => nxt e k v h'' ⟨qn, Or.inr (Or.inl t)⟩ a)
          · exact c_scanSign hn hb' (by omega) e3 qn w2 w3 nb (fun e k v h'' t a => nxt e k v h'' ⟨qn, Or.inr (Or.inr t)⟩ a)
  refine main (n - 0) 0 rfl (Nat.zero_le _) 0 0 (fun _ => 0) (fun _ => 0) (sI h 3 3 0) (Nat.le_refl _) (Nat.le_refl _) ⟨rfl, fun a j h1 h2 h3 h4 => ?_⟩ sI_s ⟨rfl, fun j hj => absurd hj (Nat.not_lt_zero _)⟩ (Nat.le_refl _) (fun j h1 h2 => absurd h2 (Nat.not_lt_zero _))
  by_cases w : a = 3
  · subst w; exact sI_k (h4 rfl)
  · exact sI_c w
end SD
