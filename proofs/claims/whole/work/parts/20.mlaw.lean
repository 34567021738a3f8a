/-! ===== the reference: laws worked out ===== -/
def hS (h : aH) (J : Nat → Nat → Int64) (n : Int32) : aH := (fun c k => if c = 0 ∧ k = 37 then n else h.1 c k, J, h.2.2)
theorem hS_s {h : aH} {J : Nat → Nat → Int64} {n : Int32} : (hS h J n).1 0 37 = n := by
  show (if 0 = 0 ∧ 37 = 37 then n else h.1 0 37) = n
  rw [if_pos ⟨rfl, rfl⟩]
theorem hS_o {h : aH} {J : Nat → Nat → Int64} {n : Int32} {c k : Nat} (hc : c ≠ 0) : (hS h J n).1 c k = h.1 c k := by
  show (if c = 0 ∧ k = 37 then n else h.1 c k) = h.1 c k
  rw [if_neg (fun q => hc q.1)]
theorem hS_J {h : aH} {J : Nat → Nat → Int64} {n : Int32} {c k : Nat} : (hS h J n).2.1 c k = J c k := rfl
theorem sI_hS {h : aH} {J : Nat → Nat → Int64} {n v : Int32} : sI (hS h J n) 0 37 v = hS h J v := by
  unfold sI hS
  refine Prod.ext ?_ rfl
  funext c k
  show (if c = 0 ∧ k = 37 then v else if c = 0 ∧ k = 37 then n else h.1 c k) = if c = 0 ∧ k = 37 then v else h.1 c k
  by_cases hc : c = 0 ∧ k = 37
  · rw [if_pos hc, if_pos hc]
  · rw [if_neg hc, if_neg hc, if_neg hc]
theorem sJ_hS {h : aH} {J : Nat → Nat → Int64} {n : Int32} {c k : Nat} {v : Int64} : sJ (hS h J n) c k v = hS h (fun c' k' => if c' = c ∧ k' = k then v else J c' k') n := rfl
theorem hS_self (h : aH) : hS h h.2.1 (h.1 0 37) = h := by
  unfold hS
  refine Prod.ext ?_ rfl
  funext c k
  show (if c = 0 ∧ k = 37 then h.1 0 37 else h.1 c k) = h.1 c k
  by_cases hc : c = 0 ∧ k = 37
  · rw [if_pos hc, hc.1, hc.2]
  · rw [if_neg hc]
theorem absM (x : Int64) : (if 0 < x then x else -x) = absL x := by
  unfold absL
  by_cases h1 : 0 < x
  · rw [if_pos h1, if_pos (Int64.le_of_lt h1)]
  · rw [if_neg h1]
    by_cases h2 : 0 ≤ x
    · have e : x = 0 := by
        apply Int64.toInt_inj.mp
        have h3 := Int64.le_iff_toInt_le.mp h2
        have h4 : ¬ (0 : Int64).toInt < x.toInt := fun q => h1 (Int64.lt_iff_toInt_lt.mpr q)
        omega
      rw [if_pos h2, e]; decide
    · rw [if_neg h2]
section ML
variable {adK adV : Nat → Nat} {l : Launch} {ad : Nat → Nat} {d q : Nat} {h : aH} {J : Nat → Nat → Int64} {a b : Int64}
theorem mw_407 {R : Int32 → aH → Prop} {c : Int32} (hq : q + 2 ≤ 64) (H1 : ∀ x, jvO c a b = some x → R 1 (hS h (fun c' k' => if c' = 22 ∧ k' = q then x else J c' k') (nI (q + 1)))) (H0 : jvO c a b = none → ∀ J', (∀ k, J' 21 k = J 21 k) → R 0 (hS h J' (nI (q + 1)))) {x : Int64} (e : jvO c a b = limL x) : AW (GM adK adV) l ad (d + 1) mX10_works 407 [(0, .ref (ad 0)), (6, .long x)] [] (hS h J (nI (q + 1))) (qi R) := by
  refine bX10_works_407 x _ ?_
  rw [hS_s, nI_pred, nI_clamp (by omega), sJ_hS]
  unfold limL at e
  refine ⟨vp_in_nI (by omega) (by omega), fun z => ?_, fun z => ⟨fun z2 => ?_, fun z2 => ?_⟩⟩
  · rw [if_pos z] at e; exact H0 e _ (fun _ => if_neg (fun z => absurd z.1 (by decide)))
  · rw [if_neg z, if_neg (Int64.not_le.mpr z2)] at e; exact H0 e _ (fun _ => if_neg (fun z => absurd z.1 (by decide)))
  · rw [if_neg z, if_pos (Int64.not_lt.mp z2)] at e; exact H1 x e
theorem mw_is {R : Int64 → aH → Prop} {s : Int32} (H : R (if s = 0 then 0 else 1) h) : AW (GM adK adV) l ad d mX10_is 0 [(0, .int s)] [] h (ql R) := by
  refine bX10_is_0 s h ⟨fun z => ?_, fun z => ?_⟩
  · rw [if_pos z] at H; exact H
  · rw [if_neg z] at H; exact H
theorem mw_42 {R : Int32 → aH → Prop} (hq : q + 2 ≤ 64) (H1 : ∀ x, jvO 26 a b = some x → R 1 (hS h (fun c' k' => if c' = 22 ∧ k' = q then x else J c' k') (nI (q + 1)))) (H0 : jvO 26 a b = none → ∀ J', (∀ k, J' 21 k = J 21 k) → R 0 (hS h J' (nI (q + 1)))) (eb : J 22 (q + 1) = b) (ea : J 22 q = a) : AW (GM adK adV) l ad (d + 1) mX10_works 0 [(0, .ref (ad 0)), (1, .int 42)] [] (hS h J (nI (q + 2))) (qi R) := by
  refine bX10_works_0 _ _ ?_
  rw [hS_s, nI_pred (q + 1), show nI (q + 2) - 2 = nI q from pk_sub (a := q + 2) (b := 2) (by omega), nI_clamp (by omega), nI_clamp (by omega), sI_hS, hS_J, hS_J, eb, ea]
  refine ⟨vp_in_nI (by omega) (by omega), fun t2 e2 => ⟨fun _ => ⟨vp_in_nI (by omega) (by omega), fun t4 e4 => ?_⟩, fun z => absurd z (by decide)⟩⟩
  rw [e2, e4]
  refine ⟨fun _ => ⟨fun h1 => ?_, fun h1 => ⟨?_, fun h2 => ?_, fun h2 => ?_⟩⟩, fun e => absurd e (by decide), fun e => absurd e (by decide), fun e => absurd e (by decide), fun e => absurd e (by decide), fun e => absurd e (by decide), fun e => absurd e (by decide), fun e => absurd e (by decide), fun e => absurd e (by decide), fun e => absurd e (by decide), fun e => absurd e (by decide), fun e42 e43 e45 e47 e60 e61 e62 e256 e257 e258 e261 => absurd rfl e42⟩
  · have e0 : rawO 26 a b = (if a = 0 then some (a * b) else if absL b ≤ 1000000000000 / absL a then some (a * b) else none) := rfl
    rw [if_pos h1] at e0; exact bX10_works_212 _ _ _ (mw_407 hq H1 H0 (by unfold jvO; rw [e0]; rfl))
  · rw [absM]; exact absL0 h1
  · have e0 : rawO 26 a b = (if a = 0 then some (a * b) else if absL b ≤ 1000000000000 / absL a then some (a * b) else none) := rfl
    rw [absM, absM] at h2; rw [if_neg h1, if_pos h2] at e0; exact bX10_works_212 _ _ _ (mw_407 hq H1 H0 (by unfold jvO; rw [e0]; rfl))
  · have e0 : rawO 26 a b = (if a = 0 then some (a * b) else if absL b ≤ 1000000000000 / absL a then some (a * b) else none) := rfl
    rw [absM, absM] at h2; rw [if_neg h1, if_neg h2] at e0; exact H0 (by unfold jvO; rw [e0]; rfl) _ (fun _ => rfl)
theorem mw_43 {R : Int32 → aH → Prop} (hq : q + 2 ≤ 64) (H1 : ∀ x, jvO 24 a b = some x → R 1 (hS h (fun c' k' => if c' = 22 ∧ k' = q then x else J c' k') (nI (q + 1)))) (H0 : jvO 24 a b = none → ∀ J', (∀ k, J' 21 k = J 21 k) → R 0 (hS h J' (nI (q + 1)))) (eb : J 22 (q + 1) = b) (ea : J 22 q = a) : AW (GM adK adV) l ad (d + 1) mX10_works 0 [(0, .ref (ad 0)), (1, .int 43)] [] (hS h J (nI (q + 2))) (qi R) := by
  refine bX10_works_0 _ _ ?_
  rw [hS_s, nI_pred (q + 1), show nI (q + 2) - 2 = nI q from pk_sub (a := q + 2) (b := 2) (by omega), nI_clamp (by omega), nI_clamp (by omega), sI_hS, hS_J, hS_J, eb, ea]
  refine ⟨vp_in_nI (by omega) (by omega), fun t2 e2 => ⟨fun _ => ⟨vp_in_nI (by omega) (by omega), fun t4 e4 => ?_⟩, fun z => absurd z (by decide)⟩⟩
  rw [e2, e4]
  refine ⟨fun e => absurd e (by decide), fun _ => ?_, fun e => absurd e (by decide), fun e => absurd e (by decide), fun e => absurd e (by decide), fun e => absurd e (by decide), fun e => absurd e (by decide), fun e => absurd e (by decide), fun e => absurd e (by decide), fun e => absurd e (by decide), fun e => absurd e (by decide), fun e42 e43 e45 e47 e60 e61 e62 e256 e257 e258 e261 => absurd rfl e43⟩
  · exact mw_407 hq H1 H0 rfl
theorem mw_45 {R : Int32 → aH → Prop} (hq : q + 2 ≤ 64) (H1 : ∀ x, jvO 25 a b = some x → R 1 (hS h (fun c' k' => if c' = 22 ∧ k' = q then x else J c' k') (nI (q + 1)))) (H0 : jvO 25 a b = none → ∀ J', (∀ k, J' 21 k = J 21 k) → R 0 (hS h J' (nI (q + 1)))) (eb : J 22 (q + 1) = b) (ea : J 22 q = a) : AW (GM adK adV) l ad (d + 1) mX10_works 0 [(0, .ref (ad 0)), (1, .int 45)] [] (hS h J (nI (q + 2))) (qi R) := by
  refine bX10_works_0 _ _ ?_
  rw [hS_s, nI_pred (q + 1), show nI (q + 2) - 2 = nI q from pk_sub (a := q + 2) (b := 2) (by omega), nI_clamp (by omega), nI_clamp (by omega), sI_hS, hS_J, hS_J, eb, ea]
  refine ⟨vp_in_nI (by omega) (by omega), fun t2 e2 => ⟨fun _ => ⟨vp_in_nI (by omega) (by omega), fun t4 e4 => ?_⟩, fun z => absurd z (by decide)⟩⟩
  rw [e2, e4]
  refine ⟨fun e => absurd e (by decide), fun e => absurd e (by decide), fun _ => ?_, fun e => absurd e (by decide), fun e => absurd e (by decide), fun e => absurd e (by decide), fun e => absurd e (by decide), fun e => absurd e (by decide), fun e => absurd e (by decide), fun e => absurd e (by decide), fun e => absurd e (by decide), fun e42 e43 e45 e47 e60 e61 e62 e256 e257 e258 e261 => absurd rfl e45⟩
  · exact mw_407 hq H1 H0 rfl
theorem mw_47 {R : Int32 → aH → Prop} (hq : q + 2 ≤ 64) (H1 : ∀ x, jvO 27 a b = some x → R 1 (hS h (fun c' k' => if c' = 22 ∧ k' = q then x else J c' k') (nI (q + 1)))) (H0 : jvO 27 a b = none → ∀ J', (∀ k, J' 21 k = J 21 k) → R 0 (hS h J' (nI (q + 1)))) (eb : J 22 (q + 1) = b) (ea : J 22 q = a) : AW (GM adK adV) l ad (d + 1) mX10_works 0 [(0, .ref (ad 0)), (1, .int 47)] [] (hS h J (nI (q + 2))) (qi R) := by
  refine bX10_works_0 _ _ ?_
  rw [hS_s, nI_pred (q + 1), show nI (q + 2) - 2 = nI q from pk_sub (a := q + 2) (b := 2) (by omega), nI_clamp (by omega), nI_clamp (by omega), sI_hS, hS_J, hS_J, eb, ea]
  refine ⟨vp_in_nI (by omega) (by omega), fun t2 e2 => ⟨fun _ => ⟨vp_in_nI (by omega) (by omega), fun t4 e4 => ?_⟩, fun z => absurd z (by decide)⟩⟩
  rw [e2, e4]
  refine ⟨fun e => absurd e (by decide), fun e => absurd e (by decide), fun e => absurd e (by decide), fun _ => ⟨fun h1 => ⟨h1, ?_⟩, fun h1 => ?_⟩, fun e => absurd e (by decide), fun e => absurd e (by decide), fun e => absurd e (by decide), fun e => absurd e (by decide), fun e => absurd e (by decide), fun e => absurd e (by decide), fun e => absurd e (by decide), fun e42 e43 e45 e47 e60 e61 e62 e256 e257 e258 e261 => absurd rfl e47⟩
  · have e0 : rawO 27 a b = (if b = 0 then none else some (a / b)) := rfl
    rw [if_neg h1] at e0; exact mw_407 hq H1 H0 (by unfold jvO; rw [e0]; rfl)
  · have e0 : rawO 27 a b = (if b = 0 then none else some (a / b)) := rfl
    rw [if_pos h1] at e0; exact H0 (by unfold jvO; rw [e0]; rfl) _ (fun _ => rfl)
theorem mw_60 {R : Int32 → aH → Prop} (hq : q + 2 ≤ 64) (H1 : ∀ x, jvO 28 a b = some x → R 1 (hS h (fun c' k' => if c' = 22 ∧ k' = q then x else J c' k') (nI (q + 1)))) (H0 : jvO 28 a b = none → ∀ J', (∀ k, J' 21 k = J 21 k) → R 0 (hS h J' (nI (q + 1)))) (eb : J 22 (q + 1) = b) (ea : J 22 q = a) : AW (GM adK adV) l ad (d + 1) mX10_works 0 [(0, .ref (ad 0)), (1, .int 60)] [] (hS h J (nI (q + 2))) (qi R) := by
  refine bX10_works_0 _ _ ?_
  rw [hS_s, nI_pred (q + 1), show nI (q + 2) - 2 = nI q from pk_sub (a := q + 2) (b := 2) (by omega), nI_clamp (by omega), nI_clamp (by omega), sI_hS, hS_J, hS_J, eb, ea]
  refine ⟨vp_in_nI (by omega) (by omega), fun t2 e2 => ⟨fun _ => ⟨vp_in_nI (by omega) (by omega), fun t4 e4 => ?_⟩, fun z => absurd z (by decide)⟩⟩
  rw [e2, e4]
  refine ⟨fun e => absurd e (by decide), fun e => absurd e (by decide), fun e => absurd e (by decide), fun e => absurd e (by decide), fun _ => ⟨fun h1 => ?_, fun h1 => ?_⟩, fun e => absurd e (by decide), fun e => absurd e (by decide), fun e => absurd e (by decide), fun e => absurd e (by decide), fun e => absurd e (by decide), fun e => absurd e (by decide), fun e42 e43 e45 e47 e60 e61 e62 e256 e257 e258 e261 => absurd rfl e60⟩
  · have e0 : rawO 28 a b = some (if b ≤ a then 0 else 1) := rfl
    rw [if_pos h1] at e0; exact bX10_works_250 _ _ (mw_is (mw_407 hq H1 H0 (by unfold jvO; rw [e0]; rfl)))
  · have e0 : rawO 28 a b = some (if b ≤ a then 0 else 1) := rfl
    rw [if_neg h1] at e0; exact bX10_works_250 _ _ (mw_is (mw_407 hq H1 H0 (by unfold jvO; rw [e0]; rfl)))
theorem mw_61 {R : Int32 → aH → Prop} (hq : q + 2 ≤ 64) (H1 : ∀ x, jvO 30 a b = some x → R 1 (hS h (fun c' k' => if c' = 22 ∧ k' = q then x else J c' k') (nI (q + 1)))) (H0 : jvO 30 a b = none → ∀ J', (∀ k, J' 21 k = J 21 k) → R 0 (hS h J' (nI (q + 1)))) (eb : J 22 (q + 1) = b) (ea : J 22 q = a) : AW (GM adK adV) l ad (d + 1) mX10_works 0 [(0, .ref (ad 0)), (1, .int 61)] [] (hS h J (nI (q + 2))) (qi R) := by
  refine bX10_works_0 _ _ ?_
  rw [hS_s, nI_pred (q + 1), show nI (q + 2) - 2 = nI q from pk_sub (a := q + 2) (b := 2) (by omega), nI_clamp (by omega), nI_clamp (by omega), sI_hS, hS_J, hS_J, eb, ea]
  refine ⟨vp_in_nI (by omega) (by omega), fun t2 e2 => ⟨fun _ => ⟨vp_in_nI (by omega) (by omega), fun t4 e4 => ?_⟩, fun z => absurd z (by decide)⟩⟩
  rw [e2, e4]
  refine ⟨fun e => absurd e (by decide), fun e => absurd e (by decide), fun e => absurd e (by decide), fun e => absurd e (by decide), fun e => absurd e (by decide), fun _ => ⟨fun h1 => ?_, fun h1 => ?_⟩, fun e => absurd e (by decide), fun e => absurd e (by decide), fun e => absurd e (by decide), fun e => absurd e (by decide), fun e => absurd e (by decide), fun e42 e43 e45 e47 e60 e61 e62 e256 e257 e258 e261 => absurd rfl e61⟩
  · have e0 : rawO 30 a b = some (if a = b then 1 else 0) := rfl
    rw [if_neg h1] at e0; exact bX10_works_290 _ _ (mw_is (mw_407 hq H1 H0 (by unfold jvO; rw [e0]; rfl)))
  · have e0 : rawO 30 a b = some (if a = b then 1 else 0) := rfl
    rw [if_pos h1] at e0; exact bX10_works_290 _ _ (mw_is (mw_407 hq H1 H0 (by unfold jvO; rw [e0]; rfl)))
theorem mw_62 {R : Int32 → aH → Prop} (hq : q + 2 ≤ 64) (H1 : ∀ x, jvO 33 a b = some x → R 1 (hS h (fun c' k' => if c' = 22 ∧ k' = q then x else J c' k') (nI (q + 1)))) (H0 : jvO 33 a b = none → ∀ J', (∀ k, J' 21 k = J 21 k) → R 0 (hS h J' (nI (q + 1)))) (eb : J 22 (q + 1) = b) (ea : J 22 q = a) : AW (GM adK adV) l ad (d + 1) mX10_works 0 [(0, .ref (ad 0)), (1, .int 62)] [] (hS h J (nI (q + 2))) (qi R) := by
  refine bX10_works_0 _ _ ?_
  rw [hS_s, nI_pred (q + 1), show nI (q + 2) - 2 = nI q from pk_sub (a := q + 2) (b := 2) (by omega), nI_clamp (by omega), nI_clamp (by omega), sI_hS, hS_J, hS_J, eb, ea]
  refine ⟨vp_in_nI (by omega) (by omega), fun t2 e2 => ⟨fun _ => ⟨vp_in_nI (by omega) (by omega), fun t4 e4 => ?_⟩, fun z => absurd z (by decide)⟩⟩
  rw [e2, e4]
  refine ⟨fun e => absurd e (by decide), fun e => absurd e (by decide), fun e => absurd e (by decide), fun e => absurd e (by decide), fun e => absurd e (by decide), fun e => absurd e (by decide), fun _ => ⟨fun h1 => ?_, fun h1 => ?_⟩, fun e => absurd e (by decide), fun e => absurd e (by decide), fun e => absurd e (by decide), fun e => absurd e (by decide), fun e42 e43 e45 e47 e60 e61 e62 e256 e257 e258 e261 => absurd rfl e62⟩
  · have e0 : rawO 33 a b = some (if a ≤ b then 0 else 1) := rfl
    rw [if_pos h1] at e0; exact bX10_works_270 _ _ (mw_is (mw_407 hq H1 H0 (by unfold jvO; rw [e0]; rfl)))
  · have e0 : rawO 33 a b = some (if a ≤ b then 0 else 1) := rfl
    rw [if_neg h1] at e0; exact bX10_works_270 _ _ (mw_is (mw_407 hq H1 H0 (by unfold jvO; rw [e0]; rfl)))
theorem mw_256 {R : Int32 → aH → Prop} (hq : q + 2 ≤ 64) (H1 : ∀ x, jvO 29 a b = some x → R 1 (hS h (fun c' k' => if c' = 22 ∧ k' = q then x else J c' k') (nI (q + 1)))) (H0 : jvO 29 a b = none → ∀ J', (∀ k, J' 21 k = J 21 k) → R 0 (hS h J' (nI (q + 1)))) (eb : J 22 (q + 1) = b) (ea : J 22 q = a) : AW (GM adK adV) l ad (d + 1) mX10_works 0 [(0, .ref (ad 0)), (1, .int 256)] [] (hS h J (nI (q + 2))) (qi R) := by
  refine bX10_works_0 _ _ ?_
  rw [hS_s, nI_pred (q + 1), show nI (q + 2) - 2 = nI q from pk_sub (a := q + 2) (b := 2) (by omega), nI_clamp (by omega), nI_clamp (by omega), sI_hS, hS_J, hS_J, eb, ea]
  refine ⟨vp_in_nI (by omega) (by omega), fun t2 e2 => ⟨fun _ => ⟨vp_in_nI (by omega) (by omega), fun t4 e4 => ?_⟩, fun z => absurd z (by decide)⟩⟩
  rw [e2, e4]
  refine ⟨fun e => absurd e (by decide), fun e => absurd e (by decide), fun e => absurd e (by decide), fun e => absurd e (by decide), fun e => absurd e (by decide), fun e => absurd e (by decide), fun e => absurd e (by decide), fun _ => ⟨fun h1 => ?_, fun h1 => ?_⟩, fun e => absurd e (by decide), fun e => absurd e (by decide), fun e => absurd e (by decide), fun e42 e43 e45 e47 e60 e61 e62 e256 e257 e258 e261 => absurd rfl e256⟩
  · have e0 : rawO 29 a b = some (if b < a then 0 else 1) := rfl
    rw [if_pos h1] at e0; exact bX10_works_310 _ _ (mw_is (mw_407 hq H1 H0 (by unfold jvO; rw [e0]; rfl)))
  · have e0 : rawO 29 a b = some (if b < a then 0 else 1) := rfl
    rw [if_neg h1] at e0; exact bX10_works_310 _ _ (mw_is (mw_407 hq H1 H0 (by unfold jvO; rw [e0]; rfl)))
theorem mw_257 {R : Int32 → aH → Prop} (hq : q + 2 ≤ 64) (H1 : ∀ x, jvO 31 a b = some x → R 1 (hS h (fun c' k' => if c' = 22 ∧ k' = q then x else J c' k') (nI (q + 1)))) (H0 : jvO 31 a b = none → ∀ J', (∀ k, J' 21 k = J 21 k) → R 0 (hS h J' (nI (q + 1)))) (eb : J 22 (q + 1) = b) (ea : J 22 q = a) : AW (GM adK adV) l ad (d + 1) mX10_works 0 [(0, .ref (ad 0)), (1, .int 257)] [] (hS h J (nI (q + 2))) (qi R) := by
  refine bX10_works_0 _ _ ?_
  rw [hS_s, nI_pred (q + 1), show nI (q + 2) - 2 = nI q from pk_sub (a := q + 2) (b := 2) (by omega), nI_clamp (by omega), nI_clamp (by omega), sI_hS, hS_J, hS_J, eb, ea]
  refine ⟨vp_in_nI (by omega) (by omega), fun t2 e2 => ⟨fun _ => ⟨vp_in_nI (by omega) (by omega), fun t4 e4 => ?_⟩, fun z => absurd z (by decide)⟩⟩
  rw [e2, e4]
  refine ⟨fun e => absurd e (by decide), fun e => absurd e (by decide), fun e => absurd e (by decide), fun e => absurd e (by decide), fun e => absurd e (by decide), fun e => absurd e (by decide), fun e => absurd e (by decide), fun e => absurd e (by decide), fun _ => ⟨fun h1 => ?_, fun h1 => ?_⟩, fun e => absurd e (by decide), fun e => absurd e (by decide), fun e42 e43 e45 e47 e60 e61 e62 e256 e257 e258 e261 => absurd rfl e257⟩
  · have e0 : rawO 31 a b = some (if a = b then 0 else 1) := rfl
    rw [if_pos h1] at e0; exact bX10_works_350 _ _ (mw_is (mw_407 hq H1 H0 (by unfold jvO; rw [e0]; rfl)))
  · have e0 : rawO 31 a b = some (if a = b then 0 else 1) := rfl
    rw [if_neg h1] at e0; exact bX10_works_350 _ _ (mw_is (mw_407 hq H1 H0 (by unfold jvO; rw [e0]; rfl)))
theorem mw_258 {R : Int32 → aH → Prop} (hq : q + 2 ≤ 64) (H1 : ∀ x, jvO 32 a b = some x → R 1 (hS h (fun c' k' => if c' = 22 ∧ k' = q then x else J c' k') (nI (q + 1)))) (H0 : jvO 32 a b = none → ∀ J', (∀ k, J' 21 k = J 21 k) → R 0 (hS h J' (nI (q + 1)))) (eb : J 22 (q + 1) = b) (ea : J 22 q = a) : AW (GM adK adV) l ad (d + 1) mX10_works 0 [(0, .ref (ad 0)), (1, .int 258)] [] (hS h J (nI (q + 2))) (qi R) := by
  refine bX10_works_0 _ _ ?_
  rw [hS_s, nI_pred (q + 1), show nI (q + 2) - 2 = nI q from pk_sub (a := q + 2) (b := 2) (by omega), nI_clamp (by omega), nI_clamp (by omega), sI_hS, hS_J, hS_J, eb, ea]
  refine ⟨vp_in_nI (by omega) (by omega), fun t2 e2 => ⟨fun _ => ⟨vp_in_nI (by omega) (by omega), fun t4 e4 => ?_⟩, fun z => absurd z (by decide)⟩⟩
  rw [e2, e4]
  refine ⟨fun e => absurd e (by decide), fun e => absurd e (by decide), fun e => absurd e (by decide), fun e => absurd e (by decide), fun e => absurd e (by decide), fun e => absurd e (by decide), fun e => absurd e (by decide), fun e => absurd e (by decide), fun e => absurd e (by decide), fun _ => ⟨fun h1 => ?_, fun h1 => ?_⟩, fun e => absurd e (by decide), fun e42 e43 e45 e47 e60 e61 e62 e256 e257 e258 e261 => absurd rfl e258⟩
  · have e0 : rawO 32 a b = some (if a < b then 0 else 1) := rfl
    rw [if_pos h1] at e0; exact bX10_works_330 _ _ (mw_is (mw_407 hq H1 H0 (by unfold jvO; rw [e0]; rfl)))
  · have e0 : rawO 32 a b = some (if a < b then 0 else 1) := rfl
    rw [if_neg h1] at e0; exact bX10_works_330 _ _ (mw_is (mw_407 hq H1 H0 (by unfold jvO; rw [e0]; rfl)))
theorem mw_261 {R : Int32 → aH → Prop} (hq : q + 2 ≤ 64) (H1 : ∀ x, jvO 12 a b = some x → R 1 (hS h (fun c' k' => if c' = 22 ∧ k' = q then x else J c' k') (nI (q + 1)))) (H0 : jvO 12 a b = none → ∀ J', (∀ k, J' 21 k = J 21 k) → R 0 (hS h J' (nI (q + 1)))) (eb : J 22 (q + 1) = b) (ea : J 22 q = a) : AW (GM adK adV) l ad (d + 1) mX10_works 0 [(0, .ref (ad 0)), (1, .int 261)] [] (hS h J (nI (q + 2))) (qi R) := by
  refine bX10_works_0 _ _ ?_
  rw [hS_s, nI_pred (q + 1), show nI (q + 2) - 2 = nI q from pk_sub (a := q + 2) (b := 2) (by omega), nI_clamp (by omega), nI_clamp (by omega), sI_hS, hS_J, hS_J, eb, ea]
  refine ⟨vp_in_nI (by omega) (by omega), fun t2 e2 => ⟨fun _ => ⟨vp_in_nI (by omega) (by omega), fun t4 e4 => ?_⟩, fun z => absurd z (by decide)⟩⟩
  rw [e2, e4]
  refine ⟨fun e => absurd e (by decide), fun e => absurd e (by decide), fun e => absurd e (by decide), fun e => absurd e (by decide), fun e => absurd e (by decide), fun e => absurd e (by decide), fun e => absurd e (by decide), fun e => absurd e (by decide), fun e => absurd e (by decide), fun e => absurd e (by decide), fun _ => ⟨fun h1 => ?_, fun h1 => ⟨fun h2 => ?_, fun h2 => ?_⟩⟩, fun e42 e43 e45 e47 e60 e61 e62 e256 e257 e258 e261 => absurd rfl e261⟩
  · have e0 : rawO 12 a b = some (if a = 0 then 0 else if b = 0 then 0 else 1) := rfl
    rw [if_pos h1] at e0; exact bX10_works_375 _ (bX10_works_376 _ _ (mw_is (mw_407 hq H1 H0 (by unfold jvO; rw [e0]; rfl))))
  · have e0 : rawO 12 a b = some (if a = 0 then 0 else if b = 0 then 0 else 1) := rfl
    rw [if_neg h1, if_pos h2] at e0; exact bX10_works_375 _ (bX10_works_376 _ _ (mw_is (mw_407 hq H1 H0 (by unfold jvO; rw [e0]; rfl))))
  · have e0 : rawO 12 a b = some (if a = 0 then 0 else if b = 0 then 0 else 1) := rfl
    rw [if_neg h1, if_neg h2] at e0; exact bX10_works_376 _ _ (mw_is (mw_407 hq H1 H0 (by unfold jvO; rw [e0]; rfl)))
theorem mw_262 {R : Int32 → aH → Prop} (hq : q + 2 ≤ 64) (H1 : ∀ x, jvO 13 a b = some x → R 1 (hS h (fun c' k' => if c' = 22 ∧ k' = q then x else J c' k') (nI (q + 1)))) (H0 : jvO 13 a b = none → ∀ J', (∀ k, J' 21 k = J 21 k) → R 0 (hS h J' (nI (q + 1)))) (eb : J 22 (q + 1) = b) (ea : J 22 q = a) : AW (GM adK adV) l ad (d + 1) mX10_works 0 [(0, .ref (ad 0)), (1, .int 262)] [] (hS h J (nI (q + 2))) (qi R) := by
  refine bX10_works_0 _ _ ?_
  rw [hS_s, nI_pred (q + 1), show nI (q + 2) - 2 = nI q from pk_sub (a := q + 2) (b := 2) (by omega), nI_clamp (by omega), nI_clamp (by omega), sI_hS, hS_J, hS_J, eb, ea]
  refine ⟨vp_in_nI (by omega) (by omega), fun t2 e2 => ⟨fun _ => ⟨vp_in_nI (by omega) (by omega), fun t4 e4 => ?_⟩, fun z => absurd z (by decide)⟩⟩
  rw [e2, e4]
  refine ⟨fun e => absurd e (by decide), fun e => absurd e (by decide), fun e => absurd e (by decide), fun e => absurd e (by decide), fun e => absurd e (by decide), fun e => absurd e (by decide), fun e => absurd e (by decide), fun e => absurd e (by decide), fun e => absurd e (by decide), fun e => absurd e (by decide), fun e => absurd e (by decide), fun _ _ _ _ _ _ _ _ _ _ _ => ⟨fun h1 => ?_, fun h1 => ⟨fun h2 => ?_, fun h2 => ?_⟩⟩⟩
  · have e0 : rawO 13 a b = some (if a = 0 then (if b = 0 then 0 else 1) else 1) := rfl
    rw [if_neg h1] at e0; exact bX10_works_397 _ (bX10_works_402 _ _ (mw_is (mw_407 hq H1 H0 (by unfold jvO; rw [e0]; rfl))))
  · have e0 : rawO 13 a b = some (if a = 0 then (if b = 0 then 0 else 1) else 1) := rfl
    rw [if_pos h1, if_pos h2] at e0; exact bX10_works_402 _ _ (mw_is (mw_407 hq H1 H0 (by unfold jvO; rw [e0]; rfl)))
  · have e0 : rawO 13 a b = some (if a = 0 then (if b = 0 then 0 else 1) else 1) := rfl
    rw [if_pos h1, if_neg h2] at e0; exact bX10_works_397 _ (bX10_works_402 _ _ (mw_is (mw_407 hq H1 H0 (by unfold jvO; rw [e0]; rfl))))
theorem mw_260 {R : Int32 → aH → Prop} {q : Nat} (hq : q + 1 ≤ 64) (H1 : R 1 (hS h (fun c' k' => if c' = 22 ∧ k' = q then (if a = 0 then 1 else 0) else J c' k') (nI (q + 1)))) (ea : J 22 q = a) : AW (GM adK adV) l ad (d + 1) mX10_works 0 [(0, .ref (ad 0)), (1, .int 260)] [] (hS h J (nI (q + 1))) (qi R) := by
  refine bX10_works_0 _ _ ?_
  rw [hS_s, nI_pred, nI_clamp (by omega), hS_J, ea]
  refine ⟨vp_in_nI (by omega) (by omega), fun t2 e2 => ⟨fun z => absurd rfl z, fun _ => ?_⟩⟩
  rw [e2]
  refine ⟨fun z => ?_, fun z => ?_⟩
  · refine bX10_works_40 _ _ _ (mw_is ⟨vp_in_nI (by omega) (by omega), ?_⟩)
    rw [nI_clamp (by omega), sJ_hS]
    rw [if_neg z] at H1
    exact H1
  · refine bX10_works_40 _ _ _ (mw_is ⟨vp_in_nI (by omega) (by omega), ?_⟩)
    rw [nI_clamp (by omega), sJ_hS]
    rw [if_pos z] at H1
    exact H1
/-- a code of the class and a knot of the reference -/
def cR (c s v : Int32) : Prop := (s = 0 ∧ ∃ n, n ≤ 9999 ∧ v = nI n ∧ c = nI (64 + n)) ∨ (s = 1 ∧ ∃ k, k < 7 ∧ v = nI k ∧ c = nI (14 + k)) ∨ (s = 2 ∧ c = 11 ∧ v = 260) ∨ (s = 2 ∧ ((c = 26 ∧ v = 42) ∨ (c = 24 ∧ v = 43) ∨ (c = 25 ∧ v = 45) ∨ (c = 27 ∧ v = 47) ∨ (c = 28 ∧ v = 60) ∨ (c = 30 ∧ v = 61) ∨ (c = 33 ∧ v = 62) ∨ (c = 29 ∧ v = 256) ∨ (c = 31 ∧ v = 257) ∨ (c = 32 ∧ v = 258) ∨ (c = 12 ∧ v = 261) ∨ (c = 13 ∧ v = 262)))
theorem mw_bin {R : Int32 → aH → Prop} {c v : Int32} (hcv : (c = 26 ∧ v = 42) ∨ (c = 24 ∧ v = 43) ∨ (c = 25 ∧ v = 45) ∨ (c = 27 ∧ v = 47) ∨ (c = 28 ∧ v = 60) ∨ (c = 30 ∧ v = 61) ∨ (c = 33 ∧ v = 62) ∨ (c = 29 ∧ v = 256) ∨ (c = 31 ∧ v = 257) ∨ (c = 32 ∧ v = 258) ∨ (c = 12 ∧ v = 261) ∨ (c = 13 ∧ v = 262)) (hq : q + 2 ≤ 64) (H1 : ∀ x, jvO c a b = some x → R 1 (hS h (fun c' k' => if c' = 22 ∧ k' = q then x else J c' k') (nI (q + 1)))) (H0 : jvO c a b = none → ∀ J', (∀ k, J' 21 k = J 21 k) → R 0 (hS h J' (nI (q + 1)))) (eb : J 22 (q + 1) = b) (ea : J 22 q = a) : AW (GM adK adV) l ad (d + 1) mX10_works 0 [(0, .ref (ad 0)), (1, .int v)] [] (hS h J (nI (q + 2))) (qi R) := by
  rcases hcv with ⟨rfl, rfl⟩ | ⟨rfl, rfl⟩ | ⟨rfl, rfl⟩ | ⟨rfl, rfl⟩ | ⟨rfl, rfl⟩ | ⟨rfl, rfl⟩ | ⟨rfl, rfl⟩ | ⟨rfl, rfl⟩ | ⟨rfl, rfl⟩ | ⟨rfl, rfl⟩ | ⟨rfl, rfl⟩ | ⟨rfl, rfl⟩
  · exact mw_42 hq H1 H0 eb ea
  · exact mw_43 hq H1 H0 eb ea
  · exact mw_45 hq H1 H0 eb ea
  · exact mw_47 hq H1 H0 eb ea
  · exact mw_60 hq H1 H0 eb ea
  · exact mw_61 hq H1 H0 eb ea
  · exact mw_62 hq H1 H0 eb ea
  · exact mw_256 hq H1 H0 eb ea
  · exact mw_257 hq H1 H0 eb ea
  · exact mw_258 hq H1 H0 eb ea
  · exact mw_261 hq H1 H0 eb ea
  · exact mw_262 hq H1 H0 eb ea
end ML
