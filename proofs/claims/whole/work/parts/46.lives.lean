/-! ===== calls: lives ===== -/
def nL (n : Nat) : Int64 := Int64.ofNat n
theorem nL_mul (a b : Nat) : nL a * nL b = nL (a * b) := (Int64.ofNat_mul a b).symm
theorem nL_toInt {n : Nat} (h : n < 2 ^ 63) : (nL n).toInt = n := Int64.toInt_ofNat_of_lt h
theorem nL_rem {a b : Nat} (ha : a < 2 ^ 63) (hb : b < 2 ^ 63) : nL a - nL a / nL b * nL b = nL (a % b) := by
  unfold nL
  rw [← Int64.ofNat_div ha hb, ← Int64.ofNat_mul, ← Int64.ofNat_sub _ _ (Nat.div_mul_le_self a b)]
  congr 1
  have := Nat.div_add_mod a b
  rw [Nat.mul_comm] at this
  omega
theorem nL_0 {n : Nat} (h : n < 2 ^ 63) : nL n = 0 ↔ n = 0 := by
  constructor
  · intro q
    have := nL_toInt h
    rw [q] at this
    have h0 : (0 : Int64).toInt = 0 := rfl
    omega
  · intro q; rw [q]; rfl
/-- Euclid's steps end -/
def euT : Nat → Nat → Nat → Prop
  | 0, _, b => b = 0
  | k + 1, a, b => b = 0 ∨ euT k b (a % b)
theorem eu_up : ∀ k a b, euT k a b → euT (k + 1) a b
  | 0, _, _, h => Or.inl h
  | k + 1, a, b, h => h.elim Or.inl (fun q => Or.inr (eu_up k b (a % b) q))
theorem eu_half : ∀ j a b, b < 2 ^ j → euT (2 * j + 1) a b
  | 0, _, b, h => Or.inl (by omega)
  | j + 1, a, b, h => by
    show euT (2 * j + 1 + 1 + 1) a b
    by_cases h0 : b = 0
    · exact Or.inl h0
    refine Or.inr ?_
    by_cases h1 : a % b = 0
    · exact Or.inl h1
    refine Or.inr (eu_half j _ _ ?_)
    have x1 : a % b < b := Nat.mod_lt _ (by omega)
    have x2 : b % (a % b) < a % b := Nat.mod_lt _ (by omega)
    have x3 := Nat.div_add_mod b (a % b)
    have x4 : 1 ≤ b / (a % b) := (Nat.one_le_div_iff (by omega)).mpr (by omega)
    have x5 : a % b * 1 ≤ a % b * (b / (a % b)) := Nat.mul_le_mul_left _ x4
    have : 2 * (b % (a % b)) < b := by omega
    rw [Nat.pow_succ] at h
    omega
section LI
variable {adK adV : Nat → Nat} {l l' : Launch} {ad ad' : Nat → Nat} {d d' b : Nat} {hC hM hC' hM' h : aH} {sy m t n D0 D : Nat} {ω β σ : wT} {way deaf : Int32}
theorem c_cd {R : Int64 → aH → Prop} : ∀ k i a b, i + k < 100 → euT k a b → a < 2 ^ 63 → b < 2 ^ 63 → R (nL (Nat.gcd a b)) h → AW GC l ad d mX9_commonDivisor 9 [(4, .long (nL a)), (6, .long (nL b)), (8, .int (nI i))] [] h (ql R)
  | 0, i, a, b, hi, e, ha, hb, H => by
    have e : b = 0 := e
    subst e
    rw [Nat.gcd_zero_right] at H
    exact bX9_commonDivisor_9 _ _ _ _ ⟨fun _ => H, fun _ => ⟨fun _ => H, fun z => absurd rfl z⟩⟩
  | k + 1, i, a, b, hi, e, ha, hb, H => by
    refine bX9_commonDivisor_9 _ _ _ _ ⟨fun z => absurd z (nI_ge (b := 100) (by omega) (by decide)), fun _ => ⟨fun z => ?_, fun z => ⟨z, ?_⟩⟩⟩
    · have : b = 0 := (nL_0 hb).mp z
      subst this
      rw [Nat.gcd_zero_right] at H
      exact H
    · rw [nL_rem ha hb, nI_1]
      have hb0 : b ≠ 0 := fun q => z ((nL_0 hb).mpr q)
      refine c_cd k (i + 1) b (a % b) (by omega) (e.elim (fun q => absurd q hb0) id) hb (Nat.lt_trans (Nat.mod_lt _ (by omega)) hb) ?_
      rw [Nat.gcd_comm b, ← Nat.gcd_rec, Nat.gcd_comm b a]
      exact H
theorem m_cd {R : Int64 → aH → Prop} : ∀ k a b, euT k a b → a < 2 ^ 63 → b < 2 ^ 63 → R (nL (Nat.gcd a b)) h → AW (GM adK adV) l ad d mX10_common 6 [(4, .long (nL a)), (6, .long (nL b))] [] h (ql R)
  | 0, a, b, e, ha, hb, H => by
    have e : b = 0 := e
    subst e
    rw [Nat.gcd_zero_right] at H
    exact bX10_common_6 _ _ _ ⟨fun _ => H, fun z => absurd rfl z⟩
  | k + 1, a, b, e, ha, hb, H => by
    refine bX10_common_6 _ _ _ ⟨fun z => ?_, fun z => ⟨z, ?_⟩⟩
    · have : b = 0 := (nL_0 hb).mp z
      subst this
      rw [Nat.gcd_zero_right] at H
      exact H
    · rw [nL_rem ha hb]
      have hb0 : b ≠ 0 := fun q => z ((nL_0 hb).mpr q)
      refine m_cd k b (a % b) (e.elim (fun q => absurd q hb0) id) hb (Nat.lt_trans (Nat.mod_lt _ (by omega)) hb) ?_
      rw [Nat.gcd_comm b, ← Nat.gcd_rec, Nat.gcd_comm b a]
      exact H
theorem odd_a : ∀ v, v ≤ 99 → ∃ o, o ≤ 100 ∧ (if (0 : Int32) < nI v - 60 then nI v - 60 else 0) = nI o := by
  have key : ∀ v, v ≤ 99 → (if (0 : Int32) < nI v - 60 then nI v - 60 else 0) = nI (v - 60) := by decide +kernel
  exact fun v hv => ⟨v - 60, by omega, key v hv⟩
theorem oddS_ok {e v : Nat} (hv : v ≤ 99) : ∃ o, o ≤ 100 ∧ oddS σ ω D e (nI v) = nI o := by
  unfold oddS
  by_cases z : dieV σ ω D e (nI v) = ERR
  · rw [if_pos z]; exact odd_a v hv
  · rw [if_neg z]
    generalize dieV σ ω D e (nI v) = x
    by_cases h1 : x < 100
    · rw [if_pos h1]
      by_cases h2 : x < 0
      · rw [if_pos h2]; exact ⟨0, by omega, by decide⟩
      · rw [if_neg h2]
        have a1 := Int64.lt_iff_toInt_lt.mp h1
        have a2 : ¬ x.toInt < (0 : Int64).toInt := fun q => h2 (Int64.lt_iff_toInt_lt.mpr q)
        have e1 : (100 : Int64).toInt = 100 := by decide
        have e2 : (0 : Int64).toInt = 0 := by decide
        rw [e1] at a1
        rw [e2] at a2
        refine ⟨x.toInt.toNat, by omega, ?_⟩
        have ex : x = nL x.toInt.toNat := by
          apply Int64.toInt_inj.mp
          rw [nL_toInt (by omega)]
          omega
        conv => lhs; rw [ex]
        exact Int64.toInt32_ofNat'
    · rw [if_neg h1, if_neg (by decide)]
      exact ⟨100, by omega, by decide⟩
/-- ages ahead -/
def agN (a i : Nat) : Nat := if a + i < 99 then a + i else 99
theorem agN_le {a i : Nat} : agN a i ≤ 99 := by unfold agN; split <;> omega
theorem ag_c {a i : Nat} (ha : a ≤ 99) (hi : i ≤ 6) : (if nI a + nI i < (99 : Int32) then nI a + nI i else 99) = nI (agN a i) := by
  unfold agN
  rw [nI_add]
  by_cases z : a + i < 99
  · rw [if_pos z, if_pos (show nI (a + i) < 99 from nI_lt (b := 99) z (by decide))]
  · rw [if_neg z, if_neg (show ¬ nI (a + i) < 99 from nI_nlt (b := 99) (by omega) (by omega))]; rfl
theorem ag_m {a i : Nat} (ha : a ≤ 99) : (if nI (agN a i) + 1 < (99 : Int32) then nI (agN a i) + 1 else 99) = nI (agN a (i + 1)) := by
  have := agN_le (a := a) (i := i)
  rw [nI_1]
  by_cases z : a + i + 1 < 99
  · have e1 : agN a i = a + i := by unfold agN; rw [if_pos (by omega)]
    have e2 : agN a (i + 1) = a + i + 1 := by unfold agN; rw [if_pos (by omega)]; rfl
    rw [e1, e2, if_pos (show nI (a + i + 1) < 99 from nI_lt (b := 99) z (by decide))]
  · have e2 : agN a (i + 1) = 99 := by unfold agN; rw [if_neg (by omega)]
    have e1 : ¬ agN a i + 1 < 99 := by unfold agN; split <;> omega
    rw [e2, if_neg (show ¬ nI (agN a i + 1) < 99 from nI_nlt (b := 99) (by omega) (by omega))]; rfl
theorem fac_c : ∀ o, o ≤ 100 → ((100 : Int32) - nI o).toInt64 = nL (100 - o) := by decide +kernel
theorem fac_m : ∀ o, o ≤ 100 → (100 : Int64) - (nI o).toInt64 = nL (100 - o) := by decide +kernel
/-- what is above after i tenth days -/
def abN (od : Nat → Nat) : Nat → Nat
  | 0 => 1
  | i + 1 => abN od i * (100 - od i)
theorem abN_le (od : Nat → Nat) : ∀ i, abN od i ≤ 100 ^ i
  | 0 => by unfold abN; omega
  | i + 1 => by
    unfold abN
    rw [Nat.pow_succ]
    exact Nat.mul_le_mul (abN_le od i) (by omega)
theorem p100 {i : Nat} (hi : i ≤ 6) : 100 ^ i < 2 ^ 40 ∧ 1 ≤ 100 ^ i := by
  match i, hi with
  | 0, _ => decide
  | 1, _ => decide
  | 2, _ => decide
  | 3, _ => decide
  | 4, _ => decide
  | 5, _ => decide
  | 6, _ => decide
/-- the end: a fraction in least terms -/
theorem c_l68 {R : Int64 → aH → Prop} {A k e : Nat} {x3 : Int32} (hk : k ≤ 6) (hA : A ≤ 100 ^ k) (H0 : x3 = 0 → R (nL A / nL (Nat.gcd A (100 ^ k))) h) (H1 : ¬ x3 = 0 → R (nL (100 ^ k) / nL (Nat.gcd A (100 ^ k))) h) : AW GC l ad (d + 1) mX9_lives 68 [(0, .ref (ad 0)), (1, .int (nI e)), (2, .int (nI k)), (3, .int x3), (4, .long (nL A)), (6, .long (nL (100 ^ k))), (8, .int (nI (k + 1)))] [] h (ql R) := by
  have p := p100 hk
  refine bX9_lives_68 _ _ _ _ _ _ _ ⟨fun _ => bX9_commonDivisor_0 _ _ _ (c_cd 81 0 A (100 ^ k) (by omega) (eu_half 40 _ _ p.1) (by omega) (by omega) ?_), fun z => absurd (nI_lt (by omega) (by omega)) z⟩
  have g1 : 0 < Nat.gcd A (100 ^ k) := Nat.gcd_pos_of_pos_right _ p.2
  have g2 : Nat.gcd A (100 ^ k) ≤ 100 ^ k := Nat.gcd_le_right _ p.2
  have gz : ¬ nL (Nat.gcd A (100 ^ k)) = 0 := fun q => absurd ((nL_0 (by omega)).mp q) (by omega)
  refine ⟨fun _ => ⟨fun z => ⟨gz, H1 z⟩, fun z => ⟨gz, H0 z⟩⟩, fun z => absurd ?_ z⟩
  rw [Int64.le_iff_toInt_le, nL_toInt (by omega), show (1 : Int64).toInt = 1 from by decide]
  omega
theorem m_l60 {R : Int64 → aH → Prop} {A k e : Nat} {x3 : Int32} (hk : k ≤ 6) (hA : A ≤ 100 ^ k) (H0 : x3 = 0 → R (nL A / nL (Nat.gcd A (100 ^ k))) h) (H1 : ¬ x3 = 0 → R (nL (100 ^ k) / nL (Nat.gcd A (100 ^ k))) h) : AW (GM adK adV) l ad (d + 1) mX10_lives 60 [(0, .ref (ad 0)), (1, .int (nI e)), (2, .int (nI k)), (3, .int x3), (4, .long (nL A)), (6, .long (nL (100 ^ k))), (8, .int (nI k))] [] h (ql R) := by
  have p := p100 hk
  refine bX10_lives_60 _ _ _ _ _ _ _ ⟨fun _ => bX10_common_0 _ _ _ (m_cd 81 A (100 ^ k) (eu_half 40 _ _ p.1) (by omega) (by omega) ?_), fun z => absurd (Int32.le_refl _) z⟩
  have g1 : 0 < Nat.gcd A (100 ^ k) := Nat.gcd_pos_of_pos_right _ p.2
  have g2 : Nat.gcd A (100 ^ k) ≤ 100 ^ k := Nat.gcd_le_right _ p.2
  have gz : ¬ nL (Nat.gcd A (100 ^ k)) = 0 := fun q => absurd ((nL_0 (by omega)).mp q) (by omega)
  exact ⟨fun z => ⟨gz, H1 z⟩, fun z => ⟨gz, H0 z⟩⟩
theorem odd_u2 {e : Nat} {x y : Int32} : oddS σ (u2 ω 2 e x) D e y = oddS σ ω D e y := by
  have h1 : knByS (u2 ω 2 e x) e D = knByS ω e D := by
    unfold knByS
    have : ∀ i, u2 ω 2 e x 11 i = ω 11 i := fun i => u2_j (by decide)
    simp only [this]
  have h2 : ∀ k, nmT (u2 ω 2 e x) y (bcS (knByS ω e D)) k = nmT ω y (bcS (knByS ω e D)) k := by
    intro k
    unfold nmT
    have : u2 ω 2 e x 0 13 = ω 0 13 := u2_j (by decide)
    rw [this]
  have h3 : dieV σ (u2 ω 2 e x) D e y = dieV σ ω D e y := by
    unfold dieV
    rw [h1]
    exact congrArg _ (funext h2)
  unfold oddS
  rw [h3]
theorem j_lives {x1 x2 x3 : Int32} (g : GR hC hM) : AW GC l ad (d + 4) mX9_lives 0 [(0, .ref (ad 0)), (1, .int x1), (2, .int x2), (3, .int x3)] [] hC (ql (jl l' ad' (d' + 4) adK adV mX10_lives [(0, .ref (ad' 0)), (1, .int x1), (2, .int x2), (3, .int x3)] hM)) := by
  obtain ⟨sy, m, t, n, D0, D, g⟩ := g
  have g2 := g_thr g
  have G : GR hC (sI hM 0 0 0) := ⟨_, _, _, _, _, _, g2⟩
  obtain ⟨e1, e2, e3, e4, e5, e6, hm, ht, hD⟩ := g_S g2
  obtain ⟨I, r, N⟩ := g2.2.1
  have S := g2.1.2.2.2.1
  have C := g2.1.2.2.2.2.1
  have hsy := g_sy g2
  refine bX9_lives_0 _ _ _ _ (c_isTusk g ?_)
  cases hx : isIn x1 t
  · refine ⟨fun _ => bX10_lives_0 _ _ _ _ (m_isTusk g2 ?_), fun z => absurd rfl z⟩
    rw [hx]; exact ⟨fun _ => ⟨rfl, G⟩, fun z => absurd rfl z⟩
  obtain ⟨e, he, rfl⟩ := isIn_of (by omega) hx
  refine ⟨fun z => absurd z (by decide), fun _ => cH (w := 66) (sp_isAlive isW_66 (by omega) ?_)⟩
  rw [pW_wq]
  have M0 : ∀ (R : Int64 → aH → Prop), (bt (wq hC 66 0 12) e = false → R (-1) (sI hM 0 0 0)) → (x2 < 0 → R (-1) (sI hM 0 0 0)) → (6 < x2 → R (-1) (sI hM 0 0 0)) → (x3 < 0 → R (-1) (sI hM 0 0 0)) → (¬ x3 ≤ 1 → R (-1) (sI hM 0 0 0)) → (bt (wq hC 66 0 12) e = true → ¬ x2 < 0 → ¬ 6 < x2 → ¬ x3 < 0 → x3 ≤ 1 → AW (GM adK adV) l' ad' (d' + 3) mX10_copies 0 [(0, .ref (ad' 0)), (1, .int (1 : Int32)), (2, .int (0 : Int32))] [] (sI hM 0 0 0) (qv fun h5 => AW (GM adK adV) l' ad' (d' + 4) mX10_lives 60 [(0, .ref (ad' 0)), (1, .int (nI e)), (2, .int x2), (3, .int x3), (4, .long (1 : Int64)), (6, .long (1 : Int64)), (8, .int (0 : Int32))] [] h5 (ql R))) → AW (GM adK adV) l' ad' (d' + 4) mX10_lives 0 [(0, .ref (ad' 0)), (1, .int (nI e)), (2, .int x2), (3, .int x3)] [] hM (ql R) := by
    intro R k1 k2 k3 k4 k5 k6
    refine bX10_lives_0 _ _ _ _ (m_isTusk g2 ?_)
    rw [hx]
    refine ⟨fun z => absurd z (by decide), fun _ => mH (b := 0) (m_isAlive (b := 0) (by decide) (by omega) ?_)⟩
    rw [pB_bk, r.2.1]
    cases hal : bt (wq hC 66 0 12) e
    · exact ⟨fun _ => k1 hal, fun z => absurd rfl z⟩
    · exact ⟨fun z => absurd z (by decide), fun _ => ⟨k2, fun q2 => ⟨k3, fun q3 => ⟨k4, fun q4 => ⟨fun q5 => k6 hal q2 q3 q4 q5, k5⟩⟩⟩⟩⟩
  have B : (bt (wq hC 66 0 12) e = false ∨ x2 < 0 ∨ 6 < x2 ∨ x3 < 0 ∨ ¬ x3 ≤ 1) → AW (GM adK adV) l' ad' (d' + 4) mX10_lives 0 [(0, .ref (ad' 0)), (1, .int (nI e)), (2, .int x2), (3, .int x3)] [] hM (ql fun z' hM' => z' = -1 ∧ GR hC hM') := by
    intro hb
    refine M0 _ (fun _ => ⟨rfl, G⟩) (fun _ => ⟨rfl, G⟩) (fun _ => ⟨rfl, G⟩) (fun _ => ⟨rfl, G⟩) (fun _ => ⟨rfl, G⟩) (fun q1 q2 q3 q4 q5 => ?_)
    exfalso
    rcases hb with q | q | q | q | q
    · rw [q] at q1; cases q1
    · exact q2 q
    · exact q3 q
    · exact q4 q
    · exact q q5
  cases hal : bt (wq hC 66 0 12) e
  · exact ⟨fun _ => B (Or.inl hal), fun z => absurd rfl z⟩
  refine ⟨fun z => absurd z (by decide), fun _ => ⟨fun z => B (Or.inr (Or.inl z)), fun z2 => ⟨fun z => B (Or.inr (Or.inr (Or.inl z))), fun z3 => ⟨fun z => B (Or.inr (Or.inr (Or.inr (Or.inl z)))), fun z4 => ⟨fun z5 => ?_, fun z => B (Or.inr (Or.inr (Or.inr (Or.inr z))))⟩⟩⟩⟩⟩
  obtain ⟨k, hk, rfl⟩ := nI_of z2
  have hk6 : k ≤ 6 := Nat.le_of_not_lt (fun q => z3 ((nI_ltI (a := 6) (b := k) (by decide) hk).mpr q))
  have gf : GQ (foll hC sy 66 0 0) (sI hM 0 0 0) sy m t n D0 D := gq_frame kC_foll kM_rfl g2
  have ew : wd (foll hC sy 66 0 0) sy = wd hC sy := wd_foll hsy
  have eq : wq (foll hC sy 66 0 0) 66 = wq hC 66 := wq_foll (by decide)
  have wf : WFw m t D (wq hC 66) := I.1
  obtain ⟨a, ha, ea⟩ := I.2.1.2 e he
  have oc : ∀ i, oddS (wd hC sy) (wq hC 66) D e (nI (agN a (i + 1))) = nI ((oddS_ok (σ := wd hC sy) (ω := wq hC 66) (D := D) (e := e) (agN_le (a := a) (i := i + 1))).choose) := fun i => (oddS_ok (σ := wd hC sy) (ω := wq hC 66) (D := D) (e := e) (agN_le (a := a) (i := i + 1))).choose_spec.2
  have ol : ∀ i, (oddS_ok (σ := wd hC sy) (ω := wq hC 66) (D := D) (e := e) (agN_le (a := a) (i := i + 1))).choose ≤ 100 := fun i => (oddS_ok (σ := wd hC sy) (ω := wq hC 66) (D := D) (e := e) (agN_le (a := a) (i := i + 1))).choose_spec.1
  obtain ⟨od, hod⟩ : ∃ od : Nat → Nat, ∀ i, od i ≤ 100 ∧ oddS (wd hC sy) (wq hC 66) D e (nI (agN a (i + 1))) = nI (od i) := ⟨_, fun i => ⟨ol i, oc i⟩⟩
  clear oc ol
  refine mref e1 ⟨e2, c_follow g isW_66 ?_⟩
  -- the class's tenth days
  have CC : ∀ R : Int64 → aH → Prop, (∀ hC', kC hC hC' → (x3 = 0 → R (nL (abN od k) / nL (Nat.gcd (abN od k) (100 ^ k))) hC') ∧ (¬ x3 = 0 → R (nL (100 ^ k) / nL (Nat.gcd (abN od k) (100 ^ k))) hC')) → AW GC l ad (d + 4) mX9_lives 68 [(0, .ref (ad 0)), (1, .int (nI e)), (2, .int (nI k)), (3, .int x3), (4, .long (1 : Int64)), (6, .long (1 : Int64)), (8, .int (1 : Int32))] [] (foll hC sy 66 0 0) (ql R) := by
    intro R H
    have key := up_ind (P := fun i => ∀ J, AW GC l ad (d + 4) mX9_lives 68 [(0, .ref (ad 0)), (1, .int (nI e)), (2, .int (nI k)), (3, .int x3), (4, .long (nL (abN od i))), (6, .long (nL (100 ^ i))), (8, .int (nI (i + 1)))] [] (pW (hJ (foll hC sy 66 0 0) J) 66 (wq hC 66)) (ql R)) k (fun J => ?_) (fun i hi ih J => ?_)
    · have := key (foll hC sy 66 0 0).2.1
      rw [← eq] at this
      have e9 : pW (hJ (foll hC sy 66 0 0) (foll hC sy 66 0 0).2.1) 66 (wq (foll hC sy 66 0 0) 66) = foll hC sy 66 0 0 := pW_wq _ _
      rw [e9] at this
      exact this
    · have kc := kC_fJ (hC := hC) (sy := sy) (way := 0) (deaf := 0) (J := J)
      rw [eq] at kc
      exact c_l68 hk6 (abN_le od k) (H _ kc).1 (H _ kc).2
    · refine bX9_lives_68 _ _ _ _ _ _ _ ⟨fun z => absurd z (nI_nlt (by omega) (by omega)), fun _ => ⟨vp_in_nI (by omega) (by decide), ?_⟩⟩
      have e68 : (pW (hJ (foll hC sy 66 0 0) J) 66 (wq hC 66)).1 68 (nI e).toNatClampNeg = nI a := by
        rw [nI_clamp (by omega), ← ea]
        exact pW_get (w := 66) (j := 2) (by decide)
      rw [e68, ag_c ha (by omega)]
      have CTf : CT (hJ (foll hC sy 66 0 0) J) 66 sy 0 0 := ct_J (ct_foll (h := hC) (sy := sy) (w := 66) (way := 0) (deaf := 0) e2 isW_66 (by omega) (by decide)) J
      have ew2 : wd (hJ (foll hC sy 66 0 0) J) sy = wd hC sy := ew
      refine sp_oddsOf CTf wf (by rw [ew2]; exact S.2.2.2.2.2.2.2.2) (fun J' => ?_)
      rw [ew2, (hod i).2, fac_c _ (hod i).1, nL_mul, show (100 : Int64) = nL 100 from rfl, nL_mul, ← Nat.pow_succ, nI_1]
      exact ih J'
  have MM : ∀ R : Int64 → aH → Prop, (∀ hM', kM (sI hM 0 0 0) hM' → (x3 = 0 → R (nL (abN od k) / nL (Nat.gcd (abN od k) (100 ^ k))) hM') ∧ (¬ x3 = 0 → R (nL (100 ^ k) / nL (Nat.gcd (abN od k) (100 ^ k))) hM')) → AW (GM adK adV) l' ad' (d' + 4) mX10_lives 0 [(0, .ref (ad' 0)), (1, .int (nI e)), (2, .int (nI k)), (3, .int x3)] [] hM (ql R) := by
    intro R H
    refine M0 _ (fun q => by rw [hal] at q; cases q) (fun q => absurd q z2) (fun q => absurd q z3) (fun q => absurd q z4) (fun q => absurd z5 q) (fun _ _ _ _ _ => m_copies (x := 1) (y := 0) (by decide) (by decide) (by decide) ?_)
    have eh : pB (sI hM 0 0 0) 1 (bkT (sI hM 0 0 0) 0) = pB (hS (sI hM 0 0 0) (sI hM 0 0 0).2.1 ((sI hM 0 0 0).1 0 37)) 1 (bkT (sI hM 0 0 0) 0) := by rw [hS_self]
    rw [eh]
    have ag0 : nI (agN a 0) = nI a := by
      unfold agN
      by_cases z : a + 0 < 99
      · rw [if_pos z]; rfl
      · rw [if_neg z]; congr 1; omega
    have r0 : RelW m t D (u2 (wq hC 66) 2 e (nI (agN a 0))) (bkT (sI hM 0 0 0) 0) := by
      rw [u2_id (ea.trans ag0.symm)]; exact r
    refine up_ind (P := fun i => ∀ β J n', RelW m t D (u2 (wq hC 66) 2 e (nI (agN a i))) β → AW (GM adK adV) l' ad' (d' + 4) mX10_lives 60 [(0, .ref (ad' 0)), (1, .int (nI e)), (2, .int (nI k)), (3, .int x3), (4, .long (nL (abN od i))), (6, .long (nL (100 ^ i))), (8, .int (nI i))] [] (pB (hS (sI hM 0 0 0) J n') 1 β) (ql R)) k (fun β J n' ri => ?_) (fun i hi ih β J n' ri => ?_) _ _ _ r0
    · have km := kM_pB1 (hM := sI hM 0 0 0) (J := J) (n' := n') (β := β)
      exact m_l60 hk6 (abN_le od k) (H _ km).1 (H _ km).2
    · refine bX10_lives_60 _ _ _ _ _ _ _ ⟨fun z => absurd z (nI_ge hi (by omega)), fun _ => ?_⟩
      rw [show (6 : Int32) + nI e = nI (6 * 1 + e) from nI_add 6 e, nI_clamp (by omega), pB_get (a28 (by omega)), sI_pB (a28 (by omega)), ri.2.2.2.2.2.1 e he, u2_s, ag_m ha]
      refine ⟨vp_in_nI (by omega) (by decide), href ?_⟩
      have rn : RelW m t D (u2 (wq hC 66) 2 e (nI (agN a (i + 1)))) (u2 β 2 e (nI (agN a (i + 1)))) := by
        have := rel_a ri (p := e) (v := nI (agN a (i + 1)))
        have e0 : u2 (u2 (wq hC 66) 2 e (nI (agN a i))) 2 e (nI (agN a (i + 1))) = u2 (wq hC 66) 2 e (nI (agN a (i + 1))) := by
          funext j k
          unfold u2
          by_cases z : j = 2 ∧ k = e
          · rw [if_pos z, if_pos z]
          · rw [if_neg z, if_neg z, if_neg z]
        rw [e0] at this
        exact this
      refine m_mortal (b := 1) C (by decide) (wf_u wf (by decide) (by decide) (by decide) (by decide) (by decide)) rn he (fun J' n2 => ?_)
      rw [u2_s, odd_u2, (hod i).2, fac_m _ (hod i).1, nL_mul, show (100 : Int64) = nL 100 from rfl, nL_mul, ← Nat.pow_succ, nI_1]
      exact ih _ J' n2 rn
  refine CC _ (fun hC' kc => ⟨fun q => MM _ (fun hM' km => ⟨fun _ => ⟨rfl, _, _, _, _, _, _, gq_frame kc km g2⟩, fun w => absurd q w⟩), fun q => MM _ (fun hM' km => ⟨fun w => absurd w q, fun _ => ⟨rfl, _, _, _, _, _, _, gq_frame kc km g2⟩⟩)⟩)
end LI
