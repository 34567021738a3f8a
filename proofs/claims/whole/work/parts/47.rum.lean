/-! ===== rumours: what a day does to them ===== -/
theorem and_m1 (x : Int32) : x &&& (-1) = x := by
  refine bt_ext (fun i hi => ?_)
  rw [bt_and]
  have : bt (-1) i = true := by
    have h0 := bt_not 0 hi
    rw [bt_0] at h0
    simpa using h0
  rw [this, Bool.and_true]
theorem zero_and32 (x : Int32) : (0 : Int32) &&& x = 0 := by
  refine bt_ext (fun i hi => ?_)
  rw [bt_and, bt_0, Bool.false_and]
/-- deaths: who lives and who has heard, both by one mask -/
def RK (ω ω' : wT) : Prop := ∃ M : Int32, ω' 0 12 = ω 0 12 &&& M ∧ ∀ e, e < 6 → ω' 11 (8 + e) = ω 11 (8 + e) &&& M
/-- nothing of it changes, nor the day -/
def SM (ω ω' : wT) : Prop := ω' 0 12 = ω 0 12 ∧ ω' 0 13 = ω 0 13 ∧ ∀ e, ω' 11 (8 + e) = ω 11 (8 + e)
section RU
variable {ω ω' ω'' σ : wT} {t D n : Nat} {way deaf : Int32}
theorem sm_rfl : SM ω ω := ⟨rfl, rfl, fun _ => rfl⟩
theorem sm_tr (a : SM ω ω') (b : SM ω' ω'') : SM ω ω'' := ⟨b.1.trans a.1, b.2.1.trans a.2.1, fun e => (b.2.2 e).trans (a.2.2 e)⟩
theorem sm_rk (a : SM ω ω') : RK ω ω' := ⟨-1, by rw [and_m1]; exact a.1, fun e _ => by rw [and_m1]; exact a.2.2 e⟩
theorem rk_rfl : RK ω ω := sm_rk sm_rfl
theorem rk_tr (a : RK ω ω') (b : RK ω' ω'') : RK ω ω'' := by
  obtain ⟨M, a1, a2⟩ := a
  obtain ⟨K, b1, b2⟩ := b
  exact ⟨M &&& K, by rw [b1, a1, Int32.and_assoc], fun e he => by rw [b2 e he, a2 e he, Int32.and_assoc]⟩
theorem rk_itB {f : Nat → wT → wT} {B : Nat} (hf : ∀ i ω, i < B → RK ω (f i ω)) : ∀ k, k ≤ B → ∀ (ω : wT), RK ω (itR f k ω)
  | 0, _, _ => rk_rfl
  | k + 1, hk, ω => rk_tr (rk_itB hf k (by omega) ω) (hf k _ (by omega))
theorem sm_itB {f : Nat → wT → wT} {B : Nat} (hf : ∀ i ω, i < B → SM ω (f i ω)) : ∀ k, k ≤ B → ∀ (ω : wT), SM ω (itR f k ω)
  | 0, _, _ => sm_rfl
  | k + 1, hk, ω => sm_tr (sm_itB hf k (by omega) ω) (hf k _ (by omega))
theorem sm_u {j k : Nat} {v : Int32} (h : j ≠ 0 ∧ j ≠ 11 ∨ j = 11 ∧ k < 8) : SM ω (u2 ω j k v) := by
  refine ⟨u2_j (by omega), u2_j (by omega), fun e => ?_⟩
  by_cases z : j = 11
  · subst z; exact u2_k (by omega)
  · exact u2_j (Ne.symm z)
theorem sm_end {i : Nat} {how : Int32} (hi : i < 8) : SM ω (endW ω i how) := by
  unfold endW
  exact sm_tr (sm_tr (sm_u (Or.inl ⟨by decide, by decide⟩)) (sm_u (Or.inl ⟨by decide, by decide⟩))) (sm_u (Or.inr ⟨rfl, hi⟩))
theorem sm_open {i a b : Nat} {x y : Int32} (hi : i < 8) : SM ω (openW ω i a b x y) := by
  unfold openW
  exact sm_tr (sm_tr (sm_tr (sm_tr (sm_tr (sm_u (Or.inl ⟨by decide, by decide⟩)) (sm_u (Or.inl ⟨by decide, by decide⟩))) (sm_u (Or.inl ⟨by decide, by decide⟩))) (sm_u (Or.inl ⟨by decide, by decide⟩))) (sm_u (Or.inl ⟨by decide, by decide⟩))) (sm_u (Or.inr ⟨rfl, hi⟩))
theorem sm_settle {i a b : Nat} (hi : i < 8) : SM ω (settleW ω i a b) := by
  unfold settleW
  exact sm_tr (sm_tr (sm_u (Or.inl ⟨by decide, by decide⟩)) (sm_u (Or.inl ⟨by decide, by decide⟩))) (sm_end hi)
theorem rk_bury {x : Int32} : RK ω (buryW ω x) := by
  refine ⟨((1 : Int32) <<< (x &&& 31)) ^^^ (-1), ?_, fun e he => ?_⟩
  · unfold buryW; rw [fgW_off (by decide), u2_s]
  · unfold buryW; rw [fgW_at, if_pos ⟨rfl, by omega⟩, u2_j (by decide)]
theorem sm_lend (i : Nat) (ω : wT) (hi : i < 8) : SM ω (lendSt σ deaf i ω) := by
  unfold lendSt
  split
  · split
    · split
      · split
        · exact sm_end hi
        · exact sm_open hi
      · exact sm_end hi
    · exact sm_rfl
  · exact sm_rfl
theorem rk_die (i : Nat) (ω : wT) : RK ω (dieSt σ i ω) := by
  unfold dieSt
  split
  · exact rk_bury
  · exact rk_rfl
theorem sm_pay (i : Nat) (ω : wT) (hi : i < 8) : SM ω (paySt σ i ω) := by
  unfold paySt
  split
  · split
    · exact sm_rfl
    · split
      · exact sm_settle hi
      · exact sm_rfl
  · exact sm_rfl
theorem sm_int (i : Nat) (ω : wT) : SM ω (intSt σ i ω) := by
  unfold intSt
  split
  · exact sm_u (Or.inl ⟨by decide, by decide⟩)
  · exact sm_rfl
theorem sm_forg (i : Nat) (ω : wT) (hi : i < 8) : SM ω (forgSt i ω) := by
  unfold forgSt
  split
  · split
    · exact sm_end hi
    · exact sm_rfl
  · exact sm_rfl
theorem rk_fat {odds : Int32} : RK ω (fatS way ω odds).1 := by
  unfold fatS
  split
  · split
    · exact rk_rfl
    · split
      · exact rk_rfl
      · refine ⟨-1, ?_, fun e _ => ?_⟩
        · rw [and_m1]; exact (u2_k (by decide) : u2 ω 0 14 (nextN (ω 0 14)) 0 12 = ω 0 12)
        · rw [and_m1]; exact (u2_j (by decide) : u2 ω 0 14 (nextN (ω 0 14)) 11 (8 + e) = ω 11 (8 + e))
  · exact rk_rfl
theorem rk_grow (i : Nat) (ω : wT) : RK ω (growSt σ way D i ω) := by
  have h1 : ∀ v, RK ω (u2 ω 2 i v) := fun v => sm_rk (sm_u (Or.inl ⟨by decide, by decide⟩))
  unfold growSt
  split
  · split
    · exact h1 _
    · split
      · exact rk_tr (rk_tr (h1 _) rk_fat) rk_bury
      · exact rk_tr (h1 _) rk_fat
  · exact rk_rfl
theorem passO {one j k : Nat} {bit : Int32} : ∀ r (q : wT × Int32), (j = 11 → r ≤ k) → (itR (passSt σ D one bit) r q).1 j k = q.1 j k
  | 0, _, _ => rfl
  | r + 1, q, h => by
    rw [← passO r q (fun z => by have := h z; omega)]
    show (passSt σ D one bit r (itR (passSt σ D one bit) r q)).1 j k = _
    generalize itR (passSt σ D one bit) r q = p
    unfold passSt
    split
    · split
      · split
        · rfl
        · split
          · rfl
          · show u2 p.1 11 r (p.1 11 r ||| bit) j k = p.1 j k
            by_cases z : j = 11
            · rw [u2_k (by have := h z; omega)]
            · rw [u2_j z]
      · rfl
    · rfl
theorem rum_o {one other j k : Nat} : ∀ r (ω : wT), (j ≠ 11 ∨ k < 8 ∨ 8 + r ≤ k) → itR (rumSt one other) r ω j k = ω j k
  | 0, _, _ => rfl
  | r + 1, ω, h => by
    rw [← rum_o r ω (by omega)]
    show rumSt one other r (itR (rumSt one other) r ω) j k = _
    generalize itR (rumSt one other) r ω = p
    unfold rumSt
    split
    · by_cases z : j = 11
      · rw [u2_k (by omega)]
      · rw [u2_j z]
    · rfl
theorem rum_at {one other e : Nat} : ∀ r (ω : wT), e < r → itR (rumSt one other) r ω 11 (8 + e) = if bt (ω 11 (8 + e)) one then ω 11 (8 + e) ||| ((1 : Int32) <<< (nI other &&& 31)) else ω 11 (8 + e)
  | 0, _, h => absurd h (Nat.not_lt_zero _)
  | r + 1, ω, h => by
    show rumSt one other r (itR (rumSt one other) r ω) 11 (8 + e) = _
    by_cases z : e = r
    · subst z
      have h0 := rum_o (one := one) (other := other) (j := 11) (k := 8 + e) e ω (by omega)
      unfold rumSt at h0 ⊢
      rw [h0]
      split
      · rw [u2_s]
      · exact h0
    · rw [← rum_at r ω (by omega)]
      generalize itR (rumSt one other) r ω = p
      unfold rumSt
      split
      · rw [u2_k (by omega)]
      · rfl
/-- a day's leanings over what is told about -/
def rtS (σ : wT) (dy al : Int32) (k : Nat) (x : Int32) : Int32 := if σ 7 k = dy then (if bt al (ix (σ 5 k)) then (if bt al (ix (σ 6 k)) then (if bt x (ix (σ 5 k)) then x ||| ((1 : Int32) <<< (nI (ix (σ 6 k)) &&& 31)) else x) else x) else x) else x
theorem lean_rum {k : Nat} (hD : D ≤ 8) : leanSt σ D deaf k ω 0 12 = ω 0 12 ∧ leanSt σ D deaf k ω 0 13 = ω 0 13 ∧ ∀ e, e < 6 → leanSt σ D deaf k ω 11 (8 + e) = rtS σ (ω 0 13) (ω 0 12) k (ω 11 (8 + e)) := by
  unfold leanSt rtS
  split
  · split
    · split
      · refine ⟨?_, ?_, fun e he => ?_⟩
        · rw [rum_o _ _ (Or.inl (by decide))]; unfold passW; rw [passO _ _ (fun z => absurd z (by decide))]
        · rw [rum_o _ _ (Or.inl (by decide))]; unfold passW; rw [passO _ _ (fun z => absurd z (by decide))]
        · rw [rum_at _ _ he]; unfold passW; rw [passO _ _ (fun _ => by omega)]
      · exact ⟨rfl, rfl, fun _ _ => rfl⟩
    · exact ⟨rfl, rfl, fun _ _ => rfl⟩
  · exact ⟨rfl, rfl, fun _ _ => rfl⟩
theorem leanIt_rum (hD : D ≤ 8) : ∀ k (ω : wT), itR (leanSt σ D deaf) k ω 0 12 = ω 0 12 ∧ itR (leanSt σ D deaf) k ω 0 13 = ω 0 13 ∧ ∀ e, e < 6 → itR (leanSt σ D deaf) k ω 11 (8 + e) = itR (rtS σ (ω 0 13) (ω 0 12)) k (ω 11 (8 + e))
  | 0, _ => ⟨rfl, rfl, fun _ _ => rfl⟩
  | k + 1, ω => by
    obtain ⟨i1, i2, i3⟩ := leanIt_rum hD k ω
    obtain ⟨a1, a2, a3⟩ := lean_rum (σ := σ) (deaf := deaf) (k := k) (ω := itR (leanSt σ D deaf) k ω) hD
    refine ⟨a1.trans i1, a2.trans i2, fun e he => ?_⟩
    show leanSt σ D deaf k (itR (leanSt σ D deaf) k ω) 11 (8 + e) = rtS σ (ω 0 13) (ω 0 12) k (itR (rtS σ (ω 0 13) (ω 0 12)) k (ω 11 (8 + e)))
    rw [a3 e he, i1, i2, i3 e he]
/-- only those who live hear -/
theorem rt_sub {dy al x : Int32} (hs : ∀ k, k < n → ix (σ 6 k) < 32) (h : x &&& al = x) : ∀ k, k ≤ n → itR (rtS σ dy al) k x &&& al = itR (rtS σ dy al) k x
  | 0, _ => h
  | k + 1, hk => by
    have ih := rt_sub (dy := dy) hs h k (by omega)
    show rtS σ dy al k (itR (rtS σ dy al) k x) &&& al = rtS σ dy al k (itR (rtS σ dy al) k x)
    generalize itR (rtS σ dy al) k x = y at ih
    unfold rtS
    split
    · split
      · split
        · rename_i q
          split
          · refine bt_ext (fun i hi => ?_)
            have := congrArg (fun z => bt z i) ih
            simp only [bt_and] at this
            rw [bt_and, bt_or, bt_one (hs k (by omega)) hi]
            by_cases z : i = ix (σ 6 k)
            · rw [z, q]; simp
            · rw [decide_eq_false z, Bool.or_false]; exact this
          · exact ih
        · exact ih
      · exact ih
    · exact ih
theorem day_rum (hD : D ≤ 8) (hs : ∀ k, k < n → ix (σ 6 k) < 32) {e : Nat} (he : e < 6) (h : ω 11 (8 + e) &&& ω 0 12 = ω 11 (8 + e)) : dayW σ t D n 0 0 ω 11 (8 + e) = itR (rtS σ (ω 0 13) (ω 0 12)) n (ω 11 (8 + e)) &&& dayW σ t D n 0 0 ω 0 12 := by
  have a := sm_itB (f := lendSt σ 0) (B := D) (fun i ω hi => sm_lend i ω (by omega)) D (Nat.le_refl _) ω
  obtain ⟨b1, b2, b3⟩ := leanIt_rum (σ := σ) (deaf := 0) hD n (itR (lendSt σ 0) D ω)
  have e2 : day2 σ D n 0 0 ω = itR (leanSt σ D 0) n (itR (lendSt σ 0) D ω) := if_neg (by decide)
  have c : RK (day2 σ D n 0 0 ω) (dayW σ t D n 0 0 ω) := by
    have h3 : RK (day2 σ D n 0 0 ω) (day3 σ t D n 0 0 ω) := by
      unfold day3
      split
      · exact rk_rfl
      · exact rk_itB (B := t) (fun i ω _ => rk_die i ω) t (Nat.le_refl _) _
    have h4 : RK (day2 σ D n 0 0 ω) (day4 σ t D n 0 0 ω) := by
      unfold day4
      split
      · exact h3
      · exact rk_tr h3 (rk_itB (B := D) (fun i ω hi => sm_rk (sm_pay i ω (by omega))) D (Nat.le_refl _) _)
    have h5 : RK (day2 σ D n 0 0 ω) (day5 σ t D n 0 0 ω) := by
      unfold day5
      split
      · exact rk_tr (rk_tr h4 (rk_itB (B := D) (fun i ω hi => sm_rk (sm_int i ω)) D (Nat.le_refl _) _)) (rk_itB (B := t) (fun i ω _ => rk_grow i ω) t (Nat.le_refl _) _)
      · exact h4
    unfold dayW
    refine rk_tr (rk_tr h5 (rk_itB (B := D) (fun i ω hi => sm_rk (sm_forg i ω (by omega))) D (Nat.le_refl _) _)) ⟨-1, ?_, fun e _ => ?_⟩
    · rw [and_m1]; exact u2_k (by decide)
    · rw [and_m1]; exact u2_j (by decide)
  obtain ⟨M, m1, m2⟩ := c
  rw [m2 e he, m1, e2, b3 e he, b1, a.1, a.2.1, a.2.2 e, ← Int32.and_assoc, rt_sub hs h n (Nat.le_refl _)]
theorem rum_sub (hD : D ≤ 8) (hs : ∀ k, k < n → ix (σ 6 k) < 32) {e : Nat} (he : e < 6) (h : ω 11 (8 + e) &&& ω 0 12 = ω 11 (8 + e)) : ∀ q, daysW σ t D n 0 0 q ω 11 (8 + e) &&& daysW σ t D n 0 0 q ω 0 12 = daysW σ t D n 0 0 q ω 11 (8 + e)
  | 0 => h
  | q + 1 => by
    have ih := rum_sub hD hs he h q
    show dayW σ t D n 0 0 (daysW σ t D n 0 0 q ω) 11 (8 + e) &&& dayW σ t D n 0 0 (daysW σ t D n 0 0 q ω) 0 12 = dayW σ t D n 0 0 (daysW σ t D n 0 0 q ω) 11 (8 + e)
    rw [day_rum hD hs he ih, Int32.and_assoc, Int32.and_self]
theorem rt_0 {dy al : Int32} : ∀ k, itR (rtS σ dy al) k 0 = 0
  | 0 => rfl
  | k + 1 => by
    show rtS σ dy al k (itR (rtS σ dy al) k 0) = 0
    rw [rt_0 k]
    unfold rtS
    rw [bt_0]
    simp
theorem rum_0 (hD : D ≤ 8) (hs : ∀ k, k < n → ix (σ 6 k) < 32) {e : Nat} (he : e < 6) (h : ω 11 (8 + e) &&& ω 0 12 = ω 11 (8 + e)) {q : Nat} (z : daysW σ t D n 0 0 q ω 11 (8 + e) = 0) : daysW σ t D n 0 0 (q + 1) ω 11 (8 + e) = 0 := by
  show dayW σ t D n 0 0 (daysW σ t D n 0 0 q ω) 11 (8 + e) = 0
  rw [day_rum hD hs he (rum_sub hD hs he h q), z, rt_0, zero_and32]
end RU
/-- how long it is known: the class's count, the reference's -/
def LL (f : Nat → wT) (e : Nat) (q : Nat) : Int32 := itR (fun k v => if f k 11 (8 + e) = 0 then v else nI (k + 1)) q 0
def lsV (f : Nat → wT) (e : Nat) : Nat → Nat → Int32
  | _, 0 => 99
  | k, q + 1 => if f (k + 1) 11 (8 + e) = 0 then nI (k + 1) else lsV f e (k + 1) q
theorem LL_0 {f : Nat → wT} {e : Nat} (h0 : ∀ q, f q 11 (8 + e) = 0 → f (q + 1) 11 (8 + e) = 0) {k : Nat} (hz : f k 11 (8 + e) = 0) : ∀ r, LL f e (k + r) = LL f e k ∧ f (k + r) 11 (8 + e) = 0
  | 0 => ⟨rfl, hz⟩
  | r + 1 => by
    obtain ⟨a, b⟩ := LL_0 h0 hz r
    refine ⟨?_, h0 _ b⟩
    show (if f (k + r) 11 (8 + e) = 0 then LL f e (k + r) else nI (k + r + 1)) = _
    rw [if_pos b, a]
theorem LL_ls {f : Nat → wT} {e : Nat} (h0 : ∀ q, f q 11 (8 + e) = 0 → f (q + 1) 11 (8 + e) = 0) : ∀ q k, k + q = 99 → ¬ f k 11 (8 + e) = 0 → (k = 99 → LL f e 99 = 99) → LL f e 99 = lsV f e k q
  | 0, k, hk, h, h9 => h9 (by omega)
  | q + 1, k, hk, h, h9 => by
    have e1 : LL f e (k + 1) = nI (k + 1) := by
      show (if f k 11 (8 + e) = 0 then LL f e k else nI (k + 1)) = _
      rw [if_neg h]
    unfold lsV
    by_cases z : f (k + 1) 11 (8 + e) = 0
    · rw [if_pos z]
      have := (LL_0 h0 z (99 - (k + 1))).1
      rw [show k + 1 + (99 - (k + 1)) = 99 by omega] at this
      rw [this, e1]
    · rw [if_neg z]
      refine LL_ls h0 q (k + 1) (by omega) z (fun w => ?_)
      rw [← w, e1, w]; rfl
/-- the choice among those who live -/
def bfS (al : Nat → Bool) (L bu : Nat → Int32) (e : Nat) (s : Option (Nat × Int32)) : Option (Nat × Int32) :=
  if al e then (match s with
    | none => some (e, L e)
    | some p => if L e = p.2 then (if bu e < bu p.1 then some (e, L e) else s) else if p.2 < L e then some (e, L e) else s) else s
theorem bf_ext {al : Nat → Bool} {L L' bu : Nat → Int32} {n : Nat} (h : ∀ e, e < n → al e = true → L e = L' e) : ∀ k, k ≤ n → itR (bfS al L bu) k none = itR (bfS al L' bu) k none
  | 0, _ => rfl
  | k + 1, hk => by
    show bfS al L bu k (itR (bfS al L bu) k none) = bfS al L' bu k (itR (bfS al L' bu) k none)
    rw [bf_ext h k (by omega)]
    unfold bfS
    split
    · rename_i q
      rw [h k (by omega) q]
    · rfl
theorem bf_lt {al : Nat → Bool} {L bu : Nat → Int32} : ∀ k p, itR (bfS al L bu) k none = some p → p.1 < k
  | 0, p, h => by cases h
  | k + 1, p, h => by
    have ih := bf_lt (al := al) (L := L) (bu := bu) k
    have h : bfS al L bu k (itR (bfS al L bu) k none) = some p := h
    generalize itR (bfS al L bu) k none = s at ih h
    unfold bfS at h
    split at h
    · match s, ih, h with
      | none, _, h => cases h; exact Nat.lt_succ_self k
      | some s, ih, h =>
        dsimp only at h
        split at h
        · split at h
          · cases h; exact Nat.lt_succ_self k
          · have := ih p h; omega
        · split at h
          · cases h; exact Nat.lt_succ_self k
          · have := ih p h; omega
    · have := ih p h; omega
def bfV (s : Option (Nat × Int32)) (x : Int32) : Int32 := match s with
  | none => -2
  | some p => if x = 0 then nI p.1 else p.2
