/-! ===== class and reference side by side: what is kept alike ===== -/
/-- who lends is not who borrows; no day changes either -/
def O9 (ω : wT) (i : Nat) : Prop := (∃ v, v ≤ 9999 ∧ ω 9 i = nI v) ∧ ∃ v, v ≤ 99 ∧ ω 5 i = nI v
def InvN (D : Nat) (ω : wT) : Prop := ∀ i, i < D → ¬ ω 3 i = ω 4 i ∧ ¬ ω 8 i < 0 ∧ O9 ω i
section R34
variable {j k : Nat}
theorem e34 {ω : wT} {i : Nat} {how : Int32} (h : j = 3 ∨ j = 4) : endW ω i how j k = ω j k := by
  unfold endW; rw [u2_j (by omega), u2_j (by omega), u2_j (by omega)]
theorem o34 {ω : wT} {i a b : Nat} {x y : Int32} (h : j = 3 ∨ j = 4) : openW ω i a b x y j k = ω j k := by
  unfold openW; rw [u2_j (by omega), u2_j (by omega), u2_j (by omega), u2_j (by omega), u2_j (by omega), u2_j (by omega)]
theorem s34 {ω : wT} {i a b : Nat} (h : j = 3 ∨ j = 4) : settleW ω i a b j k = ω j k := by
  unfold settleW; rw [e34 h, u2_j (by omega), u2_j (by omega)]
theorem b34 {ω : wT} {x : Int32} (h : j = 3 ∨ j = 4) : buryW ω x j k = ω j k := by
  unfold buryW; rw [fgW_off (by omega), u2_j (by omega)]
theorem i34 {f : Nat → wT → wT} (hf : ∀ i ω, f i ω j k = ω j k) : ∀ n (ω : wT), itR f n ω j k = ω j k
  | 0, _ => rfl
  | n + 1, ω => (hf n _).trans (i34 hf n ω)
theorem lend34 {σ : wT} {deaf : Int32} (h : j = 3 ∨ j = 4) (i : Nat) (ω : wT) : lendSt σ deaf i ω j k = ω j k := by
  unfold lendSt
  split
  · split
    · split
      · split
        · exact e34 h
        · exact o34 h
      · exact e34 h
    · rfl
  · rfl
theorem pass34 {σ : wT} {D one : Nat} {bit : Int32} (h : j = 3 ∨ j = 4) : ∀ n (q : wT × Int32), (itR (passSt σ D one bit) n q).1 j k = q.1 j k
  | 0, _ => rfl
  | n + 1, q => by
    rw [← pass34 (σ := σ) (D := D) (one := one) (bit := bit) h n q]
    show (passSt σ D one bit n (itR (passSt σ D one bit) n q)).1 j k = _
    generalize itR (passSt σ D one bit) n q = p
    unfold passSt
    split
    · split
      · split
        · rfl
        · split
          · rfl
          · show u2 p.1 11 n (p.1 11 n ||| bit) j k = p.1 j k
            rw [u2_j (by omega)]
      · rfl
    · rfl
theorem rum34 {one other : Nat} (h : j = 3 ∨ j = 4) (i : Nat) (ω : wT) : rumSt one other i ω j k = ω j k := by
  unfold rumSt
  split
  · rw [u2_j (by omega)]
  · rfl
theorem lean34 {σ : wT} {D : Nat} {deaf : Int32} (h : j = 3 ∨ j = 4) (i : Nat) (ω : wT) : leanSt σ D deaf i ω j k = ω j k := by
  unfold leanSt passW
  split
  · split
    · split
      · rw [i34 (rum34 h), pass34 h]
      · rfl
    · rfl
  · rfl
theorem die34 {σ : wT} (h : j = 3 ∨ j = 4) (i : Nat) (ω : wT) : dieSt σ i ω j k = ω j k := by
  unfold dieSt
  split
  · exact b34 h
  · rfl
theorem pay34 {σ : wT} (h : j = 3 ∨ j = 4) (i : Nat) (ω : wT) : paySt σ i ω j k = ω j k := by
  unfold paySt
  split
  · split
    · rfl
    · split
      · exact s34 h
      · rfl
  · rfl
theorem int34 {σ : wT} (h : j = 3 ∨ j = 4) (i : Nat) (ω : wT) : intSt σ i ω j k = ω j k := by
  unfold intSt
  split
  · rw [u2_j (by omega)]
  · rfl
theorem fat34 {way odds : Int32} {ω : wT} (h : j = 3 ∨ j = 4) : (fatS way ω odds).1 j k = ω j k := by
  unfold fatS
  split
  · split
    · rfl
    · split
      · rfl
      · show u2 ω 0 14 _ j k = _
        rw [u2_j (by omega)]
  · rfl
theorem grow34 {σ : wT} {way : Int32} {D : Nat} (h : j = 3 ∨ j = 4) (i : Nat) (ω : wT) : growSt σ way D i ω j k = ω j k := by
  unfold growSt
  split
  · split
    · rw [u2_j (by omega)]
    · split
      · rw [b34 h, fat34 h, u2_j (by omega)]
      · rw [fat34 h, u2_j (by omega)]
  · rfl
theorem forg34 (h : j = 3 ∨ j = 4) (i : Nat) (ω : wT) : forgSt i ω j k = ω j k := by
  unfold forgSt
  split
  · split
    · exact e34 h
    · rfl
  · rfl
theorem day34 {σ : wT} {t D n : Nat} {way deaf : Int32} {ω : wT} (h : j = 3 ∨ j = 4) : dayW σ t D n way deaf ω j k = ω j k := by
  have h2 : day2 σ D n way deaf ω j k = ω j k := by
    unfold day2
    split
    · exact i34 (lend34 h) _ _
    · rw [i34 (lean34 h), i34 (lend34 h)]
  have h3 : day3 σ t D n way deaf ω j k = ω j k := by
    unfold day3
    split
    · exact h2
    · rw [i34 (die34 h)]; exact h2
  have h4 : day4 σ t D n way deaf ω j k = ω j k := by
    unfold day4
    split
    · exact h3
    · rw [i34 (pay34 h)]; exact h3
  have h5 : day5 σ t D n way deaf ω j k = ω j k := by
    unfold day5
    split
    · rw [i34 (grow34 h), i34 (int34 h)]; exact h4
    · exact h4
  unfold dayW
  rw [u2_j (by omega), i34 (forg34 h)]
  exact h5
end R34
/-- how debts stand: only those to come and the open ones change, and never back -/
def T8 (ω ω' : wT) : Prop := ∀ i, ω' 8 i = ω 8 i ∨ ((ω 8 i = 0 ∨ ω 8 i = 1) ∧ (ω' 8 i = 1 ∨ ω' 8 i = 2 ∨ ω' 8 i = 3 ∨ ω' 8 i = 4))
section R8
variable {ω ω' ω'' : wT}
theorem t8_rfl : T8 ω ω := fun _ => Or.inl rfl
theorem t8_off (h : ∀ i, ω' 8 i = ω 8 i) : T8 ω ω' := fun i => Or.inl (h i)
theorem t8_tr (a : T8 ω ω') (b : T8 ω' ω'') : T8 ω ω'' := by
  intro i
  rcases a i with h1 | ⟨h1, h2⟩
  · rcases b i with h3 | ⟨h3, h4⟩
    · exact Or.inl (h3.trans h1)
    · rw [h1] at h3; exact Or.inr ⟨h3, h4⟩
  · rcases b i with h3 | ⟨h3, h4⟩
    · rw [← h3] at h2; exact Or.inr ⟨h1, h2⟩
    · exact Or.inr ⟨h1, h4⟩
theorem t8_it {f : Nat → wT → wT} (hf : ∀ i ω, T8 ω (f i ω)) : ∀ n (ω : wT), T8 ω (itR f n ω)
  | 0, _ => t8_rfl
  | n + 1, ω => t8_tr (t8_it hf n ω) (hf n _)
theorem t8_end {i : Nat} {how : Int32} (h : ω 8 i = 0 ∨ ω 8 i = 1) (hh : how = 2 ∨ how = 3 ∨ how = 4) : T8 ω (endW ω i how) := by
  intro q
  unfold endW
  rw [u2_j (by decide), u2_j (by decide)]
  by_cases z : q = i
  · subst z; rw [u2_s]; exact Or.inr ⟨h, Or.inr hh⟩
  · rw [u2_k z]; exact Or.inl rfl
theorem t8_open {i a b : Nat} {x y : Int32} (h : ω 8 i = 0 ∨ ω 8 i = 1) : T8 ω (openW ω i a b x y) := by
  intro q
  unfold openW
  rw [u2_j (by decide), u2_j (by decide), u2_j (by decide)]
  by_cases z : q = i
  · subst z; rw [u2_s]; exact Or.inr ⟨h, Or.inl rfl⟩
  · rw [u2_k z, u2_j (by decide), u2_j (by decide)]; exact Or.inl rfl
theorem t8_settle {i a b : Nat} (h : ω 8 i = 1) : T8 ω (settleW ω i a b) := by
  unfold settleW
  refine t8_tr (ω' := _) (t8_off (fun q => ?_)) (t8_end (Or.inr ?_) (Or.inl rfl))
  · rw [u2_j (by decide), u2_j (by decide)]
  · rw [u2_j (by decide), u2_j (by decide)]; exact h
theorem t8_bury {x : Int32} : T8 ω (buryW ω x) := t8_off (fun q => by unfold buryW; rw [fgW_off (by decide), u2_j (by decide)])
theorem t8_lend {σ : wT} {deaf : Int32} (i : Nat) (ω : wT) : T8 ω (lendSt σ deaf i ω) := by
  unfold lendSt
  split
  · rename_i h8
    split
    · split
      · split
        · exact t8_end (Or.inl h8) (by decide)
        · exact t8_open (Or.inl h8)
      · exact t8_end (Or.inl h8) (by decide)
    · exact t8_rfl
  · exact t8_rfl
theorem pass8 {σ : wT} {D one k : Nat} {bit : Int32} : ∀ n (q : wT × Int32), (itR (passSt σ D one bit) n q).1 8 k = q.1 8 k
  | 0, _ => rfl
  | n + 1, q => by
    rw [← pass8 (σ := σ) (D := D) (one := one) (bit := bit) n q]
    show (passSt σ D one bit n (itR (passSt σ D one bit) n q)).1 8 k = _
    generalize itR (passSt σ D one bit) n q = p
    unfold passSt
    split
    · split
      · split
        · rfl
        · split
          · rfl
          · show u2 p.1 11 n (p.1 11 n ||| bit) 8 k = p.1 8 k
            rw [u2_j (by omega)]
      · rfl
    · rfl
theorem t8_rum {one other : Nat} (i : Nat) (ω : wT) : T8 ω (rumSt one other i ω) := by
  unfold rumSt
  split
  · exact t8_off (fun q => by rw [u2_j (by decide)])
  · exact t8_rfl
theorem t8_lean {σ : wT} {D : Nat} {deaf : Int32} (i : Nat) (ω : wT) : T8 ω (leanSt σ D deaf i ω) := by
  unfold leanSt passW
  split
  · split
    · split
      · exact t8_tr (t8_off (fun q => pass8 _ _)) (t8_it t8_rum _ _)
      · exact t8_rfl
    · exact t8_rfl
  · exact t8_rfl
theorem t8_die {σ : wT} (i : Nat) (ω : wT) : T8 ω (dieSt σ i ω) := by
  unfold dieSt
  split
  · exact t8_bury
  · exact t8_rfl
theorem t8_pay {σ : wT} (i : Nat) (ω : wT) : T8 ω (paySt σ i ω) := by
  unfold paySt
  split
  · rename_i h8
    split
    · exact t8_rfl
    · split
      · exact t8_settle h8
      · exact t8_rfl
  · exact t8_rfl
theorem t8_int {σ : wT} (i : Nat) (ω : wT) : T8 ω (intSt σ i ω) := by
  unfold intSt
  split
  · exact t8_off (fun q => by rw [u2_j (by decide)])
  · exact t8_rfl
theorem t8_fat {way odds : Int32} : T8 ω (fatS way ω odds).1 := by
  unfold fatS
  split
  · split
    · exact t8_rfl
    · split
      · exact t8_rfl
      · exact t8_off (fun q => (u2_j (by decide) : u2 ω 0 14 (nextN (ω 0 14)) 8 q = ω 8 q))
  · exact t8_rfl
theorem t8_grow {σ : wT} {way : Int32} {D : Nat} (i : Nat) (ω : wT) : T8 ω (growSt σ way D i ω) := by
  have h1 : ∀ v, T8 ω (u2 ω 2 i v) := fun v => t8_off (fun q => by rw [u2_j (by decide)])
  unfold growSt
  split
  · split
    · exact h1 _
    · split
      · exact t8_tr (t8_tr (h1 _) t8_fat) t8_bury
      · exact t8_tr (h1 _) t8_fat
  · exact t8_rfl
theorem t8_forg (i : Nat) (ω : wT) : T8 ω (forgSt i ω) := by
  unfold forgSt
  split
  · rename_i h8
    split
    · exact t8_end (Or.inr h8) (by decide)
    · exact t8_rfl
  · exact t8_rfl
theorem t8_day {σ : wT} {t D n : Nat} {way deaf : Int32} (ω : wT) : T8 ω (dayW σ t D n way deaf ω) := by
  have h2 : T8 ω (day2 σ D n way deaf ω) := by
    unfold day2
    split
    · exact t8_it t8_lend _ _
    · exact t8_tr (t8_it t8_lend _ _) (t8_it t8_lean _ _)
  have h3 : T8 ω (day3 σ t D n way deaf ω) := by
    unfold day3
    split
    · exact h2
    · exact t8_tr h2 (t8_it t8_die _ _)
  have h4 : T8 ω (day4 σ t D n way deaf ω) := by
    unfold day4
    split
    · exact h3
    · exact t8_tr h3 (t8_it t8_pay _ _)
  have h5 : T8 ω (day5 σ t D n way deaf ω) := by
    unfold day5
    split
    · exact t8_tr (t8_tr h4 (t8_it t8_int _ _)) (t8_it t8_grow _ _)
    · exact h4
  unfold dayW
  exact t8_tr (t8_tr h5 (t8_it t8_forg _ _)) (t8_off (fun q => by rw [u2_j (by decide)]))
theorem t8_days {σ : wT} {t D n k : Nat} {way deaf : Int32} : T8 ω (daysW σ t D n way deaf k ω) := t8_it (fun _ ω => t8_day ω) k ω
theorem t8_nn (h : T8 ω ω') {i : Nat} (hi : ¬ ω 8 i < 0) : ¬ ω' 8 i < 0 := by
  rcases h i with e | ⟨-, e | e | e | e⟩ <;> rw [e]
  · exact hi
  all_goals decide
/-- what has ended stays so -/
theorem t8_stay (h : T8 ω ω') {i : Nat} (h0 : ¬ ω 8 i = 0) (h1 : ¬ ω 8 i = 1) : ω' 8 i = ω 8 i := by
  rcases h i with e | ⟨e | e, -⟩
  · exact e
  · exact absurd e h0
  · exact absurd e h1
end R8
/-- what is owed and what was lent stay within their bounds -/
def P9 (ω ω' : wT) : Prop := ∀ i, O9 ω i → O9 ω' i
section R9
variable {ω ω' ω'' : wT}
theorem p9_rfl : P9 ω ω := fun _ h => h
theorem p9_tr (a : P9 ω ω') (b : P9 ω' ω'') : P9 ω ω'' := fun i h => b i (a i h)
theorem p9_off (h9 : ∀ i, ω' 9 i = ω 9 i) (h5 : ∀ i, ω' 5 i = ω 5 i) : P9 ω ω' := fun i h => by
  unfold O9; rw [h9, h5]; exact h
theorem p9_it {f : Nat → wT → wT} (hf : ∀ i ω, P9 ω (f i ω)) : ∀ n (ω : wT), P9 ω (itR f n ω)
  | 0, _ => p9_rfl
  | n + 1, ω => p9_tr (p9_it hf n ω) (hf n _)
theorem p9_u {j k : Nat} {v : Int32} (h9 : j ≠ 9) (h5 : j ≠ 5) : P9 ω (u2 ω j k v) := p9_off (fun _ => u2_j (Ne.symm h9)) (fun _ => u2_j (Ne.symm h5))
theorem p9_u9 {k : Nat} {v : Int32} (h : O9 ω k → ∃ x, x ≤ 9999 ∧ v = nI x) : P9 ω (u2 ω 9 k v) := by
  intro i o
  unfold O9
  rw [u2_j (j' := 5) (j := 9) (by decide)]
  by_cases z : i = k
  · subst z; rw [u2_s]; exact ⟨h o, o.2⟩
  · rw [u2_k z]; exact o
theorem p9_end {i : Nat} {how : Int32} : P9 ω (endW ω i how) := by
  unfold endW
  exact p9_tr (p9_tr (p9_u (by decide) (by decide)) (p9_u9 (fun _ => ⟨0, by decide, rfl⟩))) (p9_u (by decide) (by decide))
theorem p9_open {i a b : Nat} {x y : Int32} : P9 ω (openW ω i a b x y) := by
  unfold openW
  refine p9_tr (p9_tr (p9_tr (p9_tr (p9_tr (p9_u (by decide) (by decide)) (p9_u (by decide) (by decide))) (p9_u (by decide) (by decide))) (p9_u9 (fun o => ?_))) (p9_u (by decide) (by decide))) (p9_u (by decide) (by decide))
  obtain ⟨v, h1, h2⟩ := o.2
  rw [u2_j (by decide), u2_j (by decide), u2_j (by decide)] at h2
  exact ⟨v, by omega, h2⟩
theorem p9_settle {i a b : Nat} : P9 ω (settleW ω i a b) := by
  unfold settleW
  exact p9_tr (p9_tr (p9_u (by decide) (by decide)) (p9_u (by decide) (by decide))) p9_end
theorem p9_bury {x : Int32} : P9 ω (buryW ω x) := p9_off (fun q => by unfold buryW; rw [fgW_off (by decide), u2_j (by decide)]) (fun q => by unfold buryW; rw [fgW_off (by decide), u2_j (by decide)])
theorem p9_lend {σ : wT} {deaf : Int32} (i : Nat) (ω : wT) : P9 ω (lendSt σ deaf i ω) := by
  unfold lendSt
  split
  · split
    · split
      · split
        · exact p9_end
        · exact p9_open
      · exact p9_end
    · exact p9_rfl
  · exact p9_rfl
theorem pass_o {σ : wT} {D one j k : Nat} {bit : Int32} (hj : j ≠ 11) : ∀ n (q : wT × Int32), (itR (passSt σ D one bit) n q).1 j k = q.1 j k
  | 0, _ => rfl
  | n + 1, q => by
    rw [← pass_o (σ := σ) (D := D) (one := one) (bit := bit) hj n q]
    show (passSt σ D one bit n (itR (passSt σ D one bit) n q)).1 j k = _
    generalize itR (passSt σ D one bit) n q = p
    unfold passSt
    split
    · split
      · split
        · rfl
        · split
          · rfl
          · show u2 p.1 11 n (p.1 11 n ||| bit) j k = p.1 j k
            rw [u2_j hj]
      · rfl
    · rfl
theorem p9_rum {one other : Nat} (i : Nat) (ω : wT) : P9 ω (rumSt one other i ω) := by
  unfold rumSt
  split
  · exact p9_u (by decide) (by decide)
  · exact p9_rfl
theorem p9_lean {σ : wT} {D : Nat} {deaf : Int32} (i : Nat) (ω : wT) : P9 ω (leanSt σ D deaf i ω) := by
  unfold leanSt passW
  split
  · split
    · split
      · exact p9_tr (p9_off (fun q => pass_o (by decide) _ _) (fun q => pass_o (by decide) _ _)) (p9_it p9_rum _ _)
      · exact p9_rfl
    · exact p9_rfl
  · exact p9_rfl
theorem p9_die {σ : wT} (i : Nat) (ω : wT) : P9 ω (dieSt σ i ω) := by
  unfold dieSt
  split
  · exact p9_bury
  · exact p9_rfl
theorem p9_pay {σ : wT} (i : Nat) (ω : wT) : P9 ω (paySt σ i ω) := by
  unfold paySt
  split
  · split
    · exact p9_rfl
    · split
      · exact p9_settle
      · exact p9_rfl
  · exact p9_rfl
theorem int_ok {v r : Nat} (hv : v ≤ 9999) (hr : r ≤ 100) : ∃ x, x ≤ 9999 ∧ intV (nI v) (nI r) = nI x := by
  have hm : v * r ≤ 9999 * 100 := Nat.mul_le_mul hv hr
  have e : nI v + nI v * nI r / 100 = nI (v + v * r / 100) := by
    show Int32.ofNat v + Int32.ofNat v * Int32.ofNat r / Int32.ofNat 100 = Int32.ofNat (v + v * r / 100)
    rw [← Int32.ofNat_mul, ← Int32.ofNat_div (by omega) (by decide), ← Int32.ofNat_add]
  unfold intV
  rw [e]
  by_cases z : v + v * r / 100 < 9999
  · rw [if_pos (show nI (v + v * r / 100) < 9999 from nI_lt (b := 9999) z (by decide))]
    exact ⟨_, by omega, rfl⟩
  · rw [if_neg (show ¬ nI (v + v * r / 100) < 9999 from nI_nlt (b := 9999) (by omega) (by omega))]
    exact ⟨9999, Nat.le_refl _, rfl⟩
theorem p9_int {σ : wT} (hr : ∃ r, r ≤ 100 ∧ σ 0 14 = nI r) (i : Nat) (ω : wT) : P9 ω (intSt σ i ω) := by
  unfold intSt
  split
  · refine p9_u9 (fun o => ?_)
    obtain ⟨v, h1, h2⟩ := o.1
    obtain ⟨r, r1, r2⟩ := hr
    rw [h2, r2]
    exact int_ok h1 r1
  · exact p9_rfl
theorem p9_fat {way odds : Int32} : P9 ω (fatS way ω odds).1 := by
  unfold fatS
  split
  · split
    · exact p9_rfl
    · split
      · exact p9_rfl
      · exact (p9_u (by decide) (by decide) : P9 ω (u2 ω 0 14 (nextN (ω 0 14))))
  · exact p9_rfl
theorem p9_grow {σ : wT} {way : Int32} {D : Nat} (i : Nat) (ω : wT) : P9 ω (growSt σ way D i ω) := by
  have h1 : ∀ v, P9 ω (u2 ω 2 i v) := fun v => p9_u (by decide) (by decide)
  unfold growSt
  split
  · split
    · exact h1 _
    · split
      · exact p9_tr (p9_tr (h1 _) p9_fat) p9_bury
      · exact p9_tr (h1 _) p9_fat
  · exact p9_rfl
theorem p9_forg (i : Nat) (ω : wT) : P9 ω (forgSt i ω) := by
  unfold forgSt
  split
  · split
    · exact p9_end
    · exact p9_rfl
  · exact p9_rfl
theorem p9_day {σ : wT} {t D n : Nat} {way deaf : Int32} (hr : ∃ r, r ≤ 100 ∧ σ 0 14 = nI r) (ω : wT) : P9 ω (dayW σ t D n way deaf ω) := by
  have h2 : P9 ω (day2 σ D n way deaf ω) := by
    unfold day2
    split
    · exact p9_it p9_lend _ _
    · exact p9_tr (p9_it p9_lend _ _) (p9_it p9_lean _ _)
  have h3 : P9 ω (day3 σ t D n way deaf ω) := by
    unfold day3
    split
    · exact h2
    · exact p9_tr h2 (p9_it p9_die _ _)
  have h4 : P9 ω (day4 σ t D n way deaf ω) := by
    unfold day4
    split
    · exact h3
    · exact p9_tr h3 (p9_it p9_pay _ _)
  have h5 : P9 ω (day5 σ t D n way deaf ω) := by
    unfold day5
    split
    · exact p9_tr (p9_tr h4 (p9_it (p9_int hr) _ _)) (p9_it p9_grow _ _)
    · exact h4
  unfold dayW
  exact p9_tr (p9_tr h5 (p9_it p9_forg _ _)) (p9_u (by decide) (by decide))
end R9
theorem invN_days {σ : wT} {t D n k : Nat} {way deaf : Int32} {ω : wT} (hr : ∃ r, r ≤ 100 ∧ σ 0 14 = nI r) (I : InvN D ω) : InvN D (daysW σ t D n way deaf k ω) := by
  intro i hi
  refine ⟨?_, t8_nn t8_days (I i hi).2.1, p9_it (fun _ ω => p9_day hr ω) k ω i (I i hi).2.2⟩
  unfold daysW
  rw [i34 (fun _ _ => day34 (Or.inl rfl)), i34 (fun _ _ => day34 (Or.inr rfl))]
  exact (I i hi).1
theorem invN_ext {D : Nat} {γ γ' : wT} (hD : D ≤ 8) (I : InvN D γ) (hv : ∀ j k, vlW j k → γ' j k = γ j k) : InvN D γ' := by
  intro q hq
  unfold O9
  rw [hv 3 q (Or.inr (Or.inr (Or.inl ⟨by decide, by decide, by omega⟩))), hv 4 q (Or.inr (Or.inr (Or.inl ⟨by decide, by decide, by omega⟩))), hv 8 q (Or.inr (Or.inr (Or.inl ⟨by decide, by decide, by omega⟩))), hv 9 q (Or.inr (Or.inr (Or.inl ⟨by decide, by decide, by omega⟩))), hv 5 q (Or.inr (Or.inr (Or.inl ⟨by decide, by decide, by omega⟩)))]
  exact I q hq
theorem invN_cp {D : Nat} {ω γ : wT} (hD : D ≤ 8) (I : InvN D γ) : InvN D (cpW ω γ) := invN_ext hD I (fun _ _ h => cpW_at h)
/-- the start that a story tells -/
def stW (σ : wT) : wT := fun j k => if j < 12 then σ (17 + j) k else 0
theorem stW_at {σ : wT} {j k : Nat} (hj : j < 12) : stW σ j k = σ (17 + j) k := by unfold stW; rw [if_pos hj]
def gR (hM : aH) (σ : wT) (m t D0 : Nat) : Prop := (∀ p, p < m → hM.1 3 p = σ 1 p ∧ hM.1 4 p = σ 18 p) ∧ (∀ e, e < t → hM.1 5 e = σ 2 e ∧ hM.1 6 e = σ 19 e) ∧ hM.1 2 2 = nI D0 ∧ hM.1 2 5 = σ 17 14 ∧ hM.1 2 6 = σ 0 17 ∧ (∀ i, i < D0 → ∀ j, 3 ≤ j → j ≤ 7 → hM.1 (6 + j) i = σ (17 + j) i) ∧ Inv m t D0 (stW σ) ∧ (∀ i, i < D0 → σ 25 i = 0) ∧ σ 17 13 = 0 ∧ σ 17 12 = nI (2 ^ t - 1) ∧ InvN D0 (stW σ) ∧ ∃ r, r ≤ 100 ∧ σ 0 14 = nI r
def gS (hC hM : aH) (sy m t n D0 : Nat) : Prop := (sy = 8 ∨ sy = 37) ∧ hC.2.2 0 3 = sy ∧ hC.2.2 2 1 = 45 - sy ∧ SF (wd hC sy) m t n ∧ MC hM (wd hC sy) m t n ∧ gR hM (wd hC sy) m t D0
def gW (hC hM : aH) (m t w b D : Nat) : Prop := Inv m t D (wq hC w) ∧ RelW m t D (wq hC w) (bkT hM b) ∧ InvN D (wq hC w)
def gN (hC hM : aH) (m t D : Nat) : Prop := gW hC hM m t 66 0 D
def gI (hC hM : aH) (m t : Nat) : Prop := hC.1 0 7 = hM.1 0 52 ∧ (¬ hC.1 0 7 = 0 → ∃ D, gW hC hM m t 90 2 D)
def gP (hC hM : aH) (m t : Nat) : Prop := PRf hC ∧ ∃ c, c ≤ 20 ∧ hC.1 102 1 = nI c ∧ hM.1 0 53 = nI c ∧ ∀ i, i < c → ∃ D, gW hC hM m t (hC.2.2 103 i) (3 + i) D
def gE (hC hM : aH) (D0 : Nat) : Prop := ∃ c, c ≤ 24 ∧ hC.1 346 5 = nI c ∧ hM.1 0 62 = nI c ∧ hC.1 346 6 = hM.1 0 63 ∧ (hM.1 0 63 = -1 ∨ ∃ q, q ≤ c ∧ hM.1 0 63 = nI q) ∧ ∀ k, k < c → hC.1 350 k = hM.1 44 k ∧ ((hM.1 44 k = -1 ∧ hC.1 347 k = hM.1 41 k ∧ hC.1 348 k = hM.1 42 k ∧ hC.1 349 k = hM.1 43 k ∧ (∃ a, 1 ≤ a ∧ a ≤ 40 ∧ hM.1 41 k = nI a) ∧ (∃ i, i < D0 ∧ hM.1 42 k = nI i) ∧ (hM.1 43 k = 0 ∨ hM.1 43 k = 1)) ∨ ∃ q, q < k ∧ hM.1 44 k = nI q)
def gT (hC hM : aH) : Prop := ∃ c, c ≤ 35 ∧ hC.1 0 1 = nI (20 * c) ∧ hM.1 0 2 = nI (20 * c) ∧ ∀ k, k < 20 * c → ∃ v, v < 256 ∧ hC.1 1 k = nI v ∧ hM.1 1 k = nI v
/-- the words of the language, as the class keeps them -/
def wdC (k : Nat) : Nat := [13 * 2 ^ 25 + 1 * 2 ^ 20 + 14 * 2 ^ 15, 20 * 2 ^ 25 + 21 * 2 ^ 20 + 19 * 2 ^ 15 + 11 * 2 ^ 10, 4 * 2 ^ 25 + 5 * 2 ^ 20 + 2 * 2 ^ 15 + 20 * 2 ^ 10, 12 * 2 ^ 25 + 5 * 2 ^ 20 + 1 * 2 ^ 15 + 14 * 2 ^ 10, 4 * 2 ^ 25 + 9 * 2 ^ 20 + 5 * 2 ^ 15 + 19 * 2 ^ 10, 18 * 2 ^ 25 + 1 * 2 ^ 20 + 20 * 2 ^ 15 + 5 * 2 ^ 10, 19 * 2 ^ 25 + 5 * 2 ^ 20 + 5 * 2 ^ 15 + 4 * 2 ^ 10, 12 * 2 ^ 25 + 1 * 2 ^ 20 + 23 * 2 ^ 15, 16 * 2 ^ 25 + 1 * 2 ^ 20 + 19 * 2 ^ 15 + 19 * 2 ^ 10, 16 * 2 ^ 25 + 1 * 2 ^ 20 + 25 * 2 ^ 15, 4 * 2 ^ 25 + 9 * 2 ^ 20 + 5 * 2 ^ 15, 14 * 2 ^ 25 + 15 * 2 ^ 20 + 20 * 2 ^ 15, 1 * 2 ^ 25 + 14 * 2 ^ 20 + 4 * 2 ^ 15, 15 * 2 ^ 25 + 18 * 2 ^ 20, 19 * 2 ^ 25 + 21 * 2 ^ 20 + 13 * 2 ^ 15, 1 * 2 ^ 25 + 7 * 2 ^ 20 + 5 * 2 ^ 15, 16 * 2 ^ 25 + 21 * 2 ^ 20 + 18 * 2 ^ 15 + 19 * 2 ^ 10 + 5 * 2 ^ 5, 11 * 2 ^ 25 + 14 * 2 ^ 20 + 15 * 2 ^ 15 + 23 * 2 ^ 10 + 14 * 2 ^ 5, 4 * 2 ^ 25 + 1 * 2 ^ 20 + 25 * 2 ^ 15 + 19 * 2 ^ 10, 11 * 2 ^ 25 + 14 * 2 ^ 20 + 15 * 2 ^ 15 + 23 * 2 ^ 10 + 19 * 2 ^ 5, 4 * 2 ^ 25 + 1 * 2 ^ 20 + 25 * 2 ^ 15].getD k 0
def gF (hC hM : aH) : Prop := hC.1 2 3 = hM.1 0 31 ∧ hC.1 2 4 = hM.1 0 32 ∧ hM.1 0 54 = 0 ∧ (∀ k, k < 21 → hC.1 7 k = nI (wdC k)) ∧ hC.1 354 0 = 0
def GQ (hC hM : aH) (sy m t n D0 D : Nat) : Prop := gS hC hM sy m t n D0 ∧ gN hC hM m t D ∧ gI hC hM m t ∧ gP hC hM m t ∧ gE hC hM D0 ∧ gT hC hM ∧ gF hC hM
def GR (hC hM : aH) : Prop := ∃ sy m t n D0 D, GQ hC hM sy m t n D0 D
theorem g_rate {hC hM : aH} {sy m t n D0 D : Nat} (g : GQ hC hM sy m t n D0 D) : ∃ r, r ≤ 100 ∧ wd hC sy 0 14 = nI r := by
  obtain ⟨⟨-, -, -, -, -, -, -, -, -, -, -, -, -, -, -, -, h⟩, -⟩ := g
  exact h
/-- what questions leave as it is -/
def kC (h h' : aH) : Prop := (∀ c k, c < 78 ∨ 90 ≤ c ∧ c < 344 ∨ 346 ≤ c ∧ c < 351 ∨ c = 354 ∧ k = 0 → h'.1 c k = h.1 c k) ∧ ∀ c k, c ≠ 344 → h'.2.2 c k = h.2.2 c k
def kM (h h' : aH) : Prop := ∀ c k, (c = 0 → k ≠ 0 ∧ k ≠ 37 ∧ k ≠ 55 ∧ k ≠ 60 ∧ k ≠ 61) → (c ≤ 36 ∨ 41 ≤ c ∧ c ≤ 44) → adr 1 c k = none → h'.1 c k = h.1 c k
theorem kC_rfl {h : aH} : kC h h := ⟨fun _ _ _ => rfl, fun _ _ _ => rfl⟩
theorem kM_rfl {h : aH} : kM h h := fun _ _ _ _ _ => rfl
theorem kC_tr {h h' h'' : aH} (a : kC h h') (b : kC h' h'') : kC h h'' := ⟨fun c k q => (b.1 c k q).trans (a.1 c k q), fun c k q => (b.2 c k q).trans (a.2 c k q)⟩
theorem kM_tr {h h' h'' : aH} (a : kM h h') (b : kM h' h'') : kM h h'' := fun c k q r s => (b c k q r s).trans (a c k q r s)
theorem kM_at {h h' : aH} (a : kM h h') {c k : Nat} (hc : 1 ≤ c) (h2 : c ≤ 22 ∨ 41 ≤ c ∧ c ≤ 44) : h'.1 c k = h.1 c k := a c k (fun q => by omega) (by omega) (a_off (by omega))
theorem kM_0 {h h' : aH} (a : kM h h') {k : Nat} (hk : k ≠ 0 ∧ k ≠ 37 ∧ k ≠ 55 ∧ k ≠ 60 ∧ k ≠ 61) : h'.1 0 k = h.1 0 k := a 0 k (fun _ => hk) (by omega) (a_off (by omega))
theorem kM_bk {h h' : aH} (a : kM h h') {b : Nat} (hb : b ≠ 1) : bkT h' b = bkT h b := by
  refine bk_ext (fun c k p e => a c k (fun q => ?_) ?_ (a_other e hb))
  · subst q; unfold adr at e; simp at e
  · refine Decidable.byContradiction (fun z => ?_)
    rw [a_off (by omega)] at e
    cases e
theorem wd_kC {h h' : aH} (a : kC h h') {sy : Nat} (hs : sy = 8 ∨ sy = 37) : wd h' sy = wd h sy := by
  funext j k
  unfold wd
  by_cases hj : j < 29
  · rw [if_pos hj, if_pos hj, a.1 _ _ (by omega)]
  · rw [if_neg hj, if_neg hj]
theorem ml_ext {h h' : aH} {σ : wT} {k j : Nat} (H : ∀ c k, 17 ≤ c → c ≤ 20 → h'.1 c k = h.1 c k) (L : ML h σ k j) : ML h' σ k j := by
  obtain ⟨f, n, h1, h2, h3, h4, h5, h6⟩ := L
  exact ⟨f, n, by rw [H _ _ (by omega) (by omega)]; exact h1, by rw [H _ _ (by omega) (by omega)]; exact h2, h3, h4, h5, fun i hi => by rw [H _ _ (by omega) (by omega), H _ _ (by omega) (by omega)]; exact h6 i hi⟩
theorem mc_ext {h h' : aH} {σ : wT} {m t n : Nat} (H : ∀ c k, 2 ≤ c → c ≤ 20 → h'.1 c k = h.1 c k) (C : MC h σ m t n) : MC h' σ m t n := by
  obtain ⟨h1, h2, h3, h4, h5, h6, h7, h8, h9⟩ := C
  have H2 : ∀ c k, 17 ≤ c → c ≤ 20 → h'.1 c k = h.1 c k := fun c k a b => H c k (by omega) b
  refine ⟨?_, ?_, ?_, ?_, fun e he => ?_, fun k hk => ?_, ml_ext H2 h7, ml_ext H2 h8, ml_ext H2 h9⟩
  · rw [H _ _ (by omega) (by omega)]; exact h1
  · rw [H _ _ (by omega) (by omega)]; exact h2
  · rw [H _ _ (by omega) (by omega)]; exact h3
  · rw [H _ _ (by omega) (by omega)]; exact h4
  · rw [H _ _ (by omega) (by omega), H _ _ (by omega) (by omega)]; exact h5 e he
  · rw [H _ _ (by omega) (by omega), H _ _ (by omega) (by omega), H _ _ (by omega) (by omega)]; exact h6 k hk
theorem gR_ext {h h' : aH} {σ : wT} {m t D0 : Nat} (H : ∀ c k, 2 ≤ c → c ≤ 20 → h'.1 c k = h.1 c k) (C : gR h σ m t D0) : gR h' σ m t D0 := by
  obtain ⟨h1, h2, h3, h4, h5, h6, h7, h8, h9, h10⟩ := C
  refine ⟨fun p hp => ?_, fun e he => ?_, ?_, ?_, ?_, fun i hi j q1 q2 => ?_, h7, h8, h9, h10⟩
  · rw [H _ _ (by omega) (by omega), H _ _ (by omega) (by omega)]; exact h1 p hp
  · rw [H _ _ (by omega) (by omega), H _ _ (by omega) (by omega)]; exact h2 e he
  · rw [H _ _ (by omega) (by omega)]; exact h3
  · rw [H _ _ (by omega) (by omega)]; exact h4
  · rw [H _ _ (by omega) (by omega)]; exact h5
  · rw [H _ _ (by omega) (by omega)]; exact h6 i hi j q1 q2
theorem gS_ext {hC hM hC' hM' : aH} {sy m t n D0 : Nat} (a : ∀ c k, 8 ≤ c → c < 66 → hC'.1 c k = hC.1 c k) (a3 : hC'.2.2 0 3 = hC.2.2 0 3) (a4 : hC'.2.2 2 1 = hC.2.2 2 1) (b : ∀ c k, 2 ≤ c → c ≤ 20 → hM'.1 c k = hM.1 c k) (g : gS hC hM sy m t n D0) : gS hC' hM' sy m t n D0 := by
  obtain ⟨h1, h2, h3, h4, h5, h6⟩ := g
  have e : wd hC' sy = wd hC sy := by
    funext j k
    unfold wd
    by_cases hj : j < 29
    · rw [if_pos hj, if_pos hj, a _ _ (by omega) (by omega)]
    · rw [if_neg hj, if_neg hj]
  refine ⟨h1, a3.trans h2, a4.trans h3, ?_, ?_, ?_⟩
  · rw [e]; exact h4
  · rw [e]; exact mc_ext b h5
  · rw [e]; exact gR_ext b h6
theorem gW_ext {hC hM hC' hM' : aH} {m t w b D : Nat} (a : ∀ j k, j < 12 → hC'.1 (w + j) k = hC.1 (w + j) k) (c : bkT hM' b = bkT hM b) (g : gW hC hM m t w b D) : gW hC' hM' m t w b D := by
  unfold gW
  rw [wq_ext a, c]
  exact g
theorem gE_ext {hC hM hC' hM' : aH} {D0 : Nat} (a : ∀ c k, 346 ≤ c → c < 351 → hC'.1 c k = hC.1 c k) (b1 : hM'.1 0 62 = hM.1 0 62) (b2 : hM'.1 0 63 = hM.1 0 63) (b : ∀ c k, 41 ≤ c → c ≤ 44 → hM'.1 c k = hM.1 c k) (g : gE hC hM D0) : gE hC' hM' D0 := by
  obtain ⟨c, h1, h2, h3, h4, h5, h6⟩ := g
  refine ⟨c, h1, by rw [a _ _ (by omega) (by omega)]; exact h2, by rw [b1]; exact h3, by rw [a _ _ (by omega) (by omega), b2]; exact h4, by rw [b2]; exact h5, fun k hk => ?_⟩
  rw [a 350 k (by omega) (by omega), a 347 k (by omega) (by omega), a 348 k (by omega) (by omega), a 349 k (by omega) (by omega), b 44 k (by omega) (by omega), b 41 k (by omega) (by omega), b 42 k (by omega) (by omega), b 43 k (by omega) (by omega)]
  exact h6 k hk
theorem gT_ext {hC hM hC' hM' : aH} (a : hC'.1 0 1 = hC.1 0 1) (a1 : ∀ k, hC'.1 1 k = hC.1 1 k) (b : hM'.1 0 2 = hM.1 0 2) (b1 : ∀ k, hM'.1 1 k = hM.1 1 k) (g : gT hC hM) : gT hC' hM' := by
  obtain ⟨c, h1, h2, h3, h4⟩ := g
  exact ⟨c, h1, a.trans h2, b.trans h3, fun k hk => by rw [a1, b1]; exact h4 k hk⟩
theorem gF_ext {hC hM hC' hM' : aH} (a1 : hC'.1 2 3 = hC.1 2 3) (a2 : hC'.1 2 4 = hC.1 2 4) (a3 : ∀ k, hC'.1 7 k = hC.1 7 k) (a4 : hC'.1 354 0 = hC.1 354 0) (b1 : hM'.1 0 31 = hM.1 0 31) (b2 : hM'.1 0 32 = hM.1 0 32) (b3 : hM'.1 0 54 = hM.1 0 54) (g : gF hC hM) : gF hC' hM' := by
  obtain ⟨h1, h2, h3, h4, h5⟩ := g
  exact ⟨by rw [a1, b1]; exact h1, by rw [a2, b2]; exact h2, b3.trans h3, fun k hk => (a3 k).trans (h4 k hk), a4.trans h5⟩
theorem PR_w {h : aH} (P : PRf h) {i : Nat} (hi : i < 20) : isW GC (h.2.2 103 i) ∧ 104 ≤ h.2.2 103 i ∧ h.2.2 103 i + 12 ≤ 344 := by
  obtain ⟨π, hp, hj⟩ := P
  obtain ⟨p1, p2⟩ := hp i hi
  rw [p2]
  exact ⟨isW_p p1, by omega, by omega⟩
theorem gP_ext {hC hM hC' hM' : aH} {m t : Nat} (a : ∀ c k, 102 ≤ c → c < 344 → hC'.1 c k = hC.1 c k) (a3 : ∀ k, hC'.2.2 103 k = hC.2.2 103 k) (b1 : hM'.1 0 53 = hM.1 0 53) (b : ∀ i, i < 20 → bkT hM' (3 + i) = bkT hM (3 + i)) (g : gP hC hM m t) : gP hC' hM' m t := by
  obtain ⟨P, c, h1, h2, h3, h4⟩ := g
  have P' : PRf hC' := by
    obtain ⟨π, hp, hj⟩ := P
    exact ⟨π, fun i hi => by rw [a3]; exact hp i hi, hj⟩
  refine ⟨P', c, h1, by rw [a _ _ (by omega) (by omega)]; exact h2, b1.trans h3, fun i hi => ?_⟩
  obtain ⟨D, g⟩ := h4 i hi
  obtain ⟨w1, w2, w3⟩ := PR_w P (i := i) (by omega)
  refine ⟨D, ?_⟩
  rw [a3]
  exact gW_ext (fun j k hj => a _ _ (by omega) (by omega)) (b i (by omega)) g
theorem gq_frame {hC hM hC' hM' : aH} {sy m t n D0 D : Nat} (a : kC hC hC') (b : kM hM hM') (g : GQ hC hM sy m t n D0 D) : GQ hC' hM' sy m t n D0 D := by
  obtain ⟨g1, g2, g3, g4, g5, g6, g7⟩ := g
  refine ⟨gS_ext (fun c k h1 h2 => a.1 _ _ (by omega)) (a.2 _ _ (by decide)) (a.2 _ _ (by decide)) (fun c k h1 h2 => kM_at b (by omega) (by omega)) g1, gW_ext (fun j k hj => a.1 _ _ (by omega)) (kM_bk b (by decide)) g2, ?_, gP_ext (fun c k h1 h2 => a.1 _ _ (by omega)) (fun k => a.2 _ _ (by decide)) (kM_0 b (by omega)) (fun i hi => kM_bk b (by omega)) g4, gE_ext (fun c k h1 h2 => a.1 _ _ (by omega)) (kM_0 b (by omega)) (kM_0 b (by omega)) (fun c k h1 h2 => kM_at b (by omega) (by omega)) g5, gT_ext (a.1 _ _ (by omega)) (fun k => a.1 _ _ (by omega)) (kM_0 b (by omega)) (fun k => kM_at b (by omega) (by omega)) g6, gF_ext (a.1 _ _ (by omega)) (a.1 _ _ (by omega)) (fun k => a.1 _ _ (by omega)) (a.1 _ _ (by omega)) (kM_0 b (by omega)) (kM_0 b (by omega)) (kM_0 b (by omega)) g7⟩
  obtain ⟨i1, i2⟩ := g3
  refine ⟨by rw [a.1 _ _ (by omega), kM_0 b (by omega)]; exact i1, fun z => ?_⟩
  rw [a.1 _ _ (by omega)] at z
  obtain ⟨D, g⟩ := i2 z
  exact ⟨D, gW_ext (fun j k hj => a.1 _ _ (by omega)) (kM_bk b (by decide)) g⟩
