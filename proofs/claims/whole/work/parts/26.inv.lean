/-! ===== what a world keeps, day by day ===== -/
def InvK (t D : Nat) (ω : wT) : Prop := ∀ i, i < D → ∀ e, e < t → bt (ω 11 i) e = true → bt (ω 0 12) e = true
def Inv (m t D : Nat) (ω : wT) : Prop := WFw m t D ω ∧ InvW t D ω ∧ InvK t D ω
theorem u2_id {ω : wT} {j k : Nat} {v : Int32} (h : ω j k = v) : u2 ω j k v = ω := by
  funext a c
  unfold u2
  by_cases q : a = j ∧ c = k
  · rw [if_pos q, q.1, q.2, h]
  · rw [if_neg q]
section IV
variable {m t D : Nat} {ω σ : wT}
theorem inv_u (h : Inv m t D ω) {j k : Nat} {v : Int32} (h0 : j = 1 ∨ j = 5) : Inv m t D (u2 ω j k v) := by
  obtain ⟨wf, ⟨i1, i2⟩, ik⟩ := h
  refine ⟨wf_u wf (by omega) (by omega) (by omega) (by omega) (by omega), ⟨fun i hi => ?_, fun e he => ?_⟩, fun i hi e he => ?_⟩
  · rw [u2_j (by omega), u2_j (by omega), u2_j (by omega), u2_j (by omega), u2_j (by omega)]; exact i1 i hi
  · rw [u2_j (by omega)]; exact i2 e he
  · rw [u2_j (by omega), u2_j (by omega)]; exact ik i hi e he
theorem inv_9 (h : Inv m t D ω) {k : Nat} {v : Int32} (hk : k < D → ω 8 k = 1) : Inv m t D (u2 ω 9 k v) := by
  obtain ⟨wf, ⟨i1, i2⟩, ik⟩ := h
  refine ⟨wf_u wf (by omega) (by omega) (by omega) (by omega) (by omega), ⟨fun i hi => ?_, fun e he => ?_⟩, fun i hi e he => ?_⟩
  · rw [u2_j (by omega), u2_j (by omega), u2_j (by omega), u2_j (j' := 11) (by omega)]
    refine ⟨(i1 i hi).1, fun q => ?_⟩
    have : i ≠ k := fun z => q (by rw [z]; exact hk (z ▸ hi))
    rw [u2_k this]; exact (i1 i hi).2 q
  · rw [u2_j (by omega)]; exact i2 e he
  · rw [u2_j (by omega), u2_j (by omega)]; exact ik i hi e he
theorem inv_0 (h : Inv m t D ω) {k : Nat} {v : Int32} (h1 : k ≠ 11) (h2 : k ≠ 12) : Inv m t D (u2 ω 0 k v) := by
  obtain ⟨wf, ⟨i1, i2⟩, ik⟩ := h
  refine ⟨wf_u0 wf h1 h2, ⟨fun i hi => ?_, fun e he => ?_⟩, fun i hi e he => ?_⟩
  · rw [u2_j (by omega), u2_j (by omega), u2_j (by omega), u2_j (by omega), u2_j (by omega)]; exact i1 i hi
  · rw [u2_j (by omega)]; exact i2 e he
  · rw [u2_j (by omega), u2_k h2.symm]; exact ik i hi e he
theorem inv_2 (h : Inv m t D ω) {k : Nat} {v : Int32} (hv : ∃ a, a ≤ 99 ∧ v = nI a) : Inv m t D (u2 ω 2 k v) := by
  obtain ⟨wf, ⟨i1, i2⟩, ik⟩ := h
  refine ⟨wf_u wf (by omega) (by omega) (by omega) (by omega) (by omega), ⟨fun i hi => ?_, fun e he => ?_⟩, fun i hi e he => ?_⟩
  · rw [u2_j (by omega), u2_j (by omega), u2_j (by omega), u2_j (by omega), u2_j (by omega)]; exact i1 i hi
  · by_cases z : e = k
    · subst z; rw [u2_s]; exact hv
    · rw [u2_k z]; exact i2 e he
  · rw [u2_j (by omega), u2_j (by omega)]; exact ik i hi e he
theorem inv_end (h : Inv m t D ω) {i : Nat} {how : Int32} (hh : ¬ how = 1) : Inv m t D (endW ω i how) := by
  obtain ⟨wf, ⟨i1, i2⟩, ik⟩ := h
  refine ⟨wf_end wf, ⟨fun q hq => ?_, fun e he => ?_⟩, fun q hq e he => ?_⟩
  · unfold endW
    by_cases z : q = i
    · subst z
      rw [u2_j (by decide), u2_j (by decide), u2_s, u2_j (j' := 9) (by decide), u2_s, u2_s]
      exact ⟨fun z => absurd z hh, fun _ => ⟨rfl, rfl⟩⟩
    · simp only [u2_k z]
      exact i1 q hq
  · unfold endW
    rw [u2_j (by decide), u2_j (by decide), u2_j (by decide)]; exact i2 e he
  · unfold endW
    rw [u2_j (j' := 0) (by decide), u2_j (j' := 0) (by decide), u2_j (j' := 0) (by decide)]
    by_cases z : q = i
    · subst z; rw [u2_s, bt_0]; intro z; cases z
    · simp only [u2_k z]
      exact ik q hq e he
theorem inv_settle (h : Inv m t D ω) {i a b : Nat} : Inv m t D (settleW ω i a b) := inv_end (inv_u (inv_u h (Or.inl rfl)) (Or.inl rfl)) (by decide)
theorem inv_11 (h : Inv m t D ω) {i : Nat} {v : Int32} (ho : i < D → ω 8 i = 1) (hv : i < D → ∃ a, a < 2 ^ t ∧ v = nI a) (hl : i < D → ∀ e, e < t → bt v e = true → bt (ω 0 12) e = true) : Inv m t D (u2 ω 11 i v) := by
  obtain ⟨wf, ⟨i1, i2⟩, ik⟩ := h
  refine ⟨wf_u11 wf hv, ⟨fun q hq => ?_, fun e he => ?_⟩, fun q hq e he => ?_⟩
  · rw [u2_j (by omega), u2_j (by omega), u2_j (by omega), u2_j (by omega)]
    refine ⟨(i1 q hq).1, fun z => ?_⟩
    have : q ≠ i := fun z2 => z (by rw [z2]; exact ho (z2 ▸ hq))
    rw [u2_k this]; exact (i1 q hq).2 z
  · rw [u2_j (by omega)]; exact i2 e he
  · rw [u2_j (j' := 0) (by omega)]
    by_cases z : q = i
    · subst z; rw [u2_s]; exact hl hq e he
    · rw [u2_k z]; exact ik q hq e he
/-- opening: the day is the one that it was due on, the witness lives -/
theorem inv_open (h : Inv m t D ω) {i a b : Nat} {buns deaf : Int32} (hd : ω 7 i = ω 0 13) (ha : i < D → bt (ω 0 12) (ix (ω 6 i)) = true) : Inv m t D (openW ω i a b buns deaf) := by
  have wf := h.1
  have wf' := wf_open (i := i) (a := a) (b := b) (buns := buns) (deaf := deaf) wf
  obtain ⟨-, ⟨i1, i2⟩, ik⟩ := h
  refine ⟨wf', ⟨fun q hq => ?_, fun e he => ?_⟩, fun q hq e he => ?_⟩
  · unfold openW
    by_cases z : q = i
    · subst z
      rw [u2_j (by decide), u2_j (by decide), u2_j (by decide), u2_s, u2_j (j' := 10) (by decide), u2_s, u2_j (j' := 7) (by decide), u2_j (j' := 7) (by decide), u2_j (j' := 7) (by decide), u2_j (j' := 7) (by decide), u2_j (j' := 7) (by decide), u2_j (j' := 7) (by decide)]
      exact ⟨fun _ => hd.symm, fun z => absurd rfl z⟩
    · simp only [u2_k z, u2_j (show (8 : Nat) ≠ 1 by decide), u2_j (show (7 : Nat) ≠ 1 by decide), u2_j (show (9 : Nat) ≠ 1 by decide), u2_j (show (10 : Nat) ≠ 1 by decide), u2_j (show (11 : Nat) ≠ 1 by decide)]
      exact i1 q hq
  · unfold openW
    rw [u2_j (by decide), u2_j (by decide), u2_j (by decide), u2_j (by decide), u2_j (by decide), u2_j (by decide)]; exact i2 e he
  · have ht := wf.2.1
    unfold openW
    rw [u2_j (j' := 0) (by decide), u2_j (j' := 0) (by decide), u2_j (j' := 0) (by decide), u2_j (j' := 0) (by decide), u2_j (j' := 0) (by decide), u2_j (j' := 0) (by decide)]
    by_cases z : q = i
    · subst z
      obtain ⟨w, hw, ew⟩ := (wf.2.2.2.2.2 q hq).2.2.1
      have ha := ha hq
      rw [ew, ix_nI (by omega)] at ha
      rw [u2_s, ew, bt_and, bt_one (by omega) (by omega)]
      intro z
      by_cases z2 : e = w
      · rw [z2]; exact ha
      · rw [decide_eq_false z2, Bool.false_and] at z; cases z
    · simp only [u2_k z, u2_j (show (11 : Nat) ≠ 10 by decide), u2_j (show (11 : Nat) ≠ 9 by decide), u2_j (show (11 : Nat) ≠ 8 by decide), u2_j (show (11 : Nat) ≠ 1 by decide)]
      exact ik q hq e he
theorem inv_fg (h : Inv m t D ω) {b : Int32} : Inv m t D (fgW ω b) := by
  obtain ⟨wf, ⟨i1, i2⟩, ik⟩ := h
  have hD := wf.2.2.1
  refine ⟨wf_fg wf, ⟨fun q hq => ?_, fun e he => ?_⟩, fun q hq e he => ?_⟩
  · rw [fgW_off (by decide), fgW_off (by decide), fgW_off (by decide), fgW_off (by decide), fgW_at, if_pos ⟨rfl, by omega⟩]
    refine ⟨(i1 q hq).1, fun z => ⟨((i1 q hq).2 z).1, ?_⟩⟩
    rw [((i1 q hq).2 z).2]
    refine bt_ext (fun k hk => ?_)
    rw [bt_and, bt_0, Bool.false_and]
  · rw [fgW_off (by decide)]; exact i2 e he
  · rw [fgW_off (j := 0) (by decide), fgW_at, if_pos ⟨rfl, by omega⟩, bt_and]
    intro z
    exact ik q hq e he (by rw [Bool.and_eq_true] at z; exact z.1)
theorem inv_bury (h : Inv m t D ω) {e : Nat} (he : e < 32) : Inv m t D (buryW ω (nI e)) := by
  have wf' := wf_bury (x := nI e) h.1
  obtain ⟨wf, ⟨i1, i2⟩, ik⟩ := h
  have hD := wf.2.2.1
  have ht := wf.2.1
  refine ⟨wf', ?_⟩
  unfold buryW
  refine ⟨⟨fun q hq => ?_, fun e he => ?_⟩, fun q hq k hk => ?_⟩
  · rw [fgW_off (by decide), fgW_off (by decide), fgW_off (by decide), fgW_off (by decide), fgW_at, if_pos ⟨rfl, by omega⟩]
    simp only [u2_j (show (8 : Nat) ≠ 0 by decide), u2_j (show (7 : Nat) ≠ 0 by decide), u2_j (show (9 : Nat) ≠ 0 by decide), u2_j (show (10 : Nat) ≠ 0 by decide), u2_j (show (11 : Nat) ≠ 0 by decide)]
    refine ⟨(i1 q hq).1, fun z => ⟨((i1 q hq).2 z).1, ?_⟩⟩
    rw [((i1 q hq).2 z).2]
    refine bt_ext (fun k hk => ?_)
    rw [bt_and, bt_0, Bool.false_and]
  · rw [fgW_off (by decide), u2_j (by decide)]; exact i2 e he
  · rw [fgW_off (j := 0) (by decide), fgW_at, if_pos ⟨rfl, by omega⟩, u2_s, u2_j (j' := 11) (by decide), bt_and, bt_and]
    intro z
    rw [Bool.and_eq_true] at z ⊢
    exact ⟨ik q hq k hk z.1, z.2⟩
theorem inv_it {f : Nat → wT → wT} (hf : ∀ i ω, Inv m t D ω → Inv m t D (f i ω)) : ∀ n {ω : wT}, Inv m t D ω → Inv m t D (itR f n ω)
  | 0, _, h => h
  | n + 1, _, h => hf n _ (inv_it hf n h)
theorem inv_itB {f : Nat → wT → wT} {B : Nat} (hf : ∀ i ω, i < B → Inv m t D ω → Inv m t D (f i ω)) : ∀ n, n ≤ B → ∀ {ω : wT}, Inv m t D ω → Inv m t D (itR f n ω)
  | 0, _, _, h => h
  | n + 1, hn, _, h => hf n _ (by omega) (inv_itB hf n (by omega) h)
theorem inv_lendSt {deaf : Int32} (i : Nat) (ω : wT) (h : Inv m t D ω) : Inv m t D (lendSt σ deaf i ω) := by
  unfold lendSt
  split
  · split
    · split
      · split
        · exact inv_end h (by decide)
        · rename_i h7 ha _
          exact inv_open h h7 (fun _ => ha)
      · exact inv_end h (by decide)
    · exact h
  · exact h
theorem inv_passSt {one : Nat} {bit : Int32} (hb : ∃ k, k < 2 ^ t ∧ bit = nI k) (ho : one < t) (hl : ∀ e, e < t → bt bit e = true → bt (ω 0 12) e = true) (i : Nat) (hi : i < D) (q : wT × Int32) (h12 : q.1 0 12 = ω 0 12) (h : Inv m t D q.1) : Inv m t D (passSt σ D one bit i q).1 ∧ (passSt σ D one bit i q).1 0 12 = ω 0 12 := by
  unfold passSt
  split
  · rename_i h1
    split
    · split
      · exact ⟨h, h12⟩
      · split
        · exact ⟨h, h12⟩
        · have hop : q.1 8 i = 1 := by
            refine Decidable.byContradiction (fun z => ?_)
            rw [((h.2.1.1 i hi).2 z).2, bt_0] at h1
            cases h1
          refine ⟨inv_11 h (fun _ => hop) (fun _ => ?_) (fun _ e he z => ?_), (show u2 q.1 11 i (q.1 11 i ||| bit) 0 12 = ω 0 12 from by rw [u2_j (by decide)]; exact h12)⟩
          · obtain ⟨k, hk, ek⟩ := (h.1.2.2.2.2.2 i hi).2.2.2
            obtain ⟨k2, hk2, ek2⟩ := hb
            exact ⟨k ||| k2, Nat.or_lt_two_pow hk hk2, by rw [ek, ek2, n_or]⟩
          · rw [bt_or, Bool.or_eq_true] at z
            rcases z with z | z
            · exact h.2.2 i hi e he z
            · rw [h12]; exact hl e he z
    · exact ⟨h, h12⟩
  · exact ⟨h, h12⟩
theorem inv_passIt {one : Nat} {bit : Int32} (hb : ∃ k, k < 2 ^ t ∧ bit = nI k) (ho : one < t) (hl : ∀ e, e < t → bt bit e = true → bt (ω 0 12) e = true) (h : Inv m t D ω) : ∀ n, n ≤ D → Inv m t D (itR (passSt σ D one bit) n (ω, 0)).1 ∧ (itR (passSt σ D one bit) n (ω, 0)).1 0 12 = ω 0 12
  | 0, _ => ⟨h, rfl⟩
  | n + 1, hn => inv_passSt hb ho hl n (by omega) _ (inv_passIt hb ho hl h n (by omega)).2 (inv_passIt hb ho hl h n (by omega)).1
theorem inv_rumSt {one other : Nat} (i : Nat) (ω : wT) (h : Inv m t D ω) : Inv m t D (rumSt one other i ω) := by
  have hD := h.1.2.2.1
  unfold rumSt
  split
  · exact inv_11 h (fun q => by omega) (fun q => by omega) (fun q => by omega)
  · exact h
theorem lean_bit {deaf : Int32} {b : Nat} (ht : t ≤ 6) (hb : b < t) (h2 : bt (ω 0 12) b = true) : ∀ e, e < t → bt (((1 : Int32) <<< (nI b &&& 31)) &&& (deaf ^^^ (-1))) e = true → bt (ω 0 12) e = true := by
  intro e he z
  rw [bt_and, bt_one (by omega) (by omega), Bool.and_eq_true, decide_eq_true_eq] at z
  rw [z.1]; exact h2
theorem inv_leanSt {deaf : Int32} {n : Nat} (S : SF σ m t n) {k : Nat} (hk : k < n) (h : Inv m t D ω) : Inv m t D (leanSt σ D deaf k ω) := by
  obtain ⟨a, ha, ea⟩ := S.2.2.2.2.1 k hk
  obtain ⟨b, hb, eb⟩ := S.2.2.2.2.2.1 k hk
  have ht := h.1.2.1
  unfold leanSt
  rw [ea, eb, ix_nI (by omega), ix_nI (by omega)]
  split
  · split
    · split
      · rename_i h2
        refine inv_it inv_rumSt 6 (inv_passIt (bit_ok ht hb) ha (lean_bit ht hb h2) h D (Nat.le_refl _)).1
      · exact h
    · exact h
  · exact h
theorem inv_leanIt {deaf : Int32} {n : Nat} (S : SF σ m t n) (h : Inv m t D ω) : ∀ k, k ≤ n → Inv m t D (itR (leanSt σ D deaf) k ω)
  | 0, _ => h
  | k + 1, hk => inv_leanSt S (by omega) (inv_leanIt S h k (by omega))
theorem inv_dieSt {e : Nat} (he : e < 32) (h : Inv m t D ω) : Inv m t D (dieSt σ e ω) := by
  unfold dieSt
  split
  · exact inv_bury h he
  · exact h
theorem inv_paySt (i : Nat) (ω : wT) (h : Inv m t D ω) : Inv m t D (paySt σ i ω) := by
  unfold paySt
  split
  · split
    · exact h
    · split
      · exact inv_settle h
      · exact h
  · exact h
theorem inv_intSt (i : Nat) (ω : wT) (h : Inv m t D ω) : Inv m t D (intSt σ i ω) := by
  unfold intSt
  split
  · rename_i h8
    exact inv_9 h (fun _ => h8)
  · exact h
theorem ageUp_ok {x : Int32} (h : ∃ a, a ≤ 99 ∧ x = nI a) : ∃ a, a ≤ 99 ∧ ageUp x = nI a := by
  obtain ⟨a, ha, rfl⟩ := h
  unfold ageUp
  split
  · rename_i h1
    rw [nI_1] at h1 ⊢
    refine ⟨a + 1, ?_, rfl⟩
    have := (Int32.lt_iff_toInt_lt).mp h1
    rw [nI_toInt (by omega), show (99 : Int32).toInt = 99 by decide] at this
    omega
  · exact ⟨99, Nat.le_refl _, rfl⟩
theorem inv_fatS {way odds : Int32} (h : Inv m t D ω) : Inv m t D (fatS way ω odds).1 := by
  unfold fatS
  split
  · split
    · exact h
    · split
      · exact h
      · exact inv_0 h (by decide) (by decide)
  · exact h
theorem inv_growSt {way : Int32} {e : Nat} (he : e < t) (h : Inv m t D ω) : Inv m t D (growSt σ way D e ω) := by
  have ht := h.1.2.1
  have h1 : Inv m t D (u2 ω 2 e (ageUp (ω 2 e))) := inv_2 h (ageUp_ok (h.2.1.2 e he))
  unfold growSt
  split
  · split
    · exact h1
    · split
      · exact inv_bury (inv_fatS h1) (by omega)
      · exact inv_fatS h1
  · exact h
theorem inv_forgSt (i : Nat) (ω : wT) (h : Inv m t D ω) : Inv m t D (forgSt i ω) := by
  unfold forgSt
  split
  · split
    · exact inv_end h (by decide)
    · exact h
  · exact h
theorem inv_day2 {way deaf : Int32} {n : Nat} (S : SF σ m t n) (h : Inv m t D ω) : Inv m t D (day2 σ D n way deaf ω) := by
  unfold day2
  split
  · exact inv_it inv_lendSt D h
  · exact inv_leanIt S (inv_it inv_lendSt D h) n (Nat.le_refl _)
theorem inv_day3 {way deaf : Int32} {n : Nat} (S : SF σ m t n) (h : Inv m t D ω) : Inv m t D (day3 σ t D n way deaf ω) := by
  have ht := h.1.2.1
  unfold day3
  split
  · exact inv_day2 S h
  · exact inv_itB (B := t) (fun i _ hi h => inv_dieSt (by omega) h) t (Nat.le_refl _) (inv_day2 S h)
theorem inv_day4 {way deaf : Int32} {n : Nat} (S : SF σ m t n) (h : Inv m t D ω) : Inv m t D (day4 σ t D n way deaf ω) := by
  unfold day4
  split
  · exact inv_day3 S h
  · exact inv_it inv_paySt D (inv_day3 S h)
theorem inv_day5 {way deaf : Int32} {n : Nat} (S : SF σ m t n) (h : Inv m t D ω) : Inv m t D (day5 σ t D n way deaf ω) := by
  unfold day5
  split
  · exact inv_itB (B := t) (fun i _ hi h => inv_growSt hi h) t (Nat.le_refl _) (inv_it inv_intSt D (inv_day4 S h))
  · exact inv_day4 S h
theorem inv_dayW {way deaf : Int32} {n : Nat} (S : SF σ m t n) (h : Inv m t D ω) : Inv m t D (dayW σ t D n way deaf ω) :=
  inv_0 (inv_it inv_forgSt D (inv_day5 S h)) (by decide) (by decide)
theorem inv_daysW {way deaf : Int32} {n : Nat} (S : SF σ m t n) (h : Inv m t D ω) (k : Nat) : Inv m t D (daysW σ t D n way deaf k ω) := inv_it (fun _ _ h => inv_dayW S h) k h
end IV
