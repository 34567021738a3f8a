/-! ===== the class's days ===== -/
theorem mref {a b : Nat} {P : Nat → Prop} (e : a = b) (h : P b) : ∀ w, w = a → P w := fun w ew => by rw [ew, e]; exact h
theorem href {a : aH} {P : aH → Prop} (h : P a) : ∀ w, w = a → P w := fun w ew => by rw [ew]; exact h
def CT (h : aH) (w sy : Nat) (way deaf : Int32) : Prop := h.2.2 344 1 = sy ∧ h.2.2 344 2 = w ∧ h.1 344 3 = way ∧ h.1 344 4 = deaf ∧ isW GC w ∧ isS GC sy ∧ sy + 29 ≤ w ∧ w + 12 ≤ 344
theorem ct_J {h : aH} {w sy : Nat} {way deaf : Int32} (C : CT h w sy way deaf) (J : Nat → Nat → Int64) : CT (hJ h J) w sy way deaf := C
theorem sJ_pW {h : aH} {w c k : Nat} {ω : wT} {v : Int64} : sJ (pW h w ω) c k v = pW (sJ h c k v) w ω := rfl
theorem pW_R {h : aH} {w c k : Nat} {ω : wT} : (pW h w ω).2.2 c k = h.2.2 c k := rfl
/-- the seven names of a debt -/
def nmS (ω : wT) (i : Nat) (age knows : Int32) : Nat → Int64 := fun k => match k with
  | 0 => (ω 9 i).toInt64
  | 1 => age.toInt64
  | 2 => (ω 1 (ix (ω 4 i))).toInt64
  | 3 => (bcS (ω 11 i)).toInt64
  | 4 => (if ω 8 i = 1 then ω 0 13 - ω 10 i else 0).toInt64
  | 5 => knows.toInt64
  | _ => (ω 0 13).toInt64
def nmT (ω : wT) (age knows : Int32) : Nat → Int64 := fun k => match k with
  | 0 => 0
  | 1 => age.toInt64
  | 2 => 0
  | 3 => knows.toInt64
  | 4 => 0
  | 5 => knows.toInt64
  | _ => (ω 0 13).toInt64
theorem nmS_ne {ω : wT} {i : Nat} {age knows : Int32} : ∀ k, k < 7 → ¬ nmS ω i age knows k = ERR := by
  intro k hk
  match k, hk with
  | 0, _ => exact i64ne _
  | 1, _ => exact i64ne _
  | 2, _ => exact i64ne _
  | 3, _ => exact i64ne _
  | 4, _ => exact i64ne _
  | 5, _ => exact i64ne _
  | 6, _ => exact i64ne _
theorem nmT_ne {ω : wT} {age knows : Int32} : ∀ k, k < 7 → ¬ nmT ω age knows k = ERR := by
  intro k hk
  match k, hk with
  | 0, _ => exact (show ¬ (0 : Int64) = ERR by decide)
  | 1, _ => exact i64ne _
  | 2, _ => exact (show ¬ (0 : Int64) = ERR by decide)
  | 3, _ => exact i64ne _
  | 4, _ => exact (show ¬ (0 : Int64) = ERR by decide)
  | 5, _ => exact i64ne _
  | 6, _ => exact i64ne _
/-- a value knows seven names alone -/
theorem leafV_ext {nm nm' : Nat → Int64} (hn : ∀ k, k < 7 → nm k = nm' k) {c : Int32} (hc : partsN c = 0) : leafV nm c = leafV nm' c := by
  unfold leafV
  split
  · rename_i h1
    have h2 : ¬ (64 : Int32) ≤ c := Int32.not_le.mpr h1
    unfold partsN at hc
    rw [if_neg h2] at hc
    have h3 : ¬ c < 14 := fun q => by rw [if_pos q] at hc; split at hc <;> cases hc
    rw [if_neg h3] at hc
    have h4 : ¬ 20 < c := fun q => by rw [if_pos q] at hc; cases hc
    rw [Int32.not_lt, Int32.le_iff_toInt_le] at h3 h4
    have e3 : (14 : Int32).toInt = 14 := by decide
    have e4 : (20 : Int32).toInt = 20 := by decide
    rw [e3] at h3
    rw [e4] at h4
    obtain ⟨j, hj, rfl⟩ := nI_of (x := c) (fun q => by rw [Int32.lt_iff_toInt_lt] at q; have : (0 : Int32).toInt = 0 := by decide
                                                       omega)
    rw [nI_toInt hj] at h3 h4
    have e5 : nI j - 14 = nI (j - 14) := pk_sub (a := j) (b := 14) (by omega)
    rw [e5, nI_clamp (by omega)]
    exact hn _ (by omega)
  · rfl
theorem stp_ext {nm nm' : Nat → Int64} (hn : ∀ k, k < 7 → nm k = nm' k) (c : Int32) (s : List Int64) : stp nm c s = stp nm' c s := by
  unfold stp
  rcases partsN_cases c with e | e | e
  · rw [e, leafV_ext hn e]
  · rw [e]
    cases s with
    | nil => rfl
    | cons a r => cases r <;> rfl
  · rw [e]
    cases s with
    | nil => rfl
    | cons a r => cases r <;> rfl
theorem valS_ext {cd : Nat → Int32} {n : Nat} {nm nm' : Nat → Int64} (hn : ∀ k, k < 7 → nm k = nm' k) : valS cd n nm = valS cd n nm' := by
  have h : ∀ i, evS cd nm i = evS cd nm' i := by
    intro i
    induction i with
    | zero => rfl
    | succ i ih =>
      show (evS cd nm i).bind _ = (evS cd nm' i).bind _
      rw [ih]
      congr 1
      funext s
      exact stp_ext hn _ s
  unfold valS
  rw [h]
/-- a story's law at j: its length, its codes well formed -/
def LF (σ : wT) (j : Nat) : Prop := ∃ n, σ j 2 = nI n ∧ WFc (σ (j + 1)) n
def lwV (σ : wT) (j : Nat) (nm : Nat → Int64) : Int64 := valS (σ (j + 1)) (ix (σ j 2)) nm
def passV (σ ω : wT) (D i t : Nat) : Int64 := lwV σ 8 (nmS ω i (ω 2 t) (bcS (knByS ω t D)))
def payV (σ ω : wT) (i : Nat) : Int64 := lwV σ 11 (nmS ω i (if (oldS ω i 6).1 < 0 then 0 else ω 2 (ix (oldS ω i 6).1)) 0)
def dieV (σ ω : wT) (D t : Nat) (age : Int32) : Int64 := lwV σ 14 (nmT ω age (bcS (knByS ω t D)))
def oddS (σ ω : wT) (D t : Nat) (age : Int32) : Int32 := if dieV σ ω D t age = ERR then (if (0 : Int32) < age - 60 then age - 60 else 0) else (if (if dieV σ ω D t age < 100 then dieV σ ω D t age else 100) < (0 : Int64) then (0 : Int64) else (if dieV σ ω D t age < 100 then dieV σ ω D t age else 100)).toInt32
def dueB (σ ω : wT) (i : Nat) : Bool := if payV σ ω i = ERR then decide (¬ (if ω 8 i = 1 then ω 0 13 - ω 10 i else 0) < 5) else decide (¬ payV σ ω i = 0)
section CO
variable {l : Launch} {ad : Nat → Nat} {d w sy m t D : Nat} {h : aH} {ω : wT} {way deaf : Int32}
theorem st_off (C : CT h w sy way deaf) {j k : Nat} (hj : j < 29) : (pW h w ω).1 (sy + j) k = wd h sy j k := (pW_off (Or.inl (by have := C.2.2.2.2.2.2.1; omega))).trans (wd_at hj).symm
theorem st_off0 (C : CT h w sy way deaf) {k : Nat} : (pW h w ω).1 sy k = wd h sy 0 k := st_off (j := 0) C (by decide)
theorem ct_off (C : CT h w sy way deaf) {k : Nat} : (pW h w ω).1 344 k = h.1 344 k := pW_off (Or.inr C.2.2.2.2.2.2.2)
theorem sp_nameDebt {R : aH → Prop} (C : CT h w sy way deaf) (wf : WFw m t D ω) {i : Nat} (hi : i < D) {age knows : Int32} (H : ∀ J, (∀ k, k < 7 → J 345 k = nmS ω i age knows k) → R (pW (hJ h J) w ω)) : AW GC l ad (d + 1) mX0_nameDebt 0 [(0, .ref (ad 344)), (1, .int (nI i)), (2, .int age), (3, .int knows)] [] (pW h w ω) (qv R) := by
  have hw := C.2.2.2.2.1
  have e2 : h.2.2 344 2 = w := C.2.1
  obtain ⟨hm, ht, hD, -, -, hall⟩ := wf
  obtain ⟨b, hb, eb⟩ := (hall i hi).2.1
  obtain ⟨k, hk, ek⟩ := (hall i hi).2.2.2
  have hk6 : 2 ^ t ≤ 64 := Nat.pow_le_pow_right (by decide) ht
  refine bX0_nameDebt_0 _ _ _ _ (mref e2 ⟨hw, vp_in_nI (by omega) (by omega), ?_⟩)
  rw [nI_clamp (by omega), pW_get (by decide), sJ_pW, sJ_pW, pW_get (by decide), eb]
  refine sp_purseOf hw (by omega) (mref e2 ⟨hw, vp_in_nI (by omega) (by omega), ?_⟩)
  rw [sJ_pW, pW_get (by decide), ek]
  refine sp_bitCount (by omega) (mref e2 ⟨hw, ?_⟩)
  rw [sJ_pW]
  refine sp_daysOpen hw (by omega) (mref e2 ⟨hw, href ?_⟩)
  rw [sJ_pW, sJ_pW, pW_get0, sJ_pW]
  refine H _ (fun q hq => ?_)
  match q, hq with
  | 0, _ => rfl
  | 1, _ => rfl
  | 2, _ => show (ω 1 b).toInt64 = (ω 1 (ix (ω 4 i))).toInt64; rw [eb, ix_nI (by omega)]
  | 3, _ => show (bcS (nI k)).toInt64 = (bcS (ω 11 i)).toInt64; rw [ek]
  | 4, _ => rfl
  | 5, _ => rfl
  | 6, _ => rfl
/-- a law's value over the heap -/
theorem sp_lawV {R : Int64 → aH → Prop} (C : CT h w sy way deaf) {j : Nat} (hL : isL GC (sy + j)) (hj : j + 2 < 29) (L : LF (wd h sy) j) {nm : Nat → Int64} (hnm : ∀ k, k < 7 → ¬ nm k = ERR) (hJn : ∀ k, k < 7 → h.2.1 345 k = nm k) (H : ∀ J, R (lwV (wd h sy) j nm) (pW (hJ h J) w ω)) : AW GC l ad (d + 1) mX1_value 0 [(0, .ref (ad (sy + j))), (1, .ref (ad 345))] [] (pW h w ω) (ql R) := by
  obtain ⟨n, en, wf⟩ := L
  have h1 := C.2.2.2.2.2.2.1
  have h2 := C.2.2.2.2.2.2.2
  have ecd : (pW h w ω).1 (sy + j + 1) = wd h sy (j + 1) := by
    funext k
    rw [Nat.add_assoc]
    exact st_off C (by omega)
  refine sp_value hL (by omega) (n := n) (by rw [st_off C (by omega)]; exact en) (by rw [ecd]; exact wf) (fun k hk => ?_) (fun J => ?_)
  · show ¬ h.2.1 345 k = ERR
    rw [hJn k hk]; exact hnm k hk
  · rw [ecd]
    have e : valS (wd h sy (j + 1)) n ((pW h w ω).2.1 345) = lwV (wd h sy) j nm := by
      unfold lwV
      rw [en, ix_nI (by have := wf.2.2; omega)]
      exact valS_ext (fun k hk => hJn k hk)
    rw [e]
    exact H J
theorem sp_passValue {R : Int64 → aH → Prop} (C : CT h w sy way deaf) (wf : WFw m t D ω) (L : LF (wd h sy) 8) {i q : Nat} (hi : i < D) (hq : q < 6) (H : ∀ J, R (passV (wd h sy) ω D i q) (pW (hJ h J) w ω)) : AW GC l ad (d + 2) mX0_passValue 0 [(0, .ref (ad 344)), (1, .int (nI i)), (2, .int (nI q))] [] (pW h w ω) (ql R) := by
  have hw := C.2.2.2.2.1
  have e2 : h.2.2 344 2 = w := C.2.1
  refine bX0_passValue_0 _ _ _ ⟨fun z => absurd z (nI_pos (by omega)), fun _ => ⟨fun z => absurd z (nI_ge (b := 6) hq (by omega)), fun _ => mref e2 ⟨hw, vp_in_nI hq (by omega), ?_⟩⟩⟩
  rw [nI_clamp (by omega), pW_get (by decide)]
  refine bX0_passValue_23 _ _ _ _ (mref e2 ⟨hw, ?_⟩)
  have hD := wf.2.2.1
  obtain ⟨k, hk, ek⟩ := knBy_lt ω q D hD
  refine sp_debtsKnownBy hw hD wf.2.2.2.1 ?_
  rw [ek]
  refine sp_bitCount (Nat.lt_of_lt_of_le hk (Nat.pow_le_pow_right (j := 8) (by decide) hD)) ?_
  rw [← ek]
  refine sp_nameDebt C wf hi (fun J hJ1 => ?_)
  refine mref (b := sy) C.1 ⟨C.2.2.2.2.2.1, ?_⟩
  exact sp_lawV (ct_J C J) C.2.2.2.2.2.1.2.2.1 (by decide) L nmS_ne hJ1 H
theorem oldS_rng (ω : wT) (i : Nat) : ∀ n, n ≤ 6 → (oldS ω i n).1 = -1 ∨ ∃ q, q < n ∧ (oldS ω i n).1 = nI q := by
  intro n
  induction n with
  | zero => intro _; exact Or.inl rfl
  | succ n ih =>
    intro hn
    have e0 : oldS ω i (n + 1) = if bt (ω 11 i) n then (if ω 2 n ≤ (oldS ω i n).2 then oldS ω i n else (nI n, ω 2 n)) else oldS ω i n := rfl
    have h1 : (oldS ω i n).1 = -1 ∨ ∃ q, q < n + 1 ∧ (oldS ω i n).1 = nI q := by
      rcases ih (by omega) with h | ⟨q, hq, e⟩
      · exact Or.inl h
      · exact Or.inr ⟨q, by omega, e⟩
    rw [e0]
    split
    · split
      · exact h1
      · exact Or.inr ⟨n, by omega, rfl⟩
    · exact h1
theorem sp_payValue {R : Int64 → aH → Prop} (C : CT h w sy way deaf) (wf : WFw m t D ω) (L : LF (wd h sy) 11) {i : Nat} (hi : i < D) (H : ∀ J, R (payV (wd h sy) ω i) (pW (hJ h J) w ω)) : AW GC l ad (d + 2) mX0_payValue 0 [(0, .ref (ad 344)), (1, .int (nI i))] [] (pW h w ω) (ql R) := by
  have hw := C.2.2.2.2.1
  have e2 : h.2.2 344 2 = w := C.2.1
  have hD := wf.2.2.1
  have K : ∀ age, age = (if (oldS ω i 6).1 < 0 then 0 else ω 2 (ix (oldS ω i 6).1)) → AW GC l ad (d + 2) mX0_payValue 34 [(0, .ref (ad 344))] [.int age, .int (nI i), .ref (ad 344)] (pW h w ω) (ql R) := by
    intro age ea
    refine bX0_payValue_34 _ _ _ ?_
    refine sp_nameDebt C wf hi (fun J hJ1 => ?_)
    refine mref (b := sy) C.1 ⟨C.2.2.2.2.2.1, ?_⟩
    rw [ea] at hJ1
    exact sp_lawV (ct_J C J) C.2.2.2.2.2.1.2.2.2.1 (by decide) L nmS_ne hJ1 H
  refine bX0_payValue_0 _ _ (mref e2 ⟨hw, ?_⟩)
  refine sp_oldestOf hw (by omega) ?_
  rcases oldS_rng ω i 6 (Nat.le_refl _) with e | ⟨q, hq, e⟩
  · rw [e] at K ⊢
    refine ⟨fun _ => ?_, fun z => absurd (by decide) z⟩
    exact bX0_payValue_33 _ _ (K 0 (by rw [if_pos (by decide)]))
  · rw [e] at K ⊢
    refine ⟨fun z => absurd z (nI_pos (by omega)), fun _ => ⟨fun z => absurd z (nI_ge (b := 6) hq (by omega)), fun _ => mref e2 ⟨hw, vp_in_nI hq (by omega), ?_⟩⟩⟩
    rw [nI_clamp (by omega), pW_get (by decide)]
    exact K _ (by rw [if_neg (nI_pos (by omega)), ix_nI (by omega)])
theorem sp_dieValue {R : Int64 → aH → Prop} (C : CT h w sy way deaf) (wf : WFw m t D ω) (L : LF (wd h sy) 14) {q : Nat} {age : Int32} (H : ∀ J, R (dieV (wd h sy) ω D q age) (pW (hJ h J) w ω)) : AW GC l ad (d + 2) mX0_dieValue 0 [(0, .ref (ad 344)), (1, .int (nI q)), (2, .int age)] [] (pW h w ω) (ql R) := by
  have hw := C.2.2.2.2.1
  have e2 : h.2.2 344 2 = w := C.2.1
  have hD := wf.2.2.1
  obtain ⟨k, hk, ek⟩ := knBy_lt ω q D hD
  refine bX0_dieValue_0 _ _ _ (mref e2 ⟨hw, ?_⟩)
  refine sp_debtsKnownBy hw hD wf.2.2.2.1 ?_
  rw [ek]
  refine sp_bitCount (Nat.lt_of_lt_of_le hk (Nat.pow_le_pow_right (j := 8) (by decide) hD)) ?_
  rw [← ek]
  refine href (mref e2 ⟨hw, mref (b := sy) C.1 ⟨C.2.2.2.2.2.1, ?_⟩⟩)
  rw [sJ_pW, sJ_pW, sJ_pW, sJ_pW, sJ_pW, sJ_pW, pW_get0, sJ_pW]
  refine sp_lawV (ct_J C _) C.2.2.2.2.2.1.2.2.2.2.1 (by decide) L (nm := nmT ω age (bcS (knByS ω q D))) nmT_ne (fun k hk => ?_) H
  match k, hk with
  | 0, _ => rfl
  | 1, _ => rfl
  | 2, _ => rfl
  | 3, _ => rfl
  | 4, _ => rfl
  | 5, _ => rfl
  | 6, _ => rfl
theorem sp_oddsOf {R : Int32 → aH → Prop} (C : CT h w sy way deaf) (wf : WFw m t D ω) (L : LF (wd h sy) 14) {q : Nat} {age : Int32} (H : ∀ J, R (oddS (wd h sy) ω D q age) (pW (hJ h J) w ω)) : AW GC l ad (d + 3) mX0_oddsOf 0 [(0, .ref (ad 344)), (1, .int (nI q)), (2, .int age)] [] (pW h w ω) (qi R) := by
  refine bX0_oddsOf_0 _ _ _ (sp_dieValue C wf L (fun J => ⟨fun z => ?_, fun z => ?_⟩))
  · have := H J
    unfold oddS at this
    rw [if_neg z] at this
    exact this
  · have := H J
    unfold oddS at this
    rw [if_pos z] at this
    exact this
theorem sp_isDue {R : Int32 → aH → Prop} (C : CT h w sy way deaf) (wf : WFw m t D ω) (L : LF (wd h sy) 11) {i : Nat} (hi : i < D) (H1 : dueB (wd h sy) ω i = true → ∀ J, R 1 (pW (hJ h J) w ω)) (H0 : dueB (wd h sy) ω i = false → ∀ J, R 0 (pW (hJ h J) w ω)) : AW GC l ad (d + 3) mX0_isDue 0 [(0, .ref (ad 344)), (1, .int (nI i))] [] (pW h w ω) (qi R) := by
  have hD := wf.2.2.1
  refine bX0_isDue_0 _ _ (sp_payValue C wf L hi (fun J => ⟨fun z => ⟨fun z2 => ?_, fun z2 => ?_⟩, fun z => mref (b := w) C.2.1 ⟨C.2.2.2.2.1, ?_⟩⟩))
  · exact H0 (by unfold dueB; rw [if_neg z]; exact decide_eq_false (fun q => q z2)) J
  · exact H1 (by unfold dueB; rw [if_neg z]; exact decide_eq_true z2) J
  · refine sp_daysOpen C.2.2.2.2.1 (by omega) ⟨fun z2 => ?_, fun z2 => ?_⟩
    · exact H0 (by unfold dueB; rw [if_pos z]; exact decide_eq_false (fun q => q z2)) J
    · exact H1 (by unfold dueB; rw [if_pos z]; exact decide_eq_true z2) J
end CO
