/-! ===== the class's days: deaths, payings, interest, age, forgiving; a day; days ===== -/
def dieSt (σ : wT) (e : Nat) (ω : wT) : wT := if σ 4 e = ω 0 13 then buryW ω (nI e) else ω
theorem wf_dieSt {m t D : Nat} {σ : wT} (e : Nat) (ω : wT) (h : WFw m t D ω) : WFw m t D (dieSt σ e ω) := by
  unfold dieSt
  split
  · exact wf_bury h
  · exact h
def paySt (σ : wT) (i : Nat) (ω : wT) : wT := if ω 8 i = 1 then (if ω 1 (ix (ω 4 i)) < ω 9 i then ω else (if dueB σ ω i then settleW ω i (ix (ω 3 i)) (ix (ω 4 i)) else ω)) else ω
theorem wf_paySt {m t D : Nat} {σ : wT} (i : Nat) (ω : wT) (h : WFw m t D ω) : WFw m t D (paySt σ i ω) := by
  unfold paySt
  split
  · split
    · exact h
    · split
      · exact wf_settle h
      · exact h
  · exact h
def intV (x rate : Int32) : Int32 := if x + x * rate / 100 < 9999 then x + x * rate / 100 else 9999
def intSt (σ : wT) (i : Nat) (ω : wT) : wT := if ω 8 i = 1 then u2 ω 9 i (intV (ω 9 i) (σ 0 14)) else ω
theorem wf_intSt {m t D : Nat} {σ : wT} (i : Nat) (ω : wT) (h : WFw m t D ω) : WFw m t D (intSt σ i ω) := by
  unfold intSt
  split
  · exact wf_u h (by decide) (by decide) (by decide) (by decide) (by decide)
  · exact h
def rem32 (x y : Int32) : Int32 := x - x / y * y
def fatS (way : Int32) (ω : wT) (odds : Int32) : wT × Bool :=
  if way = -1 then (if odds ≤ 0 then (ω, decide (odds = 100)) else (if 100 ≤ odds then (ω, decide (odds = 100)) else (u2 ω 0 14 (nextN (ω 0 14)), decide (¬ odds ≤ rem32 (nextN (ω 0 14) / 65536) 100)))) else (ω, decide (¬ odds < 50))
def ageUp (x : Int32) : Int32 := if x + 1 < 99 then x + 1 else 99
def growSt (σ : wT) (way : Int32) (D e : Nat) (ω : wT) : wT :=
  if bt (ω 0 12) e then (if way = 1 then u2 ω 2 e (ageUp (ω 2 e)) else (if (fatS way (u2 ω 2 e (ageUp (ω 2 e))) (oddS σ (u2 ω 2 e (ageUp (ω 2 e))) D e (ageUp (ω 2 e)))).2 then buryW (fatS way (u2 ω 2 e (ageUp (ω 2 e))) (oddS σ (u2 ω 2 e (ageUp (ω 2 e))) D e (ageUp (ω 2 e)))).1 (nI e) else (fatS way (u2 ω 2 e (ageUp (ω 2 e))) (oddS σ (u2 ω 2 e (ageUp (ω 2 e))) D e (ageUp (ω 2 e)))).1)) else ω
theorem wf_fatS {m t D : Nat} {way odds : Int32} {ω : wT} (h : WFw m t D ω) : WFw m t D (fatS way ω odds).1 := by
  unfold fatS
  split
  · split
    · exact h
    · split
      · exact h
      · exact wf_u0 h (by decide) (by decide)
  · exact h
theorem wf_growSt {m t D : Nat} {σ : wT} {way : Int32} (e : Nat) (ω : wT) (h : WFw m t D ω) : WFw m t D (growSt σ way D e ω) := by
  unfold growSt
  have h1 : WFw m t D (u2 ω 2 e (ageUp (ω 2 e))) := wf_u h (by decide) (by decide) (by decide) (by decide) (by decide)
  split
  · split
    · exact h1
    · split
      · exact wf_bury (wf_fatS h1)
      · exact wf_fatS h1
  · exact h
def forgSt (i : Nat) (ω : wT) : wT := if ω 8 i = 1 then (if ω 11 i = 0 then endW ω i 3 else ω) else ω
theorem wf_forgSt {m t D : Nat} (i : Nat) (ω : wT) (h : WFw m t D ω) : WFw m t D (forgSt i ω) := by
  unfold forgSt
  split
  · split
    · exact wf_end h
    · exact h
  · exact h
section DZ
variable {l : Launch} {ad : Nat → Nat} {d w sy m t D : Nat} {h : aH} {ω : wT} {way deaf : Int32}
theorem sp_dieAsTold {R : aH → Prop} {n : Nat} (C : CT h w sy way deaf) (S : SF (wd h sy) m t n) (ht : t ≤ 6) (H : R (pW h w (itR (dieSt (wd h sy)) t ω))) : AW GC l ad (d + 2) mX0_dieAsTold 0 [(0, .ref (ad 344))] [] (pW h w ω) (qv R) := by
  have hw := C.2.2.2.2.1
  have hS := C.2.2.2.2.2.1
  refine bX0_dieAsTold_0 _ (up_ind (P := fun i => AW GC l ad (d + 2) mX0_dieAsTold 2 [(0, .ref (ad 344)), (1, .int (nI i))] [] (pW h w (itR (dieSt (wd h sy)) i ω)) (qv R)) t ?_ (fun i hi ih => ?_))
  · refine bX0_dieAsTold_2 _ _ (mref (b := sy) C.1 ⟨hS, fun _ => H, fun z => absurd ?_ z⟩)
    rw [st_off0 C, S.2.1]
    exact Int32.le_refl _
  · have e : itR (dieSt (wd h sy)) (i + 1) ω = dieSt (wd h sy) i (itR (dieSt (wd h sy)) i ω) := rfl
    rw [e] at ih
    generalize itR (dieSt (wd h sy)) i ω = ω at ih ⊢
    unfold dieSt at ih
    refine bX0_dieAsTold_2 _ _ (mref (b := sy) C.1 ⟨hS, ?_⟩)
    rw [st_off0 C, S.2.1, nI_clamp (by omega), nI_1, st_off C (by decide)]
    refine ⟨fun z => absurd z (nI_ge hi (by omega)), fun _ => ⟨fun z => absurd z (nI_ge (b := 6) (by omega) (by omega)), fun _ => ⟨vp_in_nI (by omega) (by omega), mref (b := w) C.2.1 ⟨hw, ?_⟩⟩⟩⟩
    rw [pW_get0]
    refine ⟨fun z => ?_, fun z => ?_⟩
    · rw [if_neg z] at ih; exact ih
    · rw [if_pos z] at ih
      exact sp_bury hw ih
theorem sp_payAll {R : aH → Prop} (C : CT h w sy way deaf) (L : LF (wd h sy) 11) (wf : WFw m t D ω) (H : ∀ J, R (pW (hJ h J) w (itR (paySt (wd h sy)) D ω))) : AW GC l ad (d + 4) mX0_payAll 0 [(0, .ref (ad 344))] [] (pW h w ω) (qv R) := by
  have hw := C.2.2.2.2.1
  have key := up_ind (P := fun i => ∀ J, AW GC l ad (d + 4) mX0_payAll 2 [(0, .ref (ad 344)), (1, .int (nI i))] [] (pW (hJ h J) w (itR (paySt (wd h sy)) i ω)) (qv R)) D (fun J => ?_) (fun i hi ih J => ?_)
  · exact bX0_payAll_0 _ (key h.2.1)
  · refine bX0_payAll_2 _ _ (mref (b := w) C.2.1 ⟨hw, fun _ => H J, fun z => absurd ?_ z⟩)
    rw [pW_get0, (wf_it wf_paySt D wf).2.2.2.1]
    exact Int32.le_refl _
  · have e : itR (paySt (wd h sy)) (i + 1) ω = paySt (wd h sy) i (itR (paySt (wd h sy)) i ω) := rfl
    have wfi := wf_it (wf_paySt (σ := wd h sy)) i wf
    rw [e] at ih
    generalize itR (paySt (wd h sy)) i ω = ω at ih wfi ⊢
    have wf0 := wfi
    obtain ⟨hm, ht, hD, e11, -, hall⟩ := wfi
    obtain ⟨⟨a, ha, ea⟩, ⟨b, hb, eb⟩, -, -⟩ := hall i hi
    unfold paySt at ih
    rw [ea, eb, ix_nI (by omega), ix_nI (by omega)] at ih
    refine bX0_payAll_2 _ _ (mref (b := w) C.2.1 ⟨hw, ?_⟩)
    rw [pW_get0, e11, nI_clamp (by omega), nI_1, pW_get (by decide)]
    refine ⟨fun z => absurd z (nI_ge hi (by omega)), fun _ => ⟨vp_in_nI (by omega) (by omega), fun z => ?_, fun z => ?_⟩⟩
    · have := ih J
      rw [if_neg z] at this
      exact this
    · rw [if_pos z] at ih
      refine sp_isInPurse hw (by omega) (by omega) eb ?_
      by_cases z2 : ω 1 b < ω 9 i
      · rw [if_pos z2] at ih ⊢
        exact ⟨fun _ => ih J, fun z => absurd rfl z⟩
      · rw [if_neg z2] at ih ⊢
        refine ⟨fun z => absurd z (by decide), fun _ => ?_⟩
        refine sp_isDue (ct_J C J) wf0 L hi (fun z3 J2 => ?_) (fun z3 J2 => ?_)
        · have z4 : dueB (wd h sy) ω i = true := z3
          rw [z4, if_pos rfl] at ih
          refine ⟨fun z => absurd z (by decide), fun _ => mref (b := w) C.2.1 ⟨hw, ?_⟩⟩
          exact sp_settle hw (by omega) (by omega) (by omega) ea eb (ih J2)
        · have z4 : dueB (wd h sy) ω i = false := z3
          rw [z4] at ih
          exact ⟨fun _ => ih J2, fun z => absurd rfl z⟩
theorem sp_addInterest {R : aH → Prop} (C : CT h w sy way deaf) (wf : WFw m t D ω) (H : R (pW h w (itR (intSt (wd h sy)) D ω))) : AW GC l ad (d + 1) mX0_addInterest 0 [(0, .ref (ad 344))] [] (pW h w ω) (qv R) := by
  have hw := C.2.2.2.2.1
  refine bX0_addInterest_0 _ (up_ind (P := fun i => AW GC l ad (d + 1) mX0_addInterest 2 [(0, .ref (ad 344)), (1, .int (nI i))] [] (pW h w (itR (intSt (wd h sy)) i ω)) (qv R)) D ?_ (fun i hi ih => ?_))
  · refine bX0_addInterest_2 _ _ (mref (b := w) C.2.1 ⟨hw, fun _ => H, fun z => absurd ?_ z⟩)
    rw [pW_get0, (wf_it wf_intSt D wf).2.2.2.1]
    exact Int32.le_refl _
  · have e : itR (intSt (wd h sy)) (i + 1) ω = intSt (wd h sy) i (itR (intSt (wd h sy)) i ω) := rfl
    have wfi := wf_it (wf_intSt (σ := wd h sy)) i wf
    rw [e] at ih
    generalize itR (intSt (wd h sy)) i ω = ω at ih wfi ⊢
    obtain ⟨hm, ht, hD, e11, -, hall⟩ := wfi
    unfold intSt at ih
    refine bX0_addInterest_2 _ _ (mref (b := w) C.2.1 ⟨hw, ?_⟩)
    rw [pW_get0, e11, nI_clamp (by omega), nI_1, pW_get (by decide), pW_get (by decide)]
    refine ⟨fun z => absurd z (nI_ge hi (by omega)), fun _ => ⟨vp_in_nI (by omega) (by omega), fun z => ?_, fun z => mref (b := sy) C.1 ⟨C.2.2.2.2.2.1, href ?_⟩⟩⟩
    · rw [if_neg z] at ih; exact ih
    · rw [if_pos z] at ih
      rw [st_off0 C, sI_pW (by decide)]
      exact ih
theorem sp_isFatal {R : Int32 → aH → Prop} (C : CT h w sy way deaf) {odds : Int32} (H : R (if (fatS way ω odds).2 then 1 else 0) (pW h w (fatS way ω odds).1)) : AW GC l ad (d + 1) mX0_isFatal 0 [(0, .ref (ad 344)), (1, .int odds)] [] (pW h w ω) (qi R) := by
  have hw := C.2.2.2.2.1
  have ew : (pW h w ω).1 344 3 = way := by rw [ct_off C]; exact C.2.2.1
  have K : fatS way ω odds = (ω, if way = -1 then decide (odds = 100) else decide (¬ odds < 50)) → AW GC l ad (d + 1) mX0_isFatal 38 [(0, .ref (ad 344)), (1, .int odds)] [] (pW h w ω) (qi R) := by
    intro e
    rw [e] at H
    refine bX0_isFatal_38 _ _ ?_
    rw [ew]
    refine ⟨fun z => ⟨fun z2 => ?_, fun z2 => ?_⟩, fun z => ⟨fun z2 => ?_, fun z2 => ?_⟩⟩
    · rw [if_neg z, decide_eq_false (fun q => q z2)] at H; exact H
    · rw [if_neg z, decide_eq_true z2] at H; exact H
    · rw [if_pos z, decide_eq_false z2] at H; exact H
    · rw [if_pos z, decide_eq_true z2] at H; exact H
  refine bX0_isFatal_0 _ _ ?_
  rw [ew]
  refine ⟨fun z => K ?_, fun z => ⟨fun z2 => K ?_, fun z2 => ⟨fun z3 => K ?_, fun z3 => mref (b := w) C.2.1 ⟨hw, ?_⟩⟩⟩⟩
  · unfold fatS; rw [if_neg z, if_neg z]
  · unfold fatS; rw [if_pos z, if_pos z, if_pos z2]
  · unfold fatS; rw [if_pos z, if_pos z, if_neg z2, if_pos z3]
  · unfold fatS at H
    rw [if_pos z, if_neg z2, if_neg z3] at H
    refine sp_drawNumber hw ⟨fun z4 => ?_, fun z4 => ?_⟩
    · rw [show decide (¬ odds ≤ rem32 (nextN (ω 0 14) / 65536) 100) = false from decide_eq_false (fun q => q z4)] at H
      exact H
    · rw [show decide (¬ odds ≤ rem32 (nextN (ω 0 14) / 65536) 100) = true from decide_eq_true z4] at H
      exact H
theorem sp_growOlder {R : aH → Prop} {n : Nat} (C : CT h w sy way deaf) (S : SF (wd h sy) m t n) (wf : WFw m t D ω) (H : ∀ J, R (pW (hJ h J) w (itR (growSt (wd h sy) way D) t ω))) : AW GC l ad (d + 4) mX0_growOlder 0 [(0, .ref (ad 344))] [] (pW h w ω) (qv R) := by
  have hw := C.2.2.2.2.1
  have hS := C.2.2.2.2.2.1
  have key := up_ind (P := fun i => ∀ J, AW GC l ad (d + 4) mX0_growOlder 2 [(0, .ref (ad 344)), (1, .int (nI i))] [] (pW (hJ h J) w (itR (growSt (wd h sy) way D) i ω)) (qv R)) t (fun J => ?_) (fun i hi ih J => ?_)
  · exact bX0_growOlder_0 _ (key h.2.1)
  · refine bX0_growOlder_2 _ _ (mref (b := sy) C.1 ⟨hS, fun _ => H J, fun z => absurd ?_ z⟩)
    rw [st_off0 (ct_J C J)]
    show (wd h sy) 0 12 ≤ _
    rw [S.2.1]
    exact Int32.le_refl _
  · have e : itR (growSt (wd h sy) way D) (i + 1) ω = growSt (wd h sy) way D i (itR (growSt (wd h sy) way D) i ω) := rfl
    have wfi := wf_it (wf_growSt (σ := wd h sy) (way := way)) i wf
    rw [e] at ih
    generalize itR (growSt (wd h sy) way D) i ω = ω at ih wfi ⊢
    have wf1 : WFw m t D (u2 ω 2 i (ageUp (ω 2 i))) := wf_u wfi (by decide) (by decide) (by decide) (by decide) (by decide)
    have ht := wfi.2.1
    have e12 : wd (hJ h J) sy 0 12 = nI t := S.2.1
    unfold growSt at ih
    refine bX0_growOlder_2 _ _ (mref (b := sy) C.1 ⟨hS, ?_⟩)
    rw [st_off0 (ct_J C J), e12, nI_clamp (by omega), nI_1]
    refine ⟨fun z => absurd z (nI_ge hi (by omega)), fun _ => ⟨fun z => absurd z (nI_ge (b := 6) (by omega) (by omega)), fun _ => mref (b := w) C.2.1 ⟨hw, ?_⟩⟩⟩
    refine sp_isAlive hw (by omega) ?_
    cases hal : bt (ω 0 12) i
    · rw [hal] at ih
      exact ⟨fun _ => ih J, fun z => absurd rfl z⟩
    · rw [hal, if_pos rfl] at ih
      refine ⟨fun z => absurd z (by decide), fun _ => mref (b := w) C.2.1 ⟨hw, vp_in_nI (by omega) (by omega), href ?_⟩⟩
      rw [pW_get (by decide), sI_pW (by decide), ct_off (ct_J C J)]
      have ew : (hJ h J).1 344 3 = way := C.2.2.1
      rw [ew]
      refine ⟨fun z => ?_, fun z => ?_⟩
      · rw [if_pos z] at ih; exact ih J
      · rw [if_neg z] at ih
        rw [pW_get (by decide), u2_s]
        refine sp_oddsOf (ct_J C J) wf1 S.2.2.2.2.2.2.2.2 (fun J2 => ?_)
        refine sp_isFatal (ct_J C J2) ?_
        have hh := ih J2
        cases hf : (fatS way (u2 ω 2 i (ageUp (ω 2 i))) (oddS (wd h sy) (u2 ω 2 i (ageUp (ω 2 i))) D i (ageUp (ω 2 i)))).2
        · rw [hf] at hh
          have hf2 : (fatS way (u2 ω 2 i (ageUp (ω 2 i))) (oddS (wd (hJ h J) sy) (u2 ω 2 i (ageUp (ω 2 i))) D i (if ω 2 i + 1 < 99 then ω 2 i + 1 else 99))).2 = false := hf
          rw [hf2]
          exact ⟨fun _ => hh, fun z => absurd rfl z⟩
        · rw [hf, if_pos rfl] at hh
          have hf2 : (fatS way (u2 ω 2 i (ageUp (ω 2 i))) (oddS (wd (hJ h J) sy) (u2 ω 2 i (ageUp (ω 2 i))) D i (if ω 2 i + 1 < 99 then ω 2 i + 1 else 99))).2 = true := hf
          rw [hf2]
          refine ⟨fun z => absurd z (by decide), fun _ => mref (b := w) C.2.1 ⟨hw, ?_⟩⟩
          exact sp_bury hw hh
theorem sp_forgive {R : aH → Prop} (C : CT h w sy way deaf) (wf : WFw m t D ω) (H : R (pW h w (itR forgSt D ω))) : AW GC l ad (d + 1) mX0_forgive 0 [(0, .ref (ad 344))] [] (pW h w ω) (qv R) := by
  have hw := C.2.2.2.2.1
  refine bX0_forgive_0 _ (up_ind (P := fun i => AW GC l ad (d + 1) mX0_forgive 2 [(0, .ref (ad 344)), (1, .int (nI i))] [] (pW h w (itR forgSt i ω)) (qv R)) D ?_ (fun i hi ih => ?_))
  · refine bX0_forgive_2 _ _ (mref (b := w) C.2.1 ⟨hw, fun _ => H, fun z => absurd ?_ z⟩)
    rw [pW_get0, (wf_it wf_forgSt D wf).2.2.2.1]
    exact Int32.le_refl _
  · have e : itR forgSt (i + 1) ω = forgSt i (itR forgSt i ω) := rfl
    have wfi := wf_it wf_forgSt i wf
    rw [e] at ih
    generalize itR forgSt i ω = ω at ih wfi ⊢
    obtain ⟨hm, ht, hD, e11, -, hall⟩ := wfi
    unfold forgSt at ih
    refine bX0_forgive_2 _ _ (mref (b := w) C.2.1 ⟨hw, ?_⟩)
    rw [pW_get0, e11, nI_clamp (by omega), nI_1, pW_get (by decide), pW_get (by decide)]
    refine ⟨fun z => absurd z (nI_ge hi (by omega)), fun _ => ⟨vp_in_nI (by omega) (by omega), fun z => ?_, fun z => ⟨vp_in_nI (by omega) (by omega), fun z2 => ?_, fun z2 => ?_⟩⟩⟩
    · rw [if_neg z] at ih; exact ih
    · rw [if_pos z, if_neg z2] at ih; exact ih
    · rw [if_pos z, if_pos z2] at ih
      exact sp_end hw (by omega) ih
def day2 (σ : wT) (D n : Nat) (way deaf : Int32) (ω : wT) : wT := if way = 3 then itR (lendSt σ deaf) D ω else itR (leanSt σ D deaf) n (itR (lendSt σ deaf) D ω)
def day3 (σ : wT) (t D n : Nat) (way deaf : Int32) (ω : wT) : wT := if way = 1 then day2 σ D n way deaf ω else itR (dieSt σ) t (day2 σ D n way deaf ω)
def day4 (σ : wT) (t D n : Nat) (way deaf : Int32) (ω : wT) : wT := if way = 4 then day3 σ t D n way deaf ω else itR (paySt σ) D (day3 σ t D n way deaf ω)
def day5 (σ : wT) (t D n : Nat) (way deaf : Int32) (ω : wT) : wT := if rem32 (day4 σ t D n way deaf ω 0 13) 10 = 9 then itR (growSt σ way D) t (itR (intSt σ) D (day4 σ t D n way deaf ω)) else day4 σ t D n way deaf ω
def dayW (σ : wT) (t D n : Nat) (way deaf : Int32) (ω : wT) : wT := u2 (itR forgSt D (day5 σ t D n way deaf ω)) 0 13 (itR forgSt D (day5 σ t D n way deaf ω) 0 13 + 1)
theorem wf_day2 {σ : wT} {n : Nat} (S : SF σ m t n) (wf : WFw m t D ω) : WFw m t D (day2 σ D n way deaf ω) := by
  unfold day2
  split
  · exact wf_it wf_lendSt D wf
  · exact wf_leanIt S n (Nat.le_refl _) _ (wf_it wf_lendSt D wf)
theorem wf_day3 {σ : wT} {n : Nat} (S : SF σ m t n) (wf : WFw m t D ω) : WFw m t D (day3 σ t D n way deaf ω) := by
  unfold day3
  split
  · exact wf_day2 S wf
  · exact wf_it wf_dieSt t (wf_day2 S wf)
theorem wf_day4 {σ : wT} {n : Nat} (S : SF σ m t n) (wf : WFw m t D ω) : WFw m t D (day4 σ t D n way deaf ω) := by
  unfold day4
  split
  · exact wf_day3 S wf
  · exact wf_it wf_paySt D (wf_day3 S wf)
theorem wf_day5 {σ : wT} {n : Nat} (S : SF σ m t n) (wf : WFw m t D ω) : WFw m t D (day5 σ t D n way deaf ω) := by
  unfold day5
  split
  · exact wf_it wf_growSt t (wf_it wf_intSt D (wf_day4 S wf))
  · exact wf_day4 S wf
theorem wf_dayW {σ : wT} {n : Nat} (S : SF σ m t n) (wf : WFw m t D ω) : WFw m t D (dayW σ t D n way deaf ω) :=
  wf_u0 (wf_it wf_forgSt D (wf_day5 S wf)) (by decide) (by decide)
theorem sp_oneDay {R : aH → Prop} {n : Nat} (C : CT h w sy way deaf) (S : SF (wd h sy) m t n) (wf : WFw m t D ω) (H : ∀ J, R (pW (hJ h J) w (dayW (wd h sy) t D n way deaf ω))) : AW GC l ad (d + 5) mX0_oneDay 0 [(0, .ref (ad 344))] [] (pW h w ω) (qv R) := by
  have hw := C.2.2.2.2.1
  have K6 : ∀ J, AW GC l ad (d + 5) mX0_oneDay 63 [(0, .ref (ad 344))] [] (pW (hJ h J) w (day5 (wd h sy) t D n way deaf ω)) (qv R) := by
    intro J
    refine bX0_oneDay_63 _ (sp_forgive (ct_J C J) (wf_day5 S wf) (mref (b := w) C.2.1 ⟨hw, ?_⟩))
    rw [pW_get0, sI_pW0]
    exact H J
  have K5 : ∀ J, AW GC l ad (d + 5) mX0_oneDay 40 [(0, .ref (ad 344))] [] (pW (hJ h J) w (day4 (wd h sy) t D n way deaf ω)) (qv R) := by
    intro J
    refine bX0_oneDay_40 _ (mref (b := w) C.2.1 ⟨hw, ?_⟩)
    rw [pW_get0]
    unfold day5 at K6
    refine ⟨fun z => ?_, fun z => ?_⟩
    · rw [if_neg (show ¬ rem32 (day4 (wd h sy) t D n way deaf ω 0 13) 10 = 9 from z)] at K6; exact K6 J
    · rw [if_pos (show rem32 (day4 (wd h sy) t D n way deaf ω 0 13) 10 = 9 from z)] at K6
      exact sp_addInterest (ct_J C J) (wf_day4 S wf) (sp_growOlder (ct_J C J) S (wf_it wf_intSt D (wf_day4 S wf)) (fun J2 => K6 J2))
  have K4 : ∀ J, AW GC l ad (d + 5) mX0_oneDay 28 [(0, .ref (ad 344))] [] (pW (hJ h J) w (day3 (wd h sy) t D n way deaf ω)) (qv R) := by
    intro J
    refine bX0_oneDay_28 _ ?_
    rw [ct_off (ct_J C J)]
    have ew : (hJ h J).1 344 3 = way := C.2.2.1
    rw [ew]
    unfold day4 at K5
    refine ⟨fun z => ?_, fun z => ?_⟩
    · rw [if_pos z] at K5; exact K5 J
    · rw [if_neg z] at K5
      exact sp_payAll (ct_J C J) S.2.2.2.2.2.2.2.1 (wf_day3 S wf) (fun J2 => K5 J2)
  have K3 : ∀ J, AW GC l ad (d + 5) mX0_oneDay 16 [(0, .ref (ad 344))] [] (pW (hJ h J) w (day2 (wd h sy) D n way deaf ω)) (qv R) := by
    intro J
    refine bX0_oneDay_16 _ ?_
    rw [ct_off (ct_J C J)]
    have ew : (hJ h J).1 344 3 = way := C.2.2.1
    rw [ew]
    unfold day3 at K4
    refine ⟨fun z => ?_, fun z => ?_⟩
    · rw [if_pos z] at K4; exact K4 J
    · rw [if_neg z] at K4
      exact sp_dieAsTold (ct_J C J) S wf.2.1 (K4 J)
  refine bX0_oneDay_0 _ (sp_lendDue C wf ?_)
  rw [ct_off C, C.2.2.1]
  unfold day2 at K3
  refine ⟨fun z => ?_, fun z => ?_⟩
  · rw [if_pos z] at K3; exact K3 h.2.1
  · rw [if_neg z] at K3
    exact sp_leanAll C S (wf_it wf_lendSt D wf) (fun J2 => K3 J2)
def daysW (σ : wT) (t D n : Nat) (way deaf : Int32) (k : Nat) (ω : wT) : wT := itR (fun _ ω => dayW σ t D n way deaf ω) k ω
theorem wf_daysW {σ : wT} {n : Nat} (S : SF σ m t n) (wf : WFw m t D ω) (k : Nat) : WFw m t D (daysW σ t D n way deaf k ω) := wf_it (fun _ _ h => wf_dayW S h) k wf
theorem sp_run {R : aH → Prop} {n k : Nat} (hk : k ≤ 99) (C : CT h w sy way deaf) (S : SF (wd h sy) m t n) (wf : WFw m t D ω) (H : ∀ J, R (pW (hJ h J) w (daysW (wd h sy) t D n way deaf k ω))) : AW GC l ad (d + 6) mX0_run 0 [(0, .ref (ad 344)), (1, .int (nI k))] [] (pW h w ω) (qv R) := by
  have key := up_ind (P := fun i => ∀ J, AW GC l ad (d + 6) mX0_run 2 [(0, .ref (ad 344)), (1, .int (nI k)), (2, .int (nI i))] [] (pW (hJ h J) w (daysW (wd h sy) t D n way deaf i ω)) (qv R)) k (fun J => ?_) (fun i hi ih J => ?_)
  · exact bX0_run_0 _ _ (key h.2.1)
  · exact bX0_run_2 _ _ _ ⟨fun _ => H J, fun z => absurd (Int32.le_refl _) z⟩
  · refine bX0_run_2 _ _ _ ⟨fun z => absurd z (nI_ge hi (by omega)), fun _ => ?_⟩
    rw [nI_1]
    exact sp_oneDay (ct_J C J) S (wf_daysW S wf i) (fun J2 => ih J2)
end DZ
