/-! ===== the class's days, step by step ===== -/
def lendSt (σ : wT) (deaf : Int32) (i : Nat) (ω : wT) : wT :=
  if ω 8 i = 0 then (if ω 7 i = ω 0 13 then (if bt (ω 0 12) (ix (ω 6 i)) then (if ω 1 (ix (ω 3 i)) < ω 5 i + σ 3 (ix (ω 6 i)) then endW ω i 4 else openW ω i (ix (ω 3 i)) (ix (ω 4 i)) (σ 3 (ix (ω 6 i))) deaf) else endW ω i 4) else ω) else ω
theorem wf_lendSt {m t D : Nat} {σ : wT} {deaf : Int32} (i : Nat) (ω : wT) (h : WFw m t D ω) : WFw m t D (lendSt σ deaf i ω) := by
  unfold lendSt
  split
  · split
    · split
      · split
        · exact wf_end h
        · exact wf_open h
      · exact wf_end h
    · exact h
  · exact h
section DY
variable {l : Launch} {ad : Nat → Nat} {d w sy m t D : Nat} {h : aH} {ω : wT} {way deaf : Int32}
theorem sp_bunsOf {R : Int32 → aH → Prop} {h : aH} (hs : isS GC sy) {e : Nat} (he : e < 6) (H : R (h.1 (sy + 3) e) h) : AW GC l ad d mX6_bunsOf 0 [(0, .ref (ad sy)), (1, .int (nI e))] [] h (qi R) := by
  refine bX6_bunsOf_0 sy hs _ _ ⟨fun hc => absurd hc (nI_pos (by omega)), fun _ => ⟨fun hc => absurd hc (nI_ge (b := 6) he (by omega)), fun _ => ⟨vp_in_nI he (by omega), ?_⟩⟩⟩
  rw [nI_clamp (by omega)]
  exact H
theorem lendDue_st {R : aH → Prop} (C : CT h w sy way deaf) (wf : WFw m t D ω) {i : Nat} (hi : i < D) (ih : AW GC l ad (d + 2) mX0_lendDue 2 [(0, .ref (ad 344)), (1, .int (nI (i + 1)))] [] (pW h w (lendSt (wd h sy) deaf i ω)) (qv R)) : AW GC l ad (d + 2) mX0_lendDue 2 [(0, .ref (ad 344)), (1, .int (nI i))] [] (pW h w ω) (qv R) := by
  have hw := C.2.2.2.2.1
  have hS := C.2.2.2.2.2.1
  obtain ⟨hm, ht, hD, e11, -, hall⟩ := wf
  obtain ⟨⟨a, ha, ea⟩, ⟨b, hb, eb⟩, ⟨e, he, ee⟩, -⟩ := hall i hi
  have hc : (nI i).toNatClampNeg = i := nI_clamp (by omega)
  have K : lendSt (wd h sy) deaf i ω = endW ω i 4 → AW GC l ad (d + 2) mX0_lendDue 128 [(0, .ref (ad 344)), (1, .int (nI i))] [] (pW h w ω) (qv R) := by
    intro e4
    rw [e4] at ih
    refine bX0_lendDue_128 _ _ (mref (b := w) C.2.1 ⟨hw, ?_⟩)
    rw [nI_1]
    exact sp_end hw (by omega) ih
  unfold lendSt at ih K
  rw [ea, eb, ee, ix_nI (by omega), ix_nI (by omega), ix_nI (by omega)] at ih K
  refine bX0_lendDue_2 _ _ (mref (b := w) C.2.1 ⟨hw, ?_⟩)
  rw [pW_get0, e11, nI_1, hc, pW_get (by decide), pW_get (by decide), pW_get0, pW_get (by decide), ee]
  refine ⟨fun z => absurd z (nI_ge hi (by omega)), fun _ => ⟨vp_in_nI (by omega) (by omega), fun h8 => ?_, fun h8 => ⟨fun h7 => ?_, fun h7 => mref (b := sy) C.1 ⟨hS, ?_⟩⟩⟩⟩
  · rw [if_neg h8] at ih; exact ih
  · rw [if_pos h8, if_neg h7] at ih; exact ih
  · rw [if_pos h8, if_pos h7] at ih K
    refine sp_bunsOf hS (by omega) (mref (b := w) C.2.1 ⟨hw, ?_⟩)
    rw [st_off C (by decide), pW_get (by decide), ee]
    refine sp_isAlive hw (by omega) ?_
    cases hal : bt (ω 0 12) e
    · rw [hal] at ih K
      exact ⟨fun _ => K rfl, fun z => absurd rfl z⟩
    · rw [hal] at ih K
      refine ⟨fun z => absurd z (by decide), fun _ => mref (b := w) C.2.1 ⟨hw, ?_⟩⟩
      rw [pW_get (by decide), ea]
      refine sp_purseOf hw (by omega) ?_
      rw [pW_get (by decide)]
      refine ⟨fun z => ?_, fun z => mref (b := w) C.2.1 ⟨hw, ?_⟩⟩
      · exact K (by rw [if_pos rfl, if_pos z])
      · rw [if_pos rfl, if_neg z] at ih
        rw [ct_off C, C.2.2.2.1]
        exact sp_open hw (by omega) (by omega) (by omega) ea eb ih
theorem sp_lendDue {R : aH → Prop} (C : CT h w sy way deaf) (wf : WFw m t D ω) (H : R (pW h w (itR (lendSt (wd h sy) deaf) D ω))) : AW GC l ad (d + 2) mX0_lendDue 0 [(0, .ref (ad 344))] [] (pW h w ω) (qv R) := by
  refine bX0_lendDue_0 _ (up_ind (P := fun i => AW GC l ad (d + 2) mX0_lendDue 2 [(0, .ref (ad 344)), (1, .int (nI i))] [] (pW h w (itR (lendSt (wd h sy) deaf) i ω)) (qv R)) D ?_ (fun i hi ih => ?_))
  · refine bX0_lendDue_2 _ _ (mref (b := w) C.2.1 ⟨C.2.2.2.2.1, fun _ => H, fun z => absurd ?_ z⟩)
    rw [pW_get0, (wf_it wf_lendSt D wf).2.2.2.1]
    exact Int32.le_refl _
  · exact lendDue_st C (wf_it wf_lendSt i wf) hi ih
/-- passing on -/
def passSt (σ : wT) (D one : Nat) (bit : Int32) (i : Nat) (q : wT × Int32) : wT × Int32 :=
  if bt (q.1 11 i) one then (if q.1 11 i &&& bit = 0 then (if bit = 0 then q else (if passV σ q.1 D i one = 0 then q else (u2 q.1 11 i (q.1 11 i ||| bit), q.2 + 1))) else q) else q
def passW (σ : wT) (D one other : Nat) (deaf : Int32) (ω : wT) : wT × Int32 := itR (passSt σ D one (((1 : Int32) <<< (nI other &&& 31)) &&& (deaf ^^^ (-1)))) D (ω, 0)
theorem wf_passSt {m t D : Nat} {σ : wT} {one : Nat} {bit : Int32} (hb : ∃ k, k < 2 ^ t ∧ bit = nI k) (i : Nat) (q : wT × Int32) (h : WFw m t D q.1) : WFw m t D (passSt σ D one bit i q).1 := by
  unfold passSt
  split
  · split
    · split
      · exact h
      · split
        · exact h
        · refine wf_u11 h (fun hi => ?_)
          obtain ⟨k, hk, ek⟩ := (h.2.2.2.2.2 i hi).2.2.2
          obtain ⟨k2, hk2, ek2⟩ := hb
          exact ⟨k ||| k2, Nat.or_lt_two_pow hk hk2, by rw [ek, ek2, n_or]⟩
    · exact h
  · exact h
theorem wf_passIt {m t D : Nat} {σ : wT} {one : Nat} {bit : Int32} (hb : ∃ k, k < 2 ^ t ∧ bit = nI k) : ∀ n (q : wT × Int32), WFw m t D q.1 → WFw m t D (itR (passSt σ D one bit) n q).1
  | 0, _, h => h
  | n + 1, _, h => wf_passSt hb n _ (wf_passIt hb n _ h)
theorem bit_ok {t other : Nat} {deaf : Int32} (ht : t ≤ 6) (ho : other < t) : ∃ k, k < 2 ^ t ∧ ((1 : Int32) <<< (nI other &&& 31)) &&& (deaf ^^^ (-1)) = nI k := by
  rw [n_one other (by omega)]
  obtain ⟨k, hk, e9⟩ := n_andL (2 ^ other) (deaf ^^^ (-1))
  exact ⟨k, Nat.lt_of_le_of_lt hk (Nat.pow_lt_pow_right (by decide) ho), e9⟩
theorem passOn_st {R : Int32 → aH → Prop} {bit n : Int32} (C : CT h w sy way deaf) (wf : WFw m t D ω) (L : LF (wd h sy) 8) {i one : Nat} (hi : i < D) (ho : one < 6) (ih : ∀ J, AW GC l ad (d + 3) mX0_passOn 17 [(0, .ref (ad 344)), (1, .int (nI one)), (3, .int (passSt (wd h sy) D one bit i (ω, n)).2), (4, .int bit), (5, .int (nI (i + 1)))] [] (pW (hJ h J) w (passSt (wd h sy) D one bit i (ω, n)).1) (qi R)) : AW GC l ad (d + 3) mX0_passOn 17 [(0, .ref (ad 344)), (1, .int (nI one)), (3, .int n), (4, .int bit), (5, .int (nI i))] [] (pW h w ω) (qi R) := by
  have hw := C.2.2.2.2.1
  have wf0 := wf
  obtain ⟨hm, ht, hD, e11, -, hall⟩ := wf
  have hc : (nI i).toNatClampNeg = i := nI_clamp (by omega)
  have K0 : passSt (wd h sy) D one bit i (ω, n) = (ω, n) → AW GC l ad (d + 3) mX0_passOn 67 [(0, .ref (ad 344)), (1, .int (nI one)), (3, .int n), (4, .int bit), (5, .int (nI i))] [] (pW h w ω) (qi R) := by
    intro e
    rw [e] at ih
    refine bX0_passOn_67 _ _ _ _ _ (bX0_passOn_68 _ _ _ _ _ _ ⟨fun _ => ?_, fun z => absurd rfl z⟩)
    rw [nI_1]
    exact ih h.2.1
  refine bX0_passOn_17 _ _ _ _ _ (mref (b := w) C.2.1 ⟨hw, ?_⟩)
  rw [pW_get0, e11, hc, pW_get (by decide), bt_shr0 _ (by omega)]
  refine ⟨fun z => absurd z (nI_ge hi (by omega)), fun _ => ⟨vp_in_nI (by omega) (by omega), fun z => ?_, fun z => ⟨fun z2 => ?_, fun z2 => ⟨fun z3 => ?_, fun z3 => ?_⟩⟩⟩⟩
  · exact K0 (by unfold passSt; rw [z]; rfl)
  · rw [Bool.not_eq_false] at z
    exact K0 (by unfold passSt; rw [if_pos z, if_neg z2])
  · rw [Bool.not_eq_false] at z
    exact K0 (by unfold passSt; rw [if_pos z, if_pos z2, if_pos z3])
  · rw [Bool.not_eq_false] at z
    refine bX0_passOn_68 _ _ _ _ _ _ ⟨fun q => absurd q (by decide), fun _ => ?_⟩
    refine sp_passValue C wf0 L hi ho (fun J => ⟨fun z4 => ?_, fun z4 => mref (b := w) C.2.1 ⟨hw, vp_in_nI (by omega) (by omega), ?_⟩⟩)
    · have e : passSt (wd h sy) D one bit i (ω, n) = (ω, n) := by
        unfold passSt
        rw [if_pos z, if_pos z2, if_neg z3, if_pos z4]
      rw [e] at ih
      rw [nI_1]
      exact ih J
    · have e : passSt (wd h sy) D one bit i (ω, n) = (u2 ω 11 i (ω 11 i ||| bit), n + 1) := by
        unfold passSt
        rw [if_pos z, if_pos z2, if_neg z3, if_neg z4]
      rw [e] at ih
      rw [nI_1, hc, pW_get (by decide), sI_pW (by decide)]
      exact ih J
theorem sp_passOn {R : Int32 → aH → Prop} (C : CT h w sy way deaf) (wf : WFw m t D ω) (L : LF (wd h sy) 8) {one other : Nat} (h1 : one < 6) (h2 : other < t) (H : ∀ J, R (passW (wd h sy) D one other deaf ω).2 (pW (hJ h J) w (passW (wd h sy) D one other deaf ω).1)) : AW GC l ad (d + 3) mX0_passOn 0 [(0, .ref (ad 344)), (1, .int (nI one)), (2, .int (nI other))] [] (pW h w ω) (qi R) := by
  refine bX0_passOn_0 _ _ _ (fun t1 e1 => ?_)
  rw [ct_off C, C.2.2.2.1] at e1
  have hb := bit_ok (deaf := deaf) wf.2.1 h2
  rw [← e1] at hb
  unfold passW at H
  rw [← e1] at H
  have key := up_ind (P := fun i => ∀ J, AW GC l ad (d + 3) mX0_passOn 17 [(0, .ref (ad 344)), (1, .int (nI one)), (3, .int (itR (passSt (wd h sy) D one t1) i (ω, 0)).2), (4, .int t1), (5, .int (nI i))] [] (pW (hJ h J) w (itR (passSt (wd h sy) D one t1) i (ω, 0)).1) (qi R)) D (fun J => ?_) (fun i hi ih J => ?_)
  · exact key h.2.1
  · refine bX0_passOn_17 _ _ _ _ _ (mref (b := w) C.2.1 ⟨C.2.2.2.2.1, fun _ => H J, fun z => absurd ?_ z⟩)
    rw [pW_get0, (wf_passIt hb D (ω, 0) wf).2.2.2.1]
    exact Int32.le_refl _
  · exact passOn_st (h := hJ h J) (ct_J C J) (wf_passIt hb i (ω, 0) wf) L hi h1 (fun J2 => ih J2)
def rumSt (one other : Nat) (i : Nat) (ω : wT) : wT := if bt (ω 11 (8 + i)) one then u2 ω 11 (8 + i) (ω 11 (8 + i) ||| ((1 : Int32) <<< (nI other &&& 31))) else ω
theorem wf_rumSt {one other : Nat} (i : Nat) (ω : wT) (hh : WFw m t D ω) : WFw m t D (rumSt one other i ω) := by
  unfold rumSt
  split
  · exact wf_u11 hh (fun q => by have := hh.2.2.1; omega)
  · exact hh
theorem sp_passRumours {R : aH → Prop} (C : CT h w sy way deaf) {one other : Nat} (h1 : one < 32) (H : R (pW h w (itR (rumSt one other) 6 ω))) : AW GC l ad d mX0_passRumours 0 [(0, .ref (ad 344)), (1, .int (nI one)), (2, .int (nI other))] [] (pW h w ω) (qv R) := by
  refine bX0_passRumours_0 _ _ _ (up_ind (P := fun i => AW GC l ad d mX0_passRumours 3 [(0, .ref (ad 344)), (1, .int (nI one)), (2, .int (nI other)), (3, .int (nI (8 + i)))] [] (pW h w (itR (rumSt one other) i ω)) (qv R)) 6 ?_ (fun i hi ih => ?_))
  · exact bX0_passRumours_3 _ _ _ _ (mref (b := w) C.2.1 ⟨C.2.2.2.2.1, fun _ => H, fun z => absurd (by decide) z⟩)
  · refine bX0_passRumours_3 _ _ _ _ (mref (b := w) C.2.1 ⟨C.2.2.2.2.1, ?_⟩)
    have e : itR (rumSt one other) (i + 1) ω = rumSt one other i (itR (rumSt one other) i ω) := rfl
    rw [e] at ih
    generalize itR (rumSt one other) i ω = ω at ih ⊢
    unfold rumSt at ih
    rw [nI_clamp (by omega), pW_get (by decide), bt_shr0 _ h1, nI_1, sI_pW (by decide)]
    refine ⟨fun z => absurd z (nI_ge (b := 14) (by omega) (by omega)), fun _ => ⟨vp_in_nI (by omega) (by omega), fun z => ?_, fun z => ?_⟩⟩
    · rw [if_neg (by rw [z]; decide)] at ih
      exact ih
    · rw [Bool.not_eq_false] at z
      rw [if_pos z] at ih
      exact ih
/-- a story's table: m men, t elephants, n leanings, three laws -/
def SF (σ : wT) (m t n : Nat) : Prop := σ 0 11 = nI m ∧ σ 0 12 = nI t ∧ σ 0 13 = nI n ∧ n ≤ 10 ∧ (∀ k, k < n → ∃ a, a < t ∧ σ 5 k = nI a) ∧ (∀ k, k < n → ∃ a, a < t ∧ σ 6 k = nI a) ∧ LF σ 8 ∧ LF σ 11 ∧ LF σ 14
def leanSt (σ : wT) (D : Nat) (deaf : Int32) (k : Nat) (ω : wT) : wT :=
  if σ 7 k = ω 0 13 then (if bt (ω 0 12) (ix (σ 5 k)) then (if bt (ω 0 12) (ix (σ 6 k)) then itR (rumSt (ix (σ 5 k)) (ix (σ 6 k))) 6 (passW σ D (ix (σ 5 k)) (ix (σ 6 k)) deaf ω).1 else ω) else ω) else ω
theorem wf_leanSt {σ : wT} {n : Nat} (S : SF σ m t n) {k : Nat} (hk : k < n) (ω : wT) (hh : WFw m t D ω) : WFw m t D (leanSt σ D deaf k ω) := by
  obtain ⟨b, hb, eb⟩ := S.2.2.2.2.2.1 k hk
  have ht := hh.2.1
  unfold leanSt
  split
  · split
    · split
      · refine wf_it wf_rumSt 6 (wf_passIt ?_ D _ hh)
        rw [eb, ix_nI (by omega)]
        exact bit_ok ht hb
      · exact hh
    · exact hh
  · exact hh
theorem wf_leanIt {σ : wT} {n : Nat} (S : SF σ m t n) : ∀ k, k ≤ n → ∀ (ω : wT), WFw m t D ω → WFw m t D (itR (leanSt σ D deaf) k ω)
  | 0, _, _, hh => hh
  | k + 1, hk, ω, hh => wf_leanSt S (by omega) _ (wf_leanIt S k (by omega) ω hh)
theorem sp_leanAll {R : aH → Prop} {n : Nat} (C : CT h w sy way deaf) (S : SF (wd h sy) m t n) (wf : WFw m t D ω) (H : ∀ J, R (pW (hJ h J) w (itR (leanSt (wd h sy) D deaf) n ω))) : AW GC l ad (d + 4) mX0_leanAll 0 [(0, .ref (ad 344))] [] (pW h w ω) (qv R) := by
  have hw := C.2.2.2.2.1
  have hS := C.2.2.2.2.2.1
  have ht := wf.2.1
  have key := up_ind (P := fun k => ∀ J, AW GC l ad (d + 4) mX0_leanAll 2 [(0, .ref (ad 344)), (1, .int (nI k))] [] (pW (hJ h J) w (itR (leanSt (wd h sy) D deaf) k ω)) (qv R)) n (fun J => ?_) (fun k hk ih J => ?_)
  · exact bX0_leanAll_0 _ (key h.2.1)
  · refine bX0_leanAll_2 _ _ (mref (b := sy) C.1 ⟨hS, fun _ => H J, fun z => absurd ?_ z⟩)
    rw [st_off0 (ct_J C J)]
    show (wd h sy) 0 13 ≤ _
    rw [S.2.2.1]
    exact Int32.le_refl _
  · have wfk := wf_leanIt (deaf := deaf) S k (by omega) ω wf
    have e : itR (leanSt (wd h sy) D deaf) (k + 1) ω = leanSt (wd h sy) D deaf k (itR (leanSt (wd h sy) D deaf) k ω) := rfl
    rw [e] at ih
    generalize itR (leanSt (wd h sy) D deaf) k ω = ω at ih wfk ⊢
    obtain ⟨a, ha, ea⟩ := S.2.2.2.2.1 k hk
    obtain ⟨b, hb, eb⟩ := S.2.2.2.2.2.1 k hk
    have hn := S.2.2.2.1
    unfold leanSt at ih
    rw [ea, eb, ix_nI (by omega), ix_nI (by omega)] at ih
    have e13 : wd (hJ h J) sy 0 13 = nI n := S.2.2.1
    have e5 : wd (hJ h J) sy 5 k = nI a := ea
    have e6 : wd (hJ h J) sy 6 k = nI b := eb
    refine bX0_leanAll_2 _ _ (mref (b := sy) C.1 ⟨hS, ?_⟩)
    rw [st_off0 (ct_J C J), e13, nI_clamp (by omega), nI_1, st_off (ct_J C J) (by decide), st_off (ct_J C J) (by decide), st_off (ct_J C J) (by decide), e5, e6]
    refine ⟨fun z => absurd z (nI_ge hk (by omega)), fun _ => ⟨fun z => absurd z (nI_ge (b := 10) (by omega) (by omega)), fun _ => ⟨vp_in_nI (by omega) (by omega), mref (b := w) C.2.1 ⟨hw, ?_⟩⟩⟩⟩
    rw [pW_get0]
    refine ⟨fun z => ?_, fun z => ?_⟩
    · have := ih J
      rw [if_neg (show ¬ wd h sy 7 k = ω 0 13 from z)] at this
      exact this
    · rw [if_pos (show wd h sy 7 k = ω 0 13 from z)] at ih
      refine sp_isAlive hw (by omega) ?_
      cases ha1 : bt (ω 0 12) a
      · rw [ha1] at ih
        exact ⟨fun _ => ih J, fun z => absurd rfl z⟩
      · rw [ha1] at ih
        refine ⟨fun z => absurd z (by decide), fun _ => mref (b := w) C.2.1 ⟨hw, ?_⟩⟩
        refine sp_isAlive hw (by omega) ?_
        cases hb1 : bt (ω 0 12) b
        · rw [hb1] at ih
          exact ⟨fun _ => ih J, fun z => absurd rfl z⟩
        · rw [hb1, if_pos rfl, if_pos rfl] at ih
          refine ⟨fun z => absurd z (by decide), fun _ => ?_⟩
          refine sp_passOn (ct_J C J) wfk S.2.2.2.2.2.2.1 (by omega) hb (fun J2 => ?_)
          exact sp_passRumours (ct_J C J2) (by omega) (ih J2)
end DY
