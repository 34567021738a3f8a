/-! ===== more rows: the JDK's, longs compared, places by their numbers ===== -/
section AWM
variable {G : aG} {l : Launch} {ad : Nat → Nat} {d : Nat} {M : aM} {pc : Nat} {ls : List (Nat × Value)} {st : List Value} {h : aH} {Q : Option Value → aH → Prop}
theorem aw_fr : 1 ≤ (aR (d + 1)).frames := Nat.le_add_left 1 d
theorem aw_lo {n k : Nat} (h : n ≤ 8) (hk : k ≤ 40) : n + k ≤ (aR (d + 1)).locals := by show n + k ≤ 64 * (d + 1); omega
theorem aw_mmax {x y : Int32} {ix : Nat} (hd : decode M.2.1 pc = .ok (.invokestatic ix, 3)) (hlk : Cond.methodLink M.1.cls ix Lib.Math.max.name ∈ aTB) (hro : (st.map fun v => v.category).sum ≤ 8) (k : AW G l ad (d + 1) M (pc + 3) ls (.int (if x < y then y else x) :: st) h Q) : AW G l ad (d + 1) M pc ls (.int y :: .int x :: st) h Q :=
  AW.lift k (fun p e s m args below meth c H locs D aC la Z X hl kk => va_mmax X.1 X.2.1 (X.2.2.2.2.1.trans hl.1.symm) X.2.2.2.2.2.1 (X.2.2.2.2.2.2.1 _ hlk) (X.2.2.2.2.2.2.1 _ ms_max) (X.2.2.2.2.2.2.1 _ in_Math) (X.2.2.2.2.2.2.1 _ mc_max) aw_fr (aw_lo hro (by decide)) (Nat.le_refl 0) (Nat.le_refl 0) hd (kk la hl))
theorem aw_mmin {x y : Int32} {ix : Nat} (hd : decode M.2.1 pc = .ok (.invokestatic ix, 3)) (hlk : Cond.methodLink M.1.cls ix Lib.Math.min.name ∈ aTB) (hro : (st.map fun v => v.category).sum ≤ 8) (k : AW G l ad (d + 1) M (pc + 3) ls (.int (if y < x then y else x) :: st) h Q) : AW G l ad (d + 1) M pc ls (.int y :: .int x :: st) h Q :=
  AW.lift k (fun p e s m args below meth c H locs D aC la Z X hl kk => va_mmin X.1 X.2.1 (X.2.2.2.2.1.trans hl.1.symm) X.2.2.2.2.2.1 (X.2.2.2.2.2.2.1 _ hlk) (X.2.2.2.2.2.2.1 _ ms_min) (X.2.2.2.2.2.2.1 _ in_Math) (X.2.2.2.2.2.2.1 _ mc_min) aw_fr (aw_lo hro (by decide)) (Nat.le_refl 0) (Nat.le_refl 0) hd (kk la hl))
theorem aw_mmaxl {x y : Int64} {ix : Nat} (hd : decode M.2.1 pc = .ok (.invokestatic ix, 3)) (hlk : Cond.methodLink M.1.cls ix Lib.MathLoose.max_long.x ∈ aTB) (hro : (st.map fun v => v.category).sum ≤ 8) (k : AW G l ad (d + 1) M (pc + 3) ls (.long (if y < x then x else y) :: st) h Q) : AW G l ad (d + 1) M pc ls (.long y :: .long x :: st) h Q :=
  AW.lift k (fun p e s m args below meth c H locs D aC la Z X hl kk => va_mmax_long X.1 X.2.1 (X.2.2.2.2.1.trans hl.1.symm) X.2.2.2.2.2.1 (X.2.2.2.2.2.2.1 _ hlk) (X.2.2.2.2.2.2.1 _ ms_max_long) (X.2.2.2.2.2.2.1 _ in_Math) (X.2.2.2.2.2.2.1 _ mc_max_long) aw_fr (aw_lo hro (by decide)) (Nat.le_refl 0) (Nat.le_refl 0) hd (kk la hl))
theorem aw_mminl {x y : Int64} {ix : Nat} (hd : decode M.2.1 pc = .ok (.invokestatic ix, 3)) (hlk : Cond.methodLink M.1.cls ix Lib.MathLoose.min_long.x ∈ aTB) (hro : (st.map fun v => v.category).sum ≤ 8) (k : AW G l ad (d + 1) M (pc + 3) ls (.long (if y < x then y else x) :: st) h Q) : AW G l ad (d + 1) M pc ls (.long y :: .long x :: st) h Q :=
  AW.lift k (fun p e s m args below meth c H locs D aC la Z X hl kk => va_mmin_long X.1 X.2.1 (X.2.2.2.2.1.trans hl.1.symm) X.2.2.2.2.2.1 (X.2.2.2.2.2.2.1 _ hlk) (X.2.2.2.2.2.2.1 _ ms_min_long) (X.2.2.2.2.2.2.1 _ in_Math) (X.2.2.2.2.2.2.1 _ mc_min_long) aw_fr (aw_lo hro (by decide)) (Nat.le_refl 0) (Nat.le_refl 0) hd (kk la hl))
theorem aw_mabsl {x : Int64} {ix : Nat} (hd : decode M.2.1 pc = .ok (.invokestatic ix, 3)) (hlk : Cond.methodLink M.1.cls ix Lib.MathLoose.abs_long.x ∈ aTB) (hro : (st.map fun v => v.category).sum ≤ 8) (k : AW G l ad (d + 1) M (pc + 3) ls (.long (if 0 < x then x else -x) :: st) h Q) : AW G l ad (d + 1) M pc ls (.long x :: st) h Q :=
  AW.lift k (fun p e s m args below meth c H locs D aC la Z X hl kk => va_mabs_long X.1 X.2.1 (X.2.2.2.2.1.trans hl.1.symm) X.2.2.2.2.2.1 (X.2.2.2.2.2.2.1 _ hlk) (X.2.2.2.2.2.2.1 _ ms_abs_long) (X.2.2.2.2.2.2.1 _ in_Math) (X.2.2.2.2.2.2.1 _ mc_abs_long) aw_fr (aw_lo hro (by decide)) (Nat.le_refl 0) (Nat.le_refl 0) hd (kk la hl))
/-- System.arraycopy of ints -/
def cpI (h : aH) (c0 c1 sp dp n : Nat) : aH := (fun c k => if c = c1 then va_cpy (h.1 c0) (h.1 c1) sp dp n k else h.1 c k, h.2)
theorem aw_copy {c0 c1 n0 n1 t0 ix : Nat} {sp dp n : Int32} {sp' dp' n' : Nat} (hd : decode M.2.1 pc = .ok (.invokestatic ix, 3)) (hlk : Cond.methodLink M.1.cls ix arraycopyName ∈ aTB) (hs0 : G.2.2.2.1[c0]? = some (.inr (.int, n0))) (hs1 : G.2.2.2.1[c1]? = some (.inr (.int, n1))) (ht : G.2.2.2.2.1[t0]? = some .int) (hro : (st.map fun v => v.category).sum ≤ 8) (h1 : ¬ sp < 0) (h2 : ¬ dp < 0) (h3 : ¬ n < 0) (e1 : sp.toNatClampNeg = sp') (e2 : dp.toNatClampNeg = dp') (e3 : n.toNatClampNeg = n') (h4 : sp' + n' ≤ n0) (h5 : dp' + n' ≤ n1)
    (kk : AW G l ad (d + 1) M (pc + 3) ls st (cpI h c0 c1 sp' dp' n') Q) : AW G l ad (d + 1) M pc ls (.int n :: .int dp :: .ref (ad c1) :: .int sp :: .ref (ad c0) :: st) h Q := by
  subst e1; subst e2; subst e3
  intro p e s m args below meth c H locs A D aC la X hP hD hS hZ hl
  have hts := X.2.2.2.2.2.2.1
  refine va_copyi X.1 X.2.1 (X.2.2.2.2.1.trans hl.1.symm) X.2.2.2.2.2.1 (hts _ hlk) (hts _ na_copy) (hts _ ms_copy) (hts _ in_System) X.2.2.2.2.2.2.2 hP hD hS c0 c1 t0 t0 (awl_get hs0) (awl_get hs1) (atys_get ht) (atys_get ht) (by decide) h1 h2 h3 h4 h5 (fun i _ => rfl) aw_fr (aw_lo hro (by decide)) hd (fun H1 locs1 hP1 _ hS1 => ?_)
  have e1 := awl_set (ad := ad) (aC := aC) (h := h) (h' := cpI h c0 c1 sp.toNatClampNeg dp.toNatClampNeg n.toNatClampNeg) (X := .inl (aC .int, n1, .inl (va_cpy (h.1 c0) (h.1 c1) sp.toNatClampNeg dp.toNatClampNeg n.toNatClampNeg))) hs1 (fun c' hc y => ael_off (h := h) (h' := cpI h c0 c1 sp.toNatClampNeg dp.toNatClampNeg n.toNatClampNeg) (by funext k; simp [cpI, hc]) rfl rfl y) (by
    unfold ael
    dsimp only
    congr 4
    funext k
    simp [cpI])
  rw [e1] at hP1
  exact kk p e s m args below meth c H1 locs1 A D aC la X hP1 (awl_D hD) hS1 hZ hl
theorem aw_inc {i j : Nat} {n : Int} {x mm : Int32} {ls' : List (Nat × Value)} (hd : decode M.2.1 pc = .ok (.iinc i n, 3)) (hm : Int32.ofInt n = mm) (hj : ls[j]? = some (i, .int x)) (hn : i < M.2.2.1) (hs : (i, Value.int (x + mm)) :: ls.filter (fun q => !(q.1 == i) && !(q.1 + 1 == i && q.2.category == 2)) = ls') (k : AW G l ad d M (pc + 3) ls' st h Q) : AW G l ad d M pc ls st h Q := aw_iinc hd hj (by rw [hm]) hn hs k
theorem lgc_eq (x y : Int64) : lg_cmp x y = 0 ↔ x = y := by
  unfold lg_cmp
  by_cases h1 : x > y
  · rw [if_pos h1]
    exact ⟨fun h => absurd h (by decide), fun h => absurd (h ▸ h1) (Int64.lt_irrefl)⟩
  · rw [if_neg h1]
    by_cases h2 : x = y
    · simp [h2]
    · rw [if_neg h2]
      exact ⟨fun h => absurd h (by decide), fun h => absurd h h2⟩
theorem lgc_lt (x y : Int64) : lg_cmp x y < 0 ↔ x < y := by
  unfold lg_cmp
  by_cases h1 : x > y
  · rw [if_pos h1]
    refine ⟨fun h => absurd h (by decide), fun h => ?_⟩
    have h3 := Int64.lt_iff_toInt_lt.mp h1
    have h4 := Int64.lt_iff_toInt_lt.mp h
    omega
  · rw [if_neg h1]
    by_cases h2 : x = y
    · rw [if_pos h2]
      exact ⟨fun h => absurd h (by decide), fun h => absurd (h2 ▸ h) (Int64.lt_irrefl)⟩
    · rw [if_neg h2]
      refine ⟨fun _ => ?_, fun _ => by decide⟩
      rw [Int64.lt_iff_toInt_lt]
      have h3 : ¬ y.toInt < x.toInt := fun q => h1 (Int64.lt_iff_toInt_lt.mpr q)
      have h4 : ¬ x.toInt = y.toInt := fun q => h2 (Int64.toInt_inj.mp q)
      omega
theorem lgc_gt (x y : Int64) : 0 < lg_cmp x y ↔ y < x := by
  unfold lg_cmp
  by_cases h1 : x > y
  · rw [if_pos h1]
    exact ⟨fun _ => h1, fun _ => by decide⟩
  · rw [if_neg h1]
    by_cases h2 : x = y
    · rw [if_pos h2]
      exact ⟨fun h => absurd h (by decide), fun h => absurd h h1⟩
    · rw [if_neg h2]
      exact ⟨fun h => absurd h (by decide), fun h => absurd h h1⟩
theorem lgc_le (x y : Int64) : lg_cmp x y ≤ 0 ↔ x ≤ y := by
  rw [← Int32.not_lt, lgc_gt, Int64.not_lt]
theorem lgc_ge (x y : Int64) : 0 ≤ lg_cmp x y ↔ y ≤ x := by
  rw [← Int32.not_lt, lgc_lt, Int64.not_lt]
theorem aw_lif_eq {x y : Int64} {off : Int} {tgt : Nat} (hd : decode M.2.1 pc = .ok (.lcmp, 1)) (hd2 : decode M.2.1 (pc + 1) = .ok (.ifCond .eq off, 3)) (ht : ((pc + 1 : Nat) : Int) + off = (tgt : Int)) (kt : x = y → AW G l ad d M tgt ls st h Q) (kf : ¬ x = y → AW G l ad d M (pc + 4) ls st h Q) : AW G l ad d M pc ls (.long y :: .long x :: st) h Q :=
  aw_lcmp hd (aw_if_eq hd2 ht (fun q => kt ((lgc_eq x y).mp q)) (fun q => kf (fun e => q ((lgc_eq x y).mpr e))))
theorem aw_lif_ne {x y : Int64} {off : Int} {tgt : Nat} (hd : decode M.2.1 pc = .ok (.lcmp, 1)) (hd2 : decode M.2.1 (pc + 1) = .ok (.ifCond .ne off, 3)) (ht : ((pc + 1 : Nat) : Int) + off = (tgt : Int)) (kt : ¬ x = y → AW G l ad d M tgt ls st h Q) (kf : x = y → AW G l ad d M (pc + 4) ls st h Q) : AW G l ad d M pc ls (.long y :: .long x :: st) h Q :=
  aw_lcmp hd (aw_if_ne hd2 ht (fun q => kt (fun e => q ((lgc_eq x y).mpr e))) (fun q => kf ((lgc_eq x y).mp q)))
theorem aw_lif_lt {x y : Int64} {off : Int} {tgt : Nat} (hd : decode M.2.1 pc = .ok (.lcmp, 1)) (hd2 : decode M.2.1 (pc + 1) = .ok (.ifCond .lt off, 3)) (ht : ((pc + 1 : Nat) : Int) + off = (tgt : Int)) (kt : x < y → AW G l ad d M tgt ls st h Q) (kf : ¬ x < y → AW G l ad d M (pc + 4) ls st h Q) : AW G l ad d M pc ls (.long y :: .long x :: st) h Q :=
  aw_lcmp hd (aw_if_lt hd2 ht (fun q => kt ((lgc_lt x y).mp q)) (fun q => kf (fun e => q ((lgc_lt x y).mpr e))))
theorem aw_lif_ge {x y : Int64} {off : Int} {tgt : Nat} (hd : decode M.2.1 pc = .ok (.lcmp, 1)) (hd2 : decode M.2.1 (pc + 1) = .ok (.ifCond .ge off, 3)) (ht : ((pc + 1 : Nat) : Int) + off = (tgt : Int)) (kt : y ≤ x → AW G l ad d M tgt ls st h Q) (kf : ¬ y ≤ x → AW G l ad d M (pc + 4) ls st h Q) : AW G l ad d M pc ls (.long y :: .long x :: st) h Q :=
  aw_lcmp hd (aw_if_ge hd2 ht (fun q => kt ((lgc_ge x y).mp q)) (fun q => kf (fun e => q ((lgc_ge x y).mpr e))))
theorem aw_lif_gt {x y : Int64} {off : Int} {tgt : Nat} (hd : decode M.2.1 pc = .ok (.lcmp, 1)) (hd2 : decode M.2.1 (pc + 1) = .ok (.ifCond .gt off, 3)) (ht : ((pc + 1 : Nat) : Int) + off = (tgt : Int)) (kt : y < x → AW G l ad d M tgt ls st h Q) (kf : ¬ y < x → AW G l ad d M (pc + 4) ls st h Q) : AW G l ad d M pc ls (.long y :: .long x :: st) h Q :=
  aw_lcmp hd (aw_if_gt hd2 ht (fun q => kt ((lgc_gt x y).mp q)) (fun q => kf (fun e => q ((lgc_gt x y).mpr e))))
theorem aw_lif_le {x y : Int64} {off : Int} {tgt : Nat} (hd : decode M.2.1 pc = .ok (.lcmp, 1)) (hd2 : decode M.2.1 (pc + 1) = .ok (.ifCond .le off, 3)) (ht : ((pc + 1 : Nat) : Int) + off = (tgt : Int)) (kt : x ≤ y → AW G l ad d M tgt ls st h Q) (kf : ¬ x ≤ y → AW G l ad d M (pc + 4) ls st h Q) : AW G l ad d M pc ls (.long y :: .long x :: st) h Q :=
  aw_lcmp hd (aw_if_le hd2 ht (fun q => kt ((lgc_le x y).mp q)) (fun q => kf (fun e => q ((lgc_le x y).mpr e))))
theorem aw_ialdK {c n t0 j : Nat} {i : Int32} (hd : decode M.2.1 pc = .ok (.iaload, 1)) (hs : G.2.2.2.1[c]? = some (.inr (.int, n))) (ht : G.2.2.2.2.1[t0]? = some .int) (hj : i.toNatClampNeg = j) (hin : vp_in i n) (kk : AW G l ad d M (pc + 1) ls (.int (h.1 c j) :: st) h Q) : AW G l ad d M pc ls (.int i :: .ref (ad c) :: st) h Q := by
  subst hj
  exact aw_iald hd hs ht hin kk
theorem aw_zaldK {c n t0 j : Nat} {i : Int32} (hd : decode M.2.1 pc = .ok (.baload, 1)) (hs : G.2.2.2.1[c]? = some (.inr (.boolean, n))) (ht : G.2.2.2.2.1[t0]? = some .boolean) (hj : i.toNatClampNeg = j) (hin : vp_in i n) (kk : AW G l ad d M (pc + 1) ls (.int (h.1 c j) :: st) h Q) : AW G l ad d M pc ls (.int i :: .ref (ad c) :: st) h Q := by
  subst hj
  exact aw_zald hd hs ht hin kk
theorem aw_laldK {c n t0 j : Nat} {i : Int32} (hd : decode M.2.1 pc = .ok (.laload, 1)) (hs : G.2.2.2.1[c]? = some (.inr (.long, n))) (ht : G.2.2.2.2.1[t0]? = some .long) (hj : i.toNatClampNeg = j) (hin : vp_in i n) (kk : AW G l ad d M (pc + 1) ls (.long (h.2.1 c j) :: st) h Q) : AW G l ad d M pc ls (.int i :: .ref (ad c) :: st) h Q := by
  subst hj
  exact aw_lald hd hs ht hin kk
theorem aw_aaldK {c n t0 j : Nat} {C : String} {i : Int32} (hd : decode M.2.1 pc = .ok (.aaload, 1)) (hs : G.2.2.2.1[c]? = some (.inr (.object C, n))) (ht : G.2.2.2.2.1[t0]? = some (.object C)) (hj : i.toNatClampNeg = j) (hin : vp_in i n) (kk : AW G l ad d M (pc + 1) ls (.ref (ad (h.2.2 c j)) :: st) h Q) : AW G l ad d M pc ls (.int i :: .ref (ad c) :: st) h Q := by
  subst hj
  exact aw_aald hd hs ht hin kk
theorem aw_iastK {c n t0 j : Nat} {i : Int32} {x : Int32} (hd : decode M.2.1 pc = .ok (.iastore, 1)) (hs : G.2.2.2.1[c]? = some (.inr (.int, n))) (ht : G.2.2.2.2.1[t0]? = some .int) (hj : i.toNatClampNeg = j) (hin : vp_in i n) (kk : AW G l ad d M (pc + 1) ls st (sI h c j x) Q) : AW G l ad d M pc ls (.int x :: .int i :: .ref (ad c) :: st) h Q := by
  subst hj
  exact aw_iast hd hs ht hin kk
theorem aw_zastK {c n t0 j : Nat} {i : Int32} {x : Int32} (hd : decode M.2.1 pc = .ok (.bastore, 1)) (hs : G.2.2.2.1[c]? = some (.inr (.boolean, n))) (ht : G.2.2.2.2.1[t0]? = some .boolean) (hj : i.toNatClampNeg = j) (hin : vp_in i n) (kk : AW G l ad d M (pc + 1) ls st (sI h c j (vp_nar .boolean x)) Q) : AW G l ad d M pc ls (.int x :: .int i :: .ref (ad c) :: st) h Q := by
  subst hj
  exact aw_zast hd hs ht hin kk
theorem aw_lastK {c n t0 j : Nat} {i : Int32} {x : Int64} (hd : decode M.2.1 pc = .ok (.lastore, 1)) (hs : G.2.2.2.1[c]? = some (.inr (.long, n))) (ht : G.2.2.2.2.1[t0]? = some .long) (hj : i.toNatClampNeg = j) (hin : vp_in i n) (kk : AW G l ad d M (pc + 1) ls st (sJ h c j x) Q) : AW G l ad d M pc ls (.long x :: .int i :: .ref (ad c) :: st) h Q := by
  subst hj
  exact aw_last hd hs ht hin kk
theorem aw_aastK {c n t0 c' ci j : Nat} {r : vw_C} {i : Int32} (hd : decode M.2.1 pc = .ok (.aastore, 1)) (hs : G.2.2.2.1[c]? = some (.inr (.object r.1, n))) (ht : G.2.2.2.2.1[t0]? = some (.object r.1)) (hs' : G.2.2.2.1[c']? = some (.inl ci)) (hc : G.1[ci]? = some r) (hj : i.toNatClampNeg = j) (hin : vp_in i n) (kk : AW G l ad d M (pc + 1) ls st (sR h c j c') Q) : AW G l ad d M pc ls (.ref (ad c') :: .int i :: .ref (ad c) :: st) h Q := by
  subst hj
  exact aw_aast hd hs ht hs' hc hin kk
theorem vp_inK {i : Int32} {n : Nat} (h : ¬ i < 0) (h2 : i.toNatClampNeg < n) : vp_in i n := fun q => q.elim h (fun q => absurd h2 (Nat.not_lt.mpr q))
theorem tab_ne {x k : Int32} {a : Int} (h : ¬ x = k) (hk : k.toInt = a) : ¬ x.toInt = a := lv_neT h hk
theorem vp_nar01 {x : Int32} (h : x = 0 ∨ x = 1) : vp_nar .boolean x = x := by rcases h with rfl | rfl <;> decide
theorem aw_topi {x : Int32} (k : ∀ y : Int32, y = x → AW G l ad d M pc ls (.int y :: st) h Q) : AW G l ad d M pc ls (.int x :: st) h Q := k x rfl
theorem aw_topl {x : Int64} (k : ∀ y : Int64, y = x → AW G l ad d M pc ls (.long y :: st) h Q) : AW G l ad d M pc ls (.long x :: st) h Q := k x rfl
theorem aw_toph (k : ∀ h' : aH, h' = h → AW G l ad d M pc ls st h' Q) : AW G l ad d M pc ls st h Q := k h rfl
end AWM
