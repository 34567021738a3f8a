/-! ===== a law's value ===== -/
def stp (nm : Nat → Int64) (c : Int32) (s : List Int64) : Option (List Int64) :=
  match partsN c, s with
  | 0, s => some (leafV nm c :: s)
  | 1, a :: r => some ((if a = 0 then 1 else 0) :: r)
  | 2, b :: a :: r => (jvO c a b).map (fun v => v :: r)
  | _, _ => none
def evS (cd : Nat → Int32) (nm : Nat → Int64) : Nat → Option (List Int64)
  | 0 => some []
  | n + 1 => (evS cd nm n).bind (stp nm (cd n))
def valS (cd : Nat → Int32) (n : Nat) (nm : Nat → Int64) : Int64 := match evS cd nm n with
  | some [v] => v
  | _ => ERR
def dpt (cd : Nat → Int32) : Nat → Nat
  | 0 => 0
  | n + 1 => dpt cd n + 1 - partsN (cd n)
def WFc (cd : Nat → Int32) (n : Nat) : Prop := (∀ i, i < n → partsN (cd i) ≤ dpt cd i ∧ (partsN (cd i) = 2 → isBin (cd i))) ∧ (n = 0 ∨ dpt cd n = 1) ∧ n ≤ 64
theorem dpt_le (cd : Nat → Int32) : ∀ n, dpt cd n ≤ n
  | 0 => Nat.le_refl 0
  | n + 1 => by have := dpt_le cd n; show dpt cd n + 1 - partsN (cd n) ≤ n + 1; omega
theorem partsN_cases (c : Int32) : partsN c = 0 ∨ partsN c = 1 ∨ partsN c = 2 := by
  unfold partsN
  split
  · exact Or.inl rfl
  · split
    · split
      · exact Or.inr (Or.inl rfl)
      · exact Or.inr (Or.inr rfl)
    · split
      · exact Or.inr (Or.inr rfl)
      · exact Or.inl rfl
theorem evS_len {cd : Nat → Int32} {n : Nat} {nm : Nat → Int64} (wf : WFc cd n) : ∀ i, i ≤ n → ∀ s, evS cd nm i = some s → s.length = dpt cd i := by
  intro i
  induction i with
  | zero => intro _ s h; cases h; rfl
  | succ i ih =>
    intro hi s h
    obtain ⟨r, hr, h2⟩ := Option.bind_eq_some_iff.mp (show (evS cd nm i).bind (stp nm (cd i)) = some s from h)
    have hl := ih (by omega) r hr
    have hp := (wf.1 i (by omega)).1
    show s.length = dpt cd i + 1 - partsN (cd i)
    unfold stp at h2
    rcases partsN_cases (cd i) with e | e | e
    · rw [e] at h2 ⊢
      cases h2
      simp [hl]
    · rw [e] at h2 ⊢ hp
      cases r with
      | nil => cases h2
      | cons a r => cases h2; simp at hl ⊢; omega
    · rw [e] at h2 ⊢ hp
      cases r with
      | nil => cases h2
      | cons b r => cases r with
        | nil => cases h2
        | cons a r =>
          obtain ⟨v, -, rfl⟩ := Option.map_eq_some_iff.mp h2
          simp at hl ⊢; omega
def hJ (h : aH) (J : Nat → Nat → Int64) : aH := (h.1, J, h.2.2)
theorem sJ_hJ {h : aH} {J : Nat → Nat → Int64} {c k : Nat} {v : Int64} : sJ (hJ h J) c k v = hJ h (fun c' k' => if c' = c ∧ k' = k then v else J c' k') := rfl
theorem rvD (v : Int64) (r : List Int64) (j : Nat) : (v :: r).reverse.getD j 0 = if j < r.length then r.reverse.getD j 0 else if j = r.length then v else 0 := by
  rw [List.reverse_cons, List.getD_eq_getElem?_getD, List.getD_eq_getElem?_getD]
  by_cases h1 : j < r.length
  · rw [if_pos h1, List.getElem?_append_left (by simpa using h1)]
  · rw [if_neg h1, List.getElem?_append_right (by simpa using h1), List.length_reverse]
    by_cases h2 : j = r.length
    · rw [if_pos h2, h2, Nat.sub_self]; rfl
    · rw [if_neg h2]
      have : j - r.length ≠ 0 := by omega
      cases hq : j - r.length with
      | zero => exact absurd hq this
      | succ q => rfl
theorem i64ne (x : Int32) : ¬ x.toInt64 = ERR := by
  intro e
  have h1 := congrArg Int64.toInt e
  rw [Int32.toInt_toInt64] at h1
  have h2 := x.le_toInt
  have e2 : (ERR).toInt = -9223372036854775808 := by decide
  rw [e2] at h1
  have e3 : ((-2) ^ 31 : Int) = -2147483648 := by decide
  omega
theorem leafV_ne {nm : Nat → Int64} (hnm : ∀ k, k < 7 → ¬ nm k = ERR) {c : Int32} (hc : partsN c = 0) : ¬ leafV nm c = ERR := by
  unfold leafV
  split
  · rename_i h1
    have h2 : ¬ (64 : Int32) ≤ c := Int32.not_le.mpr h1
    unfold partsN at hc
    rw [if_neg h2] at hc
    have h3 : ¬ c < 14 := fun q => by rw [if_pos q] at hc; split at hc <;> cases hc
    rw [if_neg h3] at hc
    have h4 : ¬ 20 < c := fun q => by rw [if_pos q] at hc; cases hc
    rw [Int32.not_lt, Int32.le_iff_toInt_le] at h3 h4
    have e3 : (14 : Int32).toInt = 14 := by decide
    have e4 : (20 : Int32).toInt = 20 := by decide
    rw [e3] at h3
    rw [e4] at h4
    obtain ⟨j, hj, rfl⟩ := nI_of (x := c) (fun q => by rw [Int32.lt_iff_toInt_lt] at q; have : (0 : Int32).toInt = 0 := by decide
                                                       omega)
    rw [nI_toInt hj] at h3 h4
    have e5 : nI j - 14 = nI (j - 14) := pk_sub (a := j) (b := 14) (by omega)
    rw [e5, nI_clamp (by omega)]
    exact hnm _ (by omega)
  · exact i64ne _
theorem limL_ne {v r : Int64} (h : limL v = some r) : ¬ r = ERR := by
  unfold limL at h
  split at h
  · cases h
  · split at h
    · rename_i h1 h2
      cases h
      intro e
      subst e
      exact absurd h2 (by decide)
    · cases h
theorem jvO_ne {s : Int32} {a b r : Int64} (h : jvO s a b = some r) : ¬ r = ERR := by
  obtain ⟨v, -, h2⟩ := Option.bind_eq_some_iff.mp h
  exact limL_ne h2
section VL
variable {l : Launch} {ad : Nat → Nat} {d : Nat} {h : aH}
theorem sp_value {R : Int64 → aH → Prop} {lw n : Nat} (hlw : isL GC lw) (h5 : lw + 2 ≠ 345) (en : h.1 lw 2 = nI n) (wf : WFc (h.1 (lw + 1)) n) (hnm : ∀ k, k < 7 → ¬ h.2.1 345 k = ERR) (H : ∀ J, R (valS (h.1 (lw + 1)) n (h.2.1 345)) (hJ h J)) : AW GC l ad (d + 1) mX1_value 0 [(0, .ref (ad lw)), (1, .ref (ad 345))] [] h (ql R) := by
  refine bX1_value_0 lw 345 7 hlw shC345 h ?_
  generalize ecd : h.1 (lw + 1) = cd at wf H
  generalize enm : h.2.1 345 = nm at hnm H
  have hn := wf.2.2
  have key : ∀ k i, i + k = n → ∀ (s : List Int64) (J : Nat → Nat → Int64), evS cd nm i = some s → J 345 = nm → (∀ j, j < s.length → J (lw + 2) j = s.reverse.getD j 0) → AW GC l ad (d + 1) mX1_value 4 [(0, .ref (ad lw)), (1, .ref (ad 345)), (2, .int (nI s.length)), (3, .int (nI i))] [] (hJ h J) (ql R) := by
    intro k
    induction k with
    | zero =>
      intro i hi s J hs hj hr
      have e : i = n := by omega
      subst e
      have hl := evS_len wf i (Nat.le_refl _) s hs
      refine bX1_value_4 lw 345 7 hlw shC345 _ _ _ ⟨fun _ => ?_, fun q => absurd (show h.1 lw 2 ≤ nI i by rw [en]; exact Int32.le_refl _) q⟩
      refine bX1_value_160 lw 345 7 hlw shC345 _ _ ⟨fun q => ?_, fun q => ?_⟩
      · have H1 := H J
        have e2 : valS cd i nm = ERR := by
          unfold valS
          rw [hs]
          split
          · rename_i v hv
            cases hv
            exact absurd rfl q
          · rfl
        rw [e2] at H1
        exact H1
      · have hs1 : s.length = 1 := by
          have := (nI_eq (a := s.length) (b := 1) (by rw [hl]; have := dpt_le cd i; omega) (by omega)).mp q
          exact this
        match s, hs1, hs, hr with
        | [v], _, hs, hr =>
          have H1 := H J
          have e2 : valS cd i nm = v := by unfold valS; rw [hs]
          rw [e2] at H1
          have e3 := hr 0 (by simp)
          have e4 : (hJ h J).2.1 (lw + 2) 0 = v := e3
          rw [e4]
          exact H1
    | succ k ih =>
      intro i hi s J hs hj hr
      have hin : i < n := by omega
      have hl := evS_len wf i (by omega) s hs
      have hdl := dpt_le cd i
      have hp := (wf.1 i hin).1
      have hbin := (wf.1 i hin).2
      have enx : evS cd nm (i + 1) = stp nm (cd i) s := by show (evS cd nm i).bind _ = _; rw [hs]; rfl
      -- behind a new value
      have K : ∀ (q : Nat) (r : List Int64) (v : Int64), q = r.length → q < 64 → ¬ v = ERR → stp nm (cd i) s = some (v :: r) → (∀ j, j < r.length → J (lw + 2) j = r.reverse.getD j 0) → AW GC l ad (d + 1) mX1_value 127 [(0, .ref (ad lw)), (1, .ref (ad 345)), (3, .int (nI i)), (6, .int (nI q)), (7, .long v)] [] (hJ h J) (ql R) := by
        intro q r v eq hq hv hst hr2
        refine bX1_value_127 lw 345 7 hlw shC345 _ _ _ _ ⟨fun _ => ⟨vp_in_nI hq (by omega), ?_⟩, fun z => absurd z hv⟩
        rw [nI_clamp (by omega), sJ_hJ, nI_1, nI_1]
        have := ih (i + 1) (by omega) (v :: r) (fun c' k' => if c' = lw + 2 ∧ k' = q then v else J c' k') (enx.trans hst) (by
          funext k'
          show (if 345 = lw + 2 ∧ k' = q then v else J 345 k') = nm k'
          rw [if_neg (fun z => h5 z.1.symm), hj]) (by
          intro j hj2
          show (if lw + 2 = lw + 2 ∧ j = q then v else J (lw + 2) j) = _
          rw [rvD]
          by_cases h1 : j < r.length
          · rw [if_pos h1, if_neg (fun z => by omega), hr2 j h1]
          · have h2 : j = r.length := by simp at hj2; omega
            rw [if_neg h1, if_pos h2, if_pos ⟨rfl, by omega⟩])
        rw [List.length_cons, ← eq] at this
        exact this
      -- an ERROR
      have Ke : stp nm (cd i) s = none → ∀ J', R ERR (hJ h J') := by
        intro e J'
        have H1 := H J'
        have en2 : ∀ m, i + 1 ≤ m → evS cd nm m = none := by
          intro m
          induction m with
          | zero => intro q; omega
          | succ m ihm =>
            intro q
            by_cases e2 : m = i
            · subst e2; rw [enx, e]
            · show (evS cd nm m).bind _ = none
              rw [ihm (by omega)]; rfl
        have e2 : valS cd n nm = ERR := by unfold valS; rw [en2 n (by omega)]
        rw [e2] at H1
        exact H1
      refine bX1_value_4 lw 345 7 hlw shC345 _ _ _ ⟨fun q => absurd (show nI n ≤ nI i by rw [← en]; exact q) (nI_ge hin (by omega)), fun _ => ⟨fun q => absurd q (nI_ge (b := 64) (by omega) (by omega)), fun _ => ⟨vp_in_nI (by omega) (by omega), ?_⟩⟩⟩
      rw [nI_clamp (by omega)]
      have ec : (hJ h J).1 (lw + 1) i = cd i := by show h.1 (lw + 1) i = cd i; rw [ecd]
      rw [ec]
      refine sp_partsOf ?_
      have ex : nI s.length - nI (partsN (cd i)) = nI (s.length - partsN (cd i)) := pk_sub (by omega)
      rw [ex]
      refine ⟨fun q => absurd q (nI_pos (by omega)), fun _ => ⟨fun q => absurd q (nI_ge (b := 64) (by omega) (by omega)), fun _ => ⟨fun _ => ?_, fun q => absurd (nI_le (b := 64) (by omega) (by omega)) q⟩⟩⟩
      rcases partsN_cases (cd i) with e | e | e
      · rw [e] at hp ⊢
        refine ⟨fun q => absurd rfl q, fun _ => ?_⟩
        refine sp_leaf e ?_
        have e1 : leafV ((hJ h J).2.1 345) (cd i) = leafV nm (cd i) := by show leafV (J 345) (cd i) = _; rw [hj]
        rw [e1]
        exact K _ s _ (by omega) (by omega) (leafV_ne hnm e) (by unfold stp; rw [e]; cases s <;> rfl) hr
      · rw [e] at hp ⊢
        refine ⟨fun _ => ⟨fun q => absurd rfl q, fun _ => ?_⟩, fun q => absurd q (by decide)⟩
        match s, hs, hl, hr, enx, K with
        | [], _, hl, _, _, _ => simp at hl; omega
        | a :: r, hs, hl, hr, enx, K =>
          rw [show (a :: r).length - 1 = r.length from rfl]
          simp only [List.length_cons] at hl
          rw [nI_clamp (by omega)]
          have ea : (hJ h J).2.1 (lw + 2) r.length = a := by
            show J (lw + 2) r.length = a
            rw [hr r.length (by simp), rvD, if_neg (Nat.lt_irrefl _), if_pos rfl]
          rw [ea]
          have hr2 : ∀ j, j < r.length → J (lw + 2) j = r.reverse.getD j 0 := by
            intro j hj2
            rw [hr j (by simp; omega), rvD, if_pos hj2]
          refine ⟨vp_in_nI (by omega) (by omega), fun q => ?_, fun q => ?_⟩
          · exact bX1_value_100 lw 345 7 hlw shC345 _ _ _ _ (K r.length r 0 rfl (by omega) (by decide) (by unfold stp; rw [e]; show some ((if a = 0 then (1 : Int64) else 0) :: r) = _; rw [if_neg q]) hr2)
          · exact bX1_value_100 lw 345 7 hlw shC345 _ _ _ _ (K r.length r 1 rfl (by omega) (by decide) (by unfold stp; rw [e]; show some ((if a = 0 then (1 : Int64) else 0) :: r) = _; rw [if_pos q]) hr2)
      · rw [e] at hp ⊢
        refine ⟨fun _ => ⟨fun _ => ?_, fun q => absurd q (by decide)⟩, fun q => absurd q (by decide)⟩
        match s, hs, hl, hr, enx, K, Ke with
        | [], _, hl, _, _, _, _ => simp at hl; omega
        | [_], _, hl, _, _, _, _ => simp at hl; omega
        | b :: a :: r, hs, hl, hr, enx, K, Ke =>
          rw [show (b :: a :: r).length - 2 = r.length from rfl]
          simp only [List.length_cons] at hl
          have ex2 : nI (b :: a :: r).length - 1 = nI (r.length + 1) := by
            rw [List.length_cons, List.length_cons]; exact nI_pred _
          rw [ex2, nI_clamp (by omega), nI_clamp (by omega)]
          have ea : (hJ h J).2.1 (lw + 2) r.length = a := by
            show J (lw + 2) r.length = a
            rw [hr r.length (by simp; omega), rvD, if_pos (by simp), rvD, if_neg (Nat.lt_irrefl _), if_pos rfl]
          have eb : (hJ h J).2.1 (lw + 2) (r.length + 1) = b := by
            show J (lw + 2) (r.length + 1) = b
            rw [hr (r.length + 1) (by simp), rvD, if_neg (by simp), if_pos (by simp)]
          rw [ea, eb]
          have hr2 : ∀ j, j < r.length → J (lw + 2) j = r.reverse.getD j 0 := by
            intro j hj2
            rw [hr j (by simp; omega), rvD, if_pos (by simp; omega), rvD, if_pos hj2]
          refine ⟨vp_in_nI (by omega) (by omega), vp_in_nI (by omega) (by omega), ?_⟩
          refine sp_joinedValue (hbin e) ?_
          cases hjv : jvO (cd i) a b with
          | none =>
            refine bX1_value_127 lw 345 7 hlw shC345 _ _ _ _ ⟨fun z => absurd rfl z, fun _ => ?_⟩
            exact Ke (by unfold stp; rw [e]; show (jvO (cd i) a b).map _ = none; rw [hjv]; rfl) J
          | some v =>
            exact K r.length r v rfl (by omega) (jvO_ne hjv) (by unfold stp; rw [e]; show (jvO (cd i) a b).map _ = _; rw [hjv]; rfl) hr2
  have h0 := key n 0 (by omega) [] h.2.1 rfl enm (fun j hj => absurd hj (Nat.not_lt_zero _))
  exact h0
end VL
