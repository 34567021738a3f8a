/-! ===== the reference: a law's value ===== -/
theorem parts_num {n : Nat} (h : n ≤ 9999) : partsN (nI (64 + n)) = 0 := by
  unfold partsN
  rw [if_pos (show (64 : Int32) ≤ nI (64 + n) from nI_le (a := 64) (by omega) (by omega))]
theorem parts_name : ∀ k, k < 7 → partsN (nI (14 + k)) = 0 := by decide +kernel
theorem leaf_num {nm : Nat → Int64} {n : Nat} (h : n ≤ 9999) : leafV nm (nI (64 + n)) = (nI n).toInt64 := by
  unfold leafV
  rw [if_neg (show ¬ nI (64 + n) < 64 from nI_nlt (b := 64) (by omega) (by omega)), show nI (64 + n) - 64 = nI n from (pk_sub (a := 64 + n) (b := 64) (by omega)).trans (by rw [Nat.add_sub_cancel_left])]
theorem leaf_name {nm : Nat → Int64} {k : Nat} (h : k < 7) : leafV nm (nI (14 + k)) = nm k := by
  unfold leafV
  rw [if_pos (show nI (14 + k) < 64 from nI_lt (b := 64) (by omega) (by omega)), show nI (14 + k) - 14 = nI k from (pk_sub (a := 14 + k) (b := 14) (by omega)).trans (by rw [Nat.add_sub_cancel_left]), nI_clamp (by omega)]
theorem evS_ne {cd : Nat → Int32} {nm : Nat → Int64} (hnm : ∀ k, k < 7 → ¬ nm k = ERR) : ∀ i s, evS cd nm i = some s → ∀ x ∈ s, ¬ x = ERR := by
  intro i
  induction i with
  | zero => intro s h x hx; cases h; cases hx
  | succ i ih =>
    intro s h x hx
    obtain ⟨r, hr, h2⟩ := Option.bind_eq_some_iff.mp (show (evS cd nm i).bind (stp nm (cd i)) = some s from h)
    have hi := ih r hr
    unfold stp at h2
    rcases partsN_cases (cd i) with e | e | e
    · rw [e] at h2
      have h3 : some (leafV nm (cd i) :: r) = some s := by cases r <;> exact h2
      cases h3
      rcases List.mem_cons.mp hx with rfl | hx
      · exact leafV_ne hnm e
      · exact hi x hx
    · rw [e] at h2
      cases r with
      | nil => cases h2
      | cons a r =>
        have h3 : some ((if a = 0 then (1 : Int64) else 0) :: r) = some s := by cases r <;> exact h2
        cases h3
        rcases List.mem_cons.mp hx with rfl | hx
        · split <;> decide
        · exact hi x (List.mem_cons_of_mem _ hx)
    · rw [e] at h2
      cases r with
      | nil => cases h2
      | cons b r => cases r with
        | nil => cases h2
        | cons a r =>
          obtain ⟨v, hv, rfl⟩ := Option.map_eq_some_iff.mp h2
          rcases List.mem_cons.mp hx with rfl | hx
          · exact jvO_ne hv
          · exact hi x (List.mem_cons_of_mem _ (List.mem_cons_of_mem _ hx))
theorem valS_some {cd : Nat → Int32} {n : Nat} {nm : Nat → Int64} (wf : WFc cd n) (hn : n ≠ 0) {s : List Int64} (hs : evS cd nm n = some s) : s = [valS cd n nm] := by
  have hl := evS_len wf n (Nat.le_refl _) s hs
  have h1 : dpt cd n = 1 := by rcases wf.2.1 with h | h; exact absurd h hn; exact h
  rw [h1] at hl
  match s, hl, hs with
  | [v], _, hs => unfold valS; rw [hs]
section MG
variable {adK adV : Nat → Nat} {l : Launch} {ad : Nat → Nat} {d : Nat} {h : aH}
theorem m_hasLaw {R : Int32 → aH → Prop} {k f n : Nat} (hk : k < 3) (ef : h.1 17 k = nI f) (et : h.1 18 k = nI (f + n)) (hfn : f + n ≤ 64) (H : R (if n = 0 then 0 else 1) h) : AW (GM adK adV) l ad d mX10_hasLaw 0 [(0, .ref (ad 0)), (1, .int (nI k))] [] h (qi R) := by
  refine bX10_hasLaw_0 _ _ ?_
  rw [nI_clamp (by omega), ef, et]
  refine ⟨vp_in_nI (by omega) (by omega), fun z => ?_, fun z => ?_⟩
  · have : n = 0 := by
      have := (nI_leI (a := f + n) (b := f) (by omega) (by omega)).mp z
      omega
    rw [if_pos this] at H; exact H
  · have : n ≠ 0 := by
      intro e
      exact z ((nI_leI (a := f + n) (b := f) (by omega) (by omega)).mpr (by omega))
    rw [if_neg this] at H; exact H
theorem m_goesN {R : Int32 → aH → Prop} {k f n : Nat} {cd : Nat → Int32} {nm : Nat → Int64} {J0 : Nat → Nat → Int64} {n0 : Int32} (hk : k < 3) (ef : h.1 17 k = nI f) (et : h.1 18 k = nI (f + n)) (hfn : f + n ≤ 64) (wf : WFc cd n) (hn : n ≠ 0) (hnm : ∀ k, k < 7 → ¬ nm k = ERR) (hR : ∀ i, i < n → cR (cd i) (h.1 19 (f + i)) (h.1 20 (f + i))) (hJ0 : ∀ k, k < 7 → J0 21 k = nm k)
    (H1 : ¬ valS cd n nm = ERR → ∀ J' n', (∀ k, k < 7 → J' 21 k = nm k) → J' 22 0 = valS cd n nm → R 1 (hS h J' n')) (H0 : valS cd n nm = ERR → ∀ J' n', (∀ k, k < 7 → J' 21 k = nm k) → R 0 (hS h J' n')) : AW (GM adK adV) l ad (d + 2) mX10_goes 0 [(0, .ref (ad 0)), (1, .int (nI k))] [] (hS h J0 n0) (qi R) := by
  have Hn : ∀ i, i ≤ n → evS cd nm i = none → ∀ J' n', (∀ k, k < 7 → J' 21 k = nm k) → R 0 (hS h J' n') := by
    intro i hi e
    refine H0 ?_
    have : ∀ j, i ≤ j → evS cd nm j = none := by
      intro j
      induction j with
      | zero => intro q; have : i = 0 := by omega
                subst this; exact e
      | succ j ihj =>
        intro q
        by_cases e2 : i = j + 1
        · rw [← e2]; exact e
        · show (evS cd nm j).bind _ = none
          rw [ihj (by omega)]; rfl
    unfold valS
    rw [this n hi]
  have key : ∀ q i, i + q = n → ∀ (s : List Int64) (J : Nat → Nat → Int64), evS cd nm i = some s → (∀ k, k < 7 → J 21 k = nm k) → (∀ j, j < s.length → J 22 j = s.reverse.getD j 0) → AW (GM adK adV) l ad (d + 2) mX10_goes 12 [(0, .ref (ad 0)), (1, .int (nI k)), (2, .int (nI (f + i)))] [] (hS h J (nI s.length)) (qi R) := by
    intro q
    induction q with
    | zero =>
      intro i hi s J hs hJ hr
      have e : i = n := by omega
      subst e
      refine bX10_goes_12 _ _ _ ?_
      rw [nI_clamp (by omega), hS_o (by decide), et]
      refine ⟨vp_in_nI (by omega) (by omega), fun _ => ?_, fun z => absurd (Int32.le_refl _) z⟩
      have es := valS_some wf hn hs
      refine H1 (evS_ne hnm i s hs _ (by rw [es]; exact List.mem_cons_self)) J _ hJ ?_
      have := hr 0 (by rw [es]; simp)
      rw [this, es]; rfl
    | succ q ih =>
      intro i hi s J hs hJ hr
      have hin : i < n := by omega
      have hl := evS_len wf i (by omega) s hs
      have hdl := dpt_le cd i
      have hp := (wf.1 i hin).1
      have enx : evS cd nm (i + 1) = stp nm (cd i) s := by show (evS cd nm i).bind _ = _; rw [hs]; rfl
      have K : ∀ (r : List Int64) (v : Int64), stp nm (cd i) s = some (v :: r) → (∀ j, j < r.length → J 22 j = r.reverse.getD j 0) → AW (GM adK adV) l ad (d + 2) mX10_goes 12 [(0, .ref (ad 0)), (1, .int (nI k)), (2, .int (nI (f + i + 1)))] [] (hS h (fun c' k' => if c' = 22 ∧ k' = r.length then v else J c' k') (nI (r.length + 1))) (qi R) := by
        intro r v hst hr2
        have := ih (i + 1) (by omega) (v :: r) (fun c' k' => if c' = 22 ∧ k' = r.length then v else J c' k') (enx.trans hst) (by
          intro k' hk'
          show (if 21 = 22 ∧ k' = r.length then v else J 21 k') = nm k'
          rw [if_neg (fun z => absurd z.1 (by decide))]; exact hJ k' hk') (by
          intro j hj2
          show (if 22 = 22 ∧ j = r.length then v else J 22 j) = _
          rw [rvD]
          by_cases h1 : j < r.length
          · rw [if_pos h1, if_neg (fun z => by omega), hr2 j h1]
          · have h2 : j = r.length := by simp at hj2; omega
            rw [if_neg h1, if_pos h2, if_pos ⟨rfl, h2⟩])
        rw [List.length_cons] at this
        exact this
      refine bX10_goes_12 _ _ _ ?_
      rw [nI_clamp (by omega), nI_clamp (by omega), hS_o (by decide), hS_o (by decide), hS_o (by decide), hS_s, et, nI_1]
      refine ⟨vp_in_nI (by omega) (by omega), fun z => absurd z (nI_ge (by omega) (by omega)), fun _ => ⟨vp_in_nI (by omega) (by omega), ?_⟩⟩
      have K85 : ∀ v, partsN (cd i) = 0 → v = leafV nm (cd i) → AW (GM adK adV) l ad (d + 2) mX10_goes 85 [(0, .ref (ad 0)), (1, .int (nI k)), (2, .int (nI (f + i)))] [.long v, .int (nI s.length), .ref (ad 22)] (hS h J (nI s.length)) (qi R) := by
        intro v e ev
        refine bX10_goes_85 _ _ _ _ _ ⟨vp_in_nI (by omega) (by omega), ?_⟩
        rw [nI_clamp (by omega), sJ_hS, hS_s, sI_hS, nI_1, nI_1, ev]
        exact K s _ (by unfold stp; rw [e]; cases s <;> rfl) hr
      rcases hR i hin with ⟨e1, m, hm, ev, ec⟩ | ⟨e1, m, hm, ev, ec⟩ | ⟨e1, ec, ev⟩ | ⟨e1, hcv⟩
      · rw [e1]
        refine ⟨fun _ => ⟨fun z => absurd rfl z, fun _ => ?_⟩, fun z => absurd z (by decide)⟩
        exact K85 _ (by rw [ec]; exact parts_num hm) (by rw [ev, ec, leaf_num hm])
      · rw [e1]
        refine ⟨fun _ => ⟨fun _ => ?_, fun z => absurd z (by decide)⟩, fun z => absurd z (by decide)⟩
        rw [ev, nI_clamp (by omega)]
        refine ⟨vp_in_nI hm (by omega), ?_⟩
        exact K85 _ (by rw [ec]; exact parts_name m hm) (by rw [ec, leaf_name hm]; exact hJ m hm)
      · rw [e1]
        refine ⟨fun z => absurd rfl z, fun _ => ?_⟩
        have e : partsN (cd i) = 1 := by rw [ec]; decide
        rw [ev]
        match s, hs, hl, hr, enx, K with
        | [], _, hl, _, _, _ => rw [e] at hp; simp at hl; omega
        | a :: r, hs, hl, hr, enx, K =>
          simp only [List.length_cons] at hl ⊢
          have ea : J 22 r.length = a := by
            rw [hr r.length (by simp), rvD, if_neg (Nat.lt_irrefl _), if_pos rfl]
          have hr2 : ∀ j, j < r.length → J 22 j = r.reverse.getD j 0 := by
            intro j hj2
            rw [hr j (by simp; omega), rvD, if_pos hj2]
          refine mw_260 (a := a) (by omega) ?_ ea
          refine ⟨fun _ => ?_, fun z => absurd z (by decide)⟩
          exact K r _ (by unfold stp; rw [e]; cases r <;> rfl) hr2
      · rw [e1]
        refine ⟨fun z => absurd rfl z, fun _ => ?_⟩
        have e : partsN (cd i) = 2 := by
          rcases hcv with h | h | h | h | h | h | h | h | h | h | h | h <;> (rw [h.1]; decide)
        match s, hs, hl, hr, enx, K with
        | [], _, hl, _, _, _ => rw [e] at hp; simp at hl; omega
        | [_], _, hl, _, _, _ => rw [e] at hp; simp at hl; omega
        | b :: a :: r, hs, hl, hr, enx, K =>
          simp only [List.length_cons] at hl ⊢
          have ea : J 22 r.length = a := by
            rw [hr r.length (by simp; omega), rvD, if_pos (by simp), rvD, if_neg (Nat.lt_irrefl _), if_pos rfl]
          have eb : J 22 (r.length + 1) = b := by
            rw [hr (r.length + 1) (by simp), rvD, if_neg (by simp), if_pos (by simp)]
          have hr2 : ∀ j, j < r.length → J 22 j = r.reverse.getD j 0 := by
            intro j hj2
            rw [hr j (by simp; omega), rvD, if_pos (by simp; omega), rvD, if_pos hj2]
          refine mw_bin hcv (by omega) (fun x hx => ?_) (fun hx J' hJ' => ?_) eb ea
          · refine ⟨fun _ => ?_, fun z => absurd z (by decide)⟩
            exact K r x (by unfold stp; rw [e]; show (jvO (cd i) a b).map _ = _; rw [hx]; rfl) hr2
          · refine ⟨fun z => absurd rfl z, fun _ => ?_⟩
            exact Hn (i + 1) (by omega) (by rw [enx]; unfold stp; rw [e]; show (jvO (cd i) a b).map _ = none; rw [hx]; rfl) J' _ (fun k hk => (hJ' k).trans (hJ k hk))
  refine bX10_goes_0 _ _ ?_
  rw [sI_hS, nI_clamp (by omega), hS_o (by decide), ef]
  exact ⟨vp_in_nI (by omega) (by omega), key n 0 (by omega) [] J0 rfl hJ0 (fun j hj => absurd hj (Nat.not_lt_zero _))⟩
theorem m_goes {R : Int32 → aH → Prop} {k f n : Nat} {cd : Nat → Int32} {nm : Nat → Int64} {J0 : Nat → Nat → Int64} {n0 : Int32} (hk : k < 3) (ef : h.1 17 k = nI f) (et : h.1 18 k = nI (f + n)) (hfn : f + n ≤ 64) (wf : WFc cd n) (hn : n ≠ 0) (hnm : ∀ k, k < 7 → ¬ nm k = ERR) (hR : ∀ i, i < n → cR (cd i) (h.1 19 (f + i)) (h.1 20 (f + i))) (hJ0 : ∀ k, k < 7 → J0 21 k = nm k)
    (H1 : ¬ valS cd n nm = ERR → ∀ J' n', J' 22 0 = valS cd n nm → R 1 (hS h J' n')) (H0 : valS cd n nm = ERR → ∀ J' n', R 0 (hS h J' n')) : AW (GM adK adV) l ad (d + 2) mX10_goes 0 [(0, .ref (ad 0)), (1, .int (nI k))] [] (hS h J0 n0) (qi R) :=
  m_goesN hk ef et hfn wf hn hnm hR hJ0 (fun z J' n' _ e => H1 z J' n' e) (fun z J' n' _ => H0 z J' n')
end MG
