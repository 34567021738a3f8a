/-! ===== calls: order ===== -/
theorem allR {k : Nat} {f : Nat → Bool} (h : (List.range k).all f = true) {i : Nat} (hi : i < k) : f i = true := List.all_eq_true.mp h i (List.mem_range.mpr hi)
/-- the first four that are open -/
def opS (ω : wT) (k : Nat) : Nat × (Nat → Nat) := itR (fun d q => if q.1 < 4 then (if ω 8 d = 1 then (q.1 + 1, updN q.2 q.1 d) else q) else q) k (0, fun _ => 0)
theorem op_st {ω : wT} {k : Nat} : opS ω (k + 1) = if (opS ω k).1 < 4 then (if ω 8 k = 1 then ((opS ω k).1 + 1, updN (opS ω k).2 (opS ω k).1 k) else opS ω k) else opS ω k := rfl
theorem op_ok (ω : wT) : ∀ k, (opS ω k).1 ≤ 4 ∧ (∀ i, i < (opS ω k).1 → (opS ω k).2 i < k ∧ ω 8 ((opS ω k).2 i) = 1) ∧ ∀ i j, i < j → j < (opS ω k).1 → (opS ω k).2 i ≠ (opS ω k).2 j
  | 0 => ⟨Nat.zero_le _, fun i hi => absurd hi (Nat.not_lt_zero _), fun i j _ hj => absurd hj (Nat.not_lt_zero _)⟩
  | k + 1 => by
    obtain ⟨h1, h2, h3⟩ := op_ok ω k
    have W : (∀ i, i < (opS ω k).1 → (opS ω k).2 i < k + 1 ∧ ω 8 ((opS ω k).2 i) = 1) := fun i hi => ⟨by have := (h2 i hi).1; omega, (h2 i hi).2⟩
    rw [op_st]
    by_cases z : (opS ω k).1 < 4
    · rw [if_pos z]
      by_cases z2 : ω 8 k = 1
      · rw [if_pos z2]
        generalize opS ω k = q at h1 h2 h3 W z
        refine ⟨z, fun i hi => ?_, fun i j hij hj => ?_⟩
        · show updN q.2 q.1 k i < k + 1 ∧ ω 8 (updN q.2 q.1 k i) = 1
          by_cases w : i = q.1
          · rw [w, updN_s]; exact ⟨by omega, z2⟩
          · rw [updN_o w]; exact W i (by have hi : i < q.1 + 1 := hi; omega)
        · have hj : j < q.1 + 1 := hj
          show updN q.2 q.1 k i ≠ updN q.2 q.1 k j
          by_cases w : j = q.1
          · rw [w, updN_s, updN_o (by omega)]
            have := (h2 i (by omega)).1
            omega
          · rw [updN_o w, updN_o (by omega)]; exact h3 i j hij (by omega)
      · rw [if_neg z2]; exact ⟨h1, W, h3⟩
    · rw [if_neg z]; exact ⟨h1, W, h3⟩
theorem op_stop {ω : wT} {k : Nat} (h : ¬ (opS ω k).1 < 4) : ∀ r, opS ω (k + r) = opS ω k
  | 0 => rfl
  | r + 1 => by
    have ih := op_stop h r
    show opS ω (k + r + 1) = _
    rw [op_st, ih, if_neg h]
/-- debts paid one behind another -/
def pyS (F : Nat → Nat) (st : wT × Int32) (i : Nat) : wT × Int32 := if st.1 1 (ix (st.1 4 (F i))) < st.1 9 (F i) then st else (settleW st.1 (F i) (ix (st.1 3 (F i))) (ix (st.1 4 (F i))), st.2 + st.1 9 (F i))
def pyI (F : Nat → Nat) (ω : wT) (pm : List Nat) (j : Nat) : wT × Int32 := itR (fun j st => pyS F st (pm.getD j 0)) j (ω, 0)
theorem py_st {F : Nat → Nat} {ω : wT} {pm : List Nat} {j : Nat} : pyI F ω pm (j + 1) = pyS F (pyI F ω pm j) (pm.getD j 0) := rfl
def odU (F : Nat → Nat) (ω : wT) (n : Nat) (s : Int32 × List Nat) (pm : List Nat) : Int32 × List Nat := if (pyI F ω pm n).2 ≤ s.1 then s else ((pyI F ω pm n).2, pm)
def dg (n i c : Nat) : Nat := c / 4 ^ (n - 1 - i) % 4
def ud (n c i : Nat) : Nat := itR (fun j u => u ||| 2 ^ dg n j c) i 0
def okB (n c i : Nat) : Bool := itR (fun j b => b && (decide (dg n j c < n) && !(ud n c j).testBit (dg n j c))) i true
def odD (n c : Nat) : List Nat := (List.range n).map (fun i => dg n i c)
def cdL (n c : Nat) : List (List Nat) := itR (fun c L => if okB n c n then L ++ [odD n c] else L) c []
def dfL (n : Nat) : Nat → List Nat → Nat → List (List Nat)
  | 0, pre, _ => [pre]
  | r + 1, pre, used => itR (fun i L => L ++ (if used.testBit i then [] else dfL n r (pre ++ [i]) (used ||| 2 ^ i))) n []
theorem cd_df : ∀ n, n < 5 → dfL n n [] 0 = cdL n (4 ^ n) := by decide +kernel
theorem cd_ne : ∀ n, n < 5 → cdL n (4 ^ n) ≠ [] := by decide +kernel
theorem dg_b : (List.range 5).all (fun n => (List.range 4).all (fun i => decide (n ≤ i) || (List.range 256).all (fun c => decide ((nI c >>> (((2 : Int32) * ((nI n - 1) - nI i)) &&& 31)) &&& 3 = nI (dg n i c))))) = true := by decide +kernel
theorem dg_ok {n i c : Nat} (hn : n < 5) (hi : i < n) (hc : c < 256) : (nI c >>> (((2 : Int32) * ((nI n - 1) - nI i)) &&& 31)) &&& 3 = nI (dg n i c) := by
  have := allR (allR dg_b hn) (i := i) (by omega)
  rw [decide_eq_false (by omega), Bool.false_or] at this
  exact of_decide_eq_true (allR this hc)
theorem dg_lt {n i c : Nat} : dg n i c < 4 := Nat.mod_lt _ (by decide)
theorem pw4 : ∀ n, n < 5 → (1 : Int32) <<< (((2 : Int32) * nI n) &&& 31) = nI (4 ^ n) ∧ 4 ^ n ≤ 256 := by decide
theorem odD_at {n c i : Nat} (hi : i < n) : (odD n c).getD i 0 = dg n i c := by
  unfold odD
  rw [List.getD_eq_getElem?_getD, List.getElem?_map, List.getElem?_range hi]
  rfl
theorem okB_f {n c : Nat} {i : Nat} (h : okB n c i = false) : ∀ r, okB n c (i + r) = false
  | 0 => h
  | r + 1 => by
    show (okB n c (i + r) && _) = false
    rw [okB_f h r, Bool.false_and]
theorem app_l {L : List Nat} {i j : Nat} (h : j < L.length) : (L ++ [i]).getD j 0 = L.getD j 0 := by
  rw [List.getD_eq_getElem?_getD, List.getD_eq_getElem?_getD, List.getElem?_append_left h]
theorem app_r {L : List Nat} {i : Nat} : (L ++ [i]).getD L.length 0 = i := by
  rw [List.getD_eq_getElem?_getD, List.getElem?_append_right (Nat.le_refl _), Nat.sub_self]
  rfl
theorem cpI_at {h : aH} {c0 c1 n k : Nat} (hk : k < n) : (cpI h c0 c1 0 0 n).1 c1 k = h.1 c0 k := by
  unfold cpI va_cpy
  show (if c1 = c1 then (if 0 ≤ k ∧ k < 0 + n then h.1 c0 (0 + (k - 0)) else h.1 c1 k) else h.1 c1 k) = h.1 c0 k
  rw [if_pos rfl, if_pos ⟨Nat.zero_le _, by omega⟩, Nat.sub_zero, Nat.zero_add]
section OD
variable {adK adV : Nat → Nat} {l l' : Launch} {ad ad' : Nat → Nat} {d d' b : Nat} {hC hM hC' hM' h : aH} {sy m t n D0 D N : Nat} {ω β σ : wT} {F : Nat → Nat}
theorem py_wf (wf : WFw m t D ω) {pm : List Nat} : ∀ j, WFw m t D (pyI F ω pm j).1
  | 0 => wf
  | j + 1 => by
    rw [py_st]
    unfold pyS
    split
    · exact py_wf wf j
    · exact wf_settle (py_wf wf j)
theorem py_9 {pm : List Nat} : ∀ j, P9 ω (pyI F ω pm j).1
  | 0 => p9_rfl
  | j + 1 => by
    rw [py_st]
    unfold pyS
    split
    · exact py_9 j
    · exact p9_tr (py_9 j) p9_settle
theorem py_v (hF : ∀ i, i < N → F i < D) (o : ∀ i, i < D → O9 ω i) {pm : List Nat} : ∀ j, (∀ q, q < j → pm.getD q 0 < N) → ∃ v, v ≤ 9999 * j ∧ (pyI F ω pm j).2 = nI v
  | 0, _ => ⟨0, by omega, rfl⟩
  | j + 1, hp => by
    obtain ⟨v, h1, h2⟩ := py_v hF o j (fun q hq => hp q (by omega))
    rw [py_st]
    unfold pyS
    split
    · exact ⟨v, by omega, h2⟩
    · obtain ⟨x, x1, x2⟩ := (py_9 (F := F) (pm := pm) j _ (o _ (hF _ (hp j (by omega))))).1
      refine ⟨v + x, by omega, ?_⟩
      show (pyI F ω pm j).2 + (pyI F ω pm j).1 9 (F (pm.getD j 0)) = nI (v + x)
      rw [h2, x2, nI_add]
theorem py_8 {pm : List Nat} {x : Nat} : ∀ j, (∀ q, q < j → F (pm.getD q 0) ≠ x) → (pyI F ω pm j).1 8 x = ω 8 x
  | 0, _ => rfl
  | j + 1, hx => by
    have ih := py_8 (pm := pm) (x := x) j (fun q hq => hx q (by omega))
    rw [py_st]
    unfold pyS
    split
    · exact ih
    · show settleW (pyI F ω pm j).1 (F (pm.getD j 0)) _ _ 8 x = _
      unfold settleW endW
      rw [u2_j (by decide), u2_j (by decide), u2_k (Ne.symm (hx j (by omega))), u2_j (by decide), u2_j (by decide)]
      exact ih
theorem od_pos (hF : ∀ i, i < N → F i < D) (o : ∀ i, i < D → O9 ω i) (hN : N ≤ 4) : ∀ (L : List (List Nat)) (s : Int32 × List Nat), (∀ pm ∈ L, ∀ q, q < N → pm.getD q 0 < N) → (L ≠ [] ∨ ¬ s.1 < 0) → (s.1 = -1 ∨ ¬ s.1 < 0) → ¬ (L.foldl (odU F ω N) s).1 < 0
  | [], s, _, h, _ => h.elim (fun w => absurd rfl w) id
  | pm :: L, s, hp, _, hs => by
    show ¬ (L.foldl (odU F ω N) (odU F ω N s pm)).1 < 0
    obtain ⟨v, h1, h2⟩ := py_v hF o (pm := pm) N (hp pm List.mem_cons_self)
    have : ¬ (odU F ω N s pm).1 < 0 := by
      unfold odU
      rw [h2]
      split
      · rename_i w
        rcases hs with hs | hs
        · rw [hs] at w
          exact absurd w (by
            rw [Int32.le_iff_toInt_le, nI_toInt (by omega)]
            have : (-1 : Int32).toInt = -1 := by decide
            omega)
        · exact hs
      · exact nI_pos (by omega)
    exact od_pos hF o hN L _ (fun q hq => hp q (List.mem_cons_of_mem _ hq)) (Or.inr this) (Or.inr this)
/-- the class's reckoner while it goes through the rows -/
def CI (hC h : aH) (N : Nat) (F : Nat → Nat) (s : Int32 × List Nat) : Prop := kC hC h ∧ h.1 352 7 = nI N ∧ (∀ i, i < N → h.1 356 i = nI (F i)) ∧ h.1 352 8 = s.1 ∧ (s.1 < 0 ∨ ∀ i, i < N → h.1 370 i = nI (F (s.2.getD i 0)))
theorem c_setRow {R : Int32 → aH → Prop} {c : Nat} (hN : N < 5) (hc : c < 256) (e7 : h.1 352 7 = nI N) (e6 : ∀ i, i < N → h.1 356 i = nI (F i)) (H1 : okB N c N = true → ∀ h', (∀ a k, a ≠ 357 → h'.1 a k = h.1 a k) → h'.2 = h.2 → (∀ i, i < N → h'.1 357 i = nI (F (dg N i c))) → R 1 h') (H0 : okB N c N = false → ∀ h', (∀ a k, a ≠ 357 → h'.1 a k = h.1 a k) → h'.2 = h.2 → R 0 h') : AW GC l ad d mX4_setRow 0 [(0, .ref (ad 352)), (1, .int (nI c))] [] h (qi R) := by
  refine bX4_setRow_0 _ _ ?_
  refine up_ind (P := fun i => ∀ h', (∀ a k, a ≠ 357 → h'.1 a k = h.1 a k) → h'.2 = h.2 → okB N c i = true → (∀ j, j < i → h'.1 357 j = nI (F (dg N j c))) → AW GC l ad d mX4_setRow 4 [(0, .ref (ad 352)), (1, .int (nI c)), (2, .int (nI (ud N c i))), (3, .int (nI i))] [] h' (qi R)) N (fun h' k1 k2 ok k3 => ?_) (fun i hi ih h' k1 k2 ok k3 => ?_) h (fun _ _ _ => rfl) rfl rfl (fun j hj => absurd hj (Nat.not_lt_zero _))
  · refine bX4_setRow_4 _ _ _ _ ?_
    rw [k1 352 7 (by decide), e7]
    exact ⟨fun _ => H1 ok h' k1 k2 k3, fun z => absurd (Int32.le_refl _) z⟩
  · have d4 := dg_lt (n := N) (i := i) (c := c)
    have es : okB N c (i + 1) = (okB N c i && (decide (dg N i c < N) && !(ud N c i).testBit (dg N i c))) := rfl
    have F0 : okB N c (i + 1) = false → okB N c N = false := fun w => by
      have := okB_f w (N - (i + 1))
      rw [show i + 1 + (N - (i + 1)) = N by omega] at this
      exact this
    refine bX4_setRow_4 _ _ _ _ ?_
    rw [k1 352 7 (by decide), e7, dg_ok hN hi hc, nI_1]
    refine ⟨fun z => absurd z (nI_ge hi (by omega)), fun _ => ⟨fun z => absurd z (nI_ge (b := 4) (by omega) (by decide)), fun _ t1 e1 => ?_⟩⟩
    rw [e1, bt_shr0 _ (by omega), bt_nI _ _ (by omega), nI_clamp (by omega), nI_clamp (by omega)]
    refine ⟨fun z => H0 (F0 ?_) h' k1 k2, fun z => ?_⟩
    · have := (nI_leI (by omega) (by omega)).mp z
      rw [es, decide_eq_false (by omega), Bool.false_and, Bool.and_false]
    · have hd : dg N i c < N := Nat.lt_of_not_le (fun w => z (nI_le w (by omega)))
      refine ⟨fun z2 => ⟨vp_in_nI d4 (by decide), vp_in_nI (by omega) (by decide), ?_⟩, fun z2 => H0 (F0 ?_) h' k1 k2⟩
      · rw [n_one _ (by omega), n_or, k1 356 _ (by decide), e6 _ hd]
        refine ih _ (fun a k ha => (sI_c ha).trans (k1 a k ha)) k2 ?_ (fun j hj => ?_)
        · rw [es, ok, decide_eq_true hd, z2]; rfl
        · by_cases w : j = i
          · subst w; exact sI_s
          · rw [sI_k w]; exact k3 j (by omega)
      · have z2 : (ud N c i).testBit (dg N i c) = true := by cases w : (ud N c i).testBit (dg N i c); exact absurd w z2; rfl
        rw [es, z2, Bool.not_true, Bool.and_false, Bool.and_false]
theorem c_tryRow {R : aH → Prop} {pm : List Nat} {s : Int32 × List Nat} (hN : N ≤ 4) (I : Inv m t D (wq hC 66)) (hF : ∀ i, i < N → F i < D) (hp : ∀ q, q < N → pm.getD q 0 < N) (c : CI hC h N F s) (e5 : ∀ i, i < N → h.1 357 i = nI (F (pm.getD i 0))) (H : ∀ h', CI hC h' N F (odU F (nz (wq hC 66)) N s pm) → R h') : AW GC l ad (d + 2) mX4_tryRow 0 [(0, .ref (ad 352)), (1, .ref (ad 66))] [] h (qv R) := by
  obtain ⟨kc, c7, c6, c8, c0⟩ := c
  have hD := I.1.2.2.1
  have hm := I.1.1
  have wf : WFw m t D (nz (wq hC 66)) := (inv_cp I).1
  refine bX4_tryRow_0 66 isW_66 _ (sp_copyFrom isW_358 isW_66 (Or.inl (by decide)) (cE isW_358 nz_E ?_))
  rw [kC_66 kc]
  have hv : ∀ ω, kC hC (pW h 358 ω) := fun ω => kC_tr kc ⟨fun c k hc => pW_off (by omega), fun _ _ _ => rfl⟩
  refine up_ind (P := fun j => AW GC l ad (d + 2) mX4_tryRow 12 [(0, .ref (ad 352)), (2, .int (pyI F (nz (wq hC 66)) pm j).2), (3, .int (nI j))] [] (pW h 358 (pyI F (nz (wq hC 66)) pm j).1) (qv R)) N ?_ (fun j hj ih => ?_)
  · refine bX4_tryRow_12 66 isW_66 _ _ _ ?_
    rw [pW_off (by omega), c7]
    refine ⟨fun _ => bX4_tryRow_90 66 isW_66 _ _ ?_, fun z => absurd (Int32.le_refl _) z⟩
    rw [pW_off (by omega), c8]
    refine ⟨fun z => H _ ?_, fun z => H _ ?_⟩
    · unfold odU
      rw [if_pos z]
      exact ⟨hv _, by rw [pW_off (by omega)]; exact c7, fun i hi => by rw [pW_off (by omega)]; exact c6 i hi, by rw [pW_off (by omega)]; exact c8, c0.imp id (fun w i hi => by rw [pW_off (by omega)]; exact w i hi)⟩
    · unfold odU
      rw [if_neg z]
      have o : ∀ c k, c ≠ 370 → (c = 352 → k ≠ 8) → (cpI (sI (pW h 358 (pyI F (nz (wq hC 66)) pm N).1) 352 8 (pyI F (nz (wq hC 66)) pm N).2) 357 370 0 0 4).1 c k = (pW h 358 (pyI F (nz (wq hC 66)) pm N).1).1 c k := by
        intro c k h1 h2
        show (if c = 370 then _ else (sI (pW h 358 (pyI F (nz (wq hC 66)) pm N).1) 352 8 (pyI F (nz (wq hC 66)) pm N).2).1 c k) = _
        rw [if_neg h1]
        by_cases w : c = 352
        · exact sI_k (h2 w)
        · exact sI_c w
      refine ⟨kC_tr (hv _) ⟨fun c k hc => o c k (by omega) (by omega), fun _ _ _ => rfl⟩, ?_, fun i hi => ?_, ?_, Or.inr (fun i hi => ?_)⟩
      · rw [o _ _ (by decide) (by decide), pW_off (by omega)]; exact c7
      · rw [o _ _ (by decide) (by omega), pW_off (by omega)]; exact c6 i hi
      · rfl
      · rw [cpI_at (by omega), sI_c (by decide), pW_off (by omega)]
        exact e5 i hi
  · have wj := py_wf (F := F) wf (pm := pm) j
    rw [py_st] at ih
    generalize pyI F (nz (wq hC 66)) pm j = st at ih wj ⊢
    have hx := hF _ (hp j hj)
    obtain ⟨⟨a, ha, ea⟩, ⟨q, hq, eq⟩, -⟩ := wj.2.2.2.2.2 _ hx
    unfold pyS at ih
    rw [ea, eq, ix_nI (by omega), ix_nI (by omega)] at ih
    have e9 : (pW h 358 st.1).1 367 (nI (F (pm.getD j 0))).toNatClampNeg = st.1 9 (F (pm.getD j 0)) := by
      rw [nI_clamp (by omega)]
      exact pW_get (w := 358) (j := 9) (by decide)
    refine bX4_tryRow_12 66 isW_66 _ _ _ ?_
    rw [pW_off (by omega), c7, nI_clamp (by omega), pW_off (c := 357) (by omega), e5 j hj, pW_get0, wj.2.2.2.1, nI_1]
    refine ⟨fun z => absurd z (nI_ge hj (by omega)), fun _ => ⟨fun z => absurd z (nI_ge (b := 4) (by omega) (by decide)), fun _ => ⟨vp_in_nI (by omega) (by decide), fun z => absurd z (nI_pos (by omega)), fun _ => ⟨fun z => absurd z (nI_ge hx (by omega)), fun _ => sp_isInPurse isW_358 (by omega) (p := q) (by omega) eq ?_⟩⟩⟩⟩
    rw [e9]
    by_cases z : st.1 1 q < st.1 9 (F (pm.getD j 0))
    · rw [if_pos z] at ih ⊢
      exact ⟨fun _ => ih, fun w => absurd rfl w⟩
    · rw [if_neg z] at ih ⊢
      refine ⟨fun w => absurd w (by decide), fun _ => ⟨vp_in_nI (by omega) (by decide), fun t5 e5 => sp_settle isW_358 (by omega) (by omega) (by omega) ea eq ?_⟩⟩
      rw [e5]
      exact ih
theorem c_find {R : aH → Prop} (g : GQ hC hM sy m t n D0 D) (H : ∀ h', CI hC h' (opS (wq hC 66) D).1 (opS (wq hC 66) D).2 ((cdL (opS (wq hC 66) D).1 (4 ^ (opS (wq hC 66) D).1)).foldl (odU (opS (wq hC 66) D).2 (nz (wq hC 66)) (opS (wq hC 66) D).1) (-1, [])) → R h') : AW GC l ad (d + 3) mX4_findOrder 0 [(0, .ref (ad 352)), (1, .ref (ad 66))] [] hC (qv R) := by
  obtain ⟨e1, e2, e3, e4, e5, e6, hm, ht, hD⟩ := g_S g
  obtain ⟨I, r, N⟩ := g.2.1
  have eD := (g_D g).1
  have e74 : ∀ k, hC.1 (66 + 8) k = wq hC 66 8 k := fun k => (wq_at (by decide)).symm
  have L66 : ∀ h', kC hC h' → h'.1 352 7 = nI (opS (wq hC 66) D).1 → (∀ i, i < (opS (wq hC 66) D).1 → h'.1 356 i = nI ((opS (wq hC 66) D).2 i)) → AW GC l ad (d + 3) mX4_findOrder 66 [(0, .ref (ad 352)), (1, .ref (ad 66)), (2, .int (0 : Int32))] [] (sI h' 352 8 (-1)) (qv R) := by
    intro h' kc k7 k6
    obtain ⟨o1, o2, o3⟩ := op_ok (wq hC 66) D
    generalize opS (wq hC 66) D = q at H k7 k6 o1 o2 o3
    obtain ⟨p1, p2⟩ := pw4 q.1 (by omega)
    refine up_ind (P := fun c => ∀ h', CI hC h' q.1 q.2 ((cdL q.1 c).foldl (odU q.2 (nz (wq hC 66)) q.1) (-1, [])) → AW GC l ad (d + 3) mX4_findOrder 66 [(0, .ref (ad 352)), (1, .ref (ad 66)), (2, .int (nI c))] [] h' (qv R)) (4 ^ q.1) (fun h' ci => ?_) (fun c hc ih h' ci => ?_) _ ⟨kC_tr kc ⟨fun c k hc => sI_c (by omega), fun _ _ _ => rfl⟩, (sI_k (by decide)).trans k7, fun i hi => (sI_c (by decide)).trans (k6 i hi), sI_s, Or.inl (show (-1 : Int32) < 0 by decide)⟩
    · refine bX4_findOrder_66 66 isW_66 _ _ ?_
      rw [ci.2.1, p1]
      exact ⟨fun _ => H _ ci, fun z => absurd (Int32.le_refl _) z⟩
    · have es : cdL q.1 (c + 1) = if okB q.1 c q.1 then cdL q.1 c ++ [odD q.1 c] else cdL q.1 c := rfl
      refine bX4_findOrder_66 66 isW_66 _ _ ?_
      rw [ci.2.1, p1, nI_1]
      have ext : ∀ h'', (∀ a k, a ≠ 357 → h''.1 a k = h'.1 a k) → h''.2 = h'.2 → CI hC h'' q.1 q.2 ((cdL q.1 c).foldl (odU q.2 (nz (wq hC 66)) q.1) (-1, [])) := by
        intro h'' k1 k2
        obtain ⟨i1, i2, i3, i4, i5⟩ := ci
        exact ⟨kC_tr i1 ⟨fun c k hc => k1 c k (by omega), fun _ _ _ => by rw [k2]⟩, (k1 _ _ (by decide)).trans i2, fun i hi => (k1 _ _ (by decide)).trans (i3 i hi), (k1 _ _ (by decide)).trans i4, i5.imp id (fun w i hi => (k1 _ _ (by decide)).trans (w i hi))⟩
      refine ⟨fun z => absurd z (nI_ge hc (by omega)), fun _ => c_setRow (F := q.2) (by omega) (by omega) ci.2.1 ci.2.2.1 (fun ok h'' k1 k2 k3 => ⟨fun w => absurd w (by decide), fun _ => ?_⟩) (fun ok h'' k1 k2 => ⟨fun _ => ?_, fun w => absurd rfl w⟩)⟩
      · rw [es, if_pos ok, List.foldl_append] at ih
        have dl : ∀ j, j < q.1 → dg q.1 j c < q.1 := by
          intro j hj
          refine Nat.lt_of_not_le (fun w => ?_)
          have b : okB q.1 c (j + 1) = false := by
            show (okB q.1 c j && (decide (dg q.1 j c < q.1) && _)) = false
            rw [decide_eq_false (by omega), Bool.false_and, Bool.and_false]
          have := okB_f b (q.1 - (j + 1))
          rw [show j + 1 + (q.1 - (j + 1)) = q.1 by omega, ok] at this
          cases this
        exact c_tryRow (pm := odD q.1 c) o1 I (fun i hi => (o2 i hi).1) (fun j hj => by rw [odD_at hj]; exact dl j hj) (ext h'' k1 k2) (fun i hi => by rw [odD_at hi]; exact k3 i hi) (fun h3 c3 => ih h3 c3)
      · have : ¬ okB q.1 c q.1 = true := by rw [ok]; decide
        rw [es, if_neg this] at ih
        exact ih _ (ext h'' k1 k2)
  refine bX4_findOrder_0 66 isW_66 _ ?_
  refine up_ind (P := fun k => ∀ h', kC hC h' → h'.1 352 7 = nI (opS (wq hC 66) k).1 → (∀ i, i < (opS (wq hC 66) k).1 → h'.1 356 i = nI ((opS (wq hC 66) k).2 i)) → AW GC l ad (d + 3) mX4_findOrder 7 [(0, .ref (ad 352)), (1, .ref (ad 66)), (2, .int (nI k))] [] h' (qv R)) D (fun h' kc k7 k6 => ?_) (fun k hk ih h' kc k7 k6 => ?_) _ ⟨fun c k hc => sI_c (by omega), fun _ _ _ => rfl⟩ sI_s (fun i hi => absurd hi (Nat.not_lt_zero _))
  · refine bX4_findOrder_7 66 isW_66 _ _ ?_
    rw [kc.1 66 11 (by omega), eD]
    exact ⟨fun _ => L66 h' kc k7 k6, fun z => absurd (Int32.le_refl _) z⟩
  · have o := op_ok (wq hC 66) k
    refine bX4_findOrder_7 66 isW_66 _ _ ?_
    rw [kc.1 66 11 (by omega), eD, k7, nI_clamp (by omega), nI_clamp (by omega), kc.1 (66 + 8) k (by omega), e74, nI_1 k]
    refine ⟨fun z => absurd z (nI_ge hk (by omega)), fun _ => ⟨fun z => ?_, fun z => ?_⟩⟩
    · have h4 : ¬ (opS (wq hC 66) k).1 < 4 := fun w => by
        have := (nI_leI (a := 4) (by decide) (by omega)).mp z
        omega
      have st := op_stop h4 (D - k)
      rw [show k + (D - k) = D by omega] at st
      exact L66 h' kc (by rw [st]; exact k7) (by rw [st]; exact k6)
    · have h4 : (opS (wq hC 66) k).1 < 4 := Nat.lt_of_not_le (fun w => z (nI_le (a := 4) w (by omega)))
      rw [op_st, if_pos h4] at ih
      refine ⟨vp_in_nI (by omega) (by decide), fun z8 => ?_, fun z8 => ⟨vp_in_nI h4 (by decide), fun h3 e3 => ?_⟩⟩
      · rw [if_neg z8] at ih; exact ih h' kc k7 k6
      · rw [if_pos z8] at ih
        rw [sI_c (by decide), k7, nI_1] at e3
        rw [e3]
        refine ih _ (kC_tr kc ⟨fun c k hc => by rw [sI_c (by omega), sI_c (by omega)], fun _ _ _ => rfl⟩) sI_s (fun i hi => ?_)
        rw [sI_c (by decide)]
        show (sI h' 356 (opS (wq hC 66) k).1 (nI k)).1 356 i = nI (updN (opS (wq hC 66) k).2 (opS (wq hC 66) k).1 k i)
        by_cases w : i = (opS (wq hC 66) k).1
        · rw [w, sI_s, updN_s]
        · rw [sI_k w, updN_o w]; exact k6 i (by have hi : i < (opS (wq hC 66) k).1 + 1 := hi; omega)
/-- the reference's rows -/
def MI (hM h : aH) (N : Nat) (F : Nat → Nat) (pre : List Nat) (s : Int32 × List Nat) : Prop := kM hM h ∧ h.1 0 60 = nI N ∧ (∀ i, i < N → h.1 38 i = nI (F i)) ∧ (∀ j, j < pre.length → h.1 39 j = nI (F (pre.getD j 0))) ∧ h.1 0 61 = s.1 ∧ (s.1 < 0 ∨ ∀ i, i < N → h.1 40 i = nI (F (s.2.getD i 0)))
def DS (N : Nat) (pre : List Nat) (used : Nat) : Prop := (∀ j j', j < j' → j' < pre.length → pre.getD j 0 ≠ pre.getD j' 0) ∧ (∀ j, j < pre.length → pre.getD j 0 < N) ∧ ∀ j, j < pre.length → used.testBit (pre.getD j 0) = true
theorem ds_app {pre : List Nat} {used i : Nat} (D : DS N pre used) (hi : i < N) (hu : used.testBit i = false) : DS N (pre ++ [i]) (used ||| 2 ^ i) := by
  obtain ⟨d1, d2, d3⟩ := D
  have L : (pre ++ [i]).length = pre.length + 1 := by simp
  refine ⟨fun j j' h1 h2 => ?_, fun j hj => ?_, fun j hj => ?_⟩
  · rw [L] at h2
    by_cases w : j' = pre.length
    · rw [w, app_r, app_l (by omega)]
      intro e
      have := d3 j (by omega)
      rw [e, hu] at this
      cases this
    · rw [app_l (by omega), app_l (by omega)]; exact d1 j j' h1 (by omega)
  · rw [L] at hj
    by_cases w : j = pre.length
    · rw [w, app_r]; exact hi
    · rw [app_l (by omega)]; exact d2 j (by omega)
  · rw [L] at hj
    rw [Nat.testBit_or, Nat.testBit_two_pow]
    by_cases w : j = pre.length
    · rw [w, app_r, decide_eq_true rfl, Bool.or_true]
    · rw [app_l (by omega), d3 j (by omega), Bool.true_or]
theorem m_leaf {R : aH → Prop} {pre : List Nat} {used : Nat} {s : Int32 × List Nat} (hN : N ≤ 4) (I : Inv m t D (wq hC 66)) (r : RelW m t D (wq hC 66) (bkT hM 0)) (hF : ∀ i, i < N → F i < D ∧ wq hC 66 8 (F i) = 1) (hF2 : ∀ i j, i < j → j < N → F i ≠ F j) (hl : pre.length = N) (ds : DS N pre used) (c : MI hM h N F pre s) (H : ∀ h', MI hM h' N F pre (odU F (nz (wq hC 66)) N s pre) → R h') : AW (GM adK adV) l ad (d + 2) mX10_rows 0 [(0, .ref (ad 0)), (1, .int (nI N)), (2, .int (nI used))] [] h (qv R) := by
  obtain ⟨km, c60, c38, c39, c61, c40⟩ := c
  obtain ⟨d1, d2, d3⟩ := ds
  have hD := I.1.2.2.1
  have hm := I.1.1
  have wf : WFw m t D (nz (wq hC 66)) := (inv_cp I).1
  have r0 : RelW m t D (nz (wq hC 66)) (bkT h 0) := by rw [kM_bk km (by decide)]; exact rel_cp I r
  have o8 : ∀ x, x < D → nz (wq hC 66) 8 x = wq hC 66 8 x := fun x hx => cpW_at (Or.inr (Or.inr (Or.inl ⟨by decide, by decide, by omega⟩)))
  have kp : ∀ β, kM hM (pB h 1 β) := fun β => kM_tr km (fun c k _ _ h3 => pB_off h3)
  have Fne : ∀ i j, i < N → j < N → i ≠ j → F i ≠ F j := fun i j hi hj hij => by
    rcases Nat.lt_or_gt_of_ne hij with w | w
    · exact hF2 i j w hj
    · exact Ne.symm (hF2 j i w hi)
  refine bX10_rows_0 _ _ _ ?_
  rw [c60]
  refine ⟨fun _ => m_copies (x := 1) (y := 0) (by decide) (by decide) (by decide) ?_, fun z => absurd (Int32.le_refl _) z⟩
  refine up_ind (P := fun j => ∀ β, RelW m t D (pyI F (nz (wq hC 66)) pre j).1 β → AW (GM adK adV) l ad (d + 2) mX10_rows 72 [(0, .ref (ad 0)), (3, .int (pyI F (nz (wq hC 66)) pre j).2), (4, .int (nI j))] [] (pB h 1 β) (qv R)) N (fun β rj => ?_) (fun j hj ih β rj => ?_) _ r0
  · refine bX10_rows_72 _ _ _ ?_
    rw [pB_off (a_off (by omega)), pB_off (a_off (by omega)), c60, c61]
    refine ⟨fun _ => ⟨fun z => ?_, fun z => H _ ?_⟩, fun z => absurd (Int32.le_refl _) z⟩
    · unfold odU at H
      rw [if_neg (Int32.not_le.mpr z)] at H
      refine up_ind (P := fun i => ∀ h', kM hM h' → h'.1 0 60 = nI N → (∀ k, h'.1 38 k = h.1 38 k) → (∀ k, h'.1 39 k = h.1 39 k) → h'.1 0 61 = (pyI F (nz (wq hC 66)) pre N).2 → (∀ k, k < i → h'.1 40 k = nI (F (pre.getD k 0))) → AW (GM adK adV) l ad (d + 2) mX10_rows 134 [(0, .ref (ad 0)), (4, .int (nI i))] [] h' (qv R)) N (fun h' k1 k2 k3 k4 k5 k6 => ?_) (fun i hi ih h' k1 k2 k3 k4 k5 k6 => ?_) _ (kM_tr (kp β) (kM_s0 (by omega))) ((sI_k (by decide)).trans (by rw [pB_off (a_off (by omega))]; exact c60)) (fun k => (sI_c (by decide)).trans (pB_off (a_off (by omega)))) (fun k => (sI_c (by decide)).trans (pB_off (a_off (by omega)))) sI_s (fun k hk => absurd hk (Nat.not_lt_zero _))
      · refine bX10_rows_134 _ _ ?_
        rw [k2]
        exact ⟨fun _ => H h' ⟨k1, k2, fun i hi => (k3 i).trans (c38 i hi), fun j hj => (k4 j).trans (c39 j hj), k5, Or.inr k6⟩, fun z => absurd (Int32.le_refl _) z⟩
      · refine bX10_rows_134 _ _ ?_
        rw [k2, nI_clamp (by omega), k4, c39 i (by omega), nI_1]
        refine ⟨fun z => absurd z (nI_ge hi (by omega)), fun _ => ⟨vp_in_nI (by omega) (by decide), ih _ (kM_tr k1 (fun c k _ h2 _ => sI_c (by omega))) ((sI_c (by decide)).trans k2) (fun k => (sI_c (by decide)).trans (k3 k)) (fun k => (sI_c (by decide)).trans (k4 k)) ((sI_c (by decide)).trans k5) (fun k hk => ?_)⟩⟩
        by_cases w : k = i
        · subst w; exact sI_s
        · rw [sI_k w]; exact k6 k (by omega)
    · unfold odU
      rw [if_pos (Int32.not_lt.mp z)]
      exact ⟨kp β, by rw [pB_off (a_off (by omega))]; exact c60, fun i hi => by rw [pB_off (a_off (by omega))]; exact c38 i hi, fun j hj => by rw [pB_off (a_off (by omega))]; exact c39 j hj, by rw [pB_off (a_off (by omega))]; exact c61, c40.imp id (fun w i hi => by rw [pB_off (a_off (by omega))]; exact w i hi)⟩
  · have wj := py_wf (F := F) wf (pm := pre) j
    have hpj := d2 j (by omega)
    have hx := (hF _ hpj).1
    have op : (pyI F (nz (wq hC 66)) pre j).1 8 (F (pre.getD j 0)) = 1 := by
      rw [py_8 j (fun q hq => Fne _ _ (d2 q (by omega)) hpj (d1 q j hq (by omega))), o8 _ hx]
      exact (hF _ hpj).2
    rw [py_st] at ih
    generalize pyI F (nz (wq hC 66)) pre j = st at ih wj op rj ⊢
    unfold pyS at ih
    refine bX10_rows_72 _ _ _ ?_
    rw [pB_off (a_off (by omega)), c60, nI_clamp (by omega), pB_off (c := 39) (a_off (by omega)), c39 j (by omega), nI_1]
    refine ⟨fun z => absurd z (nI_ge hj (by omega)), fun _ => ⟨vp_in_nI (by omega) (by decide), m_hasIt (b := 1) (by decide) wj rj hx ?_⟩⟩
    have hb : hasB st.1 (F (pre.getD j 0)) = decide (¬ st.1 1 (ix (st.1 4 (F (pre.getD j 0)))) < st.1 9 (F (pre.getD j 0))) := by
      unfold hasB
      rw [decide_eq_true op, Bool.true_and]
    rw [hb, pB_off (c := 39) (a_off (by omega)), c39 j (by omega)]
    by_cases z : st.1 1 (ix (st.1 4 (F (pre.getD j 0)))) < st.1 9 (F (pre.getD j 0))
    · rw [if_pos z] at ih
      rw [decide_eq_false (fun w => w z)]
      exact ⟨fun _ => ih β rj, fun w => absurd rfl w⟩
    · rw [if_neg z] at ih
      rw [decide_eq_true z]
      exact ⟨fun w => absurd w (by decide), fun _ => m_pays (b := 1) (by decide) wj rj hx (fun β' r' => ih β' r')⟩
theorem m_rows {R : aH → Prop} (hN : N ≤ 4) (I : Inv m t D (wq hC 66)) (r : RelW m t D (wq hC 66) (bkT hM 0)) (hF : ∀ i, i < N → F i < D ∧ wq hC 66 8 (F i) = 1) (hF2 : ∀ i j, i < j → j < N → F i ≠ F j) : ∀ q pre used h s (R : aH → Prop), pre.length + q = N → DS N pre used → MI hM h N F pre s → (∀ h', MI hM h' N F pre ((dfL N q pre used).foldl (odU F (nz (wq hC 66)) N) s) → R h') → AW (GM adK adV) l ad (d + 2 + q) mX10_rows 0 [(0, .ref (ad 0)), (1, .int (nI pre.length)), (2, .int (nI used))] [] h (qv R)
  | 0, pre, used, h, s, R, hl, ds, c, H => by
    have hl : pre.length = N := hl
    rw [hl]
    exact m_leaf hN I r hF hF2 hl ds c H
  | q + 1, pre, used, h, s, R, hl, ds, c, H => by
    have ihq := m_rows (R := R) hN I r hF hF2 q
    refine bX10_rows_0 _ _ _ ?_
    rw [c.2.1]
    refine ⟨fun z => absurd z (nI_ge (by omega) (by omega)), fun _ => ?_⟩
    refine up_ind (P := fun i => ∀ h', MI hM h' N F pre ((itR (fun i L => L ++ (if used.testBit i then [] else dfL N q (pre ++ [i]) (used ||| 2 ^ i))) i []).foldl (odU F (nz (wq hC 66)) N) s) → AW (GM adK adV) l ad (d + 2 + q + 1) mX10_rows 10 [(0, .ref (ad 0)), (1, .int (nI pre.length)), (2, .int (nI used)), (3, .int (nI i))] [] h' (qv R)) N (fun h' c' => ?_) (fun i hi ih h' c' => ?_) h c
    · refine bX10_rows_10 _ _ _ _ ?_
      rw [c'.2.1]
      exact ⟨fun _ => H h' c', fun z => absurd (Int32.le_refl _) z⟩
    · have es : itR (fun i L => L ++ (if used.testBit i then [] else dfL N q (pre ++ [i]) (used ||| 2 ^ i))) (i + 1) [] = itR (fun i L => L ++ (if used.testBit i then [] else dfL N q (pre ++ [i]) (used ||| 2 ^ i))) i [] ++ (if used.testBit i then [] else dfL N q (pre ++ [i]) (used ||| 2 ^ i)) := rfl
      rw [es, List.foldl_append] at ih
      generalize (itR (fun i L => L ++ (if used.testBit i then [] else dfL N q (pre ++ [i]) (used ||| 2 ^ i))) i []).foldl (odU F (nz (wq hC 66)) N) s = s' at ih c'
      refine bX10_rows_10 _ _ _ _ ?_
      rw [c'.2.1, bt_shr _ (by omega), bt_nI _ _ (by omega), nI_clamp (by omega), nI_clamp (by omega), c'.2.2.1 i hi, n_one i (by omega), n_or, nI_1 i, nI_1 pre.length]
      cases hu : used.testBit i
      · rw [hu] at ih
        refine ⟨fun z => absurd z (nI_ge hi (by omega)), fun _ => ⟨fun _ => ⟨vp_in_nI (by omega) (by decide), vp_in_nI (by omega) (by decide), ?_⟩, fun z => absurd z (by decide)⟩⟩
        have L : (pre ++ [i]).length = pre.length + 1 := by simp
        rw [← L]
        obtain ⟨km, c60, c38, c39, c61, c40⟩ := c'
        refine ihq (pre ++ [i]) (used ||| 2 ^ i) _ s' _ (by omega) (ds_app ds hi hu) ⟨kM_tr km (fun c k _ h2 _ => sI_c (by omega)), (sI_c (by decide)).trans c60, fun k hk => (sI_c (by decide)).trans (c38 k hk), fun j hj => ?_, (sI_c (by decide)).trans c61, c40.imp id (fun w k hk => (sI_c (by decide)).trans (w k hk))⟩ (fun h3 c3 => ih h3 ?_)
        · by_cases w : j = pre.length
          · rw [w, sI_s, app_r]
          · rw [sI_k w, app_l (by omega)]; exact c39 j (by omega)
        · obtain ⟨b1, b2, b3, b4, b5, b6⟩ := c3
          exact ⟨b1, b2, b3, fun j hj => by rw [b4 j (by omega), app_l hj], b5, b6⟩
      · rw [hu] at ih
        exact ⟨fun z => absurd z (nI_ge hi (by omega)), fun _ => ⟨fun z => absurd rfl z, fun _ => ih h' c'⟩⟩
theorem m_order {R : Int32 → aH → Prop} {x1 : Int32} (g : GQ hC hM sy m t n D0 D) (H : ∀ h', MI hM h' (opS (wq hC 66) D).1 (opS (wq hC 66) D).2 [] ((dfL (opS (wq hC 66) D).1 (opS (wq hC 66) D).1 [] 0).foldl (odU (opS (wq hC 66) D).2 (nz (wq hC 66)) (opS (wq hC 66) D).1) (-1, [])) → (¬ x1 = (4 : Int32) → (((h'.1 0 60) ≤ x1 → (R (-2 : Int32) h')) ∧ (¬ (h'.1 0 60) ≤ x1 → (vp_in x1 4 ∧ (R (h'.1 40 x1.toNatClampNeg) h'))))) ∧ (x1 = (4 : Int32) → (R (h'.1 0 61) h'))) : AW (GM adK adV) l ad (d + 7) mX10_order 23 [(0, .ref (ad 0)), (1, .int x1), (2, .int (0 : Int32))] [] (sI hM 0 60 0) (qi R) := by
  obtain ⟨e1, e2, e3, e4, e5, e6, hm, ht, hD⟩ := g_S g
  obtain ⟨I, r, N⟩ := g.2.1
  have eD : ∀ hM', kM hM hM' → hM'.1 25 0 = nI D := fun hM' km => by
    have h1 := r.1
    rw [← kM_bk km (b := 0) (by decide)] at h1
    exact h1
  have L79 : ∀ h', kM hM h' → h'.1 0 60 = nI (opS (wq hC 66) D).1 → (∀ i, i < (opS (wq hC 66) D).1 → h'.1 38 i = nI ((opS (wq hC 66) D).2 i)) → AW (GM adK adV) l ad (d + 7) mX10_order 79 [(0, .ref (ad 0)), (1, .int x1)] [] h' (qi R) := by
    intro h' km k60 k38
    obtain ⟨o1, o2, o3⟩ := op_ok (wq hC 66) D
    generalize opS (wq hC 66) D = q at H k60 k38 o1 o2 o3
    have K := m_rows (adK := adK) (adV := adV) (l := l) (ad := ad) (d := d + 4 - q.1) (R := fun _ => True) (hM := hM) o1 I r o2 o3 q.1 [] 0 (sI h' 0 61 (-1)) (-1, []) (fun h1 => (¬ x1 = (4 : Int32) → (((h1.1 0 60) ≤ x1 → (R (-2 : Int32) h1)) ∧ (¬ (h1.1 0 60) ≤ x1 → (vp_in x1 4 ∧ (R (h1.1 40 x1.toNatClampNeg) h1))))) ∧ (x1 = (4 : Int32) → (R (h1.1 0 61) h1))) (Nat.zero_add _) ⟨fun j j' _ h2 => absurd h2 (Nat.not_lt_zero _), fun j hj => absurd hj (Nat.not_lt_zero _), fun j hj => absurd hj (Nat.not_lt_zero _)⟩ ⟨kM_tr km (kM_s0 (by omega)), (sI_k (by decide)).trans k60, fun i hi => (sI_c (by decide)).trans (k38 i hi), fun j hj => absurd hj (Nat.not_lt_zero _), sI_s, Or.inl (by decide)⟩ (fun h3 c3 => H h3 c3)
    rw [show d + 4 - q.1 + 2 + q.1 = d + 6 by omega] at K
    exact bX10_order_79 _ _ K
  refine up_ind (P := fun k => ∀ h', kM hM h' → h'.1 0 60 = nI (opS (wq hC 66) k).1 → (∀ i, i < (opS (wq hC 66) k).1 → h'.1 38 i = nI ((opS (wq hC 66) k).2 i)) → AW (GM adK adV) l ad (d + 7) mX10_order 23 [(0, .ref (ad 0)), (1, .int x1), (2, .int (nI k))] [] h' (qi R)) D (fun h' km k60 k38 => ?_) (fun k hk ih h' km k60 k38 => ?_) _ (kM_s0 (by omega)) sI_s (fun i hi => absurd hi (Nat.not_lt_zero _))
  · refine bX10_order_23 _ _ _ ?_
    rw [eD _ km]
    exact ⟨fun _ => L79 h' km k60 k38, fun z => absurd (Int32.le_refl _) z⟩
  · have o := op_ok (wq hC 66) k
    refine bX10_order_23 _ _ _ ?_
    rw [eD _ km, k60, nI_1 k]
    refine ⟨fun z => absurd z (nI_ge hk (by omega)), fun _ => ⟨fun z => ?_, fun z => mH (b := 0) (m_isOpen (b := 0) (by decide) (by omega) ?_)⟩⟩
    · have h4 : ¬ (opS (wq hC 66) k).1 < 4 := fun w => by
        have := (nI_leI (a := 4) (by decide) (by omega)).mp z
        omega
      have st := op_stop h4 (D - k)
      rw [show k + (D - k) = D by omega] at st
      exact L79 h' km (by rw [st]; exact k60) (by rw [st]; exact k38)
    · have h4 : (opS (wq hC 66) k).1 < 4 := Nat.lt_of_not_le (fun w => z (nI_le (a := 4) w (by omega)))
      rw [op_st, if_pos h4] at ih
      rw [pB_bk, kM_bk km (by decide), row r hk 8 (by decide) (by decide), k60, nI_clamp (by omega)]
      by_cases z8 : wq hC 66 8 k = 1
      · rw [if_pos z8] at ih ⊢
        refine ⟨fun _ => ⟨vp_in_nI h4 (by decide), fun h3 e3 => ?_⟩, fun w => absurd w (by decide)⟩
        rw [sI_c (by decide), k60, nI_1] at e3
        rw [e3]
        refine ih _ (kM_tr km (kM_tr (fun c k _ h2 _ => sI_c (by omega)) (kM_s0 (by omega)))) sI_s (fun i hi => ?_)
        rw [sI_c (by decide)]
        show (sI h' 38 (opS (wq hC 66) k).1 (nI k)).1 38 i = nI (updN (opS (wq hC 66) k).2 (opS (wq hC 66) k).1 k i)
        by_cases w : i = (opS (wq hC 66) k).1
        · rw [w, sI_s, updN_s]
        · rw [sI_k w, updN_o w]; exact k38 i (by have hi : i < (opS (wq hC 66) k).1 + 1 := hi; omega)
      · rw [if_neg z8] at ih ⊢
        exact ⟨fun w => absurd rfl w, fun _ => ih h' km k60 k38⟩
theorem j_order {x1 : Int32} (g : GR hC hM) : AW GC l ad (d + 4) mX9_order 0 [(0, .ref (ad 0)), (1, .int x1)] [] hC (qi (jq l' ad' (d' + 7) adK adV mX10_order [(0, .ref (ad' 0)), (1, .int x1)] hM)) := by
  obtain ⟨sy, m, t, n, D0, D, g⟩ := g
  have g2 := g_thr g
  have G : GR hC (sI hM 0 0 0) := ⟨_, _, _, _, _, _, g2⟩
  obtain ⟨e1, e2, e3, e4, e5, e6, hm, ht, hD⟩ := g_S g2
  obtain ⟨I, r, N⟩ := g2.2.1
  refine bX9_order_0 _ _ ⟨fun z => bX10_order_0 _ _ ⟨fun _ => ⟨rfl, G⟩, fun q => absurd z q⟩, fun z => ⟨fun z2 => c_find g (fun hC' ci => ?_), fun z2 => bX10_order_0 _ _ ⟨fun q => absurd q z, fun _ => ⟨fun q => absurd q z2, fun _ => ⟨rfl, G⟩⟩⟩⟩⟩
  have M : ∀ v, (∀ h', MI (sI hM 0 0 0) h' (opS (wq hC 66) D).1 (opS (wq hC 66) D).2 [] ((dfL (opS (wq hC 66) D).1 (opS (wq hC 66) D).1 [] 0).foldl (odU (opS (wq hC 66) D).2 (nz (wq hC 66)) (opS (wq hC 66) D).1) (-1, [])) → (¬ x1 = (4 : Int32) → (((h'.1 0 60) ≤ x1 → v = -2) ∧ (¬ (h'.1 0 60) ≤ x1 → (vp_in x1 4 ∧ h'.1 40 x1.toNatClampNeg = v)))) ∧ (x1 = (4 : Int32) → h'.1 0 61 = v)) → jq l' ad' (d' + 7) adK adV mX10_order [(0, .ref (ad' 0)), (1, .int x1)] hM v hC' := by
    intro v K
    refine bX10_order_0 _ _ ⟨fun q => absurd q z, fun _ => ⟨fun _ => m_order g2 (fun h' mi => ?_), fun q => absurd z2 q⟩⟩
    have Gf : GR hC' h' := ⟨_, _, _, _, _, _, gq_frame ci.1 mi.1 g2⟩
    obtain ⟨k1, k2⟩ := K h' mi
    exact ⟨fun w => ⟨fun w2 => ⟨((k1 w).1 w2).symm, Gf⟩, fun w2 => ⟨((k1 w).2 w2).1, ((k1 w).2 w2).2, Gf⟩⟩, fun w => ⟨k2 w, Gf⟩⟩
  obtain ⟨o1, o2, o3⟩ := op_ok (wq hC 66) D
  have cdf := cd_df (opS (wq hC 66) D).1 (by omega)
  rw [cdf] at M
  obtain ⟨k, hk, rfl⟩ := nI_of z
  have hk4 : k ≤ 4 := (nI_leI (a := k) (b := 4) hk (by decide)).mp z2
  have pos : ¬ ((cdL (opS (wq hC 66) D).1 (4 ^ (opS (wq hC 66) D).1)).foldl (odU (opS (wq hC 66) D).2 (nz (wq hC 66)) (opS (wq hC 66) D).1) (-1, [])).1 < 0 := by
    have o9 : ∀ i, i < D → O9 (nz (wq hC 66)) i := by
      have := invN_cp (ω := fun _ _ => 0) hD N
      exact fun i hi => (this i hi).2.2
    refine od_pos (D := D) (fun i hi => (o2 i hi).1) o9 o1 _ _ (fun pm hpm q hq => ?_) (Or.inl (cd_ne _ (by omega))) (Or.inl rfl)
    -- each row is of numbers below how many there are
    have key : ∀ c, ∀ pm ∈ cdL (opS (wq hC 66) D).1 c, ∀ q, q < (opS (wq hC 66) D).1 → pm.getD q 0 < (opS (wq hC 66) D).1 := by
      intro c
      induction c with
      | zero => intro pm hpm; cases hpm
      | succ c ih =>
        intro pm hpm q hq
        have es : cdL (opS (wq hC 66) D).1 (c + 1) = if okB (opS (wq hC 66) D).1 c (opS (wq hC 66) D).1 then cdL (opS (wq hC 66) D).1 c ++ [odD (opS (wq hC 66) D).1 c] else cdL (opS (wq hC 66) D).1 c := rfl
        rw [es] at hpm
        split at hpm
        · rename_i ok
          rcases List.mem_append.mp hpm with w | w
          · exact ih pm w q hq
          · rw [List.mem_singleton] at w
            rw [w, odD_at hq]
            refine Nat.lt_of_not_le (fun w => ?_)
            have b : okB (opS (wq hC 66) D).1 c (q + 1) = false := by
              show (okB (opS (wq hC 66) D).1 c q && (decide (dg (opS (wq hC 66) D).1 q c < (opS (wq hC 66) D).1) && _)) = false
              rw [decide_eq_false (by omega), Bool.false_and, Bool.and_false]
            have := okB_f b ((opS (wq hC 66) D).1 - (q + 1))
            rw [show q + 1 + ((opS (wq hC 66) D).1 - (q + 1)) = (opS (wq hC 66) D).1 by omega, ok] at this
            cases this
        · exact ih pm hpm q hq
    exact key _ pm hpm q hq
  obtain ⟨-, c7, c6, c8, c0⟩ := ci
  refine ⟨fun w4 => ?_, fun w4 => ?_⟩
  · rw [c7]
    refine ⟨fun w => M _ (fun h' mi => ⟨fun _ => ⟨fun _ => rfl, fun w2 => ?_⟩, fun w2 => absurd w2 w4⟩), fun w => ⟨vp_in_nI ?_ (by decide), M _ (fun h' mi => ⟨fun _ => ⟨fun w2 => ?_, fun w2 => ⟨vp_in_nI ?_ (by decide), ?_⟩⟩, fun w2 => absurd w2 w4⟩)⟩⟩
    · rw [mi.2.1] at w2; exact absurd w w2
    · have : ¬ (opS (wq hC 66) D).1 ≤ k := fun q => w (nI_le q hk)
      omega
    · rw [mi.2.1] at w2; exact absurd w2 w
    · have : ¬ (opS (wq hC 66) D).1 ≤ k := fun q => w (nI_le q hk)
      omega
    · have : ¬ (opS (wq hC 66) D).1 ≤ k := fun q => w (nI_le q hk)
      rw [nI_clamp hk, (mi.2.2.2.2.2.resolve_left pos) k (by omega), (c0.resolve_left pos) k (by omega)]
  · rw [c8]
    exact M _ (fun h' mi => ⟨fun w2 => absurd w4 w2, fun _ => mi.2.2.2.2.1⟩)
end OD
