/-! ===== calls: ring ===== -/
section RG
variable {adK adV : Nat → Nat} {l l' : Launch} {ad ad' : Nat → Nat} {d d' b : Nat} {hC hM hC' hM' h : aH} {sy m t n D0 D : Nat} {ω β σ : wT} {A : Nat → Int32}
/-- to whom one owes -/
def lnS (ω : wT) (x : Int32) (D : Nat) : Int32 := itR (fun i s => if ω 8 i = 1 then (if ω 4 i = x then s ||| ((1 : Int32) <<< (ω 3 i &&& 31)) else s) else s) D 0
theorem c_lenders {R : Int32 → aH → Prop} {x : Int32} (wf : WFw m t D (wq h 66)) (H : R (lnS (wq h 66) x D) h) : AW GC l ad d mX4_lendersOf 0 [(0, .int x), (1, .ref (ad 66))] [] h (qi R) := by
  have hD := wf.2.2.1
  have eD : h.1 66 11 = nI D := by have := wf.2.2.2.1; rw [wq_at (by decide)] at this; exact this
  have e8 : ∀ k, h.1 (66 + 8) k = wq h 66 8 k := fun k => (wq_at (by decide)).symm
  have e4 : ∀ k, h.1 (66 + 4) k = wq h 66 4 k := fun k => (wq_at (by decide)).symm
  have e3 : ∀ k, h.1 (66 + 3) k = wq h 66 3 k := fun k => (wq_at (by decide)).symm
  refine bX4_lendersOf_0 66 isW_66 _ _ (up_ind (P := fun i => AW GC l ad d mX4_lendersOf 4 [(0, .int x), (1, .ref (ad 66)), (2, .int (lnS (wq h 66) x i)), (3, .int (nI i))] [] h (qi R)) D ?_ (fun i hi ih => ?_))
  · refine bX4_lendersOf_4 66 isW_66 _ _ _ _ ?_
    rw [eD]
    exact ⟨fun _ => H, fun z => absurd (Int32.le_refl _) z⟩
  · have es : lnS (wq h 66) x (i + 1) = if wq h 66 8 i = 1 then (if wq h 66 4 i = x then lnS (wq h 66) x i ||| ((1 : Int32) <<< (wq h 66 3 i &&& 31)) else lnS (wq h 66) x i) else lnS (wq h 66) x i := rfl
    rw [es] at ih
    refine bX4_lendersOf_4 66 isW_66 _ _ _ _ ?_
    rw [eD, nI_clamp (by omega), e8, e4, e3, nI_1]
    refine ⟨fun z => absurd z (nI_ge hi (by omega)), fun _ => ⟨vp_in_nI (by omega) (by decide), fun z => ?_, fun z => ⟨fun z2 => ?_, fun z2 t2 e2 => ?_⟩⟩⟩
    · rw [if_neg z] at ih; exact ih
    · rw [if_pos z, if_neg z2] at ih; exact ih
    · rw [if_pos z, if_pos z2] at ih; rw [e2]; exact ih
theorem m_owes {R : Int32 → aH → Prop} {x : Int32} (hD : D ≤ 8) (r : RelW m t D ω (bkT h 0)) (H : R (lnS ω x D) h) : AW (GM adK adV) l ad (d + 1) mX10_owesTo 0 [(0, .ref (ad 0)), (1, .int x)] [] h (qi R) := by
  have eD : h.1 25 0 = nI D := r.1
  refine bX10_owesTo_0 _ _ (up_ind (P := fun i => AW (GM adK adV) l ad (d + 1) mX10_owesTo 4 [(0, .ref (ad 0)), (1, .int x), (2, .int (lnS ω x i)), (3, .int (nI i))] [] h (qi R)) D ?_ (fun i hi ih => ?_))
  · refine bX10_owesTo_4 _ _ _ _ ?_
    rw [eD]
    exact ⟨fun _ => H, fun z => absurd (Int32.le_refl _) z⟩
  · have es : lnS ω x (i + 1) = if ω 8 i = 1 then (if ω 4 i = x then lnS ω x i ||| ((1 : Int32) <<< (ω 3 i &&& 31)) else lnS ω x i) else lnS ω x i := rfl
    rw [es] at ih
    have K : ∀ y, lnS ω x (i + 1) = lnS ω x i ||| y → AW (GM adK adV) l ad (d + 1) mX10_owesTo 46 [(0, .ref (ad 0)), (1, .int x), (3, .int (nI i))] [.int y, .int (lnS ω x i)] h (qi R) := by
      intro y ey
      refine bX10_owesTo_46 _ _ _ _ _ ?_
      rw [nI_1, ← ey, es]
      exact ih
    refine bX10_owesTo_4 _ _ _ _ ?_
    rw [eD]
    refine ⟨fun z => absurd z (nI_ge hi (by omega)), fun _ => mH (b := 0) (m_isOpen (b := 0) (by decide) (by omega) ?_)⟩
    rw [pB_bk, row r hi 8 (by decide) (by decide)]
    by_cases z : ω 8 i = 1
    · rw [if_pos z, nI_clamp (by omega), rd r hi hD 4 (by decide) (by decide), rd r hi hD 3 (by decide) (by decide)]
      refine ⟨fun w => absurd w (by decide), fun _ => ⟨vp_in_nI (by omega) (by decide), fun z2 => K 0 ?_, fun z2 => K _ ?_⟩⟩
      · rw [es, if_pos z, if_neg z2, Int32.or_zero]
      · rw [es, if_pos z, if_pos z2]
    · rw [if_neg z]
      refine ⟨fun _ => K 0 ?_, fun w => absurd rfl w⟩
      rw [es, if_neg z, Int32.or_zero]
theorem ln_ok {x : Int32} (wf : WFw m t D ω) : ∀ k, k ≤ D → ∃ a, a < 2 ^ m ∧ lnS ω x k = nI a
  | 0, _ => ⟨0, Nat.two_pow_pos _, rfl⟩
  | k + 1, hk => by
    obtain ⟨a, h1, h2⟩ := ln_ok (x := x) wf k (by omega)
    obtain ⟨⟨q, hq, eq⟩, -⟩ := wf.2.2.2.2.2 k (by omega)
    have hm := wf.1
    show ∃ a, a < 2 ^ m ∧ (if ω 8 k = 1 then (if ω 4 k = x then lnS ω x k ||| ((1 : Int32) <<< (ω 3 k &&& 31)) else lnS ω x k) else lnS ω x k) = nI a
    rw [h2]
    split
    · split
      · exact ⟨a ||| 2 ^ q, Nat.or_lt_two_pow h1 (Nat.pow_lt_pow_right (by decide) hq), by rw [eq, n_one q (by omega), n_or]⟩
      · exact ⟨a, h1, rfl⟩
    · exact ⟨a, h1, rfl⟩
/-- from one to another one by way of the first k men -/
def wsR (A : Nat → Int32) : Nat → Nat → Int32
  | 0, x => A x
  | k + 1, x => if bt (wsR A k x) k then wsR A k x ||| wsR A k k else wsR A k x
theorem ws_bt {k x y : Nat} : bt (wsR A (k + 1) x) y = (bt (wsR A k x) y || (bt (wsR A k x) k && bt (wsR A k k) y)) := by
  show bt (if bt (wsR A k x) k then wsR A k x ||| wsR A k k else wsR A k x) y = _
  cases bt (wsR A k x) k
  · simp
  · simp [bt_or]
theorem ws_tr : ∀ k x z y, z < k → bt (wsR A k x) z = true → bt (wsR A k z) y = true → bt (wsR A k x) y = true
  | 0, _, _, _, h, _, _ => absurd h (Nat.not_lt_zero _)
  | k + 1, x, z, y, hz, h1, h2 => by
    have ih := ws_tr k
    rw [ws_bt, Bool.or_eq_true, Bool.and_eq_true] at h1 h2 ⊢
    by_cases w : z = k
    · subst w
      have a1 : bt (wsR A z x) z = true := h1.elim id (fun q => q.1)
      have a2 : bt (wsR A z z) y = true := h2.elim id (fun q => q.2)
      exact Or.inr ⟨a1, a2⟩
    · have hz : z < k := by omega
      rcases h1 with h1 | ⟨h1, h1'⟩
      · rcases h2 with h2 | ⟨h2, h2'⟩
        · exact Or.inl (ih x z y hz h1 h2)
        · exact Or.inr ⟨ih x z k hz h1 h2, h2'⟩
      · rcases h2 with h2 | ⟨h2, h2'⟩
        · exact Or.inr ⟨h1, ih k z y hz h1' h2⟩
        · exact Or.inr ⟨h1, h2'⟩
theorem ws_0 : ∀ k x y, bt (A x) y = true → bt (wsR A k x) y = true
  | 0, _, _, h => h
  | k + 1, x, y, h => by rw [ws_bt, ws_0 k x y h]; rfl
/-- the reference's round over all men -/
def rdS (A : Nat → Int32) (n : Nat) (x : Int32) : Int32 := itR (fun q s => if bt s q then s ||| A q else s) n x
theorem rd_up {x : Int32} {y : Nat} : ∀ n, bt x y = true → bt (rdS A n x) y = true
  | 0, h => h
  | n + 1, h => by
    have ih := rd_up n h
    show bt (if bt (rdS A n x) n then rdS A n x ||| A n else rdS A n x) y = true
    split
    · rw [bt_or, ih]; rfl
    · exact ih
theorem rd_mono {x : Int32} {y : Nat} {k : Nat} : ∀ r, bt (rdS A k x) y = true → bt (rdS A (k + r) x) y = true
  | 0, h => h
  | r + 1, h => by
    have ih := rd_mono r h
    show bt (if bt (rdS A (k + r) x) (k + r) then rdS A (k + r) x ||| A (k + r) else rdS A (k + r) x) y = true
    split
    · rw [bt_or, ih]; rfl
    · exact ih
theorem rd_cl {x : Int32} {q y : Nat} (hq : q < n) (h1 : bt x q = true) (h2 : bt (A q) y = true) : bt (rdS A n x) y = true := by
  have e : bt (rdS A (q + 1) x) y = true := by
    show bt (if bt (rdS A q x) q then rdS A q x ||| A q else rdS A q x) y = true
    rw [rd_up q h1, if_pos rfl, bt_or, h2, Bool.or_true]
  have := rd_mono (n - (q + 1)) e
  rw [show q + 1 + (n - (q + 1)) = n by omega] at this
  exact this
theorem rd_in {x : Int32} {p : Nat} (hx : ∀ y, bt x y = true → bt (wsR A m p) y = true) : ∀ n, n ≤ m → ∀ y, bt (rdS A n x) y = true → bt (wsR A m p) y = true
  | 0, _, y, h => hx y h
  | n + 1, hn, y, h => by
    have ih := rd_in hx n (by omega)
    have h : bt (if bt (rdS A n x) n then rdS A n x ||| A n else rdS A n x) y = true := h
    split at h
    · rename_i w
      rw [bt_or, Bool.or_eq_true] at h
      rcases h with h | h
      · exact ih y h
      · exact ws_tr m p n y (by omega) (ih n w) (ws_0 m n y h)
    · exact ih y h
theorem rd_lt (hA : ∀ q, q < m → ∃ a, a < 2 ^ m ∧ A q = nI a) {a : Nat} (ha : a < 2 ^ m) : ∀ n, n ≤ m → ∃ b, b < 2 ^ m ∧ rdS A n (nI a) = nI b
  | 0, _ => ⟨a, ha, rfl⟩
  | n + 1, hn => by
    obtain ⟨b, h1, h2⟩ := rd_lt hA ha n (by omega)
    obtain ⟨c, h3, h4⟩ := hA n (by omega)
    show ∃ b, b < 2 ^ m ∧ (if bt (rdS A n (nI a)) n then rdS A n (nI a) ||| A n else rdS A n (nI a)) = nI b
    rw [h2, h4]
    split
    · exact ⟨b ||| c, Nat.or_lt_two_pow h1 h3, n_or b c⟩
    · exact ⟨b, h1, rfl⟩
theorem pc_lt : ∀ a, a < 64 → ∀ b, b < 64 → nI a ||| nI b = nI b → a ≠ b → pcN a < pcN b := by decide +kernel
theorem pc_63 : ∀ a, a < 64 → 6 ≤ pcN a → a = 63 := by decide +kernel
/-- six rounds are enough -/
theorem rd_stop (hm : m ≤ 6) (hA : ∀ q, q < m → ∃ a, a < 2 ^ m ∧ A q = nI a) {a : Nat} (ha : a < 2 ^ m) : ∀ r, ∃ b, b < 2 ^ m ∧ itR (fun _ x => rdS A m x) r (nI a) = nI b ∧ (rdS A m (nI b) = nI b ∨ r ≤ pcN b)
  | 0 => ⟨a, ha, rfl, Or.inr (Nat.zero_le _)⟩
  | r + 1 => by
    obtain ⟨b, h1, h2, h3⟩ := rd_stop hm hA ha r
    obtain ⟨c, h4, h5⟩ := rd_lt hA h1 m (Nat.le_refl _)
    have p6 : 2 ^ m ≤ 64 := Nat.le_trans (Nat.pow_le_pow_right (by decide) hm) (by decide)
    show ∃ b, b < 2 ^ m ∧ rdS A m (itR (fun _ x => rdS A m x) r (nI a)) = nI b ∧ _
    rw [h2, h5]
    refine ⟨c, h4, rfl, ?_⟩
    by_cases z : b = c
    · subst z; exact Or.inl h5
    · rcases h3 with h3 | h3
      · rw [h5] at h3
        exact absurd ((nI_eq (by omega) (by omega)).mp h3).symm z
      · refine Or.inr ?_
        have : nI b ||| nI c = nI c := by
          refine bt_ext (fun i hi => ?_)
          rw [bt_or]
          cases hb : bt (nI b) i
          · rfl
          · have := rd_up (A := A) m hb
            rw [h5] at this
            rw [this]; rfl
        have := pc_lt b (by omega) c (by omega) this z
        omega
theorem rd_fix (hm : m ≤ 6) (hA : ∀ q, q < m → ∃ a, a < 2 ^ m ∧ A q = nI a) {a : Nat} (ha : a < 2 ^ m) : rdS A m (itR (fun _ x => rdS A m x) 6 (nI a)) = itR (fun _ x => rdS A m x) 6 (nI a) := by
  obtain ⟨b, h1, h2, h3⟩ := rd_stop hm hA ha 6
  have p6 : 2 ^ m ≤ 64 := Nat.le_trans (Nat.pow_le_pow_right (by decide) hm) (by decide)
  rw [h2]
  rcases h3 with h3 | h3
  · exact h3
  · have e63 := pc_63 b (by omega) h3
    obtain ⟨c, h4, h5⟩ := rd_lt hA h1 m (Nat.le_refl _)
    rw [h5]
    have : nI b ||| nI c = nI c := by
      refine bt_ext (fun i hi => ?_)
      rw [bt_or]
      cases hb : bt (nI b) i
      · rfl
      · have := rd_up (A := A) m hb
        rw [h5] at this
        rw [this]; rfl
    by_cases z : b = c
    · rw [z]
    · have p1 := pc_lt b (by omega) c (by omega) this z
      have := (pcN_ok c (by omega)).2
      omega
theorem ring_eq (hm : m ≤ 6) (hA : ∀ q, q < m → ∃ a, a < 2 ^ m ∧ A q = nI a) {p y : Nat} (hp : p < m) : bt (itR (fun _ x => rdS A m x) 6 (A p)) y = bt (wsR A m p) y := by
  have snd : ∀ r y, bt (itR (fun _ x => rdS A m x) r (A p)) y = true → bt (wsR A m p) y = true := by
    intro r
    induction r with
    | zero => exact fun y h => ws_0 m p y h
    | succ r ih => exact fun y h => rd_in ih m (Nat.le_refl _) y h
  have up : ∀ r y, bt (A p) y = true → bt (itR (fun _ x => rdS A m x) r (A p)) y = true := by
    intro r
    induction r with
    | zero => exact fun y h => h
    | succ r ih => exact fun y h => rd_up m (ih y h)
  have fx : rdS A m (itR (fun _ x => rdS A m x) 6 (A p)) = itR (fun _ x => rdS A m x) 6 (A p) := by
    obtain ⟨a, ha, ea⟩ := hA p hp
    rw [ea]
    exact rd_fix hm hA ha
  have cmp : ∀ k, k ≤ m → ∀ x y, (x = p ∨ x < m ∧ bt (itR (fun _ x => rdS A m x) 6 (A p)) x = true) → bt (wsR A k x) y = true → bt (itR (fun _ x => rdS A m x) 6 (A p)) y = true := by
    intro k
    induction k with
    | zero =>
      intro _ x y hx h
      rcases hx with rfl | ⟨h1, h2⟩
      · exact up 6 y h
      · rw [← fx]; exact rd_cl h1 h2 h
    | succ k ih =>
      intro hk x y hx h
      rw [ws_bt, Bool.or_eq_true, Bool.and_eq_true] at h
      rcases h with h | ⟨h1, h2⟩
      · exact ih (by omega) x y hx h
      · exact ih (by omega) k y (Or.inr ⟨by omega, ih (by omega) x k hx h1⟩) h2
  cases hb : bt (wsR A m p) y
  · refine Bool.eq_false_iff.mpr (fun w => ?_)
    rw [snd 6 y w] at hb
    cases hb
  · exact cmp m (Nat.le_refl _) p y (Or.inl rfl) hb
def rgS (b : Nat → Bool) (n : Nat) : Int32 := itR (fun p s => s ||| (if b p then (1 : Int32) <<< (nI p &&& 31) else 0)) n 0
theorem rg_c {x : Int32} {p : Nat} (hp : p < 32) : x &&& ((1 : Int32) <<< (nI p &&& 31)) = if bt x p then (1 : Int32) <<< (nI p &&& 31) else 0 := by
  refine bt_ext (fun i hi => ?_)
  rw [bt_and, bt_one hp hi]
  by_cases z : i = p
  · subst z
    cases bt x i
    · simp [bt_0]
    · simp [bt_one hp hp]
  · cases bt x p
    · simp [bt_0, z]
    · simp [bt_one hp hi, z]
theorem rg_m {x : Int32} {p : Nat} (hp : p < 32) : ((x >>> (nI p &&& 31)) &&& 1) <<< (nI p &&& 31) = if bt x p then (1 : Int32) <<< (nI p &&& 31) else 0 := by
  refine bt_ext (fun i hi => ?_)
  rw [bt_shl1 x hp hp hi]
  cases hb : bt x p
  · simp [bt_0]
  · simp [bt_one hp hi]
theorem c_ringOf {R : Int32 → aH → Prop} (g : GQ hC hM sy m t n D0 D) (H : ∀ hC', kC hC hC' → R (rgS (fun p => bt (wsR (fun x => lnS (wq hC 66) (nI x) D) m p) p) m) hC') : AW GC l ad (d + 1) mX4_ringOf 0 [(0, .ref (ad 352)), (1, .ref (ad 66)), (2, .int (nI m))] [] hC (qi R) := by
  obtain ⟨e1, e2, e3, e4, e5, e6, hm, ht, hD⟩ := g_S g
  obtain ⟨I, r, N⟩ := g.2.1
  refine bX4_ringOf_0 66 isW_66 _ _ ?_
  rw [if_neg (show ¬ (6 : Int32) < nI m from nI_nlt (a := 6) hm (by decide))]
  generalize hA : (fun x => lnS (wq hC 66) (nI x) D) = A at H
  have eA : ∀ x, A x = lnS (wq hC 66) (nI x) D := fun x => by rw [← hA]
  have k355 : ∀ hC' k v, kC hC hC' → kC hC (sI hC' 355 k v) := fun hC' k v kc => kC_tr kc ⟨fun c k hc => sI_c (by omega), fun _ _ _ => rfl⟩
  have L103 : ∀ hC', kC hC hC' → (∀ x, x < m → hC'.1 355 x = wsR A m x) → AW GC l ad (d + 1) mX4_ringOf 103 [(0, .ref (ad 352)), (3, .int (nI m)), (4, .int (0 : Int32)), (5, .int (0 : Int32))] [] hC' (qi R) := by
    intro hC' kc hv
    refine up_ind (P := fun p => AW GC l ad (d + 1) mX4_ringOf 103 [(0, .ref (ad 352)), (3, .int (nI m)), (4, .int (rgS (fun p => bt (wsR A m p) p) p)), (5, .int (nI p))] [] hC' (qi R)) m ?_ (fun p hp ih => ?_)
    · exact bX4_ringOf_103 66 isW_66 _ _ _ _ ⟨fun _ => H _ kc, fun z => absurd (Int32.le_refl _) z⟩
    · refine bX4_ringOf_103 66 isW_66 _ _ _ _ ?_
      rw [nI_clamp (by omega), hv p hp, rg_c (by omega), nI_1]
      exact ⟨fun z => absurd z (nI_ge hp (by omega)), fun _ => ⟨vp_in_nI (by omega) (by decide), fun t2 e2 => by rw [e2]; exact ih⟩⟩
  have L38 : ∀ hC', kC hC hC' → (∀ x, x < m → hC'.1 355 x = A x) → AW GC l ad (d + 1) mX4_ringOf 38 [(0, .ref (ad 352)), (3, .int (nI m)), (4, .int (0 : Int32))] [] hC' (qi R) := by
    intro hC' kc hv
    refine up_ind (P := fun k => ∀ hC', kC hC hC' → (∀ x, x < m → hC'.1 355 x = wsR A k x) → AW GC l ad (d + 1) mX4_ringOf 38 [(0, .ref (ad 352)), (3, .int (nI m)), (4, .int (nI k))] [] hC' (qi R)) m (fun hC' kc hv => ?_) (fun k hk ih hC' kc hv => ?_) hC' kc hv
    · exact bX4_ringOf_38 66 isW_66 _ _ _ ⟨fun _ => L103 hC' kc hv, fun z => absurd (Int32.le_refl _) z⟩
    · refine bX4_ringOf_38 66 isW_66 _ _ _ ⟨fun z => absurd z (nI_ge hk (by omega)), fun _ => ?_⟩
      refine up_ind (P := fun y => ∀ hC', kC hC hC' → (∀ x, x < m → hC'.1 355 x = if x < y then wsR A (k + 1) x else wsR A k x) → AW GC l ad (d + 1) mX4_ringOf 47 [(0, .ref (ad 352)), (3, .int (nI m)), (4, .int (nI k)), (5, .int (nI y))] [] hC' (qi R)) m (fun hC' kc hv => ?_) (fun y hy ih2 hC' kc hv => ?_) hC' kc (fun x hx => by rw [if_neg (Nat.not_lt_zero _)]; exact hv x hx)
      · refine bX4_ringOf_47 66 isW_66 _ _ _ _ ⟨fun _ => ?_, fun z => absurd (Int32.le_refl _) z⟩
        rw [nI_1]
        refine ih hC' kc (fun x hx => ?_)
        have := hv x hx
        rw [if_pos hx] at this
        exact this
      · have ek : hC'.1 355 k = wsR A k k := by
          have := hv k hk
          have e9 : wsR A (k + 1) k = wsR A k k := by
            show (if bt (wsR A k k) k then wsR A k k ||| wsR A k k else wsR A k k) = _
            rw [Int32.or_self, ite_self]
          rw [this]
          split
          · exact e9
          · rfl
        have ey : hC'.1 355 y = wsR A k y := by
          have := hv y hy
          rw [if_neg (Nat.lt_irrefl _)] at this
          exact this
        refine bX4_ringOf_47 66 isW_66 _ _ _ _ ?_
        rw [nI_clamp (by omega), nI_clamp (by omega), ey, ek, bt_shr0 _ (by omega), nI_1 y]
        have es : wsR A (k + 1) y = if bt (wsR A k y) k then wsR A k y ||| wsR A k k else wsR A k y := rfl
        refine ⟨fun z => absurd z (nI_ge hy (by omega)), fun _ => ⟨vp_in_nI (by omega) (by decide), fun z => ih2 hC' kc (fun x hx => ?_), fun z => ⟨vp_in_nI (by omega) (by decide), ih2 _ (k355 _ _ _ kc) (fun x hx => ?_)⟩⟩⟩
        · by_cases w : x = y
          · subst w; rw [if_pos (Nat.lt_succ_self _), ey, es, z]; rfl
          · rw [hv x hx]
            by_cases w2 : x < y
            · rw [if_pos w2, if_pos (show x < y + 1 by omega)]
            · rw [if_neg w2, if_neg (show ¬ x < y + 1 by omega)]
        · by_cases w : x = y
          · subst w
            rw [sI_s, if_pos (Nat.lt_succ_self _), es]
            cases hb : bt (wsR A k x) k
            · exact absurd hb z
            · rfl
          · rw [sI_k w, hv x hx]
            by_cases w2 : x < y
            · rw [if_pos w2, if_pos (show x < y + 1 by omega)]
            · rw [if_neg w2, if_neg (show ¬ x < y + 1 by omega)]
  refine up_ind (P := fun p => ∀ hC', kC hC hC' → (∀ x, x < p → hC'.1 355 x = A x) → AW GC l ad (d + 1) mX4_ringOf 10 [(0, .ref (ad 352)), (1, .ref (ad 66)), (3, .int (nI m)), (4, .int (nI p))] [] hC' (qi R)) m (fun hC' kc hv => ?_) (fun p hp ih hC' kc hv => ?_) hC kC_rfl (fun x hx => absurd hx (Nat.not_lt_zero _))
  · exact bX4_ringOf_10 66 isW_66 _ _ _ ⟨fun _ => L38 hC' kc hv, fun z => absurd (Int32.le_refl _) z⟩
  · have e66 := kC_66 kc
    refine bX4_ringOf_10 66 isW_66 _ _ _ ⟨fun z => absurd z (nI_ge hp (by omega)), fun _ => c_lenders (m := m) (t := t) (D := D) (by rw [e66]; exact I.1) ⟨vp_in_nI (by omega) (by decide), ?_⟩⟩
    rw [nI_clamp (by omega), nI_1, e66, ← eA]
    refine ih _ (k355 _ _ _ kc) (fun x hx => ?_)
    by_cases w : x = p
    · subst w; exact sI_s
    · rw [sI_k w]; exact hv x (by omega)
theorem m_ring {R : Int32 → aH → Prop} (g : GQ hC hM sy m t n D0 D) (H : R (rgS (fun p => bt (itR (fun _ x => rdS (fun x => lnS (wq hC 66) (nI x) D) m x) 6 (lnS (wq hC 66) (nI p) D)) p) m) hM) : AW (GM adK adV) l ad (d + 2) mX10_ring 9 [(0, .ref (ad 0)), (1, .int (0 : Int32)), (2, .int (0 : Int32))] [] hM (qi R) := by
  obtain ⟨e1, e2, e3, e4, e5, e6, hm, ht, hD⟩ := g_S g
  obtain ⟨I, r, N⟩ := g.2.1
  refine up_ind (P := fun p => AW (GM adK adV) l ad (d + 2) mX10_ring 9 [(0, .ref (ad 0)), (1, .int (rgS (fun p => bt (itR (fun _ x => rdS (fun x => lnS (wq hC 66) (nI x) D) m x) 6 (lnS (wq hC 66) (nI p) D)) p) p)), (2, .int (nI p))] [] hM (qi R)) m ?_ (fun p hp ih => ?_)
  · refine bX10_ring_9 _ _ _ ?_
    rw [e5]
    exact ⟨fun _ => H, fun z => absurd (Int32.le_refl _) z⟩
  · have es : rgS (fun p => bt (itR (fun _ x => rdS (fun x => lnS (wq hC 66) (nI x) D) m x) 6 (lnS (wq hC 66) (nI p) D)) p) (p + 1) = rgS (fun p => bt (itR (fun _ x => rdS (fun x => lnS (wq hC 66) (nI x) D) m x) 6 (lnS (wq hC 66) (nI p) D)) p) p ||| (if bt (itR (fun _ x => rdS (fun x => lnS (wq hC 66) (nI x) D) m x) 6 (lnS (wq hC 66) (nI p) D)) p then (1 : Int32) <<< (nI p &&& 31) else 0) := rfl
    rw [es] at ih
    generalize rgS (fun p => bt (itR (fun _ x => rdS (fun x => lnS (wq hC 66) (nI x) D) m x) 6 (lnS (wq hC 66) (nI p) D)) p) p = S at ih ⊢
    refine bX10_ring_9 _ _ _ ?_
    rw [e5]
    refine ⟨fun z => absurd z (nI_ge hp (by omega)), fun _ => m_owes hD r ?_⟩
    refine up_ind (P := fun k => AW (GM adK adV) l ad (d + 2) mX10_ring 28 [(0, .ref (ad 0)), (1, .int S), (2, .int (nI p)), (3, .int (itR (fun _ x => rdS (fun x => lnS (wq hC 66) (nI x) D) m x) k (lnS (wq hC 66) (nI p) D))), (4, .int (nI k))] [] hM (qi R)) 6 ?_ (fun k hk ih2 => ?_)
    · refine bX10_ring_28 _ _ _ _ _ ⟨fun _ t1 e1 => ?_, fun z => absurd (Int32.le_refl _) z⟩
      rw [e1, nI_1, rg_m (by omega)]
      exact ih
    · refine bX10_ring_28 _ _ _ _ _ ⟨fun z => absurd z (nI_ge (b := 6) hk (by decide)), fun _ => ?_⟩
      have es2 : itR (fun _ x => rdS (fun x => lnS (wq hC 66) (nI x) D) m x) (k + 1) (lnS (wq hC 66) (nI p) D) = rdS (fun x => lnS (wq hC 66) (nI x) D) m (itR (fun _ x => rdS (fun x => lnS (wq hC 66) (nI x) D) m x) k (lnS (wq hC 66) (nI p) D)) := rfl
      rw [es2] at ih2
      generalize itR (fun _ x => rdS (fun x => lnS (wq hC 66) (nI x) D) m x) k (lnS (wq hC 66) (nI p) D) = y at ih2 ⊢
      refine up_ind (P := fun q => AW (GM adK adV) l ad (d + 2) mX10_ring 38 [(0, .ref (ad 0)), (1, .int S), (2, .int (nI p)), (3, .int (rdS (fun x => lnS (wq hC 66) (nI x) D) q y)), (4, .int (nI k)), (5, .int (nI q))] [] hM (qi R)) m ?_ (fun q hq ih3 => ?_)
      · refine bX10_ring_38 _ _ _ _ _ _ ?_
        rw [e5, nI_1]
        exact ⟨fun _ => ih2, fun z => absurd (Int32.le_refl _) z⟩
      · have es3 : rdS (fun x => lnS (wq hC 66) (nI x) D) (q + 1) y = if bt (rdS (fun x => lnS (wq hC 66) (nI x) D) q y) q then rdS (fun x => lnS (wq hC 66) (nI x) D) q y ||| lnS (wq hC 66) (nI q) D else rdS (fun x => lnS (wq hC 66) (nI x) D) q y := rfl
        rw [es3] at ih3
        refine bX10_ring_38 _ _ _ _ _ _ ?_
        rw [e5, nI_1 q, bt_shr _ (by omega), Int32.or_zero]
        cases hb : bt (rdS (fun x => lnS (wq hC 66) (nI x) D) q y) q
        · rw [hb] at ih3
          exact ⟨fun z => absurd z (nI_ge hq (by omega)), fun _ => ⟨fun _ => ih3, fun z => absurd z (by decide)⟩⟩
        · rw [hb, if_pos rfl] at ih3
          exact ⟨fun z => absurd z (nI_ge hq (by omega)), fun _ => ⟨fun z => absurd rfl z, fun _ => m_owes hD r ih3⟩⟩
theorem rg_ext {b b' : Nat → Bool} {n : Nat} (h : ∀ p, p < n → b p = b' p) : ∀ k, k ≤ n → rgS b k = rgS b' k
  | 0, _ => rfl
  | k + 1, hk => by
    show rgS b k ||| (if b k then _ else 0) = rgS b' k ||| (if b' k then _ else 0)
    rw [rg_ext h k (by omega), h k (by omega)]
theorem j_ring (g : GR hC hM) : AW GC l ad (d + 2) mX9_ring 0 [(0, .ref (ad 0))] [] hC (qi (jq l' ad' (d' + 2) adK adV mX10_ring [(0, .ref (ad' 0))] hM)) := by
  obtain ⟨sy, m, t, n, D0, D, g⟩ := g
  have g2 := g_thr g
  obtain ⟨e1, e2, e3, e4, e5, e6, hm, ht, hD⟩ := g_S g2
  obtain ⟨I, r, N⟩ := g2.2.1
  refine bX9_ring_0 _ (mref e1 ⟨e2, ?_⟩)
  rw [e3]
  refine c_ringOf g (fun hC' kc => bX10_ring_0 _ (m_ring g2 ⟨?_, _, _, _, _, _, _, gq_frame kc kM_rfl g2⟩))
  refine rg_ext (n := m) (fun p hp => ?_) m (Nat.le_refl _)
  exact ring_eq (A := fun x => lnS (wq hC 66) (nI x) D) hm (fun q hq => ln_ok I.1 D (Nat.le_refl _)) hp
end RG
