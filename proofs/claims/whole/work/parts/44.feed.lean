/-! ===== calls: feed ===== -/
section FE
variable {adK adV : Nat → Nat} {l l' : Launch} {ad ad' : Nat → Nat} {d d' b : Nat} {hC hM hC' hM' h : aH} {sy m t n D0 D : Nat} {ω β σ : wT}
/-- a byte of four -/
def byS (x : Int32) (q : Nat) : Int32 := (x >>> (nI (24 - 8 * q) &&& 31)) &&& 255
theorem byS_ok {x : Int32} {q : Nat} : ∃ v, v < 256 ∧ byS x q = nI v := by
  obtain ⟨k, h1, h2⟩ := n_andL 255 (x >>> (nI (24 - 8 * q) &&& 31))
  refine ⟨k, by omega, ?_⟩
  unfold byS
  rw [Int32.and_comm]
  exact h2
/-- four bytes more on the class's tape -/
def tpQ (h h' : aH) (p : Nat) (x : Int32) : Prop := h'.2 = h.2 ∧ h'.1 0 1 = nI (p + 4) ∧ (∀ c k, (c = 0 → k ≠ 1) → (c = 1 → k < p) → h'.1 c k = h.1 c k) ∧ ∀ q, q < 4 → h'.1 1 (p + q) = byS x q
theorem c_addBytes {R : aH → Prop} {p : Nat} {x : Int32} (hp : p + 4 ≤ 700) (e : h.1 0 1 = nI p) (H : ∀ h', tpQ h h' p x → R h') : AW GC l ad d mX9_addBytes 0 [(0, .ref (ad 0)), (1, .int x)] [] h (qv R) := by
  refine bX9_addBytes_0 _ _ (up_ind (P := fun i => ∀ h', (h'.2 = h.2 ∧ h'.1 0 1 = nI (p + i) ∧ (∀ c k, (c = 0 → k ≠ 1) → (c = 1 → k < p) → h'.1 c k = h.1 c k) ∧ ∀ q, q < i → h'.1 1 (p + q) = byS x q) → AW GC l ad d mX9_addBytes 3 [(0, .ref (ad 0)), (1, .int x), (2, .int (24 - 8 * nI i))] [] h' (qv R)) 4 (fun h' ⟨a1, a2, a3, a4⟩ => ?_) (fun i hi ih h' ⟨a1, a2, a3, a4⟩ => ?_) h ⟨rfl, e, fun _ _ _ _ => rfl, fun q hq => absurd hq (Nat.not_lt_zero _)⟩)
  · exact bX9_addBytes_3 _ _ _ ⟨fun _ => H h' ⟨a1, a2, a3, a4⟩, fun z => absurd (by decide) z⟩
  · have e24 : (24 : Int32) - 8 * nI i = nI (24 - 8 * i) ∧ (24 : Int32) - 8 * nI i + -8 = 24 - 8 * nI (i + 1) := by
      match i, hi with
      | 0, _ => decide
      | 1, _ => decide
      | 2, _ => decide
      | 3, _ => decide
    refine bX9_addBytes_3 _ _ _ ?_
    rw [a2, nI_clamp (by omega), e24.2, sI_c (by decide), a2, nI_1]
    refine ⟨fun z => absurd z (by rw [e24.1]; exact nI_pos (by omega)), fun _ => ⟨fun z => absurd z (nI_ge (b := 700) (by omega) (by decide)), fun _ => ⟨vp_in_nI (by omega) (by decide), fun h2 e2 => ih h2 ?_⟩⟩⟩
    rw [e2]
    refine ⟨a1, sI_s, fun c k h1 h2 => ?_, fun q hq => ?_⟩
    · have : (sI h' 1 (p + i) ((x >>> ((24 - 8 * nI i) &&& 31)) &&& 255)).1 c k = h'.1 c k := by
        by_cases q : c = 1
        · exact sI_k (by have := h2 q; omega)
        · exact sI_c q
      by_cases q : c = 0
      · rw [sI_k (h1 q), this]; exact a3 c k h1 h2
      · rw [sI_c q, this]; exact a3 c k h1 h2
    · rw [sI_c (by decide)]
      by_cases z : q = i
      · subst z
        rw [sI_s, e24.1]
        rfl
      · rw [sI_k (by omega)]
        exact a4 q (by omega)
def arg5 (x1 x2 x3 x4 x5 : Int32) (q : Nat) : Int32 := if q < 4 then x1 else if q < 8 then x2 else if q < 12 then x3 else if q < 16 then x4 else x5
theorem m_fd {R : Int32 → aH → Prop} {p : Nat} {x1 x2 x3 x4 x5 : Int32} (hp : p + 20 ≤ 700) (e : h.1 0 2 = nI p) (H : ∀ h', h'.1 0 2 = nI (p + 20) → (∀ c k, (c = 0 → k ≠ 2) → (c = 1 → k < p) → h'.1 c k = h.1 c k) → (∀ q, q < 20 → h'.1 1 (p + q) = byS (arg5 x1 x2 x3 x4 x5 q) (q % 4)) → R (nI (p + 20)) h') : AW (GM adK adV) l ad d mX10_feed 20 [(0, .ref (ad 0)), (1, .int x1), (2, .int x2), (3, .int x3), (4, .int x4), (5, .int x5), (6, .int (0 : Int32))] [] h (qi R) := by
  refine up_ind (P := fun i => ∀ h', (h'.1 0 2 = nI p ∧ (∀ c k, (c = 1 → k < p) → h'.1 c k = h.1 c k) ∧ ∀ q, q < i → h'.1 1 (p + q) = byS (arg5 x1 x2 x3 x4 x5 q) (q % 4)) → AW (GM adK adV) l ad d mX10_feed 20 [(0, .ref (ad 0)), (1, .int x1), (2, .int x2), (3, .int x3), (4, .int x4), (5, .int x5), (6, .int (nI i))] [] h' (qi R)) 20 (fun h' ⟨a2, a3, a4⟩ => ?_) (fun i hi ih h' ⟨a2, a3, a4⟩ => ?_) h ⟨e, fun _ _ _ => rfl, fun q hq => absurd hq (Nat.not_lt_zero _)⟩
  · refine bX10_feed_20 _ _ _ _ _ _ _ ⟨fun _ => ?_, fun z => absurd (Int32.le_refl _) z⟩
    rw [sI_s, a2, show nI p + 20 = nI (p + 20) from nI_add p 20]
    refine H _ sI_s (fun c k h1 h2 => ?_) (fun q hq => ?_)
    · by_cases q : c = 0
      · rw [sI_k (h1 q)]; exact a3 c k h2
      · rw [sI_c q]; exact a3 c k h2
    · rw [sI_c (by decide)]; exact a4 q hq
  · have e24 : ∀ i, i < 20 → (24 : Int32) - 8 * (nI i - nI i / 4 * 4) = nI (24 - 8 * (i % 4)) := by decide
    have F : ∀ x, x = arg5 x1 x2 x3 x4 x5 i → AW (GM adK adV) l ad d mX10_feed 73 [(0, .ref (ad 0)), (1, .int x1), (2, .int x2), (3, .int x3), (4, .int x4), (5, .int x5), (6, .int (nI i))] [.int x] h' (qi R) := by
      intro x ex
      refine bX10_feed_73 _ _ _ _ _ _ _ _ ?_
      rw [a2, nI_add, nI_clamp (by omega), e24 i hi, nI_1]
      refine ⟨vp_in_nI (by omega) (by decide), fun h2 e2 => ih h2 ?_⟩
      rw [e2]
      refine ⟨(sI_c (by decide)).trans a2, fun c k h1 => ?_, fun q hq => ?_⟩
      · by_cases q : c = 1
        · rw [sI_k (by have := h1 q; omega)]; exact a3 c k h1
        · rw [sI_c q]; exact a3 c k h1
      · by_cases z : q = i
        · subst z
          rw [sI_s, ex]
          rfl
        · rw [sI_k (by omega)]
          exact a4 q (by omega)
    have T : ∀ (a b : Nat), a < 2 ^ 31 → b < 2 ^ 31 → (nI a ≤ nI b ↔ a ≤ b) := fun a b ha hb => nI_leI ha hb
    refine bX10_feed_20 _ _ _ _ _ _ _ ⟨fun z => absurd z (nI_ge (b := 20) hi (by omega)), fun _ => ⟨fun z4 => ⟨fun z8 => ⟨fun z12 => ⟨fun z16 => F _ ?_, fun z16 => F _ ?_⟩, fun z12 => F _ ?_⟩, fun z8 => F _ ?_⟩, fun z4 => F _ ?_⟩⟩
    · have a := (T 4 i (by omega) (by omega)).mp z4
      have b := (T 8 i (by omega) (by omega)).mp z8
      have c := (T 12 i (by omega) (by omega)).mp z12
      have d := (T 16 i (by omega) (by omega)).mp z16
      unfold arg5
      rw [if_neg (by omega), if_neg (by omega), if_neg (by omega), if_neg (by omega)]
    · have a := (T 4 i (by omega) (by omega)).mp z4
      have b := (T 8 i (by omega) (by omega)).mp z8
      have c := (T 12 i (by omega) (by omega)).mp z12
      have d : ¬ 16 ≤ i := fun w => z16 ((T 16 i (by omega) (by omega)).mpr w)
      unfold arg5
      rw [if_neg (by omega), if_neg (by omega), if_neg (by omega), if_pos (by omega)]
    · have a := (T 4 i (by omega) (by omega)).mp z4
      have b := (T 8 i (by omega) (by omega)).mp z8
      have c : ¬ 12 ≤ i := fun w => z12 ((T 12 i (by omega) (by omega)).mpr w)
      unfold arg5
      rw [if_neg (by omega), if_neg (by omega), if_pos (by omega)]
    · have a := (T 4 i (by omega) (by omega)).mp z4
      have b : ¬ 8 ≤ i := fun w => z8 ((T 8 i (by omega) (by omega)).mpr w)
      unfold arg5
      rw [if_neg (by omega), if_pos (by omega)]
    · have a : ¬ 4 ≤ i := fun w => z4 ((T 4 i (by omega) (by omega)).mpr w)
      unfold arg5
      rw [if_pos (by omega)]
/-- both tapes alone have changed -/
theorem gq_T (g : GQ hC hM sy m t n D0 D) (a : ∀ c k, (c = 0 → k ≠ 1) → c ≠ 1 → hC'.1 c k = hC.1 c k) (aR : hC'.2.2 = hC.2.2) (b : ∀ c k, (c = 0 → k ≠ 2) → c ≠ 1 → hM'.1 c k = hM.1 c k) (e : gT hC' hM') : GQ hC' hM' sy m t n D0 D := by
  obtain ⟨g1, g2, g3, g4, g5, g6, g7⟩ := g
  have bb : ∀ b, bkT hM' b = bkT hM b := fun b' => bk_ext (fun c k p e => b c k (fun z => by subst z; unfold adr at e; simp at e) (fun z => by subst z; unfold adr at e; simp at e))
  refine ⟨gS_ext (fun c k h1 h2 => a _ _ (by omega) (by omega)) (by rw [aR]) (by rw [aR]) (fun c k h1 h2 => b _ _ (by omega) (by omega)) g1, gW_ext (fun j k hj => a _ _ (by omega) (by omega)) (bb 0) g2, ?_, gP_ext (fun c k h1 h2 => a _ _ (by omega) (by omega)) (fun k => by rw [aR]) (b _ _ (by omega) (by omega)) (fun i hi => bb _) g4, gE_ext (fun c k h1 h2 => a _ _ (by omega) (by omega)) (b _ _ (by omega) (by omega)) (b _ _ (by omega) (by omega)) (fun c k h1 h2 => b _ _ (by omega) (by omega)) g5, e, gF_ext (a _ _ (by omega) (by omega)) (a _ _ (by omega) (by omega)) (fun k => a _ _ (by omega) (by omega)) (a _ _ (by omega) (by omega)) (b _ _ (by omega) (by omega)) (b _ _ (by omega) (by omega)) (b _ _ (by omega) (by omega)) g7⟩
  obtain ⟨i1, i2⟩ := g3
  refine ⟨by rw [a _ _ (by omega) (by omega), b _ _ (by omega) (by omega)]; exact i1, fun z => ?_⟩
  rw [a _ _ (by omega) (by omega)] at z
  obtain ⟨D, g⟩ := i2 z
  exact ⟨D, gW_ext (fun j k hj => a _ _ (by omega) (by omega)) (bb 2) g⟩
theorem j_feed {x1 x2 x3 x4 x5 : Int32} (g : GR hC hM) : AW GC l ad (d + 1) mX9_feed 0 [(0, .ref (ad 0)), (1, .int x1), (2, .int x2), (3, .int x3), (4, .int x4), (5, .int x5)] [] hC (qi (jq l' ad' d' adK adV mX10_feed [(0, .ref (ad' 0)), (1, .int x1), (2, .int x2), (3, .int x3), (4, .int x4), (5, .int x5)] hM)) := by
  obtain ⟨sy, m, t, n, D0, D, g⟩ := g
  have g2 := g_thr g
  have G : GR hC (sI hM 0 0 0) := ⟨_, _, _, _, _, _, g2⟩
  obtain ⟨c, hc, tC, tM, tt⟩ := g2.2.2.2.2.2.1
  refine bX9_feed_0 _ _ _ _ _ _ ?_
  rw [tC, show nI (20 * c) + 20 = nI (20 * c + 20) from nI_add _ 20]
  refine ⟨fun z => ?_, fun z => ?_⟩
  · have hp : 20 * c + 20 ≤ 700 := (nI_leI (a := 20 * c + 20) (b := 700) (by omega) (by decide)).mp z
    refine c_addBytes (by omega) tC (fun h1 a1 => c_addBytes (by omega) a1.2.1 (fun h2 a2 => c_addBytes (by omega) a2.2.1 (fun h3 a3 => c_addBytes (by omega) a3.2.1 (fun h4 a4 => c_addBytes (by omega) a4.2.1 (fun h5 a5 => ?_)))))
    refine bX10_feed_0 _ _ _ _ _ _ ?_
    rw [tM]
    refine ⟨fun _ => m_fd hp tM (fun hM' b1 b2 b3 => ?_), fun z2 => absurd ((nI_leI (a := 20 * c) (b := 680) (by omega) (by decide)).mpr (by omega)) z2⟩
    refine ⟨a5.2.1.symm, sy, m, t, n, D0, D, gq_T g2 (fun c' k q1 q2 => ?_) ?_ (fun c' k q1 q2 => b2 c' k q1 (fun w => absurd w q2)) ⟨c + 1, by omega, a5.2.1, b1, fun k hk => ?_⟩⟩
    · rw [a5.2.2.1 c' k q1 (fun w => absurd w q2), a4.2.2.1 c' k q1 (fun w => absurd w q2), a3.2.2.1 c' k q1 (fun w => absurd w q2), a2.2.2.1 c' k q1 (fun w => absurd w q2), a1.2.2.1 c' k q1 (fun w => absurd w q2)]
    · rw [a5.1, a4.1, a3.1, a2.1, a1.1]
    · by_cases k0 : k < 20 * c
      · obtain ⟨v, v1, v2, v3⟩ := tt k k0
        refine ⟨v, v1, ?_, ?_⟩
        · rw [a5.2.2.1 1 k (by omega) (fun _ => by omega), a4.2.2.1 1 k (by omega) (fun _ => by omega), a3.2.2.1 1 k (by omega) (fun _ => by omega), a2.2.2.1 1 k (by omega) (fun _ => by omega), a1.2.2.1 1 k (by omega) (fun _ => by omega)]
          exact v2
        · rw [b2 1 k (by omega) (fun _ => k0)]
          exact v3
      · obtain ⟨q, rfl⟩ : ∃ q, k = 20 * c + q := ⟨k - 20 * c, by omega⟩
        have hq : q < 20 := by omega
        have eM := b3 q hq
        have eC : h5.1 1 (20 * c + q) = byS (arg5 x1 x2 x3 x4 x5 q) (q % 4) := by
          unfold arg5
          by_cases q4 : q < 4
          · rw [if_pos q4, Nat.mod_eq_of_lt q4, a5.2.2.1 1 _ (by omega) (fun _ => by omega), a4.2.2.1 1 _ (by omega) (fun _ => by omega), a3.2.2.1 1 _ (by omega) (fun _ => by omega), a2.2.2.1 1 _ (by omega) (fun _ => by omega)]
            exact a1.2.2.2 q q4
          rw [if_neg q4]
          by_cases q8 : q < 8
          · rw [if_pos q8, a5.2.2.1 1 _ (by omega) (fun _ => by omega), a4.2.2.1 1 _ (by omega) (fun _ => by omega), a3.2.2.1 1 _ (by omega) (fun _ => by omega)]
            have := a2.2.2.2 (q - 4) (by omega)
            rw [show 20 * c + 4 + (q - 4) = 20 * c + q by omega, show q - 4 = q % 4 by omega] at this
            exact this
          rw [if_neg q8]
          by_cases q12 : q < 12
          · rw [if_pos q12, a5.2.2.1 1 _ (by omega) (fun _ => by omega), a4.2.2.1 1 _ (by omega) (fun _ => by omega)]
            have := a3.2.2.2 (q - 8) (by omega)
            rw [show 20 * c + 4 + 4 + (q - 8) = 20 * c + q by omega, show q - 8 = q % 4 by omega] at this
            exact this
          rw [if_neg q12]
          by_cases q16 : q < 16
          · rw [if_pos q16, a5.2.2.1 1 _ (by omega) (fun _ => by omega)]
            have := a4.2.2.2 (q - 12) (by omega)
            rw [show 20 * c + 4 + 4 + 4 + (q - 12) = 20 * c + q by omega, show q - 12 = q % 4 by omega] at this
            exact this
          rw [if_neg q16]
          have := a5.2.2.2 (q - 16) (by omega)
          rw [show 20 * c + 4 + 4 + 4 + 4 + (q - 16) = 20 * c + q by omega, show q - 16 = q % 4 by omega] at this
          exact this
        obtain ⟨v, v1, v2⟩ := byS_ok (x := arg5 x1 x2 x3 x4 x5 q) (q := q % 4)
        exact ⟨v, v1, eC.trans v2, eM.trans v2⟩
  · have hp : ¬ 20 * c + 20 ≤ 700 := fun q => z ((nI_leI (a := 20 * c + 20) (b := 700) (by omega) (by decide)).mpr q)
    refine bX10_feed_0 _ _ _ _ _ _ ?_
    rw [tM]
    exact ⟨fun z2 => absurd ((nI_leI (a := 20 * c) (b := 680) (by omega) (by decide)).mp z2) (by omega), fun _ => ⟨rfl, G⟩⟩
end FE
