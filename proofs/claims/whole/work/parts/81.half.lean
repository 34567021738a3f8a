/-! ===== the reference's beginning and end of a text ===== -/
/-- rows below n have their second halves in their first -/
def hvN (h : aH) (n : Nat) : aH := (fun c k => if 2 ≤ c ∧ c < n ∧ k < hf c then h.1 c (hf c + k) else h.1 c k, h.2)
section HV
variable {l : Launch} {ad adK adV : Nat → Nat} {d : Nat} {h h' : aH}
theorem hv_2 : hvN h 2 = h := by
  refine Prod.ext (funext fun c => funext fun k => ?_) rfl
  show (if 2 ≤ c ∧ c < 2 ∧ k < hf c then h.1 c (hf c + k) else h.1 c k) = h.1 c k
  rw [if_neg (by omega)]
theorem m_hv {R : aH → Prop} {n N : Nat} (h2 : 2 ≤ n) (ha : (GM adK adV).2.2.2.1[n]? = some (.inr (.int, N))) (hN : N = 2 * hf n) (e : Int32.ofNat N / 2 = nI (hf n)) (hb : hf n ≤ 64) (H : R (hvN h (n + 1))) : AW (GM adK adV) l ad d mX10_half 0 [(0, .ref (ad n))] [] (hvN h n) (qv R) := by
  refine bX10_half_0 n N ha _ ?_
  rw [e]
  refine up_ind (P := fun i => i ≤ hf n → ∀ g : aH, g.2 = h.2 → (∀ c k, g.1 c k = if (2 ≤ c ∧ c < n ∧ k < hf c) ∨ (c = n ∧ k < i) then h.1 c (hf c + k) else h.1 c k) → AW (GM adK adV) l ad d mX10_half 7 [(0, .ref (ad n)), (1, .int (nI (hf n))), (2, .int (nI i))] [] g (qv R)) (hf n) (fun _ g g2 hg => ?_) (fun i hi ih _ g g2 hg => ?_) (Nat.zero_le _) (hvN h n) rfl (fun c k => ?_)
  · refine bX10_half_7 n N ha _ _ _ ⟨fun _ => ?_, fun z => absurd (Int32.le_refl _) z⟩
    have : g = hvN h (n + 1) := by
      refine Prod.ext (funext fun c => funext fun k => ?_) g2
      rw [hg]
      show _ = (if 2 ≤ c ∧ c < n + 1 ∧ k < hf c then h.1 c (hf c + k) else h.1 c k)
      by_cases w : c = n
      · subst w
        by_cases w2 : k < hf c
        · rw [if_pos (by omega), if_pos (by omega)]
        · rw [if_neg (by omega), if_neg (by omega)]
      · by_cases w2 : 2 ≤ c ∧ c < n ∧ k < hf c
        · rw [if_pos (by omega), if_pos (by omega)]
        · rw [if_neg (by omega), if_neg (by omega)]
    rw [this]; exact H
  · refine bX10_half_7 n N ha _ _ _ ⟨fun z => absurd z (nI_ge hi (by omega)), fun _ => ?_⟩
    rw [nI_add, nI_clamp (by omega), nI_clamp (by omega), nI_1]
    refine ⟨vp_in_nI (by omega) (by omega), vp_in_nI (by omega) (by omega), ih (by omega) _ g2 (fun c k => ?_)⟩
    show (if c = n ∧ k = i then g.1 n (hf n + i) else g.1 c k) = _
    by_cases w : c = n ∧ k = i
    · obtain ⟨rfl, rfl⟩ := w
      rw [if_pos ⟨rfl, rfl⟩, if_pos (by omega), hg, if_neg (by omega)]
    · rw [if_neg w, hg]
      by_cases w2 : (2 ≤ c ∧ c < n ∧ k < hf c) ∨ (c = n ∧ k < i)
      · rw [if_pos w2, if_pos (by omega)]
      · rw [if_neg w2, if_neg (by omega)]
  · show (if 2 ≤ c ∧ c < n ∧ k < hf c then h.1 c (hf c + k) else h.1 c k) = _
    by_cases w : 2 ≤ c ∧ c < n ∧ k < hf c
    · rw [if_pos w, if_pos (Or.inl w)]
    · rw [if_neg w, if_neg (by omega)]
def hv4 (h : aH) : aH := sI (sI (sI (sI (hvN h 21) 0 62 0) 0 63 (-1)) 0 52 0) 0 53 0
/-- a text that is right, to its end -/
theorem m_end {Q : Int32 → aH → Prop} {σ : wT} {m t n D0 : Nat} (h0 : h.1 0 29 = 0) (C : MC (hv4 (sI (sI h 0 31 0) 0 32 (h.1 0 30))) σ m t n) (gr : gR (hv4 (sI (sI h 0 31 0) 0 32 (h.1 0 30))) σ m t D0) (H : ∀ β', RelW m t D0 (stW σ) β' → Q ((pB (hv4 (sI (sI h 0 31 0) 0 32 (h.1 0 30))) 0 β').1 0 23) (pB (hv4 (sI (sI h 0 31 0) 0 32 (h.1 0 30))) 0 β')) : AW (GM adK adV) l ad (d + 2) mX10_text 139 [(0, .ref (ad 0))] [] h (qi Q) := by
  have I := gr.2.2.2.2.2.2.1
  have e30 : (sI h 0 31 0).1 0 30 = h.1 0 30 := sI_k (by decide)
  have e29 : (sI (sI h 0 31 0) 0 32 (h.1 0 30)).1 0 29 = 0 := (sI_k (by decide)).trans ((sI_k (by decide)).trans h0)
  refine bX10_text_139 _ ?_
  rw [h0, e30, e29]
  refine ⟨fun _ => ?_, fun z => absurd rfl z⟩
  generalize sI (sI h 0 31 0) 0 32 (h.1 0 30) = g at C gr H ⊢
  rw [← hv_2 (h := g)]
  refine m_hv (n := 2) (N := 14) (by decide) rfl (by decide) (by decide) (by decide) ?_
  refine m_hv (n := 3) (N := 12) (by decide) rfl (by decide) (by decide) (by decide) ?_
  refine m_hv (n := 4) (N := 12) (by decide) rfl (by decide) (by decide) (by decide) ?_
  refine m_hv (n := 5) (N := 12) (by decide) rfl (by decide) (by decide) (by decide) ?_
  refine m_hv (n := 6) (N := 12) (by decide) rfl (by decide) (by decide) (by decide) ?_
  refine m_hv (n := 7) (N := 12) (by decide) rfl (by decide) (by decide) (by decide) ?_
  refine m_hv (n := 8) (N := 12) (by decide) rfl (by decide) (by decide) (by decide) ?_
  refine m_hv (n := 9) (N := 16) (by decide) rfl (by decide) (by decide) (by decide) ?_
  refine m_hv (n := 10) (N := 16) (by decide) rfl (by decide) (by decide) (by decide) ?_
  refine m_hv (n := 11) (N := 16) (by decide) rfl (by decide) (by decide) (by decide) ?_
  refine m_hv (n := 12) (N := 16) (by decide) rfl (by decide) (by decide) (by decide) ?_
  refine m_hv (n := 13) (N := 16) (by decide) rfl (by decide) (by decide) (by decide) ?_
  refine m_hv (n := 14) (N := 20) (by decide) rfl (by decide) (by decide) (by decide) ?_
  refine m_hv (n := 15) (N := 20) (by decide) rfl (by decide) (by decide) (by decide) ?_
  refine m_hv (n := 16) (N := 20) (by decide) rfl (by decide) (by decide) (by decide) ?_
  refine m_hv (n := 17) (N := 6) (by decide) rfl (by decide) (by decide) (by decide) ?_
  refine m_hv (n := 18) (N := 6) (by decide) rfl (by decide) (by decide) (by decide) ?_
  refine m_hv (n := 19) (N := 128) (by decide) rfl (by decide) (by decide) (by decide) ?_
  refine m_hv (n := 20) (N := 128) (by decide) rfl (by decide) (by decide) (by decide) ?_
  exact bX10_begins_0 _ (mH (b := 0) (m_starts (b := 0) (by decide) C gr I.1.1 I.1.2.1 I.1.2.2.1 H))
def tA (h : aH) (x : Int32) : aH := sI (sI (sI (sI (sI (sI h 0 0 0) 0 24 x) 0 2 0) 0 25 0) 0 29 0) 0 30 (-1)
def tB (h : aH) : aH := sI (sI (sI (sI (sI (sI (sI h 2 7 0) 2 8 0) 2 9 0) 2 10 0) 2 11 0) 2 12 0) 2 13 0
def tC (h : aH) : aH := sI (sI (sI (sI (sI (sI h 17 3 0) 18 3 0) 17 4 0) 18 4 0) 17 5 0) 18 5 0
def tD (h : aH) : aH := sI (sI (sI (sI h 0 22 0) 0 23 0) 0 33 0) 0 34 0
theorem m_tB {Q : Int32 → aH → Prop} (H : AW (GM adK adV) l ad (d + 1) mX10_text 67 [(0, .ref (ad 0)), (2, .int (3 : Int32))] [] (tB h) (qi Q)) : AW (GM adK adV) l ad (d + 1) mX10_text 47 [(0, .ref (ad 0)), (2, .int (0 : Int32))] [] h (qi Q) := by
  have st : ∀ {k : Nat} {g : aH}, k < 7 → AW (GM adK adV) l ad (d + 1) mX10_text 47 [(0, .ref (ad 0)), (2, .int (nI (k + 1)))] [] (sI g 2 (7 + k) 0) (qi Q) → AW (GM adK adV) l ad (d + 1) mX10_text 47 [(0, .ref (ad 0)), (2, .int (nI k))] [] g (qi Q) := by
    intro k g hk H
    refine bX10_text_47 _ _ ⟨fun z => absurd z (nI_ge (b := 7) hk (by decide)), fun _ => m_rds (k := k) rfl hk ?_⟩
    rw [nI_1]
    exact H
  refine st (k := 0) (by decide) (st (k := 1) (by decide) (st (k := 2) (by decide) (st (k := 3) (by decide) (st (k := 4) (by decide) (st (k := 5) (by decide) (st (k := 6) (by decide) ?_))))))
  exact bX10_text_47 _ _ ⟨fun _ => H, fun z => absurd (by decide) z⟩
theorem m_tC {Q : Int32 → aH → Prop} (H : AW (GM adK adV) l ad d mX10_token 0 [(0, .ref (ad 0))] [] (tD (tC h)) (qv fun h1 => AW (GM adK adV) l ad (d + 1) mX10_text 117 [(0, .ref (ad 0))] [] h1 (qi Q))) : AW (GM adK adV) l ad (d + 1) mX10_text 67 [(0, .ref (ad 0)), (2, .int (3 : Int32))] [] h (qi Q) := by
  have st : ∀ {k : Nat} {g : aH}, k < 6 → AW (GM adK adV) l ad (d + 1) mX10_text 67 [(0, .ref (ad 0)), (2, .int (nI (k + 1)))] [] (sI (sI g 17 k 0) 18 k 0) (qi Q) → AW (GM adK adV) l ad (d + 1) mX10_text 67 [(0, .ref (ad 0)), (2, .int (nI k))] [] g (qi Q) := by
    intro k g hk H
    refine bX10_text_67 _ _ ⟨fun z => absurd z (nI_ge (b := 6) hk (by decide)), fun _ => ?_⟩
    rw [nI_1, nI_clamp (by omega)]
    exact ⟨vp_in_nI hk (by decide), H⟩
  refine st (k := 3) (by decide) (st (k := 4) (by decide) (st (k := 5) (by decide) ?_))
  exact bX10_text_67 _ _ ⟨fun _ => H, fun z => absurd (by decide) z⟩
end HV
