theorem cN_lt' {f : Nat → Nat} (hf : ∀ j, f j - 96 < 32) : ∀ i, cN f i < 32 ^ i
  | 0 => Nat.zero_lt_one
  | i + 1 => by
    have := cN_lt' hf i
    have := hf i
    show 32 * cN f i + (f i - 96) < 32 ^ i * 32
    omega
def pdN (f : Nat → Nat) (L j : Nat) : Nat := if j < L then f j else 96
theorem cN_pad {f : Nat → Nat} {L : Nat} (hL : L ≤ 6) : cN (pdN f L) 6 = cN f L * 32 ^ (6 - L) := by
  have e : ∀ j, j < 6 → xd (pdN f L) 6 j = xd f L j := fun j hj => by
    unfold xd pdN
    rw [if_pos hj]
    by_cases w : j < L
    · rw [if_pos w, if_pos w]
    · rw [if_neg w, if_neg w]
  have e6 := cN_D (f := pdN f L) (L := 6) (Nat.le_refl _)
  rw [e 0 (by decide), e 1 (by decide), e 2 (by decide), e 3 (by decide), e 4 (by decide), e 5 (by decide), ← cN_D hL] at e6
  rw [← e6]
  exact (Nat.mul_one _).symm
theorem wx_ext {g g' : Nat → Int32} {L : Nat} (hg : ∀ j, j < L → g j = g' j) : ∀ k i, wxS g L i k = wxS g' L i k
  | 0, _ => rfl
  | k + 1, i => by
    have ih := wx_ext hg k (i + 1)
    by_cases w : mtW g L i
    · have w' : mtW g' L i := ⟨w.1, fun j hj => (hg j hj).symm.trans (w.2 j hj)⟩
      have e1 : wxS g L i (k + 1) = nI i := if_pos w
      have e2 : wxS g' L i (k + 1) = nI i := if_pos w'
      rw [e1, e2]
    · have w' : ¬ mtW g' L i := fun v => w ⟨v.1, fun j hj => (hg j hj).trans (v.2 j hj)⟩
      have e1 : wxS g L i (k + 1) = wxS g L (i + 1) k := if_neg w
      have e2 : wxS g' L i (k + 1) = wxS g' L (i + 1) k := if_neg w'
      rw [e1, e2, ih]
section MT2
variable {adK adV : Nat → Nat} {l : Launch} {ad : Nat → Nat} {d : Nat} {h h0 : aH} {b : Nat → Nat} {n p q e : Nat}
theorem m_name {R : aH → Prop} (I0 : inT h0 b n q) (hp : p ≤ e) (he : e ≤ n) (h6 : e - p ≤ 6) (hd : ∀ j, p ≤ j → j < e → isLt (b j)) (f : frM h0 h) (e25 : h.1 0 25 = nI e) (e26 : h.1 0 26 = nI p) (e27 : h.1 0 27 = 1) (H : ∀ h', frM h0 h' → h'.1 0 25 = nI e → h'.1 0 26 = nI p → h'.1 0 27 = 1 → h'.1 0 28 = nI (wC b p e) → R h') : AW (GM adK adV) l ad d mX10_name 0 [(0, .ref (ad 0))] [] h (qv R) := by
  refine bX10_name_0 _ ?_
  have hn := I0.1
  have fb : ∀ j, pdN (fun j => b (p + j)) (e - p) j - 96 < 32 := fun j => by
    unfold pdN
    by_cases w : j < e - p
    · rw [if_pos w]
      obtain ⟨h1, h2⟩ := hd (p + j) (by omega) (by omega)
      show b (p + j) - 96 < 32
      omega
    · rw [if_neg w]; decide
  refine up_ind (P := fun k => k ≤ 6 → ∀ h, frM h0 h → h.1 0 25 = nI e → h.1 0 26 = nI p → h.1 0 27 = 1 → h.1 0 28 = nI (cN (pdN (fun j => b (p + j)) (e - p)) k) → AW (GM adK adV) l ad d mX10_name 7 [(0, .ref (ad 0)), (1, .int (nI k))] [] h (qv R)) 6 (fun _ h f e25 e26 e27 e28 => ?_) (fun k hk ih _ h f e25 e26 e27 e28 => ?_) (Nat.zero_le _) (sI h 0 28 0) (fm_s f (by omega)) ((sI_k (by decide)).trans e25) ((sI_k (by decide)).trans e26) ((sI_k (by decide)).trans e27) sI_s
  · refine bX10_name_7 _ _ ⟨fun _ => H h f e25 e26 e27 ?_, fun z => absurd (Int32.le_refl _) z⟩
    rw [e28, cN_pad h6]
    rfl
  · have b1 := cN_lt' fb k
    have b2 : 32 ^ k ≤ 32 ^ 5 := Nat.pow_le_pow_right (by decide) (by omega)
    have b3 : (32 : Nat) ^ 5 = 33554432 := by decide
    have st : ∀ y : Int32, y = nI (pdN (fun j => b (p + j)) (e - p) k - 96) → AW (GM adK adV) l ad d mX10_name 53 [(0, .ref (ad 0)), (1, .int (nI k))] [.int y, .int (nI (cN (pdN (fun j => b (p + j)) (e - p)) k) <<< ((5 : Int32) &&& 31)), .ref (ad 0)] h (qv R) := by
      intro y ey
      refine bX10_name_53 _ _ _ _ ?_
      rw [ey, sh5 (fb k) (by have := fb k; omega), nI_1]
      exact ih (by omega) _ (fm_s f (by omega)) ((sI_k (by decide)).trans e25) ((sI_k (by decide)).trans e26) ((sI_k (by decide)).trans e27) sI_s
    refine bX10_name_7 _ _ ?_
    rw [e25, e26, e28, nI_add]
    refine ⟨fun z => absurd z (nI_ge (b := 6) hk (by decide)), fun _ => ⟨fun z => ?_, fun z => ?_⟩⟩
    · refine st _ ?_
      have w : ¬ k < e - p := fun w => absurd z (nI_ge (by omega) (by omega))
      unfold pdN
      rw [if_neg w]
      rfl
    · have w : k < e - p := by
        rcases Nat.lt_or_ge k (e - p) with w | w
        · exact w
        · exact absurd (nI_le (show e ≤ p + k by omega) (by omega)) z
      rw [nI_clamp (by omega), (f.2 1 (p + k) (by omega)).trans (I0.2.1 (p + k) (by omega)).1]
      refine ⟨vp_in_nI (by omega) (by decide), st _ ?_⟩
      obtain ⟨h1, h2⟩ := hd (p + k) (by omega) (by omega)
      unfold pdN
      rw [if_pos w]
      show nI (b (p + k)) - nI 97 + nI 1 = nI (b (p + k) - 96)
      rw [nI_sub' h1, nI_add]
      congr 1
      omega
/-- which sort and value letters get -/
def SW (b : Nat → Nat) (p e : Nat) (s w : Int32) : Prop := (6 < e - p ∧ s = 5 ∧ w = -1) ∨ (e - p ≤ 6 ∧ knd (wC b p e) = -1 ∧ s = 1 ∧ w = nI (wC b p e)) ∨ (e - p ≤ 6 ∧ ∃ i, i < 21 ∧ knd (wC b p e) = nI i ∧ s = 0 ∧ w = nI (pm i))
/-- a word or a name -/
theorem m_letters {R : aH → Prop} {k v : Int32} (I0 : inT h0 b n q) (T : tkW b n p e k v) (f : frM h0 h) (e25 : h.1 0 25 = nI p) (e26 : h.1 0 26 = nI p) (H : ∀ h' s w, frM h0 h' → h'.1 0 25 = nI e → h'.1 0 26 = nI p → h'.1 0 27 = s → h'.1 0 28 = w → TM k v s w → SW b p e s w → R h') : AW (GM adK adV) l ad (d + 5) mX10_token 64 [(0, .ref (ad 0))] [] h (qv R) := by
  obtain ⟨t1, t2, t3, t4, t5, t6⟩ := T
  have hn := I0.1
  refine up_ind (P := fun i => p + i ≤ e → ∀ h, frM h0 h → h.1 0 25 = nI (p + i) → h.1 0 26 = nI p → AW (GM adK adV) l ad (d + 5) mX10_token 64 [(0, .ref (ad 0))] [] h (qv R)) (e - p) (fun _ h f e25 e26 => ?_) (fun i hi ih i1 h f e25 e26 => ?_) (by omega) h f e25 e26
  · have I := in_m I0 f e25 (by omega)
    rw [show p + (e - p) = e by omega] at I
    refine bX10_token_64 _ (m_hereS I (fun w w2 => by rcases t5 with z | z; exact absurd z (by omega); exact absurd w2 z) (fun _ => ⟨fun _ => m_word (p := p) (L := e - p) (by omega) e25 e26 ?_, fun z => absurd rfl z⟩))
    rw [show p + (e - p) = e by omega] at e25
    have ew : wxS (fun j => h.1 1 (p + j)) (e - p) 0 21 = wxS (fun j => nI (b (p + j))) (e - p) 0 21 := wx_ext (fun j hj => (I.2.1 (p + j) (by omega)).1) 21 0
    rw [ew]
    have hl : ∀ j, j < e - p → isLt (b (p + j)) := fun j hj => t4 (p + j) (by omega) (by omega)
    have x25 : ∀ y, (sI h 0 28 y).1 0 25 = nI e := fun y => (sI_k (by decide)).trans e25
    have x26 : ∀ y, (sI h 0 28 y).1 0 26 = nI p := fun y => (sI_k (by decide)).trans e26
    have x28 : ∀ y, (sI h 0 28 y).1 0 28 = y := fun y => sI_s
    rw [x28, x25, x26, nI_sub' (by omega)]
    -- no name: the sort is put, nothing more
    have put : ∀ s y, ¬ s = 1 → TM k v s y → SW b p e s y → AW (GM adK adV) l ad (d + 5) mX10_token 127 [(0, .ref (ad 0))] [.int s, .ref (ad 0)] (sI h 0 28 y) (qv R) := by
      intro s y hs tm sw
      refine bX10_token_127 _ _ ?_
      have e1 : (sI (sI h 0 28 y) 0 27 s).1 0 27 = s := sI_s
      rw [e1]
      refine ⟨fun _ => H _ s y (fm_s (fm_s f (by omega)) (by omega)) ?_ ?_ sI_s ?_ tm sw, fun z => absurd z hs⟩
      · rw [sI_k (by decide)]; exact x25 y
      · rw [sI_k (by decide)]; exact x26 y
      · rw [sI_k (by decide)]; exact x28 y
    rcases t6 with ⟨w6, ek, ev⟩ | ⟨w6, ev, ek⟩
    · rw [wx_long w6]
      refine ⟨fun _ => ⟨fun z => ?_, fun _ => put 5 _ (by decide) ?_ (Or.inl ⟨w6, rfl, rfl⟩)⟩, fun z => absurd rfl z⟩
      · exact absurd z (nI_ge (a := 6) w6 (by omega))
      · exact Or.inr (Or.inr (Or.inr (Or.inr (Or.inr ⟨ek, rfl⟩))))
    · rcases kw_res (f := fun j => b (p + j)) w6 hl with ⟨k1, k2⟩ | ⟨i, k0, k1, k2⟩
      · rw [k2]
        have k1' : knd (wC b p e) = -1 := k1
        rw [if_pos k1'] at ek
        refine ⟨fun _ => ⟨fun _ => ?_, fun z => absurd (nI_le (b := 6) w6 (by decide)) z⟩, fun z => absurd rfl z⟩
        refine bX10_token_127 _ _ ?_
        have e1 : (sI (sI h 0 28 (-1)) 0 27 1).1 0 27 = 1 := sI_s
        rw [e1]
        refine ⟨fun z => absurd rfl z, fun _ => m_name I0 (by omega) t3 w6 t4 (fm_s (fm_s f (by omega)) (by omega)) ?_ ?_ sI_s (fun h' f' a1 a2 a3 a4 => H h' 1 _ f' a1 a2 a3 a4 (Or.inr (Or.inl ⟨ek, rfl, ev.symm⟩)) (Or.inr (Or.inl ⟨w6, k1', rfl, rfl⟩)))⟩
        · rw [sI_k (by decide)]; exact x25 _
        · rw [sI_k (by decide)]; exact x26 _
      · rw [k2]
        have k1' : knd (wC b p e) = nI i := k1
        have ni : ∀ j, j < 21 → ¬ nI j = -1 := by decide +kernel
        rw [k1', if_neg (ni i k0)] at ek
        exact ⟨fun z => absurd z (ni _ (pm_b i k0).1), fun _ => put 0 _ (by decide) (Or.inl ⟨i, k0, ek, rfl, rfl⟩) (Or.inr (Or.inr ⟨w6, i, k0, k1', rfl, rfl⟩))⟩
  · have I := in_m I0 f e25 (by omega)
    have hl := t4 (p + i) (by omega) (by omega)
    refine bX10_token_64 _ (m_hereS I (fun w w2 => ⟨fun z => absurd z (by decide), fun _ => ?_⟩) (fun z => by rcases z with z | z; exact absurd z (by omega); exact absurd hl z))
    rw [e25, nI_1]
    exact ih (by omega) _ (fm_s f (by omega)) sI_s ((sI_k (by decide)).trans e26)
end MT2
