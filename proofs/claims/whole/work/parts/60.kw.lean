/-! ===== words: the class's and the reference's ===== -/
def pm (i : Nat) : Nat := if i = 11 then 13 else if i = 13 then 11 else i
def tN (j : Nat) : Nat := (tS j).toNatClampNeg
theorem tN_e : ∀ j, j < 97 → tS j = nI (tN j) ∧ tN j < 256 := by decide +kernel
theorem pm_b : ∀ i, i < 21 → pm i < 21 ∧ pm (pm i) = i := by decide +kernel
theorem wd_pm : ∀ m, m < 21 → cN (fun j => tN (wo m + j)) (wl m) * 32 ^ (6 - wl m) = wdC (pm m) := by decide +kernel
theorem tN_l : ∀ m, m < 21 → ∀ j, j < 5 → j < wl m → 97 ≤ tN (wo m + j) ∧ tN (wo m + j) ≤ 122 := by decide +kernel
theorem wd_inj : ∀ i, i < 21 → ∀ k, k < 21 → wdC i = wdC k → i = k := by decide +kernel
theorem wd_b : ∀ i, i < 21 → wdC i < 2 ^ 31 := by decide +kernel
def xd (f : Nat → Nat) (L j : Nat) : Nat := if j < L then f j - 96 else 0
theorem cN_D {f : Nat → Nat} {L : Nat} (hL : L ≤ 6) : cN f L * 32 ^ (6 - L) = xd f L 0 * 33554432 + xd f L 1 * 1048576 + xd f L 2 * 32768 + xd f L 3 * 1024 + xd f L 4 * 32 + xd f L 5 := by
  have : L = 0 ∨ L = 1 ∨ L = 2 ∨ L = 3 ∨ L = 4 ∨ L = 5 ∨ L = 6 := by omega
  rcases this with rfl | rfl | rfl | rfl | rfl | rfl | rfl
  · show 0 * 1073741824 = 0 * 33554432 + 0 * 1048576 + 0 * 32768 + 0 * 1024 + 0 * 32 + 0
    omega
  · show (32 * 0 + (f 0 - 96)) * 33554432 = (f 0 - 96) * 33554432 + 0 * 1048576 + 0 * 32768 + 0 * 1024 + 0 * 32 + 0
    omega
  · show (32 * (32 * 0 + (f 0 - 96)) + (f 1 - 96)) * 1048576 = (f 0 - 96) * 33554432 + (f 1 - 96) * 1048576 + 0 * 32768 + 0 * 1024 + 0 * 32 + 0
    omega
  · show (32 * (32 * (32 * 0 + (f 0 - 96)) + (f 1 - 96)) + (f 2 - 96)) * 32768 = (f 0 - 96) * 33554432 + (f 1 - 96) * 1048576 + (f 2 - 96) * 32768 + 0 * 1024 + 0 * 32 + 0
    omega
  · show (32 * (32 * (32 * (32 * 0 + (f 0 - 96)) + (f 1 - 96)) + (f 2 - 96)) + (f 3 - 96)) * 1024 = (f 0 - 96) * 33554432 + (f 1 - 96) * 1048576 + (f 2 - 96) * 32768 + (f 3 - 96) * 1024 + 0 * 32 + 0
    omega
  · show (32 * (32 * (32 * (32 * (32 * 0 + (f 0 - 96)) + (f 1 - 96)) + (f 2 - 96)) + (f 3 - 96)) + (f 4 - 96)) * 32 = (f 0 - 96) * 33554432 + (f 1 - 96) * 1048576 + (f 2 - 96) * 32768 + (f 3 - 96) * 1024 + (f 4 - 96) * 32 + 0
    omega
  · show (32 * (32 * (32 * (32 * (32 * (32 * 0 + (f 0 - 96)) + (f 1 - 96)) + (f 2 - 96)) + (f 3 - 96)) + (f 4 - 96)) + (f 5 - 96)) * 1 = (f 0 - 96) * 33554432 + (f 1 - 96) * 1048576 + (f 2 - 96) * 32768 + (f 3 - 96) * 1024 + (f 4 - 96) * 32 + (f 5 - 96)
    omega
theorem xd_lt {f : Nat → Nat} {L : Nat} (hf : ∀ j, j < L → isLt (f j)) (j : Nat) : xd f L j < 32 := by
  unfold xd
  by_cases w : j < L
  · rw [if_pos w]
    obtain ⟨h1, h2⟩ := hf j w
    omega
  · rw [if_neg w]; decide
theorem cN_6 {f g : Nat → Nat} {L M : Nat} (hL : L ≤ 6) (hM : M ≤ 6) (hf : ∀ j, j < L → isLt (f j)) (hg : ∀ j, j < M → isLt (g j)) (h : cN f L * 32 ^ (6 - L) = cN g M * 32 ^ (6 - M)) : L = M ∧ ∀ j, j < L → f j = g j := by
  rw [cN_D hL, cN_D hM] at h
  have all : ∀ j, j < 6 → xd f L j = xd g M j := by
    have a0 := xd_lt hf 0
    have a1 := xd_lt hf 1
    have a2 := xd_lt hf 2
    have a3 := xd_lt hf 3
    have a4 := xd_lt hf 4
    have a5 := xd_lt hf 5
    have b0 := xd_lt hg 0
    have b1 := xd_lt hg 1
    have b2 := xd_lt hg 2
    have b3 := xd_lt hg 3
    have b4 := xd_lt hg 4
    have b5 := xd_lt hg 5
    have c0 : xd f L 0 = xd g M 0 := by omega
    have c1 : xd f L 1 = xd g M 1 := by omega
    have c2 : xd f L 2 = xd g M 2 := by omega
    have c3 : xd f L 3 = xd g M 3 := by omega
    have c4 : xd f L 4 = xd g M 4 := by omega
    have c5 : xd f L 5 = xd g M 5 := by omega
    intro j hj
    have : j = 0 ∨ j = 1 ∨ j = 2 ∨ j = 3 ∨ j = 4 ∨ j = 5 := by omega
    rcases this with rfl | rfl | rfl | rfl | rfl | rfl
    · exact c0
    · exact c1
    · exact c2
    · exact c3
    · exact c4
    · exact c5
  have e : L = M := by
    rcases Nat.lt_trichotomy L M with w | w | w
    · have := all L (by omega)
      unfold xd at this
      rw [if_neg (by omega), if_pos w] at this
      obtain ⟨h1, h2⟩ := hg L w
      omega
    · exact w
    · have := all M (by omega)
      unfold xd at this
      rw [if_pos w, if_neg (by omega)] at this
      obtain ⟨h1, h2⟩ := hf M w
      omega
  subst e
  refine ⟨rfl, fun j hj => ?_⟩
  have := all j (by omega)
  unfold xd at this
  rw [if_pos hj, if_pos hj] at this
  obtain ⟨h1, h2⟩ := hf j hj
  obtain ⟨h3, h4⟩ := hg j hj
  omega
theorem cN_ext {f g : Nat → Nat} : ∀ L, (∀ j, j < L → f j = g j) → cN f L = cN g L
  | 0, _ => rfl
  | L + 1, h => by
    show 32 * cN f L + (f L - 96) = 32 * cN g L + (g L - 96)
    rw [cN_ext L (fun j hj => h j (by omega)), h L (by omega)]
theorem fd_res {F : Nat → Int32} {x : Int32} : ∀ k i, (fdS F x i k = -1 ∧ ∀ j, i ≤ j → j < i + k → ¬ F j = x) ∨ ∃ j, i ≤ j ∧ j < i + k ∧ F j = x ∧ fdS F x i k = nI j
  | 0, i => Or.inl ⟨rfl, fun j h1 h2 => absurd h2 (by omega)⟩
  | k + 1, i => by
    by_cases w : F i = x
    · exact Or.inr ⟨i, Nat.le_refl _, by omega, w, if_pos w⟩
    · have e : fdS F x i (k + 1) = fdS F x (i + 1) k := if_neg w
      rw [e]
      rcases fd_res (F := F) (x := x) k (i + 1) with ⟨h1, h2⟩ | ⟨j, h1, h2, h3, h4⟩
      · refine Or.inl ⟨h1, fun j j1 j2 => ?_⟩
        by_cases w2 : j = i
        · subst w2; exact w
        · exact h2 j (by omega) (by omega)
      · exact Or.inr ⟨j, by omega, by omega, h3, h4⟩
theorem wx_res {g : Nat → Int32} {L : Nat} : ∀ k i, (wxS g L i k = -1 ∧ ∀ j, i ≤ j → j < i + k → ¬ mtW g L j) ∨ ∃ j, i ≤ j ∧ j < i + k ∧ mtW g L j ∧ wxS g L i k = nI j
  | 0, i => Or.inl ⟨rfl, fun j h1 h2 => absurd h2 (by omega)⟩
  | k + 1, i => by
    by_cases w : mtW g L i
    · exact Or.inr ⟨i, Nat.le_refl _, by omega, w, if_pos w⟩
    · have e : wxS g L i (k + 1) = wxS g L (i + 1) k := if_neg w
      rw [e]
      rcases wx_res (g := g) (L := L) k (i + 1) with ⟨h1, h2⟩ | ⟨j, h1, h2, h3, h4⟩
      · refine Or.inl ⟨h1, fun j j1 j2 => ?_⟩
        by_cases w2 : j = i
        · subst w2; exact w
        · exact h2 j (by omega) (by omega)
      · exact Or.inr ⟨j, by omega, by omega, h3, h4⟩
theorem kw_iff {f : Nat → Nat} {L m : Nat} (hm : m < 21) (hL : L ≤ 6) (hf : ∀ j, j < L → isLt (f j)) : cN f L * 32 ^ (6 - L) = wdC (pm m) ↔ mtW (fun j => nI (f j)) L m := by
  obtain ⟨b1, b2, -⟩ := wo_b m hm
  constructor
  · intro h
    rw [← wd_pm m hm] at h
    obtain ⟨e1, e2⟩ := cN_6 hL (by omega) hf (fun j hj => tN_l m hm j (by omega) hj) h
    refine ⟨e1, fun j hj => ?_⟩
    show nI (f j) = _
    rw [e2 j hj, ← (tN_e _ (by omega)).1]
  · rintro ⟨h1, h2⟩
    rw [← wd_pm m hm, ← h1]
    congr 1
    refine cN_ext L (fun j hj => ?_)
    have h3 := h2 j hj
    have t := tN_e (wo m + j) (by omega)
    rw [t.1] at h3
    obtain ⟨l1, l2⟩ := hf j hj
    exact (nI_eq (by omega) (by omega)).mp h3
/-- both sides find the same word, or none -/
theorem kw_res {f : Nat → Nat} {L : Nat} (hL : L ≤ 6) (hf : ∀ j, j < L → isLt (f j)) : (knd (cN f L * 32 ^ (6 - L)) = -1 ∧ wxS (fun j => nI (f j)) L 0 21 = -1) ∨ ∃ i, i < 21 ∧ knd (cN f L * 32 ^ (6 - L)) = nI i ∧ wxS (fun j => nI (f j)) L 0 21 = nI (pm i) := by
  have hC : cN f L * 32 ^ (6 - L) < 2 ^ 31 := by
    rw [cN_D hL]
    have a0 := xd_lt hf 0
    have a1 := xd_lt hf 1
    have a2 := xd_lt hf 2
    have a3 := xd_lt hf 3
    have a4 := xd_lt hf 4
    have a5 := xd_lt hf 5
    omega
  unfold knd
  rcases fd_res (F := fun k => nI (wdC k)) (x := nI (cN f L * 32 ^ (6 - L))) 21 0 with ⟨h1, h2⟩ | ⟨i, h0, h1, h2, h3⟩
  · refine Or.inl ⟨h1, ?_⟩
    rcases wx_res (g := fun j => nI (f j)) (L := L) 21 0 with ⟨h3, -⟩ | ⟨m, -, m1, m2, -⟩
    · exact h3
    · have := (kw_iff (by omega) hL hf).mpr m2
      exact absurd (by show nI (wdC (pm m)) = _; rw [this]) (h2 (pm m) (Nat.zero_le _) (pm_b m (by omega)).1)
  · have ec : wdC i = cN f L * 32 ^ (6 - L) := (nI_eq (wd_b i (by omega)) hC).mp h2
    refine Or.inr ⟨i, by omega, h3, ?_⟩
    have hp := pm_b i (by omega)
    have hm := (kw_iff hp.1 hL hf).mp (by rw [hp.2]; exact ec.symm)
    rcases wx_res (g := fun j => nI (f j)) (L := L) 21 0 with ⟨h4, h5⟩ | ⟨m, -, m1, m2, m3⟩
    · exact absurd hm (h5 (pm i) (Nat.zero_le _) hp.1)
    · have := (kw_iff (by omega) hL hf).mpr m2
      have hq := pm_b m (by omega)
      have e : pm m = i := wd_inj _ hq.1 _ (by omega) (by rw [← this, ec])
      rw [m3, ← e, hq.2]
theorem wx_long {g : Nat → Int32} {L : Nat} (hL : 6 < L) : wxS g L 0 21 = -1 := by
  rcases wx_res (g := g) (L := L) 21 0 with ⟨h, -⟩ | ⟨m, -, m1, m2, -⟩
  · exact h
  · have := (wo_b m (by omega)).1
    have := m2.1
    omega
