/-! ===== bits, and that a world's table stays well formed ===== -/
theorem n_and (a b : Nat) : nI a &&& nI b = nI (a &&& b) := by
  apply Int32.toBitVec_inj.mp
  rw [Int32.toBitVec_and]
  show BitVec.ofNat 32 a &&& BitVec.ofNat 32 b = BitVec.ofNat 32 (a &&& b)
  rw [BitVec.ofNat_and]
theorem n_or (a b : Nat) : nI a ||| nI b = nI (a ||| b) := by
  apply Int32.toBitVec_inj.mp
  rw [Int32.toBitVec_or]
  show BitVec.ofNat 32 a ||| BitVec.ofNat 32 b = BitVec.ofNat 32 (a ||| b)
  rw [BitVec.ofNat_or]
theorem n_of (y : Int32) : ∃ n, n < 2 ^ 32 ∧ y = nI n := by
  refine ⟨y.toBitVec.toNat, y.toBitVec.isLt, ?_⟩
  apply Int32.toBitVec_inj.mp
  show y.toBitVec = BitVec.ofNat 32 y.toBitVec.toNat
  rw [BitVec.ofNat_toNat, BitVec.setWidth_eq]
theorem n_andL (a : Nat) (y : Int32) : ∃ k, k ≤ a ∧ nI a &&& y = nI k := by
  obtain ⟨n, -, rfl⟩ := n_of y
  exact ⟨a &&& n, Nat.and_le_left, n_and a n⟩
theorem n_one : ∀ e, e < 32 → ((1 : Int32) <<< (nI e &&& 31)) = nI (2 ^ e) := by decide +kernel
theorem bt_nI (n i : Nat) (hi : i < 32) : bt (nI n) i = n.testBit i := by
  show (BitVec.ofNat 32 n).getLsbD i = n.testBit i
  rw [BitVec.getLsbD_ofNat]
  simp [hi]
def ix (x : Int32) : Nat := x.toNatClampNeg
theorem ix_nI {n : Nat} (h : n < 2 ^ 31) : ix (nI n) = n := nI_clamp h
/-- a world's table, of D debts, m men, t elephants, well formed -/
def WFw (m t D : Nat) (ω : wT) : Prop := m ≤ 6 ∧ t ≤ 6 ∧ D ≤ 8 ∧ ω 0 11 = nI D ∧ (∃ a, a < 2 ^ t ∧ ω 0 12 = nI a) ∧ ∀ i, i < D → (∃ a, a < m ∧ ω 3 i = nI a) ∧ (∃ b, b < m ∧ ω 4 i = nI b) ∧ (∃ e, e < t ∧ ω 6 i = nI e) ∧ ∃ k, k < 2 ^ t ∧ ω 11 i = nI k
theorem wf_u {m t D : Nat} {ω : wT} (h : WFw m t D ω) {j k : Nat} {v : Int32} (h0 : j ≠ 0) (h3 : j ≠ 3) (h4 : j ≠ 4) (h6 : j ≠ 6) (h11 : j ≠ 11) : WFw m t D (u2 ω j k v) := by
  refine ⟨h.1, h.2.1, h.2.2.1, ?_, ?_, fun i hi => ?_⟩
  · rw [u2_j h0.symm]; exact h.2.2.2.1
  · rw [u2_j h0.symm]; exact h.2.2.2.2.1
  · rw [u2_j h3.symm, u2_j h4.symm, u2_j h6.symm, u2_j h11.symm]; exact h.2.2.2.2.2 i hi
theorem wf_u0 {m t D : Nat} {ω : wT} (h : WFw m t D ω) {k : Nat} {v : Int32} (h1 : k ≠ 11) (h2 : k ≠ 12) : WFw m t D (u2 ω 0 k v) := by
  refine ⟨h.1, h.2.1, h.2.2.1, ?_, ?_, fun i hi => ?_⟩
  · rw [u2_k h1.symm]; exact h.2.2.2.1
  · rw [u2_k h2.symm]; exact h.2.2.2.2.1
  · rw [u2_j (by decide), u2_j (by decide), u2_j (by decide), u2_j (by decide)]; exact h.2.2.2.2.2 i hi
theorem wf_u12 {m t D : Nat} {ω : wT} (h : WFw m t D ω) {v : Int32} (hv : ∃ a, a < 2 ^ t ∧ v = nI a) : WFw m t D (u2 ω 0 12 v) := by
  refine ⟨h.1, h.2.1, h.2.2.1, ?_, ?_, fun i hi => ?_⟩
  · rw [u2_k (by decide)]; exact h.2.2.2.1
  · rw [u2_s]; exact hv
  · rw [u2_j (by decide), u2_j (by decide), u2_j (by decide), u2_j (by decide)]; exact h.2.2.2.2.2 i hi
theorem wf_u11 {m t D : Nat} {ω : wT} (h : WFw m t D ω) {k : Nat} {v : Int32} (hv : k < D → ∃ a, a < 2 ^ t ∧ v = nI a) : WFw m t D (u2 ω 11 k v) := by
  refine ⟨h.1, h.2.1, h.2.2.1, ?_, ?_, fun i hi => ?_⟩
  · rw [u2_j (by decide)]; exact h.2.2.2.1
  · rw [u2_j (by decide)]; exact h.2.2.2.2.1
  · rw [u2_j (by decide), u2_j (by decide), u2_j (by decide)]
    refine ⟨(h.2.2.2.2.2 i hi).1, (h.2.2.2.2.2 i hi).2.1, (h.2.2.2.2.2 i hi).2.2.1, ?_⟩
    by_cases e : i = k
    · subst e; rw [u2_s]; exact hv hi
    · rw [u2_k e]; exact (h.2.2.2.2.2 i hi).2.2.2
theorem wf_end {m t D : Nat} {ω : wT} (h : WFw m t D ω) {i : Nat} {how : Int32} : WFw m t D (endW ω i how) := by
  refine wf_u11 (wf_u (wf_u h ?_ ?_ ?_ ?_ ?_) ?_ ?_ ?_ ?_ ?_) (fun _ => ⟨0, Nat.two_pow_pos t, rfl⟩) <;> decide
theorem wf_settle {m t D : Nat} {ω : wT} (h : WFw m t D ω) {i a b : Nat} : WFw m t D (settleW ω i a b) := by
  refine wf_end (wf_u (wf_u h ?_ ?_ ?_ ?_ ?_) ?_ ?_ ?_ ?_ ?_) <;> decide
theorem wf_open {m t D : Nat} {ω : wT} (h : WFw m t D ω) {i a b : Nat} {buns deaf : Int32} : WFw m t D (openW ω i a b buns deaf) := by
  have hv : i < D → ∃ q, q < 2 ^ t ∧ ((1 : Int32) <<< ((ω 6 i) &&& 31)) &&& (deaf ^^^ (-1)) = nI q := by
    intro hi
    obtain ⟨e, he, e6⟩ := (h.2.2.2.2.2 i hi).2.2.1
    have ht := h.2.1
    rw [e6, n_one e (by omega)]
    obtain ⟨k, hk, e9⟩ := n_andL (2 ^ e) (deaf ^^^ (-1))
    exact ⟨k, Nat.lt_of_le_of_lt hk (Nat.pow_lt_pow_right (by decide) he), e9⟩
  exact wf_u11 (wf_u (wf_u (wf_u (wf_u (wf_u h (by decide) (by decide) (by decide) (by decide) (by decide)) (by decide) (by decide) (by decide) (by decide) (by decide)) (by decide) (by decide) (by decide) (by decide) (by decide)) (by decide) (by decide) (by decide) (by decide) (by decide)) (by decide) (by decide) (by decide) (by decide) (by decide)) hv
theorem fg_at (b : Int32) : ∀ n (ω : wT) (j k : Nat), itR (fun i ω => u2 ω 11 i (ω 11 i &&& (b ^^^ (-1)))) n ω j k = if j = 11 ∧ k < n then ω 11 k &&& (b ^^^ (-1)) else ω j k := by
  intro n
  induction n with
  | zero => intro ω j k; show ω j k = _; rw [if_neg (fun q => Nat.not_lt_zero _ q.2)]
  | succ n ih =>
    intro ω j k
    show (if j = 11 ∧ k = n then (itR (fun i ω => u2 ω 11 i (ω 11 i &&& (b ^^^ (-1)))) n ω 11 n &&& (b ^^^ (-1))) else itR (fun i ω => u2 ω 11 i (ω 11 i &&& (b ^^^ (-1)))) n ω j k) = _
    rw [ih, ih]
    by_cases hj : j = 11
    · by_cases hk : k = n
      · rw [if_pos ⟨hj, hk⟩, if_neg (fun q => Nat.lt_irrefl _ q.2), if_pos ⟨hj, by omega⟩, hk]
      · rw [if_neg (fun q => hk q.2)]
        by_cases h2 : k < n
        · rw [if_pos ⟨hj, h2⟩, if_pos ⟨hj, by omega⟩]
        · rw [if_neg (fun q => h2 q.2), if_neg (fun q => h2 (by omega))]
    · rw [if_neg (fun q => hj q.1), if_neg (fun q => hj q.1), if_neg (fun q => hj q.1)]
theorem fgW_at (ω : wT) (b : Int32) (j k : Nat) : fgW ω b j k = if j = 11 ∧ k < 14 then ω 11 k &&& (b ^^^ (-1)) else ω j k := fg_at b 14 ω j k
theorem fgW_off {ω : wT} {b : Int32} {j k : Nat} (h : j ≠ 11) : fgW ω b j k = ω j k := by rw [fgW_at, if_neg (fun q => h q.1)]
theorem wf_fg {m t D : Nat} {ω : wT} (h : WFw m t D ω) {b : Int32} : WFw m t D (fgW ω b) := by
  refine ⟨h.1, h.2.1, h.2.2.1, ?_, ?_, fun i hi => ?_⟩
  · rw [fgW_off (by decide)]; exact h.2.2.2.1
  · rw [fgW_off (by decide)]; exact h.2.2.2.2.1
  · rw [fgW_off (by decide), fgW_off (by decide), fgW_off (by decide), fgW_at, if_pos ⟨rfl, by have := h.2.2.1; omega⟩]
    obtain ⟨k, hk, e⟩ := (h.2.2.2.2.2 i hi).2.2.2
    obtain ⟨k2, hk2, e2⟩ := n_andL k (b ^^^ (-1))
    exact ⟨(h.2.2.2.2.2 i hi).1, (h.2.2.2.2.2 i hi).2.1, (h.2.2.2.2.2 i hi).2.2.1, k2, by omega, by rw [e]; exact e2⟩
theorem wf_bury {m t D : Nat} {ω : wT} (h : WFw m t D ω) {x : Int32} : WFw m t D (buryW ω x) := by
  refine wf_fg (wf_u12 h ?_)
  obtain ⟨a, ha, e⟩ := h.2.2.2.2.1
  obtain ⟨k, hk, e2⟩ := n_andL a (((1 : Int32) <<< (x &&& 31)) ^^^ (-1))
  exact ⟨k, by omega, by rw [e]; exact e2⟩
theorem wf_it {m t D : Nat} {f : Nat → wT → wT} (hf : ∀ i ω, WFw m t D ω → WFw m t D (f i ω)) : ∀ n {ω : wT}, WFw m t D ω → WFw m t D (itR f n ω)
  | 0, _, h => h
  | n + 1, _, h => hf n _ (wf_it hf n h)
/-- how many bits -/
def bcS (x : Int32) : Int32 := itR (fun k n => n + ((x >>> (nI k &&& 31)) &&& 1)) 10 0
def bcJ (x0 : Int32) : Int32 :=
  let t1 := x0 - ((x0.toUInt32 >>> ((1 : Int32).toUInt32 &&& Int32.toUInt32 31)).toInt32 &&& (1431655765 : Int32))
  let t2 := (t1 &&& (858993459 : Int32)) + ((t1.toUInt32 >>> ((2 : Int32).toUInt32 &&& Int32.toUInt32 31)).toInt32 &&& (858993459 : Int32))
  let t3 := (t2 + (t2.toUInt32 >>> ((4 : Int32).toUInt32 &&& Int32.toUInt32 31)).toInt32) &&& (252645135 : Int32)
  let t4 := t3 + (t3.toUInt32 >>> ((8 : Int32).toUInt32 &&& Int32.toUInt32 31)).toInt32
  let t5 := t4 + (t4.toUInt32 >>> ((16 : Int32).toUInt32 &&& Int32.toUInt32 31)).toInt32
  t5 &&& (63 : Int32)
theorem bc_same : ∀ n, n < 256 → bcJ (nI n) = bcS (nI n) := by decide +kernel
theorem sp_bitCount {G : aG} {l : Launch} {ad : Nat → Nat} {d : Nat} {h : aH} {R : Int32 → aH → Prop} {n : Nat} (hn : n < 256) (H : R (bcS (nI n)) h) : AW G l ad d mJ6_bitCount_0f7a4 0 [(0, .int (nI n))] [] h (qi R) := by
  refine bJ6_bitCount_0f7a4_0 (nI n) h (fun t1 e1 t2 e2 t3 e3 t4 e4 t5 e5 => ?_)
  have e : t5 &&& 63 = bcJ (nI n) := by
    rw [e5, e4, e3, e2, e1]; rfl
  rw [e, bc_same n hn]
  exact H
theorem knBy_lt (ω : wT) (t : Nat) : ∀ D, D ≤ 8 → ∃ k, k < 2 ^ D ∧ knByS ω t D = nI k := by
  intro D
  induction D with
  | zero => intro _; exact ⟨0, by decide, rfl⟩
  | succ D ih =>
    intro hD
    obtain ⟨k, hk, e⟩ := ih (by omega)
    show ∃ k, k < 2 ^ (D + 1) ∧ (knByS ω t D) ||| (((ω 11 D >>> (nI t &&& 31)) &&& 1) <<< (nI D &&& 31)) = nI k
    have h1 : ∃ q, q ≤ 1 ∧ ((ω 11 D >>> (nI t &&& 31)) &&& 1) = nI q := by
      obtain ⟨n, -, en⟩ := n_of (ω 11 D >>> (nI t &&& 31))
      rw [en, show (1 : Int32) = nI 1 from rfl, n_and]
      exact ⟨n &&& 1, Nat.and_le_right, rfl⟩
    obtain ⟨q, hq, eq⟩ := h1
    have h2 : ∃ z, z < 2 ^ (D + 1) ∧ (nI q <<< (nI D &&& 31)) = nI z := by
      have hq2 : q = 0 ∨ q = 1 := by omega
      rcases hq2 with rfl | rfl
      · refine ⟨0, Nat.two_pow_pos _, ?_⟩
        have : ∀ D, D < 9 → (nI 0 <<< (nI D &&& 31)) = nI 0 := by decide +kernel
        exact this D (by omega)
      · exact ⟨2 ^ D, Nat.pow_lt_pow_right (by decide) (by omega), n_one D (by omega)⟩
    obtain ⟨z, hz, ez⟩ := h2
    rw [eq, e, ez, n_or]
    exact ⟨k ||| z, Nat.or_lt_two_pow (Nat.lt_trans hk (Nat.pow_lt_pow_right (by decide) (by omega))) hz, rfl⟩
