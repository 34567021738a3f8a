/-! ===== tokens of a text ===== -/
theorem shl_nI {a s : Nat} (hs : s < 32) : nI a <<< (nI s &&& 31) = nI (a * 2 ^ s) := by
  apply Int32.toBitVec_inj.mp
  rw [Int32.toBitVec_shiftLeft, BitVec.shiftLeft_eq', nI31 s hs]
  apply BitVec.eq_of_toNat_eq
  rw [BitVec.toNat_shiftLeft, Nat.shiftLeft_eq]
  show (BitVec.ofNat 32 a).toNat * 2 ^ s % 2 ^ 32 = (BitVec.ofNat 32 (a * 2 ^ s)).toNat
  rw [BitVec.toNat_ofNat, BitVec.toNat_ofNat, Nat.mul_mod, Nat.mod_mod, ← Nat.mul_mod]
theorem or_nI {a c : Nat} (hc : c < 32) (h : 32 * a + c < 2 ^ 32) : nI (32 * a) ||| nI c = nI (32 * a + c) := by
  apply Int32.toBitVec_inj.mp
  rw [Int32.toBitVec_or]
  apply BitVec.eq_of_toNat_eq
  rw [BitVec.toNat_or]
  show (BitVec.ofNat 32 (32 * a)).toNat ||| (BitVec.ofNat 32 c).toNat = (BitVec.ofNat 32 (32 * a + c)).toNat
  rw [BitVec.toNat_ofNat, BitVec.toNat_ofNat, BitVec.toNat_ofNat, Nat.mod_eq_of_lt (show 32 * a < 2 ^ 32 by omega), Nat.mod_eq_of_lt (show c < 2 ^ 32 by omega), Nat.mod_eq_of_lt h]
  exact (Nat.two_pow_add_eq_or_of_lt (i := 5) hc a).symm
theorem sh5 {a c : Nat} (hc : c < 32) (h : 32 * a + c < 2 ^ 32) : (nI a <<< ((5 : Int32) &&& 31)) ||| nI c = nI (32 * a + c) := by
  have e : nI a <<< ((5 : Int32) &&& 31) = nI (32 * a) := by
    rw [Nat.mul_comm 32 a]; exact shl_nI (s := 5) (by decide)
  rw [e]; exact or_nI hc h
theorem nI_sub' {a b : Nat} (h : b ≤ a) : nI a - nI b = nI (a - b) := by
  have : nI a = nI (a - b) + nI b := by rw [nI_add]; congr 1; omega
  rw [this, Int32.add_sub_cancel]
def isLt (x : Nat) : Prop := 97 ≤ x ∧ x ≤ 122
def isDg (x : Nat) : Prop := 48 ≤ x ∧ x ≤ 57
def isBl (x : Nat) : Prop := x = 10 ∨ x = 32
/-- letters as one number -/
def cN (f : Nat → Nat) : Nat → Nat
  | 0 => 0
  | i + 1 => 32 * cN f i + (f i - 96)
theorem cN_lt {f : Nat → Nat} : ∀ i, (∀ j, j < i → isLt (f j)) → cN f i < 32 ^ i
  | 0, _ => Nat.zero_lt_one
  | i + 1, h => by
    have := cN_lt i (fun j hj => h j (by omega))
    obtain ⟨h1, h2⟩ := h i (by omega)
    show 32 * cN f i + (f i - 96) < 32 ^ i * 32
    omega
/-- digits as a number, as the class has it -/
def vN (f : Nat → Nat) : Nat → Nat
  | 0 => 0
  | i + 1 => if 10 * vN f i + (f i - 48) < 1000000 then 10 * vN f i + (f i - 48) else 1000000
theorem vN_le {f : Nat → Nat} : ∀ i, vN f i ≤ 1000000
  | 0 => Nat.zero_le _
  | i + 1 => by
    show (if 10 * vN f i + (f i - 48) < 1000000 then 10 * vN f i + (f i - 48) else 1000000) ≤ 1000000
    by_cases w : 10 * vN f i + (f i - 48) < 1000000
    · rw [if_pos w]; omega
    · rw [if_neg w]; exact Nat.le_refl _
def knd (c : Nat) : Int32 := fdS (fun k => nI (wdC k)) (nI c) 0 21
def pkS (x y : Nat) : Int32 := if x = 60 ∧ y = 61 then 29 else if x = 60 ∧ y = 62 then 31 else if x = 62 ∧ y = 61 then 32 else 37
def sgS (x : Nat) : Int32 := if x = 40 then 22 else if x = 41 then 23 else if x = 42 then 26 else if x = 43 then 24 else if x = 45 then 25 else if x = 47 then 27 else if x = 59 then 21 else if x = 60 then 28 else if x = 61 then 30 else if x = 62 then 33 else 37
def wC (b : Nat → Nat) (p e : Nat) : Nat := cN (fun j => b (p + j)) (e - p) * 32 ^ (6 - (e - p))
def tkW (b : Nat → Nat) (n p e : Nat) (k v : Int32) : Prop := isLt (b p) ∧ p < e ∧ e ≤ n ∧ (∀ j, p ≤ j → j < e → isLt (b j)) ∧ (e = n ∨ ¬ isLt (b e)) ∧ ((6 < e - p ∧ k = 37 ∧ v = 0) ∨ (e - p ≤ 6 ∧ v = nI (wC b p e) ∧ k = if knd (wC b p e) = -1 then 35 else knd (wC b p e)))
def tkN (b : Nat → Nat) (n p e : Nat) (k v : Int32) : Prop := isDg (b p) ∧ p < e ∧ e ≤ n ∧ (∀ j, p ≤ j → j < e → isDg (b j)) ∧ (e = n ∨ ¬ isDg (b e)) ∧ k = 34 ∧ v = nI (vN (fun j => b (p + j)) (e - p))
def nxB (b : Nat → Nat) (n p : Nat) : Nat := if p + 1 < n then b (p + 1) else 0
def tkS (b : Nat → Nat) (n p e : Nat) (k v : Int32) : Prop := ¬ isLt (b p) ∧ ¬ isDg (b p) ∧ ¬ isBl (b p) ∧ v = 0 ∧ ((¬ pkS (b p) (nxB b n p) = 37 ∧ k = pkS (b p) (nxB b n p) ∧ e = p + 2) ∨ (pkS (b p) (nxB b n p) = 37 ∧ k = sgS (b p) ∧ e = p + 1))
def tkB (b : Nat → Nat) (n p e : Nat) (k v : Int32) : Prop := p < n ∧ (tkW b n p e k v ∨ tkN b n p e k v ∨ tkS b n p e k v)
/-- from q on: blanks up to p, there a token up to e, of that kind and value -/
def Tok (b : Nat → Nat) (n q p e : Nat) (k v : Int32) : Prop := q ≤ p ∧ p ≤ n ∧ (∀ j, q ≤ j → j < p → isBl (b j)) ∧ ((p = n ∧ e = n ∧ k = 36 ∧ v = 0) ∨ tkB b n p e k v)
theorem tk_e {b : Nat → Nat} {n p e : Nat} {k v : Int32} (h : tkB b n p e k v) : p < e ∧ e ≤ n := by
  obtain ⟨h0, h | h | h⟩ := h
  · exact ⟨h.2.1, h.2.2.1⟩
  · exact ⟨h.2.1, h.2.2.1⟩
  · obtain ⟨-, -, -, -, ⟨h1, -, h2⟩ | ⟨-, -, h2⟩⟩ := h
    · refine ⟨by omega, ?_⟩
      rcases Nat.lt_or_ge (p + 1) n with w | w
      · omega
      · exfalso
        apply h1
        have e0 : nxB b n p = 0 := by unfold nxB; exact if_neg (by omega)
        rw [e0]
        unfold pkS
        rw [if_neg (fun w => absurd w.2 (by decide)), if_neg (fun w => absurd w.2 (by decide)), if_neg (fun w => absurd w.2 (by decide))]
    · omega
/-- the class's list: tokens 0..c-1, from the places E, at the places P -/
def TL (b : Nat → Nat) (n : Nat) (h : aH) (c : Nat) (P E : Nat → Nat) : Prop := E 0 = 0 ∧ ∀ j, j < c → h.1 5 j = nI (P j) ∧ Tok b n (E j) (P j) (E (j + 1)) (h.1 4 j) (h.1 6 j)
def adT (h h' : aH) (c : Nat) (k pl v : Int32) : Prop := h'.2 = h.2 ∧ (∀ a j, a ≠ 4 → a ≠ 5 → a ≠ 6 → (a = 3 → j ≠ 3) → h'.1 a j = h.1 a j) ∧ h'.1 3 3 = nI (c + 1) ∧ (∀ j, h'.1 4 j = if j = c then k else h.1 4 j) ∧ (∀ j, h'.1 5 j = if j = c then pl else h.1 5 j) ∧ ∀ j, h'.1 6 j = if j = c then v else h.1 6 j
theorem tl_add {b : Nat → Nat} {n : Nat} {h h' : aH} {c q p e : Nat} {P E : Nat → Nat} {k v : Int32} (T : TL b n h c P E) (a : adT h h' c k (nI p) v) (hq : E c ≤ q) (hbl : ∀ j, E c ≤ j → j < q → isBl (b j)) (hk : Tok b n q p e k v) : TL b n h' (c + 1) (fun j => if j = c then p else P j) (fun j => if j = c + 1 then e else E j) := by
  obtain ⟨-, -, -, a4, a5, a6⟩ := a
  refine ⟨by show (if 0 = c + 1 then e else E 0) = 0; rw [if_neg (by omega)]; exact T.1, fun j hj => ?_⟩
  show h'.1 5 j = nI (if j = c then p else P j) ∧ Tok b n (if j = c + 1 then e else E j) (if j = c then p else P j) (if j + 1 = c + 1 then e else E (j + 1)) (h'.1 4 j) (h'.1 6 j)
  rw [a4, a5, a6, if_neg (show ¬ j = c + 1 by omega)]
  by_cases w : j = c
  · subst w
    simp only [if_pos rfl]
    refine ⟨rfl, Nat.le_trans hq hk.1, hk.2.1, fun i h1 h2 => ?_, hk.2.2.2⟩
    rcases Nat.lt_or_ge i q with w | w
    · exact hbl i h1 w
    · exact hk.2.2.1 i w h2
  · rw [if_neg w, if_neg w, if_neg w, if_neg w, if_neg (show ¬ j + 1 = c + 1 by omega)]
    exact T.2 j (by omega)
section TK
variable {l : Launch} {ad : Nat → Nat} {d : Nat} {h : aH}
theorem c_tadd {R : aH → Prop} {c : Nat} {k pl v : Int32} (hc : c ≤ 700) (e3 : h.1 3 3 = nI c) (H : ∀ h', adT h h' c k pl v → R h') : AW GC l ad d mX7_add 0 [(0, .ref (ad 3)), (1, .int k), (2, .int pl), (3, .int v)] [] h (qv R) := by
  refine bX7_add_0 _ _ _ _ ?_
  have x1 : (sI h 4 c k).1 3 3 = nI c := (sI_c (by decide)).trans e3
  have x2 : (sI (sI h 4 c k) 5 c pl).1 3 3 = nI c := (sI_c (by decide)).trans x1
  rw [e3, nI_clamp (by omega), x1, nI_clamp (by omega), x2, nI_clamp (by omega)]
  refine ⟨fun z => absurd z (nI_ge (b := 701) (by omega) (by decide)), fun _ => ⟨vp_in_nI (by omega) (by decide), vp_in_nI (by omega) (by decide), vp_in_nI (by omega) (by decide), fun h4 e4 => H _ ?_⟩⟩
  subst e4
  have x3 : (sI (sI (sI h 4 c k) 5 c pl) 6 c v).1 3 3 = nI c := (sI_c (by decide)).trans x2
  rw [x3, nI_1]
  refine ⟨rfl, fun a j h1 h2 h3 h4 => ?_, sI_s, fun j => ?_, fun j => ?_, fun j => ?_⟩
  · by_cases w : a = 3
    · subst w
      rw [sI_k (h4 rfl), sI_c h3, sI_c h2, sI_c h1]
    · rw [sI_c w, sI_c h3, sI_c h2, sI_c h1]
  · rw [sI_c (by decide), sI_c (by decide), sI_c (by decide)]
    by_cases w : j = c
    · subst w; rw [sI_s, if_pos rfl]
    · rw [sI_k w, if_neg w]
  · rw [sI_c (by decide), sI_c (by decide)]
    by_cases w : j = c
    · subst w; rw [sI_s, if_pos rfl]
    · rw [sI_k w, if_neg w, sI_c (by decide)]
  · rw [sI_c (by decide)]
    by_cases w : j = c
    · subst w; rw [sI_s, if_pos rfl]
    · rw [sI_k w, if_neg w, sI_c (by decide), sI_c (by decide)]
theorem c_isL {R : Int32 → aH → Prop} {x : Nat} (hx : x < 256) (H1 : isLt x → R 1 h) (H0 : ¬ isLt x → R 0 h) : AW GC l ad d mX7_isLetter 0 [(0, .int (nI x))] [] h (qi R) := by
  refine bX7_isLetter_0 _ _ ⟨fun z => H0 (fun w => absurd z (nI_nlt (b := 97) w.1 (by omega))), fun z => ⟨fun z2 => H0 (fun w => absurd z2 (nI_nlt (a := 122) w.2 (by omega))), fun z2 => H1 ⟨?_, ?_⟩⟩⟩
  · rcases Nat.lt_or_ge x 97 with w | w
    · exact absurd (nI_lt (b := 97) w (by decide)) z
    · exact w
  · rcases Nat.lt_or_ge 122 x with w | w
    · exact absurd (nI_lt (a := 122) w (by omega)) z2
    · exact w
theorem c_isD {R : Int32 → aH → Prop} {x : Nat} (hx : x < 256) (H1 : isDg x → R 1 h) (H0 : ¬ isDg x → R 0 h) : AW GC l ad d mX7_isDigit 0 [(0, .int (nI x))] [] h (qi R) := by
  refine bX7_isDigit_0 _ _ ⟨fun z => H0 (fun w => absurd z (nI_nlt (b := 48) w.1 (by omega))), fun z => ⟨fun z2 => H0 (fun w => absurd z2 (nI_nlt (a := 57) w.2 (by omega))), fun z2 => H1 ⟨?_, ?_⟩⟩⟩
  · rcases Nat.lt_or_ge x 48 with w | w
    · exact absurd (nI_lt (b := 48) w (by decide)) z
    · exact w
  · rcases Nat.lt_or_ge 57 x with w | w
    · exact absurd (nI_lt (a := 57) w (by omega)) z2
    · exact w
end TK
