/-! ===== laws: what their codes come to ===== -/
abbrev ERR : Int64 := -9223372036854775808
def absL (x : Int64) : Int64 := if 0 ≤ x then x else -x
def b2 (c : Prop) [Decidable c] : Int64 := if c then 1 else 0
def rawO (s : Int32) (a b : Int64) : Option Int64 :=
  if s = 24 then some (a + b) else if s = 25 then some (a - b) else if s = 26 then (if a = 0 then some (a * b) else if absL b ≤ 1000000000000 / absL a then some (a * b) else none)
  else if s = 27 then (if b = 0 then none else some (a / b)) else if s = 12 then some (if a = 0 then 0 else if b = 0 then 0 else 1) else if s = 13 then some (if a = 0 then (if b = 0 then 0 else 1) else 1)
  else if s = 28 then some (if b ≤ a then 0 else 1) else if s = 29 then some (if b < a then 0 else 1) else if s = 30 then some (if a = b then 1 else 0) else if s = 31 then some (if a = b then 0 else 1) else if s = 32 then some (if a < b then 0 else 1) else some (if a ≤ b then 0 else 1)
def limL (v : Int64) : Option Int64 := if 1000000000000 < v then none else if -1000000000000 ≤ v then some v else none
def jvO (s : Int32) (a b : Int64) : Option Int64 := (rawO s a b).bind limL
def oE (o : Option Int64) : Int64 := o.getD ERR
def isBin (s : Int32) : Prop := s = 12 ∨ s = 13 ∨ s = 24 ∨ s = 25 ∨ s = 26 ∨ s = 27 ∨ s = 28 ∨ s = 29 ∨ s = 30 ∨ s = 31 ∨ s = 32 ∨ s = 33
section LV
variable {l : Launch} {ad : Nat → Nat} {d : Nat} {h : aH}
theorem sp_jv325 {R : Int64 → aH → Prop} {v : Int64} (H : R (oE (limL v)) h) : AW GC l ad d mX1_joinedValue 325 [(5, .long v)] [] h (ql R) := by
  refine bX1_joinedValue_325 v h ?_
  unfold limL at H
  refine ⟨fun h1 => ?_, fun h1 => ⟨fun h2 => ?_, fun h2 => ?_⟩⟩
  · rw [if_pos h1] at H; exact H
  · rw [if_neg h1, if_pos h2] at H; exact H
  · rw [if_neg h1, if_neg h2] at H; exact H
theorem absL0 {a : Int64} (h : ¬ a = 0) : ¬ absL a = 0 := by
  unfold absL
  split
  · exact h
  · intro e
    exact h (by have e2 : -(-a) = -(0 : Int64) := by rw [e]
                rw [Int64.neg_neg] at e2
                exact e2.trans (by decide))
theorem sp_jvMul {R : Int64 → aH → Prop} {a b : Int64} (ha : ¬ a = 0) (H : R (oE ((if absL b ≤ 1000000000000 / absL a then some (a * b) else none).bind limL)) h) : AW GC l ad d mX1_joinedValue 138 [(1, .long a), (3, .long b)] [.long (absL b)] h (ql R) := by
  have K : AW GC l ad d mX1_joinedValue 153 [(1, .long a), (3, .long b)] [.long (absL a), .long 1000000000000, .long (absL b)] h (ql R) := by
    refine bX1_joinedValue_153 a b _ _ _ h ⟨absL0 ha, fun h1 => ?_, fun h1 => ?_⟩
    · rw [if_pos h1] at H
      exact bX1_joinedValue_162 a b h (sp_jv325 H)
    · rw [if_neg h1] at H
      exact H
  refine bX1_joinedValue_138 a b _ h ⟨fun h1 => ?_, fun h1 => ?_⟩
  · have e : absL a = a := if_pos h1
    rw [e] at K; exact K
  · have e : absL a = -a := if_neg h1
    rw [e] at K; exact K
theorem sp_jv12 {R : Int64 → aH → Prop} {a b : Int64} (H : R (oE (jvO 12 a b)) h) : AW GC l ad d mX1_joinedValue 0 [(0, .int 12), (1, .long a), (3, .long b)] [] h (ql R) := by
  refine bX1_joinedValue_0 _ a b h ⟨fun _ => ⟨fun h1 => ?_, fun h1 => ⟨fun h2 => ?_, fun h2 => ?_⟩⟩, fun e => absurd e (by decide), fun e => absurd e (by decide), fun e => absurd e (by decide), fun e => absurd e (by decide), fun e => absurd e (by decide), fun e => absurd e (by decide), fun e => absurd e (by decide), fun e => absurd e (by decide), fun e => absurd e (by decide), fun e => absurd e (by decide), fun e => absurd e (by decide), fun e => absurd e (by decide), fun e => absurd e (by decide), fun e => absurd e (by decide), fun e => absurd e (by decide), fun e => absurd e (by decide), fun e => absurd e (by decide), fun e => absurd e (by decide), fun e => absurd e (by decide), fun e => absurd e (by decide), fun e12 e13 e14 e15 e16 e17 e18 e19 e20 e21 e22 e23 e24 e25 e26 e27 e28 e29 e30 e31 e32 => absurd rfl e12⟩
  · have H : R (oE (limL (if a = 0 then 0 else if b = 0 then 0 else 1))) h := H
    rw [if_pos h1] at H; exact bX1_joinedValue_204 h (bX1_joinedValue_205 _ h (sp_jv325 H))
  · have H : R (oE (limL (if a = 0 then 0 else if b = 0 then 0 else 1))) h := H
    rw [if_neg h1, if_pos h2] at H; exact bX1_joinedValue_204 h (bX1_joinedValue_205 _ h (sp_jv325 H))
  · have H : R (oE (limL (if a = 0 then 0 else if b = 0 then 0 else 1))) h := H
    rw [if_neg h1, if_neg h2] at H; exact bX1_joinedValue_205 _ h (sp_jv325 H)
theorem sp_jv13 {R : Int64 → aH → Prop} {a b : Int64} (H : R (oE (jvO 13 a b)) h) : AW GC l ad d mX1_joinedValue 0 [(0, .int 13), (1, .long a), (3, .long b)] [] h (ql R) := by
  refine bX1_joinedValue_0 _ a b h ⟨fun e => absurd e (by decide), fun _ => ⟨fun h1 => ?_, fun h1 => ⟨fun h2 => ?_, fun h2 => ?_⟩⟩, fun e => absurd e (by decide), fun e => absurd e (by decide), fun e => absurd e (by decide), fun e => absurd e (by decide), fun e => absurd e (by decide), fun e => absurd e (by decide), fun e => absurd e (by decide), fun e => absurd e (by decide), fun e => absurd e (by decide), fun e => absurd e (by decide), fun e => absurd e (by decide), fun e => absurd e (by decide), fun e => absurd e (by decide), fun e => absurd e (by decide), fun e => absurd e (by decide), fun e => absurd e (by decide), fun e => absurd e (by decide), fun e => absurd e (by decide), fun e => absurd e (by decide), fun e12 e13 e14 e15 e16 e17 e18 e19 e20 e21 e22 e23 e24 e25 e26 e27 e28 e29 e30 e31 e32 => absurd rfl e13⟩
  · have H : R (oE (limL (if a = 0 then (if b = 0 then 0 else 1) else 1))) h := H
    rw [if_neg h1] at H; exact bX1_joinedValue_222 h (bX1_joinedValue_227 _ h (sp_jv325 H))
  · have H : R (oE (limL (if a = 0 then (if b = 0 then 0 else 1) else 1))) h := H
    rw [if_pos h1, if_pos h2] at H; exact bX1_joinedValue_227 _ h (sp_jv325 H)
  · have H : R (oE (limL (if a = 0 then (if b = 0 then 0 else 1) else 1))) h := H
    rw [if_pos h1, if_neg h2] at H; exact bX1_joinedValue_222 h (bX1_joinedValue_227 _ h (sp_jv325 H))
theorem sp_jv24 {R : Int64 → aH → Prop} {a b : Int64} (H : R (oE (jvO 24 a b)) h) : AW GC l ad d mX1_joinedValue 0 [(0, .int 24), (1, .long a), (3, .long b)] [] h (ql R) := by
  refine bX1_joinedValue_0 _ a b h ⟨fun e => absurd e (by decide), fun e => absurd e (by decide), fun e => absurd e (by decide), fun e => absurd e (by decide), fun e => absurd e (by decide), fun e => absurd e (by decide), fun e => absurd e (by decide), fun e => absurd e (by decide), fun e => absurd e (by decide), fun e => absurd e (by decide), fun e => absurd e (by decide), fun e => absurd e (by decide), fun _ => ?_, fun e => absurd e (by decide), fun e => absurd e (by decide), fun e => absurd e (by decide), fun e => absurd e (by decide), fun e => absurd e (by decide), fun e => absurd e (by decide), fun e => absurd e (by decide), fun e => absurd e (by decide), fun e12 e13 e14 e15 e16 e17 e18 e19 e20 e21 e22 e23 e24 e25 e26 e27 e28 e29 e30 e31 e32 => absurd rfl e24⟩
  · exact sp_jv325 H
theorem sp_jv25 {R : Int64 → aH → Prop} {a b : Int64} (H : R (oE (jvO 25 a b)) h) : AW GC l ad d mX1_joinedValue 0 [(0, .int 25), (1, .long a), (3, .long b)] [] h (ql R) := by
  refine bX1_joinedValue_0 _ a b h ⟨fun e => absurd e (by decide), fun e => absurd e (by decide), fun e => absurd e (by decide), fun e => absurd e (by decide), fun e => absurd e (by decide), fun e => absurd e (by decide), fun e => absurd e (by decide), fun e => absurd e (by decide), fun e => absurd e (by decide), fun e => absurd e (by decide), fun e => absurd e (by decide), fun e => absurd e (by decide), fun e => absurd e (by decide), fun _ => ?_, fun e => absurd e (by decide), fun e => absurd e (by decide), fun e => absurd e (by decide), fun e => absurd e (by decide), fun e => absurd e (by decide), fun e => absurd e (by decide), fun e => absurd e (by decide), fun e12 e13 e14 e15 e16 e17 e18 e19 e20 e21 e22 e23 e24 e25 e26 e27 e28 e29 e30 e31 e32 => absurd rfl e25⟩
  · exact sp_jv325 H
theorem sp_jv26 {R : Int64 → aH → Prop} {a b : Int64} (H : R (oE (jvO 26 a b)) h) : AW GC l ad d mX1_joinedValue 0 [(0, .int 26), (1, .long a), (3, .long b)] [] h (ql R) := by
  refine bX1_joinedValue_0 _ a b h ⟨fun e => absurd e (by decide), fun e => absurd e (by decide), fun e => absurd e (by decide), fun e => absurd e (by decide), fun e => absurd e (by decide), fun e => absurd e (by decide), fun e => absurd e (by decide), fun e => absurd e (by decide), fun e => absurd e (by decide), fun e => absurd e (by decide), fun e => absurd e (by decide), fun e => absurd e (by decide), fun e => absurd e (by decide), fun e => absurd e (by decide), fun _ => ⟨fun h1 => ?_, fun h1 => ⟨fun h2 => ?_, fun h2 => ?_⟩⟩, fun e => absurd e (by decide), fun e => absurd e (by decide), fun e => absurd e (by decide), fun e => absurd e (by decide), fun e => absurd e (by decide), fun e => absurd e (by decide), fun e12 e13 e14 e15 e16 e17 e18 e19 e20 e21 e22 e23 e24 e25 e26 e27 e28 e29 e30 e31 e32 => absurd rfl e26⟩
  · have H : R (oE ((if a = 0 then some (a * b) else if absL b ≤ 1000000000000 / absL a then some (a * b) else none).bind limL)) h := H
    rw [if_pos h1] at H; exact bX1_joinedValue_162 a b h (sp_jv325 H)
  · have H : R (oE ((if a = 0 then some (a * b) else if absL b ≤ 1000000000000 / absL a then some (a * b) else none).bind limL)) h := H
    rw [if_neg h1] at H
    have K := sp_jvMul (l := l) (ad := ad) (d := d) h1 H
    rw [show absL b = b from if_pos h2] at K; exact K
  · have H : R (oE ((if a = 0 then some (a * b) else if absL b ≤ 1000000000000 / absL a then some (a * b) else none).bind limL)) h := H
    rw [if_neg h1] at H
    have K := sp_jvMul (l := l) (ad := ad) (d := d) h1 H
    rw [show absL b = -b from if_neg h2] at K; exact K
theorem sp_jv27 {R : Int64 → aH → Prop} {a b : Int64} (H : R (oE (jvO 27 a b)) h) : AW GC l ad d mX1_joinedValue 0 [(0, .int 27), (1, .long a), (3, .long b)] [] h (ql R) := by
  refine bX1_joinedValue_0 _ a b h ⟨fun e => absurd e (by decide), fun e => absurd e (by decide), fun e => absurd e (by decide), fun e => absurd e (by decide), fun e => absurd e (by decide), fun e => absurd e (by decide), fun e => absurd e (by decide), fun e => absurd e (by decide), fun e => absurd e (by decide), fun e => absurd e (by decide), fun e => absurd e (by decide), fun e => absurd e (by decide), fun e => absurd e (by decide), fun e => absurd e (by decide), fun e => absurd e (by decide), fun _ => ⟨fun h1 => ⟨h1, ?_⟩, fun h1 => ?_⟩, fun e => absurd e (by decide), fun e => absurd e (by decide), fun e => absurd e (by decide), fun e => absurd e (by decide), fun e => absurd e (by decide), fun e12 e13 e14 e15 e16 e17 e18 e19 e20 e21 e22 e23 e24 e25 e26 e27 e28 e29 e30 e31 e32 => absurd rfl e27⟩
  · have H : R (oE ((if b = 0 then none else some (a / b)).bind limL)) h := H
    rw [if_neg h1] at H; exact sp_jv325 H
  · have H : R (oE ((if b = 0 then none else some (a / b)).bind limL)) h := H
    rw [if_pos h1] at H; exact H
theorem sp_jv28 {R : Int64 → aH → Prop} {a b : Int64} (H : R (oE (jvO 28 a b)) h) : AW GC l ad d mX1_joinedValue 0 [(0, .int 28), (1, .long a), (3, .long b)] [] h (ql R) := by
  refine bX1_joinedValue_0 _ a b h ⟨fun e => absurd e (by decide), fun e => absurd e (by decide), fun e => absurd e (by decide), fun e => absurd e (by decide), fun e => absurd e (by decide), fun e => absurd e (by decide), fun e => absurd e (by decide), fun e => absurd e (by decide), fun e => absurd e (by decide), fun e => absurd e (by decide), fun e => absurd e (by decide), fun e => absurd e (by decide), fun e => absurd e (by decide), fun e => absurd e (by decide), fun e => absurd e (by decide), fun e => absurd e (by decide), fun _ => ⟨fun h1 => ?_, fun h1 => ?_⟩, fun e => absurd e (by decide), fun e => absurd e (by decide), fun e => absurd e (by decide), fun e => absurd e (by decide), fun e12 e13 e14 e15 e16 e17 e18 e19 e20 e21 e22 e23 e24 e25 e26 e27 e28 e29 e30 e31 e32 => absurd rfl e28⟩
  · have H : R (oE (limL (if b ≤ a then 0 else 1))) h := H
    rw [if_pos h1] at H; exact bX1_joinedValue_243 _ h (sp_jv325 H)
  · have H : R (oE (limL (if b ≤ a then 0 else 1))) h := H
    rw [if_neg h1] at H; exact bX1_joinedValue_243 _ h (sp_jv325 H)
theorem sp_jv29 {R : Int64 → aH → Prop} {a b : Int64} (H : R (oE (jvO 29 a b)) h) : AW GC l ad d mX1_joinedValue 0 [(0, .int 29), (1, .long a), (3, .long b)] [] h (ql R) := by
  refine bX1_joinedValue_0 _ a b h ⟨fun e => absurd e (by decide), fun e => absurd e (by decide), fun e => absurd e (by decide), fun e => absurd e (by decide), fun e => absurd e (by decide), fun e => absurd e (by decide), fun e => absurd e (by decide), fun e => absurd e (by decide), fun e => absurd e (by decide), fun e => absurd e (by decide), fun e => absurd e (by decide), fun e => absurd e (by decide), fun e => absurd e (by decide), fun e => absurd e (by decide), fun e => absurd e (by decide), fun e => absurd e (by decide), fun e => absurd e (by decide), fun _ => ⟨fun h1 => ?_, fun h1 => ?_⟩, fun e => absurd e (by decide), fun e => absurd e (by decide), fun e => absurd e (by decide), fun e12 e13 e14 e15 e16 e17 e18 e19 e20 e21 e22 e23 e24 e25 e26 e27 e28 e29 e30 e31 e32 => absurd rfl e29⟩
  · have H : R (oE (limL (if b < a then 0 else 1))) h := H
    rw [if_pos h1] at H; exact bX1_joinedValue_259 _ h (sp_jv325 H)
  · have H : R (oE (limL (if b < a then 0 else 1))) h := H
    rw [if_neg h1] at H; exact bX1_joinedValue_259 _ h (sp_jv325 H)
theorem sp_jv30 {R : Int64 → aH → Prop} {a b : Int64} (H : R (oE (jvO 30 a b)) h) : AW GC l ad d mX1_joinedValue 0 [(0, .int 30), (1, .long a), (3, .long b)] [] h (ql R) := by
  refine bX1_joinedValue_0 _ a b h ⟨fun e => absurd e (by decide), fun e => absurd e (by decide), fun e => absurd e (by decide), fun e => absurd e (by decide), fun e => absurd e (by decide), fun e => absurd e (by decide), fun e => absurd e (by decide), fun e => absurd e (by decide), fun e => absurd e (by decide), fun e => absurd e (by decide), fun e => absurd e (by decide), fun e => absurd e (by decide), fun e => absurd e (by decide), fun e => absurd e (by decide), fun e => absurd e (by decide), fun e => absurd e (by decide), fun e => absurd e (by decide), fun e => absurd e (by decide), fun _ => ⟨fun h1 => ?_, fun h1 => ?_⟩, fun e => absurd e (by decide), fun e => absurd e (by decide), fun e12 e13 e14 e15 e16 e17 e18 e19 e20 e21 e22 e23 e24 e25 e26 e27 e28 e29 e30 e31 e32 => absurd rfl e30⟩
  · have H : R (oE (limL (if a = b then 1 else 0))) h := H
    rw [if_neg h1] at H; exact bX1_joinedValue_275 _ h (sp_jv325 H)
  · have H : R (oE (limL (if a = b then 1 else 0))) h := H
    rw [if_pos h1] at H; exact bX1_joinedValue_275 _ h (sp_jv325 H)
theorem sp_jv31 {R : Int64 → aH → Prop} {a b : Int64} (H : R (oE (jvO 31 a b)) h) : AW GC l ad d mX1_joinedValue 0 [(0, .int 31), (1, .long a), (3, .long b)] [] h (ql R) := by
  refine bX1_joinedValue_0 _ a b h ⟨fun e => absurd e (by decide), fun e => absurd e (by decide), fun e => absurd e (by decide), fun e => absurd e (by decide), fun e => absurd e (by decide), fun e => absurd e (by decide), fun e => absurd e (by decide), fun e => absurd e (by decide), fun e => absurd e (by decide), fun e => absurd e (by decide), fun e => absurd e (by decide), fun e => absurd e (by decide), fun e => absurd e (by decide), fun e => absurd e (by decide), fun e => absurd e (by decide), fun e => absurd e (by decide), fun e => absurd e (by decide), fun e => absurd e (by decide), fun e => absurd e (by decide), fun _ => ⟨fun h1 => ?_, fun h1 => ?_⟩, fun e => absurd e (by decide), fun e12 e13 e14 e15 e16 e17 e18 e19 e20 e21 e22 e23 e24 e25 e26 e27 e28 e29 e30 e31 e32 => absurd rfl e31⟩
  · have H : R (oE (limL (if a = b then 0 else 1))) h := H
    rw [if_pos h1] at H; exact bX1_joinedValue_291 _ h (sp_jv325 H)
  · have H : R (oE (limL (if a = b then 0 else 1))) h := H
    rw [if_neg h1] at H; exact bX1_joinedValue_291 _ h (sp_jv325 H)
theorem sp_jv32 {R : Int64 → aH → Prop} {a b : Int64} (H : R (oE (jvO 32 a b)) h) : AW GC l ad d mX1_joinedValue 0 [(0, .int 32), (1, .long a), (3, .long b)] [] h (ql R) := by
  refine bX1_joinedValue_0 _ a b h ⟨fun e => absurd e (by decide), fun e => absurd e (by decide), fun e => absurd e (by decide), fun e => absurd e (by decide), fun e => absurd e (by decide), fun e => absurd e (by decide), fun e => absurd e (by decide), fun e => absurd e (by decide), fun e => absurd e (by decide), fun e => absurd e (by decide), fun e => absurd e (by decide), fun e => absurd e (by decide), fun e => absurd e (by decide), fun e => absurd e (by decide), fun e => absurd e (by decide), fun e => absurd e (by decide), fun e => absurd e (by decide), fun e => absurd e (by decide), fun e => absurd e (by decide), fun e => absurd e (by decide), fun _ => ⟨fun h1 => ?_, fun h1 => ?_⟩, fun e12 e13 e14 e15 e16 e17 e18 e19 e20 e21 e22 e23 e24 e25 e26 e27 e28 e29 e30 e31 e32 => absurd rfl e32⟩
  · have H : R (oE (limL (if a < b then 0 else 1))) h := H
    rw [if_pos h1] at H; exact bX1_joinedValue_307 _ h (sp_jv325 H)
  · have H : R (oE (limL (if a < b then 0 else 1))) h := H
    rw [if_neg h1] at H; exact bX1_joinedValue_307 _ h (sp_jv325 H)
theorem sp_jv33 {R : Int64 → aH → Prop} {a b : Int64} (H : R (oE (jvO 33 a b)) h) : AW GC l ad d mX1_joinedValue 0 [(0, .int 33), (1, .long a), (3, .long b)] [] h (ql R) := by
  refine bX1_joinedValue_0 _ a b h ⟨fun e => absurd e (by decide), fun e => absurd e (by decide), fun e => absurd e (by decide), fun e => absurd e (by decide), fun e => absurd e (by decide), fun e => absurd e (by decide), fun e => absurd e (by decide), fun e => absurd e (by decide), fun e => absurd e (by decide), fun e => absurd e (by decide), fun e => absurd e (by decide), fun e => absurd e (by decide), fun e => absurd e (by decide), fun e => absurd e (by decide), fun e => absurd e (by decide), fun e => absurd e (by decide), fun e => absurd e (by decide), fun e => absurd e (by decide), fun e => absurd e (by decide), fun e => absurd e (by decide), fun e => absurd e (by decide), fun _ _ _ _ _ _ _ _ _ _ _ _ _ _ _ _ _ _ _ _ _ => ⟨fun h1 => ?_, fun h1 => ?_⟩⟩
  · have H : R (oE (limL (if a ≤ b then 0 else 1))) h := H
    rw [if_pos h1] at H; exact bX1_joinedValue_323 _ h (sp_jv325 H)
  · have H : R (oE (limL (if a ≤ b then 0 else 1))) h := H
    rw [if_neg h1] at H; exact bX1_joinedValue_323 _ h (sp_jv325 H)
theorem sp_joinedValue {R : Int64 → aH → Prop} {s : Int32} {a b : Int64} (hs : isBin s) (H : R (oE (jvO s a b)) h) : AW GC l ad d mX1_joinedValue 0 [(0, .int s), (1, .long a), (3, .long b)] [] h (ql R) := by
  rcases hs with rfl | rfl | rfl | rfl | rfl | rfl | rfl | rfl | rfl | rfl | rfl | rfl
  · exact sp_jv12 H
  · exact sp_jv13 H
  · exact sp_jv24 H
  · exact sp_jv25 H
  · exact sp_jv26 H
  · exact sp_jv27 H
  · exact sp_jv28 H
  · exact sp_jv29 H
  · exact sp_jv30 H
  · exact sp_jv31 H
  · exact sp_jv32 H
  · exact sp_jv33 H
/-- how many values a code takes -/
def partsN (c : Int32) : Nat := if 64 ≤ c then 0 else if c < 14 then (if c = 11 then 1 else 2) else if 20 < c then 2 else 0
theorem sp_partsOf {R : Int32 → aH → Prop} {c : Int32} (H : R (nI (partsN c)) h) : AW GC l ad d mX1_partsOf 0 [(0, .int c)] [] h (qi R) := by
  have K : ∀ (n : Nat), partsN c = n → (¬ c = 11 → n = 2) → (c = 11 → n = 1) → AW GC l ad d mX1_partsOf 20 [(0, .int c)] [] h (qi R) := by
    intro n e1 e2 e3
    rw [e1] at H
    refine bX1_partsOf_20 c h ⟨fun q => ?_, fun q => ?_⟩
    · rw [e2 q] at H; exact H
    · rw [e3 q] at H; exact H
  refine bX1_partsOf_0 c h ⟨fun h1 => ?_, fun h1 => ⟨fun h2 => ?_, fun h2 => ⟨fun h3 => ?_, fun h3 => ?_⟩⟩⟩
  · rw [show partsN c = 0 from if_pos h1] at H; exact H
  · exact K _ rfl (fun q => by unfold partsN; rw [if_neg h1, if_pos h2, if_neg q]) (fun q => by unfold partsN; rw [if_neg h1, if_pos h2, if_pos q])
  · refine K 2 (by unfold partsN; rw [if_neg h1, if_neg h2, if_pos h3]) (fun _ => rfl) (fun q => absurd (q ▸ h3) (by decide))
  · rw [show partsN c = 0 by unfold partsN; rw [if_neg h1, if_neg h2, if_neg h3]] at H; exact H
/-- a code's own value -/
def leafV (nm : Nat → Int64) (c : Int32) : Int64 := if c < 64 then nm (c - 14).toNatClampNeg else (c - 64).toInt64
theorem sp_leaf {R : Int64 → aH → Prop} {c : Int32} (hc : partsN c = 0) (H : R (leafV (h.2.1 345) c) h) : AW GC l ad d mX1_leaf 0 [(0, .int c), (1, .ref (ad 345))] [] h (ql R) := by
  refine bX1_leaf_0 345 7 shC345 c h ⟨fun h1 => ?_, fun h1 => ?_⟩
  · have h2 : ¬ (64 : Int32) ≤ c := Int32.not_le.mpr h1
    unfold partsN at hc
    rw [if_neg h2] at hc
    have h3 : ¬ c < 14 := fun q => by rw [if_pos q] at hc; split at hc <;> cases hc
    rw [if_neg h3] at hc
    have h4 : ¬ 20 < c := fun q => by rw [if_pos q] at hc; cases hc
    rw [Int32.not_lt, Int32.le_iff_toInt_le] at h3 h4
    have e3 : (14 : Int32).toInt = 14 := by decide
    have e4 : (20 : Int32).toInt = 20 := by decide
    rw [e3] at h3
    rw [e4] at h4
    obtain ⟨j, hj, rfl⟩ := nI_of (x := c) (fun q => by rw [Int32.lt_iff_toInt_lt] at q; have : (0 : Int32).toInt = 0 := by decide
                                                       omega)
    rw [nI_toInt hj] at h3 h4
    have e5 : nI j - 14 = nI (j - 14) := pk_sub (a := j) (b := 14) (by omega)
    unfold leafV at H
    rw [if_pos h1, e5] at H
    rw [e5]
    refine ⟨fun q => absurd q (nI_pos (by omega)), fun _ => ⟨fun q => absurd q (nI_ge (b := 7) (by omega) (by omega)), fun _ => ⟨vp_in_nI (by omega) (by omega), H⟩⟩⟩
  · unfold leafV at H
    rw [if_neg h1] at H
    exact H
end LV
