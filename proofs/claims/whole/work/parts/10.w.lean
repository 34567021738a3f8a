/-! ===== worlds of the class: their contents as a table, and what World's methods do to it ===== -/
theorem up_ind {P : Nat → Prop} (D : Nat) (hE : P D) (hS : ∀ i, i < D → P (i + 1) → P i) : P 0 := by
  have key : ∀ k i, i + k = D → P i := by
    intro k
    induction k with
    | zero => intro i hi; have e : i = D := by omega
              rw [e]; exact hE
    | succ k ih => intro i hi; exact hS i (by omega) (ih (i + 1) (by omega))
  exact key D 0 (by omega)
abbrev wT : Type := Nat → Nat → Int32
def wd (h : aH) (w : Nat) : wT := fun j k => if j < 29 then h.1 (w + j) k else 0
theorem wd_at {h : aH} {w j k : Nat} (hj : j < 29) : wd h w j k = h.1 (w + j) k := by unfold wd; rw [if_pos hj]
/-- a world's own twelve rows -/
def wq (h : aH) (w : Nat) : wT := fun j k => if j < 12 then h.1 (w + j) k else 0
theorem wq_at {h : aH} {w j k : Nat} (hj : j < 12) : wq h w j k = h.1 (w + j) k := by unfold wq; rw [if_pos hj]
def u2 (ω : wT) (j k : Nat) (v : Int32) : wT := fun j' k' => if j' = j ∧ k' = k then v else ω j' k'
def pW (h : aH) (w : Nat) (ω : wT) : aH := (fun c k => if w ≤ c ∧ c < w + 12 then ω (c - w) k else h.1 c k, h.2)
theorem pW_wq (h : aH) (w : Nat) : pW h w (wq h w) = h := by
  unfold pW wq
  refine Prod.ext ?_ rfl
  funext c k
  show (if w ≤ c ∧ c < w + 12 then (if c - w < 12 then h.1 (w + (c - w)) k else 0) else h.1 c k) = h.1 c k
  by_cases hc : w ≤ c ∧ c < w + 12
  · rw [if_pos hc, if_pos (by omega), Nat.add_sub_cancel' hc.1]
  · rw [if_neg hc]
theorem pW_get {h : aH} {w j k : Nat} {ω : wT} (hj : j < 12) : (pW h w ω).1 (w + j) k = ω j k := by
  unfold pW
  show (if w ≤ w + j ∧ w + j < w + 12 then ω (w + j - w) k else _) = _
  rw [if_pos ⟨by omega, by omega⟩, Nat.add_sub_cancel_left]
theorem pW_get0 {h : aH} {w k : Nat} {ω : wT} : (pW h w ω).1 w k = ω 0 k := pW_get (j := 0) (by decide)
theorem pW_off {h : aH} {w c k : Nat} {ω : wT} (hc : c < w ∨ w + 12 ≤ c) : (pW h w ω).1 c k = h.1 c k := by
  unfold pW
  show (if w ≤ c ∧ c < w + 12 then _ else h.1 c k) = _
  rw [if_neg (by omega)]
theorem sI_pW {h : aH} {w j k : Nat} {ω : wT} {v : Int32} (hj : j < 12) : sI (pW h w ω) (w + j) k v = pW h w (u2 ω j k v) := by
  unfold sI pW u2
  refine Prod.ext ?_ rfl
  funext c k'
  show (if c = w + j ∧ k' = k then v else if w ≤ c ∧ c < w + 12 then ω (c - w) k' else h.1 c k') = if w ≤ c ∧ c < w + 12 then (if c - w = j ∧ k' = k then v else ω (c - w) k') else h.1 c k'
  by_cases hc : w ≤ c ∧ c < w + 12
  · rw [if_pos hc, if_pos hc]
    by_cases hk : k' = k
    · by_cases h1 : c = w + j
      · rw [if_pos ⟨h1, hk⟩, if_pos ⟨by omega, hk⟩]
      · rw [if_neg (fun q => h1 q.1), if_neg (fun q => h1 (by omega))]
    · rw [if_neg (fun q => hk q.2), if_neg (fun q => hk q.2)]
  · rw [if_neg hc, if_neg hc, if_neg (fun q => hc ⟨by omega, by omega⟩)]
theorem sI_pW0 {h : aH} {w k : Nat} {ω : wT} {v : Int32} : sI (pW h w ω) w k v = pW h w (u2 ω 0 k v) := sI_pW (j := 0) (by decide)
theorem pW_pW {h : aH} {w : Nat} {ω ω' : wT} : pW (pW h w ω) w ω' = pW h w ω' := by
  unfold pW
  refine Prod.ext ?_ rfl
  funext c k
  show (if w ≤ c ∧ c < w + 12 then ω' (c - w) k else (if w ≤ c ∧ c < w + 12 then ω (c - w) k else h.1 c k)) = (if w ≤ c ∧ c < w + 12 then ω' (c - w) k else h.1 c k)
  by_cases hc : w ≤ c ∧ c < w + 12
  · rw [if_pos hc, if_pos hc]
  · rw [if_neg hc, if_neg hc, if_neg hc]
theorem u2_s {ω : wT} {j k : Nat} {v : Int32} : u2 ω j k v j k = v := by unfold u2; rw [if_pos ⟨rfl, rfl⟩]
theorem u2_j {ω : wT} {j k j' k' : Nat} {v : Int32} (h : j' ≠ j) : u2 ω j k v j' k' = ω j' k' := by unfold u2; rw [if_neg (fun q => h q.1)]
theorem u2_k {ω : wT} {j k j' k' : Nat} {v : Int32} (h : k' ≠ k) : u2 ω j k v j' k' = ω j' k' := by unfold u2; rw [if_neg (fun q => h q.2)]
/-- steps one behind another -/
def itR {α : Type} (f : Nat → α → α) : Nat → α → α
  | 0, a => a
  | n + 1, a => f n (itR f n a)
/-- a bit -/
def bt (x : Int32) (i : Nat) : Bool := x.toBitVec.getLsbD i
theorem nI31 : ∀ t, t < 32 → ((nI t &&& 31).toBitVec.smod 32).toNat = t := by decide +kernel
theorem bt_shr (x : Int32) {t : Nat} (ht : t < 32) : ((x >>> (nI t &&& 31)) &&& 1) = if bt x t then 1 else 0 := by
  apply Int32.toBitVec_inj.mp
  rw [Int32.toBitVec_and, Int32.toBitVec_shiftRight, BitVec.sshiftRight_eq', nI31 t ht]
  unfold bt
  apply BitVec.eq_of_getLsbD_eq
  intro i hi
  rw [BitVec.getLsbD_and, BitVec.getLsbD_sshiftRight]
  by_cases h0 : i = 0
  · subst h0
    rw [if_pos (show t + 0 < 32 by omega), Nat.add_zero]
    cases hb : x.toBitVec.getLsbD t
    · rw [Bool.and_false, Bool.false_and]; decide
    · decide
  · have e1 : (1 : Int32).toBitVec.getLsbD i = false := by
      show (1#32).getLsbD i = false
      rw [BitVec.getLsbD_one]
      simp [h0]
    rw [e1, Bool.and_false]
    by_cases hb : x.toBitVec.getLsbD t
    · rw [if_pos hb]; exact e1.symm
    · rw [if_neg hb]; exact (BitVec.getLsbD_zero).symm
theorem bt_shr0 (x : Int32) {t : Nat} (ht : t < 32) : ((x >>> (nI t &&& 31)) &&& 1) = 0 ↔ bt x t = false := by
  rw [bt_shr x ht]
  cases bt x t <;> simp
section WS
variable {l : Launch} {ad : Nat → Nat} {d w : Nat} {h : aH} {ω : wT}
theorem sp_purseOf {R : Int32 → aH → Prop} (hw : isW GC w) {p : Nat} (hp : p < 6) (H : R (ω 1 p) (pW h w ω)) : AW GC l ad d mX8_purseOf 0 [(0, .ref (ad w)), (1, .int (nI p))] [] (pW h w ω) (qi R) := by
  refine bX8_purseOf_0 w hw _ _ ⟨fun hc => absurd hc (nI_pos (by omega)), fun _ => ⟨fun hc => absurd hc (nI_ge (b := 6) hp (by omega)), fun _ => ⟨vp_in_nI hp (by omega), ?_⟩⟩⟩
  rw [nI_clamp (by omega), pW_get (by decide)]
  exact H
theorem sp_earn {R : aH → Prop} (hw : isW GC w) {p : Nat} (hp : p < 6) {x : Int32} (H : R (pW h w (u2 ω 1 p (ω 1 p + x)))) : AW GC l ad d mX8_earn 0 [(0, .ref (ad w)), (1, .int (nI p)), (2, .int x)] [] (pW h w ω) (qv R) := by
  refine bX8_earn_0 w hw _ _ _ ⟨fun hc => absurd hc (nI_pos (by omega)), fun _ => ⟨fun hc => absurd hc (nI_ge (b := 6) hp (by omega)), fun _ => ⟨vp_in_nI hp (by omega), ?_⟩⟩⟩
  rw [nI_clamp (by omega), pW_get (by decide), sI_pW (by decide)]
  exact H
theorem sp_isAlive {R : Int32 → aH → Prop} (hw : isW GC w) {t : Nat} (ht : t < 32) (H : R (if bt (ω 0 12) t then 1 else 0) (pW h w ω)) : AW GC l ad d mX8_isAlive 0 [(0, .ref (ad w)), (1, .int (nI t))] [] (pW h w ω) (qi R) := by
  refine bX8_isAlive_0 w hw _ _ ?_
  rw [pW_get0, bt_shr0 _ ht]
  cases hb : bt (ω 0 12) t
  · rw [hb] at H
    exact ⟨fun _ => H, fun q => absurd rfl q⟩
  · rw [hb] at H
    exact ⟨fun q => absurd q (by decide), fun _ => H⟩
theorem sp_isInPurse {R : Int32 → aH → Prop} (hw : isW GC w) {i p : Nat} (hi : i < 8) (hp : p < 6) (hb : ω 4 i = nI p) (H : R (if ω 1 p < ω 9 i then 0 else 1) (pW h w ω)) : AW GC l ad (d + 1) mX8_isInPurse 0 [(0, .ref (ad w)), (1, .int (nI i))] [] (pW h w ω) (qi R) := by
  refine bX8_isInPurse_0 w hw _ _ ⟨vp_in_nI hi (by omega), ?_⟩
  rw [nI_clamp (by omega), pW_get (by decide), hb]
  refine sp_purseOf hw hp ?_
  rw [pW_get (by decide)]
  refine ⟨fun hc => ?_, fun hc => ?_⟩
  · rwa [if_pos hc] at H
  · rwa [if_neg hc] at H
theorem sp_daysOpen {R : Int32 → aH → Prop} (hw : isW GC w) {i : Nat} (hi : i < 8) (H : R (if ω 8 i = 1 then ω 0 13 - ω 10 i else 0) (pW h w ω)) : AW GC l ad d mX8_daysOpen 0 [(0, .ref (ad w)), (1, .int (nI i))] [] (pW h w ω) (qi R) := by
  refine bX8_daysOpen_0 w hw _ _ ⟨vp_in_nI hi (by omega), ?_⟩
  rw [nI_clamp (by omega), pW_get (by decide), pW_get (by decide), pW_get0]
  refine ⟨fun hc => ?_, fun hc => ?_⟩
  · rwa [if_neg hc] at H
  · rwa [if_pos hc] at H
def endW (ω : wT) (i : Nat) (how : Int32) : wT := u2 (u2 (u2 ω 8 i how) 9 i 0) 11 i 0
theorem sp_end {R : aH → Prop} (hw : isW GC w) {i : Nat} (hi : i < 8) {how : Int32} (H : R (pW h w (endW ω i how))) : AW GC l ad d mX8_end 0 [(0, .ref (ad w)), (1, .int (nI i)), (2, .int how)] [] (pW h w ω) (qv R) := by
  refine bX8_end_0 w hw _ _ _ ⟨vp_in_nI hi (by omega), vp_in_nI (by omega) (by omega), fun h3 e3 => ?_⟩
  rw [nI_clamp (by omega), sI_pW (by decide), sI_pW (by decide), sI_pW (by decide)] at e3
  rw [e3]
  exact H
def settleW (ω : wT) (i a b : Nat) : wT := endW (u2 (u2 ω 1 b (ω 1 b + -(ω 9 i))) 1 a ((u2 ω 1 b (ω 1 b + -(ω 9 i))) 1 a + ω 9 i)) i 2
theorem sp_settle {R : aH → Prop} (hw : isW GC w) {i a b : Nat} (hi : i < 8) (ha : a < 6) (hb : b < 6) (ea : ω 3 i = nI a) (eb : ω 4 i = nI b) (H : R (pW h w (settleW ω i a b))) : AW GC l ad (d + 1) mX8_settle 0 [(0, .ref (ad w)), (1, .int (nI i))] [] (pW h w ω) (qv R) := by
  refine bX8_settle_0 w hw _ _ ⟨vp_in_nI hi (by omega), ?_⟩
  rw [nI_clamp (by omega), pW_get (by decide), pW_get (by decide), eb]
  refine sp_earn hw hb ?_
  rw [pW_get (by decide), pW_get (by decide), u2_j (by decide), u2_j (by decide), ea]
  refine sp_earn hw ha ?_
  exact sp_end hw hi H
def openW (ω : wT) (i a b : Nat) (buns deaf : Int32) : wT :=
  u2 (u2 (u2 (u2 (u2 (u2 ω 1 a (ω 1 a + (-(ω 5 i) - buns))) 1 b ((u2 ω 1 a (ω 1 a + (-(ω 5 i) - buns))) 1 b + ω 5 i)) 8 i 1) 9 i (ω 5 i)) 10 i (ω 0 13)) 11 i (((1 : Int32) <<< ((ω 6 i) &&& 31)) &&& (deaf ^^^ (-1)))
theorem sp_open {R : aH → Prop} (hw : isW GC w) {i a b : Nat} {buns deaf : Int32} (hi : i < 8) (ha : a < 6) (hb : b < 6) (ea : ω 3 i = nI a) (eb : ω 4 i = nI b) (H : R (pW h w (openW ω i a b buns deaf))) : AW GC l ad (d + 1) mX8_open 0 [(0, .ref (ad w)), (1, .int (nI i)), (2, .int buns), (3, .int deaf)] [] (pW h w ω) (qv R) := by
  refine bX8_open_0 w hw _ _ _ _ ⟨vp_in_nI hi (by omega), ?_⟩
  rw [nI_clamp (by omega), pW_get (by decide), pW_get (by decide), ea]
  refine sp_earn hw ha ?_
  rw [pW_get (by decide), pW_get (by decide), u2_j (by decide), u2_j (by decide), eb]
  refine sp_earn hw hb (fun h6 e6 => ⟨vp_in_nI (by omega) (by omega), fun h8 e8 => ?_⟩)
  rw [sI_pW (by decide), pW_get (by decide), sI_pW (by decide)] at e6
  subst e6
  rw [pW_get0, sI_pW (by decide), pW_get (by decide), sI_pW (by decide)] at e8
  rw [e8]
  simp only [u2_j (show (5 : Nat) ≠ 8 by decide), u2_j (show (5 : Nat) ≠ 1 by decide), u2_j (show (0 : Nat) ≠ 9 by decide), u2_j (show (0 : Nat) ≠ 8 by decide), u2_j (show (0 : Nat) ≠ 1 by decide), u2_j (show (6 : Nat) ≠ 10 by decide), u2_j (show (6 : Nat) ≠ 9 by decide), u2_j (show (6 : Nat) ≠ 8 by decide), u2_j (show (6 : Nat) ≠ 1 by decide)]
  exact H
def fgW (ω : wT) (b : Int32) : wT := itR (fun i ω => u2 ω 11 i (ω 11 i &&& (b ^^^ (-1)))) 14 ω
theorem sp_forgetAll {R : aH → Prop} (hw : isW GC w) {b : Int32} (H : R (pW h w (fgW ω b))) : AW GC l ad d mX8_forgetAll 0 [(0, .ref (ad w)), (1, .int b)] [] (pW h w ω) (qv R) := by
  refine bX8_forgetAll_0 w hw _ _ ?_
  refine up_ind (P := fun i => AW GC l ad d mX8_forgetAll 2 [(0, .ref (ad w)), (1, .int b), (2, .int (nI i))] [] (pW h w (itR (fun i ω => u2 ω 11 i (ω 11 i &&& (b ^^^ (-1)))) i ω)) (qv R)) 14 ?_ (fun i hi ih => ?_)
  · exact bX8_forgetAll_2 w hw _ _ _ ⟨fun _ => H, fun hc => absurd (by decide) hc⟩
  · refine bX8_forgetAll_2 w hw _ _ _ ⟨fun hc => absurd hc (nI_ge (b := 14) hi (by omega)), fun _ => ⟨vp_in_nI hi (by omega), ?_⟩⟩
    rw [nI_clamp (by omega), pW_get (by decide), sI_pW (by decide), nI_1]
    exact ih
def buryW (ω : wT) (t : Int32) : wT := fgW (u2 ω 0 12 (ω 0 12 &&& (((1 : Int32) <<< (t &&& 31)) ^^^ (-1)))) ((1 : Int32) <<< (t &&& 31))
theorem sp_bury {R : aH → Prop} (hw : isW GC w) {t : Int32} (H : R (pW h w (buryW ω t))) : AW GC l ad (d + 1) mX8_bury 0 [(0, .ref (ad w)), (1, .int t)] [] (pW h w ω) (qv R) := by
  refine bX8_bury_0 w hw _ _ ?_
  rw [pW_get0, sI_pW0]
  exact sp_forgetAll hw H
def tellW (ω : wT) (D : Nat) : wT := itR (fun i ω => if ω 8 i = 1 then u2 ω 11 i (ω 0 12) else ω) D ω
theorem sp_tellAll {R : aH → Prop} (hw : isW GC w) {D : Nat} (hD : D ≤ 8) (eD : ω 0 11 = nI D) (H : R (pW h w (tellW ω D))) : AW GC l ad d mX8_tellAll 0 [(0, .ref (ad w))] [] (pW h w ω) (qv R) := by
  have e0 : ∀ i, (itR (fun i ω => if ω 8 i = 1 then u2 ω 11 i (ω 0 12) else ω) i ω) 0 11 = nI D := by
    intro i
    induction i with
    | zero => exact eD
    | succ i ih =>
      show (if _ then _ else _ : wT) 0 11 = nI D
      split
      · rw [u2_j (by decide)]; exact ih
      · exact ih
  refine bX8_tellAll_0 w hw _ ?_
  refine up_ind (P := fun i => AW GC l ad d mX8_tellAll 2 [(0, .ref (ad w)), (1, .int (nI i))] [] (pW h w (itR (fun i ω => if ω 8 i = 1 then u2 ω 11 i (ω 0 12) else ω) i ω)) (qv R)) D ?_ (fun i hi ih => ?_)
  · refine bX8_tellAll_2 w hw _ _ ⟨fun _ => H, fun hc => absurd ?_ hc⟩
    rw [pW_get0, e0]
    exact Int32.le_refl _
  · refine bX8_tellAll_2 w hw _ _ ?_
    rw [pW_get0, e0, nI_clamp (by omega), pW_get (by decide), pW_get0, sI_pW (by decide), nI_1]
    refine ⟨fun hc => absurd hc (nI_ge hi (by omega)), fun _ => ⟨vp_in_nI (by omega) (by omega), fun hc => ?_, fun hc => ⟨vp_in_nI (by omega) (by omega), ?_⟩⟩⟩
    · have e1 : itR (fun i ω => if ω 8 i = 1 then u2 ω 11 i (ω 0 12) else ω) (i + 1) ω = itR (fun i ω => if ω 8 i = 1 then u2 ω 11 i (ω 0 12) else ω) i ω := if_neg hc
      rw [e1] at ih
      exact ih
    · have e1 : itR (fun i ω => if ω 8 i = 1 then u2 ω 11 i (ω 0 12) else ω) (i + 1) ω = _ := if_pos hc
      rw [e1] at ih
      exact ih
def nextN (x : Int32) : Int32 := (((x.toInt64 * 1103515245) + 12345) &&& 2147483647).toInt32
theorem sp_drawNumber {R : Int32 → aH → Prop} (hw : isW GC w) (H : R (nextN (ω 0 14) / 65536) (pW h w (u2 ω 0 14 (nextN (ω 0 14))))) : AW GC l ad d mX8_drawNumber 0 [(0, .ref (ad w))] [] (pW h w ω) (qi R) := by
  refine bX8_drawNumber_0 w hw _ ?_
  rw [pW_get0, sI_pW0, pW_get0, u2_s]
  exact H
def knByS (ω : wT) (t D : Nat) : Int32 := itR (fun i n => n ||| (((ω 11 i >>> (nI t &&& 31)) &&& 1) <<< (nI i &&& 31))) D 0
theorem sp_debtsKnownBy {R : Int32 → aH → Prop} (hw : isW GC w) {t D : Nat} (hD : D ≤ 8) (eD : ω 0 11 = nI D) (H : R (knByS ω t D) (pW h w ω)) : AW GC l ad d mX8_debtsKnownBy 0 [(0, .ref (ad w)), (1, .int (nI t))] [] (pW h w ω) (qi R) := by
  refine bX8_debtsKnownBy_0 w hw _ _ ?_
  refine up_ind (P := fun i => AW GC l ad d mX8_debtsKnownBy 4 [(0, .ref (ad w)), (1, .int (nI t)), (2, .int (knByS ω t i)), (3, .int (nI i))] [] (pW h w ω) (qi R)) D ?_ (fun i hi ih => ?_)
  · refine bX8_debtsKnownBy_4 w hw _ _ _ _ ⟨fun _ => H, fun hc => absurd ?_ hc⟩
    rw [pW_get0, eD]
    exact Int32.le_refl _
  · refine bX8_debtsKnownBy_4 w hw _ _ _ _ ?_
    rw [pW_get0, eD, nI_clamp (by omega), pW_get (by decide), nI_1]
    refine ⟨fun hc => absurd hc (nI_ge hi (by omega)), fun _ => ⟨vp_in_nI (by omega) (by omega), fun t2 e2 => ?_⟩⟩
    rw [e2]
    exact ih
def onlyS (ω : wT) (t D : Nat) : Int32 := itR (fun i n => if ω 11 i = ((1 : Int32) <<< (nI t &&& 31)) then n ||| ((1 : Int32) <<< (nI i &&& 31)) else n) D 0
theorem sp_debtsKnownOnlyBy {R : Int32 → aH → Prop} (hw : isW GC w) {t D : Nat} (hD : D ≤ 8) (eD : ω 0 11 = nI D) (H : R (onlyS ω t D) (pW h w ω)) : AW GC l ad d mX8_debtsKnownOnlyBy 0 [(0, .ref (ad w)), (1, .int (nI t))] [] (pW h w ω) (qi R) := by
  refine bX8_debtsKnownOnlyBy_0 w hw _ _ ?_
  refine up_ind (P := fun i => AW GC l ad d mX8_debtsKnownOnlyBy 4 [(0, .ref (ad w)), (1, .int (nI t)), (2, .int (onlyS ω t i)), (3, .int (nI i))] [] (pW h w ω) (qi R)) D ?_ (fun i hi ih => ?_)
  · refine bX8_debtsKnownOnlyBy_4 w hw _ _ _ _ ⟨fun _ => H, fun hc => absurd ?_ hc⟩
    rw [pW_get0, eD]
    exact Int32.le_refl _
  · refine bX8_debtsKnownOnlyBy_4 w hw _ _ _ _ ?_
    rw [pW_get0, eD, nI_clamp (by omega), pW_get (by decide), nI_1]
    refine ⟨fun hc => absurd hc (nI_ge hi (by omega)), fun _ => ⟨vp_in_nI (by omega) (by omega), fun hc => ?_, fun hc => ?_⟩⟩
    · have e1 : onlyS ω t (i + 1) = onlyS ω t i := if_neg hc
      rwa [e1] at ih
    · have e1 : onlyS ω t (i + 1) = _ := if_pos hc
      rwa [e1] at ih
def oldS (ω : wT) (i : Nat) (n : Nat) : Int32 × Int32 := itR (fun t q => if bt (ω 11 i) t then (if ω 2 t ≤ q.2 then q else (nI t, ω 2 t)) else q) n (-1, -1)
theorem sp_oldestOf {R : Int32 → aH → Prop} (hw : isW GC w) {i : Nat} (hi : i < 8) (H : R (oldS ω i 6).1 (pW h w ω)) : AW GC l ad d mX8_oldestOf 0 [(0, .ref (ad w)), (1, .int (nI i))] [] (pW h w ω) (qi R) := by
  refine bX8_oldestOf_0 w hw _ _ ?_
  refine up_ind (P := fun t => AW GC l ad d mX8_oldestOf 7 [(0, .ref (ad w)), (1, .int (nI i)), (2, .int (oldS ω i t).1), (3, .int (oldS ω i t).2), (4, .int (nI t))] [] (pW h w ω) (qi R)) 6 ?_ (fun t ht ih => ?_)
  · exact bX8_oldestOf_7 w hw _ _ _ _ _ ⟨fun _ => H, fun hc => absurd (by decide) hc⟩
  · refine bX8_oldestOf_7 w hw _ _ _ _ _ ?_
    rw [nI_clamp (by omega), nI_clamp (by omega), pW_get (by decide), pW_get (by decide), bt_shr0 _ (by omega), nI_1]
    have e0 : oldS ω i (t + 1) = if bt (ω 11 i) t then (if ω 2 t ≤ (oldS ω i t).2 then oldS ω i t else (nI t, ω 2 t)) else oldS ω i t := rfl
    rw [e0] at ih
    refine ⟨fun hc => absurd hc (nI_ge (b := 6) ht (by omega)), fun _ => ⟨vp_in_nI (by omega) (by omega), fun hc => ?_, fun hc => ⟨vp_in_nI ht (by omega), fun h2 => ?_, fun h2 => ?_⟩⟩⟩
    · rw [hc] at ih
      exact ih
    · rw [Bool.not_eq_false] at hc
      rw [hc, if_pos rfl, if_pos h2] at ih
      exact ih
    · rw [Bool.not_eq_false] at hc
      rw [hc, if_pos rfl, if_neg h2] at ih
      exact ih
def netS (ω : wT) (man : Int32) (D : Nat) : Int32 := itR (fun i n => if ω 3 i = man then n + ω 9 i else if ω 4 i = man then n - ω 9 i else n) D 0
theorem sp_netOf {R : Int32 → aH → Prop} (hw : isW GC w) {man : Int32} {D : Nat} (hD : D ≤ 8) (eD : ω 0 11 = nI D) (H : R (netS ω man D) (pW h w ω)) : AW GC l ad d mX8_netOf 0 [(0, .ref (ad w)), (1, .int man)] [] (pW h w ω) (qi R) := by
  refine bX8_netOf_0 w hw _ _ ?_
  refine up_ind (P := fun i => AW GC l ad d mX8_netOf 4 [(0, .ref (ad w)), (1, .int man), (2, .int (netS ω man i)), (3, .int (nI i))] [] (pW h w ω) (qi R)) D ?_ (fun i hi ih => ?_)
  · refine bX8_netOf_4 w hw _ _ _ _ ⟨fun _ => H, fun hc => absurd ?_ hc⟩
    rw [pW_get0, eD]
    exact Int32.le_refl _
  · refine bX8_netOf_4 w hw _ _ _ _ ?_
    rw [pW_get0, eD, nI_clamp (by omega), pW_get (by decide), pW_get (by decide), pW_get (by decide), nI_1]
    have e0 : netS ω man (i + 1) = if ω 3 i = man then netS ω man i + ω 9 i else if ω 4 i = man then netS ω man i - ω 9 i else netS ω man i := rfl
    rw [e0] at ih
    refine ⟨fun hc => absurd hc (nI_ge hi (by omega)), fun _ => ⟨vp_in_nI (by omega) (by omega), fun h1 => ⟨fun h2 => ?_, fun h2 => ?_⟩, fun h1 => ?_⟩⟩
    · rwa [if_neg h1, if_neg h2] at ih
    · rwa [if_neg h1, if_pos h2] at ih
    · rwa [if_pos h1] at ih
def cntS (ω : wT) (k : Int32) (D : Nat) : Int32 := itR (fun i n => n + if ω 8 i = k then 1 else 0) D 0
theorem sp_countOf {R : Int32 → aH → Prop} (hw : isW GC w) {k : Int32} {D : Nat} (hD : D ≤ 8) (eD : ω 0 11 = nI D) (H : R (cntS ω k D) (pW h w ω)) : AW GC l ad d mX8_countOf 0 [(0, .ref (ad w)), (1, .int k)] [] (pW h w ω) (qi R) := by
  refine bX8_countOf_0 w hw _ _ ?_
  refine up_ind (P := fun i => AW GC l ad d mX8_countOf 4 [(0, .ref (ad w)), (1, .int k), (2, .int (cntS ω k i)), (3, .int (nI i))] [] (pW h w ω) (qi R)) D ?_ (fun i hi ih => ?_)
  · refine bX8_countOf_4 w hw _ _ _ _ ⟨fun _ => H, fun hc => absurd ?_ hc⟩
    rw [pW_get0, eD]
    exact Int32.le_refl _
  · refine bX8_countOf_4 w hw _ _ _ _ ?_
    rw [pW_get0, eD, nI_clamp (by omega), pW_get (by decide), nI_1]
    refine ⟨fun hc => absurd hc (nI_ge hi (by omega)), fun _ => ⟨vp_in_nI (by omega) (by omega), fun t2 e2 => ?_⟩⟩
    rw [e2]
    exact ih
def owedS (ω : wT) (D : Nat) : Int32 := itR (fun i n => n + ω 9 i) D 0
theorem sp_owedInSum {R : Int32 → aH → Prop} (hw : isW GC w) {D : Nat} (hD : D ≤ 8) (eD : ω 0 11 = nI D) (H : R (owedS ω D) (pW h w ω)) : AW GC l ad d mX8_owedInSum 0 [(0, .ref (ad w))] [] (pW h w ω) (qi R) := by
  refine bX8_owedInSum_0 w hw _ ?_
  refine up_ind (P := fun i => AW GC l ad d mX8_owedInSum 4 [(0, .ref (ad w)), (1, .int (owedS ω i)), (2, .int (nI i))] [] (pW h w ω) (qi R)) D ?_ (fun i hi ih => ?_)
  · refine bX8_owedInSum_4 w hw _ _ _ ⟨fun _ => H, fun hc => absurd ?_ hc⟩
    rw [pW_get0, eD]
    exact Int32.le_refl _
  · refine bX8_owedInSum_4 w hw _ _ _ ?_
    rw [pW_get0, eD, nI_clamp (by omega), pW_get (by decide), nI_1]
    exact ⟨fun hc => absurd hc (nI_ge hi (by omega)), fun _ => ⟨vp_in_nI (by omega) (by omega), ih⟩⟩
def pursS (ω : wT) (n : Nat) : Int32 := itR (fun i n => n + ω 1 i) n 0
theorem sp_pursesInSum {R : Int32 → aH → Prop} (hw : isW GC w) {n : Nat} (hn : n ≤ 6) (H : R (pursS ω n) (pW h w ω)) : AW GC l ad d mX8_pursesInSum 0 [(0, .ref (ad w)), (1, .int (nI n))] [] (pW h w ω) (qi R) := by
  refine bX8_pursesInSum_0 w hw _ _ ?_
  refine up_ind (P := fun i => AW GC l ad d mX8_pursesInSum 4 [(0, .ref (ad w)), (1, .int (nI n)), (2, .int (pursS ω i)), (3, .int (nI i))] [] (pW h w ω) (qi R)) n ?_ (fun i hi ih => ?_)
  · exact bX8_pursesInSum_4 w hw _ _ _ _ ⟨fun _ => H, fun hc => absurd (Int32.le_refl _) hc⟩
  · refine bX8_pursesInSum_4 w hw _ _ _ _ ?_
    rw [nI_clamp (by omega), pW_get (by decide), nI_1]
    exact ⟨fun hc => absurd hc (nI_ge hi (by omega)), fun _ => ⟨fun hc => absurd hc (nI_ge (b := 6) (by omega) (by omega)), fun _ => ⟨vp_in_nI (by omega) (by omega), ih⟩⟩⟩
end WS
