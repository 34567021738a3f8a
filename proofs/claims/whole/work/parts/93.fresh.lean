/-! ===== the fresh ledger's picture ===== -/
def hC0 : aH := (fun c k => if c = 7 then kTw 21 k else if c = 2 ∧ k = 4 then -1 else if c = 346 ∧ k = 6 then -1 else 0, fun _ _ => 0, fun c k => if c = 0 then 37 else if c = 2 then 8 else if c = 103 then 104 + 12 * k else if k = 1 then 37 else 66)
def eqE (e e' : va_E) : Prop := ∀ (D : va_G) (q : Nat) (H : Heap), va_at D acl (q, e) H → va_at D acl (q, e') H
theorem eqE_r {e e' : va_E} (h : e = e') : eqE e e' := fun _ _ _ x => h ▸ x
section KSG
variable {aC : FieldType → ClassId} {b : Nat} {h : aH}
def kSg (aC : FieldType → ClassId) (b : Nat) (h : aH) (w : Nat) (L : List va_E) : Prop := ∀ j e, L[j]? = some e → ∃ x, aSHC[w + j]? = some x ∧ eqE e (ael GC (fun c => b + c) aC h (w + j) x)
theorem kSg_nil {w : Nat} : kSg aC b h w [] := fun j e he => by simp at he
theorem kSg_cons {w : Nat} {e : va_E} {L : List va_E} {x : aE} (hx : aSHC[w]? = some x) (he : eqE e (ael GC (fun c => b + c) aC h w x)) (k : kSg aC b h (w + 1) L) : kSg aC b h w (e :: L) := by
  intro j e' h'
  cases j with
  | zero => cases h'; exact ⟨x, hx, he⟩
  | succ j =>
    obtain ⟨y, h1, h2⟩ := k j e' h'
    have e9 : w + 1 + j = w + (j + 1) := by omega
    rw [e9] at h1 h2
    exact ⟨y, h1, h2⟩
theorem kSg_app {w n : Nat} {A B : List va_E} (ka : kSg aC b h w A) (hn : w + A.length = n) (kb : kSg aC b h n B) : kSg aC b h w (A ++ B) := by
  intro j e he
  by_cases hj : j < A.length
  · rw [List.getElem?_append_left hj] at he
    exact ka j e he
  · rw [List.getElem?_append_right (by omega)] at he
    obtain ⟨y, h1, h2⟩ := kb _ e he
    have e9 : n + (j - A.length) = w + j := by omega
    rw [e9] at h1 h2
    exact ⟨y, h1, h2⟩
theorem ael_i {w n : Nat} (hz : ∀ k, h.1 w k = 0) : kI aC n = ael GC (fun c => b + c) aC h w (.inr (.int, n)) := by
  have : h.1 w = fun _ => 0 := funext hz
  unfold ael
  rw [this]
theorem ael_j {w n : Nat} (hz : ∀ k, h.2.1 w k = 0) : kJ aC n = ael GC (fun c => b + c) aC h w (.inr (.long, n)) := by
  have : h.2.1 w = fun _ => 0 := funext hz
  unfold ael
  rw [this]
theorem kSg_w {w : Nat} (hw : isW GC w) (hz : ∀ j k, j < 12 → h.1 (w + j) k = 0) : kSg aC b h w (kbX8 aC (b + w)) := by
  have g := hw.2
  have z : ∀ j, j < 12 → ∀ k, h.1 (w + j) k = 0 := fun j hj k => hz j k hj
  refine kSg_cons hw.1 (eqE_r ?_) ?_
  · show (Sum.inr (8, [.ref (b + w + 1), .ref (b + w + 2), .ref (b + w + 3), .ref (b + w + 4), .ref (b + w + 5), .ref (b + w + 6), .ref (b + w + 7), .ref (b + w + 8), .ref (b + w + 9), .ref (b + w + 10), .ref (b + w + 11), .int 0, .int 0, .int 0, .int 0]) : va_E) = .inr (8, [.ref (b + (w + 1)), .ref (b + (w + 2)), .ref (b + (w + 3)), .ref (b + (w + 4)), .ref (b + (w + 5)), .ref (b + (w + 6)), .ref (b + (w + 7)), .ref (b + (w + 8)), .ref (b + (w + 9)), .ref (b + (w + 10)), .ref (b + (w + 11)), .int (h.1 w 11), .int (h.1 w 12), .int (h.1 w 13), .int (h.1 w 14)])
    have z0 : ∀ k, h.1 w k = 0 := z 0 (by decide)
    simp only [z0, Nat.add_assoc]
  · refine kSg_cons (g 0 (by decide)) (eqE_r (ael_i (z 1 (by decide)))) ?_
    refine kSg_cons (g 1 (by decide)) (eqE_r (ael_i (z 2 (by decide)))) ?_
    refine kSg_cons (g 2 (by decide)) (eqE_r (ael_i (z 3 (by decide)))) ?_
    refine kSg_cons (g 3 (by decide)) (eqE_r (ael_i (z 4 (by decide)))) ?_
    refine kSg_cons (g 4 (by decide)) (eqE_r (ael_i (z 5 (by decide)))) ?_
    refine kSg_cons (g 5 (by decide)) (eqE_r (ael_i (z 6 (by decide)))) ?_
    refine kSg_cons (g 6 (by decide)) (eqE_r (ael_i (z 7 (by decide)))) ?_
    refine kSg_cons (g 7 (by decide)) (eqE_r (ael_i (z 8 (by decide)))) ?_
    refine kSg_cons (g 8 (by decide)) (eqE_r (ael_i (z 9 (by decide)))) ?_
    refine kSg_cons (g 9 (by decide)) (eqE_r (ael_i (z 10 (by decide)))) ?_
    exact kSg_cons (g 10 (by decide)) (eqE_r (ael_i (z 11 (by decide)))) kSg_nil
theorem kSg_l {w : Nat} (hw : isL GC w) (hz : ∀ j k, j < 2 → h.1 (w + j) k = 0) (hj : ∀ k, h.2.1 (w + 2) k = 0) : kSg aC b h w (kbX1 aC (b + w)) := by
  refine kSg_cons hw.1 (eqE_r ?_) (kSg_cons hw.2.1 (eqE_r (ael_i (fun k => hz 1 k (by decide)))) (kSg_cons hw.2.2 (eqE_r (ael_j hj)) kSg_nil))
  show (Sum.inr (1, [.ref (b + w + 1), .ref (b + w + 2), .int 0]) : va_E) = .inr (1, [.ref (b + (w + 1)), .ref (b + (w + 2)), .int (h.1 w 2)])
  have z0 : h.1 w 2 = 0 := hz 0 2 (by decide)
  simp only [z0, Nat.add_assoc]
theorem kSg_s {w : Nat} (hw : isS GC w) (hz : ∀ j k, j < 29 → h.1 (w + j) k = 0) (hj : ∀ c k, h.2.1 c k = 0) : kSg aC b h w (kbX6 aC (b + w)) := by
  obtain ⟨s0, s1, l1, l2, l3, ww⟩ := hw
  have z : ∀ j, j < 29 → ∀ k, h.1 (w + j) k = 0 := fun j hj k => hz j k hj
  have hl : ∀ q, q ≤ 26 → ∀ j k, j < 2 → h.1 (w + q + j) k = 0 := fun q hq j k hjj => by rw [Nat.add_assoc]; exact hz (q + j) k (by omega)
  have hww : ∀ j k, j < 12 → h.1 (w + 17 + j) k = 0 := fun j k hjj => by rw [Nat.add_assoc]; exact hz (17 + j) k (by omega)
  unfold kbX6
  refine kSg_app (n := w + 17) (kSg_app (n := w + 14) (kSg_app (n := w + 11) (kSg_app (n := w + 8) ?_ rfl ?_) ?_ ?_) ?_ ?_) ?_ ?_
  · refine kSg_cons s0 (eqE_r ?_) ?_
    · show (Sum.inr (6, [.ref (b + w + 1), .ref (b + w + 2), .ref (b + w + 3), .ref (b + w + 4), .ref (b + w + 5), .ref (b + w + 6), .ref (b + w + 7), .ref (b + w + 8), .ref (b + w + 11), .ref (b + w + 14), .ref (b + w + 17), .int 0, .int 0, .int 0, .int 0, .int 0, .int 0, .int 0, .int 0]) : va_E) = .inr (6, [.ref (b + (w + 1)), .ref (b + (w + 2)), .ref (b + (w + 3)), .ref (b + (w + 4)), .ref (b + (w + 5)), .ref (b + (w + 6)), .ref (b + (w + 7)), .ref (b + (w + 8)), .ref (b + (w + 11)), .ref (b + (w + 14)), .ref (b + (w + 17)), .int (h.1 w 11), .int (h.1 w 12), .int (h.1 w 13), .int (h.1 w 14), .int (h.1 w 15), .int (h.1 w 16), .int (h.1 w 17), .int (h.1 w 18)])
      have z0 : ∀ k, h.1 w k = 0 := z 0 (by decide)
      simp only [z0, Nat.add_assoc]
    · refine kSg_cons (s1 0 (by decide)) (eqE_r (ael_i (z 1 (by decide)))) ?_
      refine kSg_cons (s1 1 (by decide)) (eqE_r (ael_i (z 2 (by decide)))) ?_
      refine kSg_cons (s1 2 (by decide)) (eqE_r (ael_i (z 3 (by decide)))) ?_
      refine kSg_cons (s1 3 (by decide)) (eqE_r (ael_i (z 4 (by decide)))) ?_
      refine kSg_cons (s1 4 (by decide)) (eqE_r (ael_i (z 5 (by decide)))) ?_
      refine kSg_cons (s1 5 (by decide)) (eqE_r (ael_i (z 6 (by decide)))) ?_
      exact kSg_cons (s1 6 (by decide)) (eqE_r (ael_i (z 7 (by decide)))) kSg_nil
  · rw [Nat.add_assoc]; exact kSg_l l1 (hl 8 (by decide)) (fun k => hj _ k)
  · simp [kbX1_len]
  · rw [Nat.add_assoc]; exact kSg_l l2 (hl 11 (by decide)) (fun k => hj _ k)
  · simp [kbX1_len]
  · rw [Nat.add_assoc]; exact kSg_l l3 (hl 14 (by decide)) (fun k => hj _ k)
  · simp [kbX1_len]
  · rw [Nat.add_assoc]; exact kSg_w ww hww
theorem hC0_z {c : Nat} (h1 : c ≠ 2) (h2 : c ≠ 7) (h3 : c ≠ 346) (k : Nat) : hC0.1 c k = 0 := by
  show (if c = 7 then kTw 21 k else if c = 2 ∧ k = 4 then -1 else if c = 346 ∧ k = 6 then -1 else 0) = (0 : Int32)
  rw [if_neg h2, if_neg (fun e => h1 e.1), if_neg (fun e => h3 e.1)]
theorem kSg_ws : ∀ i, i ≤ 20 → kSg aC b hC0 104 (kWs aC (b + 102) i)
  | 0, _ => kSg_nil
  | i + 1, hi => by
    refine kSg_app (n := 104 + 12 * i) (kSg_ws i (by omega)) (by rw [kWs_len]) ?_
    rw [show b + 102 + (2 + 12 * i) = b + (104 + 12 * i) by omega]
    exact kSg_w (isW_p (by omega)) (fun j k hj => hC0_z (by omega) (by omega) (by omega) k)
theorem kSg_p : kSg aC b hC0 102 (kbX2 aC (b + 102)) := by
  refine kSg_cons (x := .inl 2) (by decide +kernel) (eqE_r rfl) (kSg_cons (x := .inr (.object RX8, 20)) (by decide +kernel) ?_ (kSg_ws 20 (Nat.le_refl _)))
  intro D q H hH
  show H[q]? = some (vp_cell _ (20, .inr (.inr (.inr (.inr (fun j => some (b + hC0.2.2 103 j)))))))
  have h1 : H[q]? = some (vp_cell (aC (.object RX8)) (20, .inr (.inr (.inr (.inr (kTp (b + 102) 20)))))) := hH
  rw [h1, vp_cell_q, vp_cell_q]
  have h2 : ∀ f g : Nat → Value, (∀ j, j < 20 → f j = g j) → arrV (aC (.object RX8)) 20 f = arrV (aC (.object RX8)) 20 g := by
    intro f g hfg
    unfold arrV
    rw [show (fun j : Fin 20 => f j.val) = fun j : Fin 20 => g j.val from funext (fun j => hfg j.val j.2)]
  refine congrArg some (h2 _ _ (fun j hj => ?_))
  show va_rf (kTp (b + 102) 20 j) = va_rf (some (b + (104 + 12 * j)))
  unfold kTp
  rw [if_pos hj, show b + 102 + (2 + 12 * j) = b + (104 + 12 * j) by omega]
theorem kSg_3 : kSg aC b hC0 2 (kbX3 aC (b + 2)) := by
  unfold kbX3
  refine kSg_app (n := 8) (kSg_app (n := 3) (kSg_cons (x := .inl 3) (by decide +kernel) (eqE_r rfl) kSg_nil) rfl ?_) (by simp [kbX7_len]) ?_
  · refine kSg_cons (x := .inl 7) (by decide +kernel) (eqE_r rfl) (kSg_cons (x := .inr (.int, 701)) (by decide +kernel) (eqE_r rfl) (kSg_cons (x := .inr (.int, 701)) (by decide +kernel) (eqE_r rfl) (kSg_cons (x := .inr (.int, 701)) (by decide +kernel) (eqE_r rfl) (kSg_cons (x := .inr (.int, 21)) (by decide +kernel) (eqE_r rfl) kSg_nil))))
  · exact kSg_s isS_1 (fun j k hj => hC0_z (by omega) (by omega) (by omega) k) (fun _ _ => rfl)
theorem kSg_4 : kSg aC b hC0 352 (kbX4 aC (b + 352)) := by
  unfold kbX4
  refine kSg_app (n := 370) (kSg_app (n := 358) ?_ rfl ?_) (by simp [kbX8_len]) ?_
  · exact kSg_cons (x := .inl 4) (by decide +kernel) (eqE_r rfl) (kSg_cons (x := .inr (.int, 64)) (by decide +kernel) (eqE_r rfl) (kSg_cons (x := .inr (.int, 64)) (by decide +kernel) (eqE_r rfl) (kSg_cons (x := .inr (.int, 6)) (by decide +kernel) (eqE_r rfl) (kSg_cons (x := .inr (.int, 4)) (by decide +kernel) (eqE_r rfl) (kSg_cons (x := .inr (.int, 4)) (by decide +kernel) (eqE_r rfl) kSg_nil)))))
  · exact kSg_w isW_358 (fun j k hj => hC0_z (by omega) (by omega) (by omega) k)
  · exact kSg_cons (x := .inr (.int, 4)) (by decide +kernel) (eqE_r rfl) (kSg_cons (x := .inr (.int, 4)) (by decide +kernel) (eqE_r rfl) (kSg_cons (x := .inr (.int, 6)) (by decide +kernel) (eqE_r rfl) kSg_nil))
theorem kSg_5 : kSg aC b hC0 346 (kbX5 aC (b + 346)) :=
  kSg_cons (x := .inl 5) (by decide +kernel) (eqE_r rfl) (kSg_cons (x := .inr (.int, 24)) (by decide +kernel) (eqE_r rfl) (kSg_cons (x := .inr (.int, 24)) (by decide +kernel) (eqE_r rfl) (kSg_cons (x := .inr (.boolean, 24)) (by decide +kernel) (eqE_r rfl) (kSg_cons (x := .inr (.int, 24)) (by decide +kernel) (eqE_r rfl) (kSg_cons (x := .inr (.boolean, 24)) (by decide +kernel) (eqE_r rfl) kSg_nil)))))
theorem kSg_9 : kSg aC b hC0 0 (kbX9 aC b) := by
  have zw : ∀ w, (w = 66 ∨ w = 78 ∨ w = 90) → kSg aC b hC0 w (kbX8 aC (b + w)) := fun w hw => kSg_w (isW_all w (by rcases hw with rfl | rfl | rfl <;> decide +kernel)) (fun j k hj => hC0_z (by omega) (by omega) (by omega) k)
  unfold kbX9
  refine kSg_app (n := 352) (kSg_app (n := 346) (kSg_app (n := 344) (kSg_app (n := 102) (kSg_app (n := 90) (kSg_app (n := 78) (kSg_app (n := 66) (kSg_app (n := 37) (kSg_app (n := 2) ?_ rfl kSg_3) ?_ ?_) ?_ (zw 66 (by decide))) ?_ (zw 78 (by decide))) ?_ (zw 90 (by decide))) ?_ kSg_p) ?_ ?_) ?_ kSg_5) ?_ kSg_4
  · exact kSg_cons (x := .inl 9) (by decide +kernel) (eqE_r rfl) (kSg_cons (x := .inr (.int, 700)) (by decide +kernel) (eqE_r rfl) kSg_nil)
  · simp [kbX3_len]
  · exact kSg_s isS_2 (fun j k hj => hC0_z (by omega) (by omega) (by omega) k) (fun _ _ => rfl)
  · simp [kbX3_len, kbX6_len]
  · simp [kbX3_len, kbX6_len, kbX8_len]
  · simp [kbX3_len, kbX6_len, kbX8_len]
  · simp [kbX3_len, kbX6_len, kbX8_len]
  · simp [kbX3_len, kbX6_len, kbX8_len, kbX2_len]
  · exact kSg_cons (x := .inl 0) (by decide +kernel) (eqE_r rfl) (kSg_cons (x := .inr (.long, 7)) (by decide +kernel) (eqE_r rfl) kSg_nil)
  · simp [kbX3_len, kbX6_len, kbX8_len, kbX2_len, kbX0_len]
  · simp [kbX3_len, kbX6_len, kbX8_len, kbX2_len, kbX0_len, kbX5_len]
theorem aSHC_len : aSHC.length = 373 := by decide +kernel
/-- the fresh ledger -/
theorem fresh_C {D : va_G} {H : Heap} (hP : va_P D acl (cw b (kbX9 aC b)) H) : va_P D acl (awl GC (fun c => b + c) aC hC0) H := by
  intro k q hq
  obtain ⟨x, hx, rfl⟩ := awl_inv hq
  have hl : k < (kbX9 aC b).length := by
    rw [kbX9_len, ← aSHC_len]
    exact (List.getElem?_eq_some_iff.mp hx).1
  have h1 := List.getElem?_eq_getElem hl
  obtain ⟨y, hy, he⟩ := kSg_9 (aC := aC) (b := b) k _ h1
  rw [Nat.zero_add] at hy he
  have hxy : x = y := Option.some.inj (hx.symm.trans hy)
  subst hxy
  exact he D _ H (hP k _ (cw_at h1))
theorem fresh_D {A : Nat → Prop} (hA : ∀ q, b ≤ q → q < b + 373 → A q) : va_D A (awl GC (fun c => b + c) aC h) := by
  refine ⟨fun i j p q hi hj e => ?_, fun k q hk => ?_⟩
  · obtain ⟨x, -, rfl⟩ := awl_inv hi
    obtain ⟨y, -, rfl⟩ := awl_inv hj
    have : b + i = b + j := e
    omega
  · obtain ⟨x, hx, rfl⟩ := awl_inv hk
    have := (List.getElem?_eq_some_iff.mp hx).1
    have h9 : GC.2.2.2.1.length = 373 := aSHC_len
    exact hA (b + k) (by omega) (by omega)
end KSG
