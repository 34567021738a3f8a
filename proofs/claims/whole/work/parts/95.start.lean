/-! ===== the fresh ledger and the fresh reference are alike ===== -/
theorem wd0 {j k : Nat} : wd hC0 37 j k = 0 := by
  unfold wd
  split
  · exact hC0_z (by omega) (by omega) (by omega) k
  · rfl
theorem wq0 {j k : Nat} : wq hC0 66 j k = 0 := by
  unfold wq
  split
  · exact hC0_z (by omega) (by omega) (by omega) k
  · rfl
theorem hM0_z {c : Nat} (h : c ≠ 0) (k : Nat) : hM0.1 c k = 0 := by
  show (if c = 0 then _ else (0 : Int32)) = 0
  rw [if_neg h]
theorem inv_z {ω : wT} (hz : ∀ j k, ω j k = 0) : Inv 0 0 0 ω := ⟨⟨by decide, by decide, by decide, hz _ _, ⟨0, by decide, hz _ _⟩, fun i hi => absurd hi (Nat.not_lt_zero _)⟩, ⟨fun i hi => absurd hi (Nat.not_lt_zero _), fun i hi => absurd hi (Nat.not_lt_zero _)⟩, fun i hi => absurd hi (Nat.not_lt_zero _)⟩
theorem wfc_z {cd : Nat → Int32} : WFc cd 0 := ⟨fun i hi => absurd hi (Nat.not_lt_zero _), Or.inl rfl, by decide⟩
theorem ml_z {h : aH} {σ : wT} {k j : Nat} (h1 : h.1 17 k = 0) (h2 : h.1 18 k = 0) (hz : ∀ j k, σ j k = 0) : ML h σ k j := ⟨0, 0, h1, h2, by decide, hz _ _, wfc_z, fun i hi => absurd hi (Nat.not_lt_zero _)⟩
theorem mc_z {h : aH} (z : ∀ c k, 1 ≤ c → c < 23 → h.1 c k = 0) : MC h (wd hC0 37) 0 0 0 := ⟨z 2 0 (by decide) (by decide), z 2 1 (by decide) (by decide), z 2 3 (by decide) (by decide), by rw [wd0]; exact z 2 4 (by decide) (by decide), fun e he => absurd he (Nat.not_lt_zero _), fun e he => absurd he (Nat.not_lt_zero _), ml_z (z _ _ (by decide) (by decide)) (z _ _ (by decide) (by decide)) (fun _ _ => wd0), ml_z (z _ _ (by decide) (by decide)) (z _ _ (by decide) (by decide)) (fun _ _ => wd0), ml_z (z _ _ (by decide) (by decide)) (z _ _ (by decide) (by decide)) (fun _ _ => wd0)⟩
theorem stW0 {j k : Nat} : stW (wd hC0 37) j k = 0 := by
  unfold stW
  split
  · exact wd0
  · rfl
theorem gr_z {h : aH} (z : ∀ c k, 1 ≤ c → c < 23 → h.1 c k = 0) : gR h (wd hC0 37) 0 0 0 :=
  ⟨fun p hp => absurd hp (Nat.not_lt_zero _), fun p hp => absurd hp (Nat.not_lt_zero _), z 2 2 (by decide) (by decide), by rw [wd0]; exact z 2 5 (by decide) (by decide), by rw [wd0]; exact z 2 6 (by decide) (by decide), fun i hi => absurd hi (Nat.not_lt_zero _), inv_z (fun _ _ => stW0), fun i hi => absurd hi (Nat.not_lt_zero _), wd0, wd0, fun i hi => absurd hi (Nat.not_lt_zero _), 0, by decide, wd0⟩
theorem gr_start {β : wT} (rb : RelW 0 0 0 (stW (wd hC0 37)) β) : GR hC0 (pB hM0 0 β) := by
  have z : ∀ c k, 1 ≤ c → c < 23 → (pB hM0 0 β).1 c k = 0 := fun c k h1 h2 => by rw [pB_lo h2]; exact hM0_z (by omega) k
  have z0 : ∀ k, (pB hM0 0 β).1 0 k = hM0.1 0 k := fun k => pB_lo (by decide)
  have no : ∀ {p : Nat → Prop}, ∀ i, i < 0 → p i := fun i hi => absurd hi (Nat.not_lt_zero _)
  refine ⟨37, 0, 0, 0, 0, 0, ⟨Or.inr rfl, rfl, rfl, ⟨wd0, wd0, wd0, by decide, no, no, ⟨0, wd0, wfc_z⟩, ⟨0, wd0, wfc_z⟩, ⟨0, wd0, wfc_z⟩⟩, mc_z z, gr_z z⟩, ⟨inv_z (fun _ _ => wq0), ?_, no⟩, ⟨?_, fun hn => absurd rfl hn⟩, ⟨⟨fun i => i, fun i hi => ⟨hi, rfl⟩, fun i j _ _ e => e⟩, 0, by decide, rfl, by rw [z0]; rfl, no⟩, ⟨0, by decide, rfl, by rw [z0]; rfl, by rw [z0]; rfl, Or.inl (by rw [z0]; rfl), no⟩, ⟨0, by decide, rfl, by rw [z0]; rfl, fun k hk => absurd hk (Nat.not_lt_zero _)⟩, ?_, ?_, ?_, ?_, ?_⟩
  · obtain ⟨r1, r2, r3, r4, -⟩ := rb
    rw [stW0] at r2 r3 r4
    refine ⟨?_, ?_, ?_, ?_, no, no, no, no⟩
    · rw [bk_pB (Or.inl ⟨rfl, Or.inl rfl⟩)]; exact r1
    · rw [bk_pB (Or.inl ⟨rfl, Or.inr (Or.inl rfl)⟩), wq0]; exact r2
    · rw [bk_pB (Or.inl ⟨rfl, Or.inr (Or.inr (Or.inl rfl))⟩), wq0]; exact r3
    · rw [bk_pB (Or.inl ⟨rfl, Or.inr (Or.inr (Or.inr rfl))⟩), wq0]; exact r4
  · rw [z0]; rfl
  · rw [z0]; rfl
  · rw [z0]; rfl
  · rw [z0]; rfl
  · intro k hk
    show kTw 21 k = nI (wdC k)
    unfold kTw
    rw [if_pos hk]
  · exact hC0_z (by decide) (by decide) (by decide) 0
/-- the reference's beginning -/
theorem m_begin0 {adK adV : Nat → Nat} {l : Launch} {ad : Nat → Nat} : AW (GM adK adV) l ad 1 mX10_begins 0 [(0, .ref (ad 0))] [] hM0 (qv (fun h' => GR hC0 h')) :=
  bX10_begins_0 (d := 0) _ (mH (b := 0) (m_starts (b := 0) (by decide) (mc_z (fun c k h1 _ => hM0_z (by omega) k)) (gr_z (fun c k h1 _ => hM0_z (by omega) k)) (by decide) (by decide) (by decide) (fun β' rb => gr_start rb)))
