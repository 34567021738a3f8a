/-! ===== the class's worlds copied; what is past ===== -/
def vlW (j k : Nat) : Prop := (j = 0 ∧ 11 ≤ k ∧ k ≤ 14) ∨ ((j = 1 ∨ j = 2) ∧ k < 6) ∨ (3 ≤ j ∧ j ≤ 10 ∧ k < 8) ∨ (j = 11 ∧ k < 14)
def cpW (ω γ : wT) : wT := fun j k => if (j = 0 ∧ 11 ≤ k ∧ k ≤ 14) ∨ ((j = 1 ∨ j = 2) ∧ k < 6) ∨ (3 ≤ j ∧ j ≤ 10 ∧ k < 8) ∨ (j = 11 ∧ k < 14) then γ j k else ω j k
theorem cpW_at {ω γ : wT} {j k : Nat} (h : vlW j k) : cpW ω γ j k = γ j k := by unfold cpW; exact if_pos h
theorem inv_ext {m t D : Nat} {γ γ' : wT} (I : Inv m t D γ) (H : ∀ j k, vlW j k → γ' j k = γ j k) : Inv m t D γ' := by
  obtain ⟨⟨w1, w2, w3, w4, w5, w6⟩, ⟨i1, i2⟩, ik⟩ := I
  have h0 : ∀ k, 11 ≤ k → k ≤ 14 → γ' 0 k = γ 0 k := fun k h1 h2 => H _ _ (Or.inl ⟨rfl, h1, h2⟩)
  have hr : ∀ j i, i < D → 3 ≤ j → j ≤ 10 → γ' j i = γ j i := fun j i hi h1 h2 => H _ _ (Or.inr (Or.inr (Or.inl ⟨h1, h2, by omega⟩)))
  have hk : ∀ i, i < D → γ' 11 i = γ 11 i := fun i hi => H _ _ (Or.inr (Or.inr (Or.inr ⟨rfl, by omega⟩)))
  refine ⟨⟨w1, w2, w3, (h0 11 (by omega) (by omega)).trans w4, ?_, fun i hi => ?_⟩, ⟨fun i hi => ?_, fun e he => ?_⟩, fun i hi e he => ?_⟩
  · rw [h0 12 (by omega) (by omega)]; exact w5
  · rw [hr 3 i hi (by omega) (by omega), hr 4 i hi (by omega) (by omega), hr 6 i hi (by omega) (by omega), hk i hi]; exact w6 i hi
  · rw [hr 8 i hi (by omega) (by omega), hr 10 i hi (by omega) (by omega), hr 7 i hi (by omega) (by omega), hr 9 i hi (by omega) (by omega), hk i hi]; exact i1 i hi
  · rw [H 2 e (Or.inr (Or.inl ⟨by omega, by omega⟩))]; exact i2 e he
  · rw [hk i hi, h0 12 (by omega) (by omega)]; exact ik i hi e he
theorem rel_extL {m t D : Nat} {γ γ' β : wT} (hm : m ≤ 6) (ht : t ≤ 6) (hD : D ≤ 8) (r : RelW m t D γ β) (H : ∀ j k, vlW j k → γ' j k = γ j k) : RelW m t D γ' β := by
  obtain ⟨a1, a2, a3, a4, a5, a6, a7, a8⟩ := r
  refine ⟨a1, a2.trans (H _ _ (Or.inl ⟨rfl, by omega, by omega⟩)).symm, a3.trans (H _ _ (Or.inl ⟨rfl, by omega, by omega⟩)).symm, a4.trans (H _ _ (Or.inl ⟨rfl, by omega, by omega⟩)).symm, fun p hp => (a5 p hp).trans (H _ _ (Or.inr (Or.inl ⟨by omega, by omega⟩))).symm, fun e he => (a6 e he).trans (H _ _ (Or.inr (Or.inl ⟨by omega, by omega⟩))).symm, fun i hi j h1 h2 => (a7 i hi j h1 h2).trans (H _ _ (Or.inr (Or.inr (Or.inl ⟨h1, by omega, by omega⟩)))).symm, fun e he => ⟨(a8 e he).1, fun i hi => ?_⟩⟩
  rw [H 11 i (Or.inr (Or.inr (Or.inr ⟨rfl, by omega⟩)))]
  exact (a8 e he).2 i hi
theorem inv_cp {m t D : Nat} {ω γ : wT} (I : Inv m t D γ) : Inv m t D (cpW ω γ) := inv_ext I (fun _ _ h => cpW_at h)
theorem rel_cp {m t D : Nat} {ω γ β : wT} (I : Inv m t D γ) (r : RelW m t D γ β) : RelW m t D (cpW ω γ) β := rel_extL I.1.1 I.1.2.1 I.1.2.2.1 r (fun _ _ h => cpW_at h)
def rcp (ω : wT) (j n : Nat) (f : Nat → Int32) : wT := fun a k => if a = j ∧ k < n then f k else ω a k
theorem cpI_pW {h : aH} {w v j n : Nat} {ω : wT} (hj : j < 12) (hv : v + 12 ≤ w ∨ w + 12 ≤ v) : cpI (pW h w ω) (v + j) (w + j) 0 0 n = pW h w (rcp ω j n (h.1 (v + j))) := by
  unfold cpI
  refine Prod.ext ?_ rfl
  funext c k
  show (if c = w + j then va_cpy ((pW h w ω).1 (v + j)) ((pW h w ω).1 (w + j)) 0 0 n k else (pW h w ω).1 c k) = (pW h w (rcp ω j n (h.1 (v + j)))).1 c k
  have eo : (pW h w ω).1 (v + j) = h.1 (v + j) := by funext k; exact pW_off (by omega)
  rw [eo]
  by_cases hc : c = w + j
  · subst hc
    rw [if_pos rfl, pW_get hj]
    unfold rcp
    by_cases hk : k < n
    · rw [if_pos ⟨rfl, hk⟩, pk_cpy_in (by omega) (by omega)]
      rw [Nat.sub_zero, Nat.zero_add]
    · rw [if_neg (fun q => hk q.2), pk_cpy_out (by omega), pW_get hj]
  · rw [if_neg hc]
    by_cases h2 : w ≤ c ∧ c < w + 12
    · obtain ⟨q, rfl⟩ : ∃ q, c = w + q := ⟨c - w, by omega⟩
      rw [pW_get (by omega), pW_get (by omega)]
      unfold rcp
      rw [if_neg (fun z => hc (by rw [z.1]))]
    · rw [pW_off (by omega), pW_off (by omega)]
theorem sI_s {h : aH} {c k : Nat} {v : Int32} : (sI h c k v).1 c k = v := if_pos ⟨rfl, rfl⟩
theorem sI_c {h : aH} {c k a b : Nat} {v : Int32} (hc : a ≠ c) : (sI h c k v).1 a b = h.1 a b := if_neg (fun q => hc q.1)
theorem sI_k {h : aH} {c k a b : Nat} {v : Int32} (hk : b ≠ k) : (sI h c k v).1 a b = h.1 a b := if_neg (fun q => hk q.2)
section PA
variable {l : Launch} {ad : Nat → Nat} {d w v : Nat} {h : aH}
theorem rcp_at {ω : wT} {j n a k : Nat} {f : Nat → Int32} : rcp ω j n f a k = if a = j ∧ k < n then f k else ω a k := rfl
theorem sp_copyFrom {R : aH → Prop} (hw : isW GC w) (hv : isW GC v) (hd : v + 12 ≤ w ∨ w + 12 ≤ v) (H : R (pW h w (cpW (wq h w) (wq h v)))) : AW GC l ad (d + 1) mX8_copyFrom 0 [(0, .ref (ad w)), (1, .ref (ad v))] [] h (qv R) := by
  refine bX8_copyFrom_0 w v hw hv h (href (href (href (href ?_))))
  have e0 : h = pW h w (wq h w) := (pW_wq h w).symm
  have eR : ∀ h', h' = pW h w (cpW (wq h w) (wq h v)) → R h' := fun h' e => by rw [e]; exact H
  apply eR
  have o : ∀ {ω : wT} {k}, (pW h w ω).1 v k = h.1 v k := fun {ω} {k} => pW_off (by omega)
  have s1 : cpI (cpI (cpI (cpI h (v + 1) (w + 1) 0 0 6) (v + 2) (w + 2) 0 0 6) (v + 3) (w + 3) 0 0 8) (v + 4) (w + 4) 0 0 8 = pW h w (rcp (rcp (rcp (rcp (wq h w) 1 6 (h.1 (v + 1))) 2 6 (h.1 (v + 2))) 3 8 (h.1 (v + 3))) 4 8 (h.1 (v + 4))) := by
    have s0 : cpI h (v + 1) (w + 1) 0 0 6 = pW h w (rcp (wq h w) 1 6 (h.1 (v + 1))) := by
      have := cpI_pW (h := h) (w := w) (v := v) (j := 1) (n := 6) (ω := wq h w) (by decide) hd
      rw [pW_wq] at this
      exact this
    rw [s0, cpI_pW (by decide) hd, cpI_pW (by decide) hd, cpI_pW (by decide) hd]
  rw [s1, cpI_pW (by decide) hd, cpI_pW (by decide) hd, cpI_pW (by decide) hd, cpI_pW (by decide) hd, cpI_pW (by decide) hd, cpI_pW (by decide) hd, cpI_pW (by decide) hd, o, sI_pW0, o, sI_pW0, o, sI_pW0, o, sI_pW0]
  congr 1
  funext a k
  simp only [u2_app, rcp_at]
  unfold cpW
  have q0 : ∀ {j}, j < 12 → h.1 (v + j) k = wq h v j k := fun hj => (wq_at hj).symm
  have q00 : h.1 v k = wq h v 0 k := (wq_at (j := 0) (by decide)).symm
  by_cases ha : 12 ≤ a
  · rw [if_neg (by omega), if_neg (by omega), if_neg (by omega), if_neg (by omega), if_neg (by omega), if_neg (by omega), if_neg (by omega), if_neg (by omega), if_neg (by omega), if_neg (by omega), if_neg (by omega), if_neg (by omega), if_neg (by omega), if_neg (by omega), if_neg (by omega), if_neg (by omega)]
  · have ha : a < 12 := by omega
    match a, ha with
    | 0, _ =>
      by_cases h14 : k = 14
      · subst h14; simp [wq]
      by_cases h13 : k = 13
      · subst h13; simp [wq]
      by_cases h12 : k = 12
      · subst h12; simp [wq]
      by_cases h11 : k = 11
      · subst h11; simp [wq]
      · have : ¬ (11 ≤ k ∧ k ≤ 14) := by omega
        simp [h14, h13, h12, h11, this]
    | 1, _ => by_cases hk : k < 6 <;> simp [hk, wq]
    | 2, _ => by_cases hk : k < 6 <;> simp [hk, wq]
    | 3, _ => by_cases hk : k < 8 <;> simp [hk, wq]
    | 4, _ => by_cases hk : k < 8 <;> simp [hk, wq]
    | 5, _ => by_cases hk : k < 8 <;> simp [hk, wq]
    | 6, _ => by_cases hk : k < 8 <;> simp [hk, wq]
    | 7, _ => by_cases hk : k < 8 <;> simp [hk, wq]
    | 8, _ => by_cases hk : k < 8 <;> simp [hk, wq]
    | 9, _ => by_cases hk : k < 8 <;> simp [hk, wq]
    | 10, _ => by_cases hk : k < 8 <;> simp [hk, wq]
    | 11, _ => by_cases hk : k < 14 <;> simp [hk, wq]
/-- where the past's worlds lie: all twenty, each once -/
def PRf (h : aH) : Prop := ∃ π : Nat → Nat, (∀ i, i < 20 → π i < 20 ∧ h.2.2 103 i = 104 + 12 * π i) ∧ ∀ i j, i < 20 → j < 20 → π i = π j → i = j
theorem isW_p {q : Nat} (hq : q < 20) : isW GC (104 + 12 * q) := by
  have : ∀ q, q < 20 → 104 + 12 * q ∈ aWs := by decide +kernel
  exact isW_all _ (this q hq)
theorem wq_ext {h h' : aH} {w w' : Nat} (H : ∀ j k, j < 12 → h'.1 (w' + j) k = h.1 (w + j) k) : wq h' w' = wq h w := by
  funext j k
  unfold wq
  by_cases hj : j < 12
  · rw [if_pos hj, if_pos hj, H j k hj]
  · rw [if_neg hj, if_neg hj]
theorem wq_pW {h : aH} {w : Nat} {ω : wT} {j k : Nat} (hj : j < 12) : wq (pW h w ω) w j k = ω j k := by rw [wq_at hj, pW_get hj]
theorem wq_pWo {h : aH} {w w' : Nat} {ω : wT} (hd : w' + 12 ≤ w ∨ w + 12 ≤ w') : wq (pW h w ω) w' = wq h w' := wq_ext (fun j k hj => pW_off (by omega))
/-- a world stored: c' worlds stay, the newest behind them -/
def PSt (h h' : aH) (c : Nat) : Prop := ∃ c', c' ≤ 19 ∧ c' ≤ c ∧ (c' = c ∨ c = 20 ∧ c' = 19) ∧ h'.1 102 1 = nI (c' + 1) ∧ h'.2.1 = h.2.1 ∧ (∀ a k, a ≠ 103 → h'.2.2 a k = h.2.2 a k) ∧ (∀ a k, a < 102 ∨ 344 ≤ a → h'.1 a k = h.1 a k) ∧ PRf h' ∧ (∀ i, i < c' → wq h' (h'.2.2 103 i) = wq h (h.2.2 103 (i + (c - c')))) ∧ ∃ ω, ∀ j k, j < 12 → wq h' (h'.2.2 103 c') j k = cpW ω (wq h 66) j k
theorem sp_st13 {R : aH → Prop} {h : aH} {c : Nat} (hc : h.1 102 1 = nI c) (h20 : c < 20) (P : PRf h) (H : ∀ ω, R (sI (pW h (h.2.2 103 c) (cpW ω (wq h 66))) 102 1 (nI (c + 1)))) : AW GC l ad (d + 2) mX2_store 13 [(0, .ref (ad 102)), (1, .ref (ad 66))] [] h (qv R) := by
  obtain ⟨π, hp, hi⟩ := P
  obtain ⟨p1, p2⟩ := hp c h20
  refine bX2_store_13 66 isW_66 h ?_
  rw [hc, nI_clamp (by omega)]
  refine ⟨fun z => absurd z (nI_pos (by omega)), fun _ => ⟨fun z => absurd z (nI_ge (b := 20) h20 (by omega)), fun _ => ⟨vp_in_nI h20 (by omega), mref p2 ⟨isW_p p1, ?_⟩⟩⟩⟩
  refine sp_copyFrom (isW_p p1) isW_66 (Or.inl (by omega)) ?_
  rw [pW_off (by omega), hc, nI_1, ← p2]
  exact H _
def rotH (h : aH) (n : Nat) : aH := (h.1, h.2.1, fun c k => if c = 103 ∧ k < n then h.2.2 103 (k + 1) else h.2.2 c k)
theorem sp_dropFirst {R : aH → Prop} {h : aH} (P : PRf h) (H : R (sI (sR (rotH h 19) 103 19 (h.2.2 103 0)) 102 1 19)) : AW GC l ad d mX2_dropFirst 0 [(0, .ref (ad 102))] [] h (qv R) := by
  obtain ⟨π, hp, hi⟩ := P
  refine bX2_dropFirst_0 h (mref (hp 0 (by decide)).2 ⟨isW_p (hp 0 (by decide)).1, ?_⟩)
  have W0 := isW_p (hp 0 (by decide)).1
  rw [(hp 0 (by decide)).2] at H
  have e0 : rotH h 0 = h := by
    unfold rotH
    refine Prod.ext rfl (Prod.ext rfl ?_)
    funext c k
    show (if c = 103 ∧ k < 0 then _ else _) = _
    rw [if_neg (fun q => Nat.not_lt_zero _ q.2)]
  have key := up_ind (P := fun i => AW GC l ad d mX2_dropFirst 9 [(0, .ref (ad 102)), (1, .ref (ad (104 + 12 * π 0))), (2, .int (nI (i + 1)))] [] (rotH h i) (qv R)) 19 ?_ (fun i hi2 ih => ?_)
  · rw [e0] at key
    exact key
  · exact bX2_dropFirst_9 _ _ W0 _ ⟨fun _ => H, fun z => absurd (by decide) z⟩
  · refine bX2_dropFirst_9 _ _ W0 _ ⟨fun z => absurd z (nI_ge (b := 20) (by omega) (by omega)), fun _ => ⟨vp_in_nI (by omega) (by omega), ?_⟩⟩
    rw [nI_clamp (by omega), nI_pred, nI_clamp (by omega), nI_1]
    have e1 : (rotH h i).2.2 103 (i + 1) = h.2.2 103 (i + 1) := by
      show (if 103 = 103 ∧ i + 1 < i then _ else _) = _
      rw [if_neg (by omega)]
    rw [e1]
    refine mref (hp (i + 1) (by omega)).2 ⟨isW_p (hp (i + 1) (by omega)).1, vp_in_nI (by omega) (by omega), ?_⟩
    have e2 : sR (rotH h i) 103 i (104 + 12 * π (i + 1)) = rotH h (i + 1) := by
      unfold sR rotH
      refine Prod.ext rfl (Prod.ext rfl ?_)
      funext c k
      show (if c = 103 ∧ k = i then 104 + 12 * π (i + 1) else if c = 103 ∧ k < i then h.2.2 103 (k + 1) else h.2.2 c k) = if c = 103 ∧ k < i + 1 then h.2.2 103 (k + 1) else h.2.2 c k
      by_cases h1 : c = 103
      · by_cases h2 : k = i
        · rw [if_pos ⟨h1, h2⟩, if_pos ⟨h1, by omega⟩, h2, (hp (i + 1) (by omega)).2]
        · rw [if_neg (fun q => h2 q.2)]
          by_cases h3 : k < i
          · rw [if_pos ⟨h1, h3⟩, if_pos ⟨h1, by omega⟩]
          · rw [if_neg (fun q => h3 q.2), if_neg (fun q => h3 (by omega))]
      · rw [if_neg (fun q => h1 q.1), if_neg (fun q => h1 q.1), if_neg (fun q => h1 q.1)]
    rw [e2]
    exact ih
theorem sp_store {R : aH → Prop} {h : aH} {c : Nat} (hc : h.1 102 1 = nI c) (h20 : c ≤ 20) (P : PRf h) (H : ∀ h', PSt h h' c → R h') : AW GC l ad (d + 2) mX2_store 0 [(0, .ref (ad 102)), (1, .ref (ad 66))] [] h (qv R) := by
  refine bX2_store_0 66 isW_66 h ?_
  rw [hc]
  refine ⟨fun z => ?_, fun z => ?_⟩
  · have hlt : c < 20 := (nI_ltI (a := c) (b := 20) (by omega) (by omega)).mp z
    refine sp_st13 hc hlt P (fun ω => H _ ?_)
    obtain ⟨π, hp, hi⟩ := P
    obtain ⟨p1, p2⟩ := hp c hlt
    refine ⟨c, by omega, Nat.le_refl _, Or.inl rfl, ?_, rfl, fun _ _ _ => rfl, fun a k ha => ?_, ⟨π, hp, hi⟩, fun i hic => ?_, ω, fun j k hj => ?_⟩
    · exact sI_s
    · show (if a = 102 ∧ k = 1 then _ else (pW h (h.2.2 103 c) (cpW ω (wq h 66))).1 a k) = _
      rw [if_neg (by omega), pW_off (by omega)]
    · obtain ⟨q1, q2⟩ := hp i (by omega)
      have hne : π i ≠ π c := fun z => by have := hi i c (by omega) hlt z; omega
      show wq (sI (pW h (h.2.2 103 c) (cpW ω (wq h 66))) 102 1 (nI (c + 1))) (h.2.2 103 i) = wq h (h.2.2 103 (i + (c - c)))
      rw [Nat.sub_self]
      refine wq_ext (fun j k hj => ?_)
      show (if h.2.2 103 i + j = 102 ∧ k = 1 then _ else (pW h (h.2.2 103 c) (cpW ω (wq h 66))).1 (h.2.2 103 i + j) k) = h.1 (h.2.2 103 i + j) k
      rw [if_neg (by omega), pW_off (by omega)]
    · show wq (sI (pW h (h.2.2 103 c) (cpW ω (wq h 66))) 102 1 (nI (c + 1))) (h.2.2 103 c) j k = _
      rw [wq_at hj]
      show (if h.2.2 103 c + j = 102 ∧ k = 1 then _ else (pW h (h.2.2 103 c) (cpW ω (wq h 66))).1 (h.2.2 103 c + j) k) = _
      rw [if_neg (by omega), pW_get hj]
  · have hge : c = 20 := by
      have : ¬ c < 20 := fun q => z ((nI_ltI (a := c) (b := 20) (by omega) (by omega)).mpr q)
      omega
    subst hge
    refine sp_dropFirst P ?_
    obtain ⟨π, hp, hi⟩ := P
    have r1 : ∀ i, i < 19 → (sI (sR (rotH h 19) 103 19 (h.2.2 103 0)) 102 1 19).2.2 103 i = h.2.2 103 (i + 1) := by
      intro i hi
      show (if 103 = 103 ∧ i = 19 then _ else (if 103 = 103 ∧ i < 19 then h.2.2 103 (i + 1) else _)) = _
      rw [if_neg (by omega), if_pos ⟨rfl, hi⟩]
    have r2 : (sI (sR (rotH h 19) 103 19 (h.2.2 103 0)) 102 1 19).2.2 103 19 = h.2.2 103 0 := by
      rfl
    have P' : PRf (sI (sR (rotH h 19) 103 19 (h.2.2 103 0)) 102 1 19) := by
      refine ⟨fun i => if i < 19 then π (i + 1) else π 0, fun i hi2 => ?_, fun i j h1 h2 => ?_⟩
      · by_cases q : i < 19
        · rw [r1 i q]
          show (if i < 19 then π (i + 1) else π 0) < 20 ∧ _ = 104 + 12 * (if i < 19 then π (i + 1) else π 0)
          rw [if_pos q]; exact hp (i + 1) (by omega)
        · have : i = 19 := by omega
          subst this
          rw [r2]
          show (if 19 < 19 then π (19 + 1) else π 0) < 20 ∧ _ = 104 + 12 * (if 19 < 19 then π (19 + 1) else π 0)
          rw [if_neg q]; exact hp 0 (by omega)
      · show (if i < 19 then π (i + 1) else π 0) = (if j < 19 then π (j + 1) else π 0) → i = j
        by_cases q : i < 19
        · by_cases q2 : j < 19
          · rw [if_pos q, if_pos q2]; intro z; have := hi _ _ (by omega) (by omega) z; omega
          · rw [if_pos q, if_neg q2]; intro z; have := hi _ _ (by omega) (by omega) z; omega
        · by_cases q2 : j < 19
          · rw [if_neg q, if_pos q2]; intro z; have := hi _ _ (by omega) (by omega) z; omega
          · omega
    have f1 : ∀ a k, (sI (sR (rotH h 19) 103 19 (h.2.2 103 0)) 102 1 19).1 a k = if a = 102 ∧ k = 1 then 19 else h.1 a k := fun _ _ => rfl
    have f2 : ∀ a k, a ≠ 103 → (sI (sR (rotH h 19) 103 19 (h.2.2 103 0)) 102 1 19).2.2 a k = h.2.2 a k := by
      intro a k ha
      show (if a = 103 ∧ k = 19 then _ else (if a = 103 ∧ k < 19 then _ else h.2.2 a k)) = _
      rw [if_neg (fun q => ha q.1), if_neg (fun q => ha q.1)]
    have f3 : (sI (sR (rotH h 19) 103 19 (h.2.2 103 0)) 102 1 19).2.1 = h.2.1 := rfl
    generalize sI (sR (rotH h 19) 103 19 (h.2.2 103 0)) 102 1 19 = g at r1 r2 P' f1 f2 f3
    refine sp_st13 (c := 19) (by rw [f1, if_pos ⟨rfl, rfl⟩]; rfl) (by decide) P' (fun ω => H _ ?_)
    obtain ⟨π', hp', hi'⟩ := P'
    obtain ⟨p1, p2⟩ := hp' 19 (by decide)
    have e66 : wq g 66 = wq h 66 := wq_ext (fun j k hj => by rw [f1, if_neg (by omega)])
    refine ⟨19, by omega, by omega, Or.inr ⟨rfl, rfl⟩, ?_, f3, f2, fun a k ha => ?_, ⟨π', hp', hi'⟩, fun i hic => ?_, ω, fun j k hj => ?_⟩
    · exact sI_s
    · show (if a = 102 ∧ k = 1 then _ else (pW g (g.2.2 103 19) (cpW ω (wq g 66))).1 a k) = _
      rw [if_neg (by omega), pW_off (by omega), f1, if_neg (by omega)]
    · obtain ⟨q1, q2⟩ := hp' i (by omega)
      have hne : π' i ≠ π' 19 := fun z => by have := hi' i 19 (by omega) (by decide) z; omega
      show wq (sI (pW g (g.2.2 103 19) (cpW ω (wq g 66))) 102 1 (nI (19 + 1))) (g.2.2 103 i) = wq h (h.2.2 103 (i + (20 - 19)))
      have e : h.2.2 103 (i + (20 - 19)) = g.2.2 103 i := (r1 i hic).symm
      rw [e]
      refine wq_ext (fun j k hj => ?_)
      show (if g.2.2 103 i + j = 102 ∧ k = 1 then _ else (pW g (g.2.2 103 19) (cpW ω (wq g 66))).1 (g.2.2 103 i + j) k) = _
      rw [if_neg (by omega), pW_off (by omega), f1, if_neg (by omega)]
    · show wq (sI (pW g (g.2.2 103 19) (cpW ω (wq g 66))) 102 1 (nI (19 + 1))) (g.2.2 103 19) j k = _
      rw [wq_at hj]
      show (if g.2.2 103 19 + j = 102 ∧ k = 1 then _ else (pW g (g.2.2 103 19) (cpW ω (wq g 66))).1 (g.2.2 103 19 + j) k) = _
      rw [if_neg (by omega), pW_get hj, e66]
end PA
