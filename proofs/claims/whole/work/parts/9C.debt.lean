/-! ===== debt: the reference's side ===== -/
/-- how a debt's question ends: 0 answered, 1 no such debt, 2 no such question -/
def dbr (D : Nat) (x y : Int32) : Int32 := if isIn x D then (if y < 0 then 2 else if y ≤ 7 then 0 else 2) else 1
def dbw (y : Int32) : Nat := if y = 0 then 69 else if y = 1 then 70 else if y = 2 then 71 else if y = 3 then 72 else if y = 4 then 73 else if y = 5 then 74 else if y = 6 then 75 else 77
def dbv (hC : aH) (x y : Int32) : Int32 := hC.1 (dbw y) x.toNatClampNeg
section DBM
variable {hC hM : aH} {sy m t n D0 D : Nat} {adK adV : Nat → Nat} {l : Launch} {ad : Nat → Nat} {d : Nat}
theorem gq_00 (g : GQ hC hM sy m t n D0 D) (v : Int32) : GQ hC (sI hM 0 0 v) sy m t n D0 D :=
  gq_frame (hC := hC) (hM := hM) ⟨fun _ _ _ => rfl, fun _ _ _ => rfl⟩ (fun c k h1 _ _ => by
    show (if c = 0 ∧ k = 0 then v else hM.1 c k) = hM.1 c k
    rw [if_neg (fun q => (h1 q.1).1 q.2)]) g
theorem m_debt {R : Int32 → aH → Prop} {x y : Int32} (g : GQ hC hM sy m t n D0 D) (H : ∀ z hM', GQ hC hM' sy m t n D0 D → hM'.1 0 0 = dbr D x y → (dbr D x y = 0 → z = dbv hC x y) → R z hM') : AW (GM adK adV) l ad (d + 1) mX10_debt 0 [(0, .ref (ad 0)), (1, .int x), (2, .int y)] [] hM (qi R) := by
  have e00 : ∀ v, (sI hM 0 0 v).1 0 0 = v := fun v => by show (if (0 : Nat) = 0 ∧ (0 : Nat) = 0 then v else hM.1 0 0) = v; rw [if_pos ⟨rfl, rfl⟩]
  have bad : ∀ v : Int32, ¬ v = 0 → dbr D x y = v → AW (GM adK adV) l ad (d + 1) mX10_debt 28 [(0, .ref (ad 0)), (1, .int x), (2, .int y)] [.int v, .ref (ad 0)] hM (qi R) := fun v hv e =>
    bX10_debt_28 _ _ _ _ ⟨fun z => absurd ((e00 v).symm.trans z) hv, fun _ => H _ _ (gq_00 g v) ((e00 v).trans e.symm) (fun z => absurd (e.symm.trans z) hv)⟩
  refine bX10_debt_0 _ _ _ (m_isDebt g ?_)
  by_cases hin : isIn x D = true
  · rw [if_pos hin]
    have hD8 : D ≤ 8 := g.2.1.1.1.2.2.1
    obtain ⟨p, hp, ep⟩ := isIn_of (by omega) hin
    refine ⟨fun _ => ⟨fun h1 => bX10_debt_23 _ _ _ (bad 2 (by decide) (by unfold dbr; rw [if_pos hin, if_pos h1])), fun h1 => ⟨fun h2 => ?_, fun h2 => bX10_debt_23 _ _ _ (bad 2 (by decide) (by unfold dbr; rw [if_pos hin, if_neg h1, if_neg h2]))⟩⟩, fun h => absurd h (by decide)⟩
    have hr : dbr D x y = 0 := by unfold dbr; rw [if_pos hin, if_neg h1, if_pos h2]
    have hcl : x.toNatClampNeg = p := by rw [ep]; exact nI_clamp (by omega)
    have hvp : vp_in x 184 := by rw [ep]; exact vp_in_nI (by omega) (by decide)
    have g0 := gq_00 g 0
    have rel := g0.2.1.2.1
    have fin : ∀ z, z = dbv hC x y → R z (sI hM 0 0 0) := fun z hz => H z _ g0 ((e00 0).trans hr.symm) (fun _ => hz)
    have row : ∀ j, 3 ≤ j → j ≤ 9 → (sI hM 0 0 0).1 (27 + j) p = hC.1 (66 + j) p := fun j j1 j2 => by
      have := rel.2.2.2.2.2.2.1 p hp j j1 j2
      rw [wq_at (by omega)] at this
      rw [← this]
      unfold bkT
      rw [if_neg (by omega), if_neg (by omega), if_neg (by omega), if_neg (by omega), if_pos ⟨j1, j2⟩, if_pos (by omega), Nat.mul_zero, Nat.zero_add]
    have rw1 : ∀ (j : Nat) (c : Int32), 3 ≤ j → j ≤ 9 → y = c → dbw c = 66 + j → vp_in x 184 ∧ R ((sI hM 0 0 0).1 (27 + j) x.toNatClampNeg) (sI hM 0 0 0) := fun j c j1 j2 e1 e2 => ⟨hvp, fin _ (by unfold dbv; rw [e1, e2, hcl]; exact row j j1 j2)⟩
    refine bX10_debt_28 _ _ _ _ ⟨fun _ => ⟨fun e => rw1 3 0 (by decide) (by decide) e (by decide), fun e => rw1 4 1 (by decide) (by decide) e (by decide), fun e => rw1 5 2 (by decide) (by decide) e (by decide), fun e => rw1 6 3 (by decide) (by decide) e (by decide), fun e => rw1 7 4 (by decide) (by decide) e (by decide), fun e => rw1 8 5 (by decide) (by decide) e (by decide), fun e => rw1 9 6 (by decide) (by decide) e (by decide), fun n0 n1 n2 n3 n4 n5 n6 => ?_⟩, fun z => absurd (e00 0) z⟩
    rw [ep]
    refine mH (b := 0) (m_knowers (b := 0) g0.1.2.2.2.2.1 (by decide) g0.2.1.1.1 rel hp ?_)
    rw [pB_bk]
    refine fin _ ?_
    unfold dbv dbw
    rw [if_neg n0, if_neg n1, if_neg n2, if_neg n3, if_neg n4, if_neg n5, if_neg n6, hcl, wq_at (by decide)]
  · rw [if_neg hin]
    exact ⟨fun h => absurd rfl h, fun _ => bad 1 (by decide) (by unfold dbr; rw [if_neg hin])⟩
end DBM
