/-! ===== debt: what throwing stands on ===== -/
def exI : String := "java/lang/IndexOutOfBoundsException"
def exN : String := "java/util/NoSuchElementException"
def exU : List String := ["java/lang/RuntimeException", "java/lang/Exception"]
def isU : Cond := .isRef (.static "java/lang/Throwable" "UNASSIGNED_STACK" "[Ljava/lang/StackTraceElement;")
def isV : Cond := .isRef (.static "java/lang/Throwable" "SUPPRESSED_SENTINEL" "Ljava/util/List;")
/-- U comes from s: tables only warmed, the old cells as they were -/
def TE (s U : State) : Prop := s.WarmedH U.vm ∧ ∀ q : Nat, q < s.heap.size → U.heap[q]? = s.heap[q]?
theorem te_ls {s U : State} {A B : Array Value} {C n d : String} (h : TE s U) (hl : (Cond.laysStatic C n d).before A s = true) : (Cond.laysStatic C n d).before B U = true := by
  obtain ⟨c, k, i, f, a, cell, hc, hi, hst, ha, hcell, hs, hcls, hlt, hty⟩ := Cond.laysStatic_spec hl
  obtain ⟨k', hi', hek⟩ := State.fieldFound?_setVm h.1.alike hi
  exact Cond.laysStatic_of (s := U) (by rw [h.1.alike.findClass]; exact hc) hi' hst (by rw [hek]; exact ha) (by rw [h.2 a (Array.getElem?_eq_some_iff.mp hcell).1]; exact hcell) hs hcls hlt (by rw [hek]; exact hty)
theorem te_rf {s U : State} {A B : Array Value} {C n d : String} (h : TE s U) (hl : (Cond.laysStatic C n d).before A s = true) (hr : (Cond.isRef (.static C n d)).before A s = true) : (Cond.isRef (.static C n d)).before B U = true := by
  obtain ⟨c, k, i, f, a, cell, hc, hi, hst, ha, hcell, hs, hcls, hlt, hty⟩ := Cond.laysStatic_spec hl
  obtain ⟨k', hi', hek⟩ := State.fieldFound?_setVm h.1.alike hi
  cases hv : (Term.static C n d).eval A s none [] s with
  | none => simp [Cond.before, Cond.holds, Cond.value, hv] at hr
  | some v =>
    obtain ⟨hst', a', cell', ha', hcell', hs', hslot⟩ := Term.static_spec hi hv
    cases ha.symm.trans ha'
    cases hcell.symm.trans hcell'
    have hv2 : (Term.static C n d).eval B U none [] U = some v := Term.static_eval (s := U) hi' hst (by rw [hek]; exact ha) (by rw [h.2 a (Array.getElem?_eq_some_iff.mp hcell).1]; exact hcell) hs hslot
    simp only [Cond.before, Cond.holds, Cond.value, hv] at hr
    simp only [Cond.before, Cond.holds, Cond.value, hv2]
    exact hr
/-- the words of throwing that no table keeps by itself -/
def xW : List Cond := ([1168, 1169, 1171, 1173, 1230] : List Nat).filterMap (fun i => tables_1[i]?)
def XW (s : State) (A : Array Value) : Prop := (∀ w ∈ lw_tbl, w.before A s = true) ∧ isU.before A s = true ∧ isV.before A s = true
theorem te_t {s U : State} {A B : Array Value} (X : XW s A) (h : TE s U) (hU : ∀ w ∈ aTB, w.before B U = true) {w : Cond} {i : Nat} (hi : tables_1[i]? = some w) (hb : goodWord w = true ∨ (∃ c d, w = .castable c d) ∨ (∃ y, w = .declares y) ∨ ∃ c n d, w = .laysStatic c n d) : w.before B U = true := by
  have hs : w.before A s = true := X.1 w (List.mem_append_right _ (List.mem_of_getElem? hi))
  rcases hb with hb | ⟨c, d, rfl⟩ | ⟨y, rfl⟩ | ⟨c, n, d, rfl⟩
  · exact hU w (aTB_t i hi hb)
  · exact va_Nw.use rfl (va_Nw.warmC h.1 (va_Nw.of rfl hs))
  · exact va_Nw.use rfl (va_Nw.warmD h.1 (va_Nw.of rfl hs))
  · exact te_ls h hs
def okW : Cond → Bool
  | .castable _ _ => true
  | .declares _ => true
  | .laysStatic _ _ _ => true
  | w => goodWord w
theorem okW_s {w : Cond} (h : okW w = true) : goodWord w = true ∨ (∃ c d, w = .castable c d) ∨ (∃ y, w = .declares y) ∨ ∃ c n d, w = .laysStatic c n d := by
  cases w <;> first | exact Or.inr (Or.inl ⟨_, _, rfl⟩) | exact Or.inr (Or.inr (Or.inl ⟨_, rfl⟩)) | exact Or.inr (Or.inr (Or.inr ⟨_, _, _, rfl⟩)) | exact Or.inl h
theorem te_l {s U : State} {A B : Array Value} (X : XW s A) (h : TE s U) (hU : ∀ w ∈ aTB, w.before B U = true) (ps : List Nat) (hg : (ps.filterMap (fun i => tables_1[i]?)).all okW = true) : ∀ w ∈ ps.filterMap (fun i => tables_1[i]?), w.before B U = true := by
  intro w hw
  have h1 := List.all_eq_true.mp hg w hw
  obtain ⟨i, -, hi⟩ := List.mem_filterMap.mp hw
  exact te_t X h hU hi (okW_s h1)
theorem ownI_eq : Bundle.ownAtoms0 RX9 136 exI exU = (([18, 1188, 1197, 1200, 1203, 1205, 1189, 1190, 30, 31, 1191, 1196, 1201, 1217, 1178, 1218, 1180, 1219, 1182, 1192, 1193, 1194, 1195, 1184, 1207, 1208, 1209, 1210, 1169, 1210, 1211, 1212, 1213, 1171, 1213, 1214, 1215, 1189, 1173, 1206, 1167, 1168, 1175, 1176, 1177, 1179, 1181, 1183] : List Nat).filterMap (fun i => tables_1[i]?)) ++ ([isU, isV] ++ ([1187, 1186, 1185] : List Nat).filterMap (fun i => tables_1[i]?)) := by decide +kernel
theorem ownI {s U : State} {A B : Array Value} (X : XW s A) (h : TE s U) (hU : ∀ w ∈ aTB, w.before B U = true) : ∀ a ∈ Bundle.ownAtoms0 RX9 136 exI exU, a.before B U = true := by
  rw [ownI_eq]
  intro w hw
  rcases List.mem_append.mp hw with q | q
  · exact te_l X h hU [18, 1188, 1197, 1200, 1203, 1205, 1189, 1190, 30, 31, 1191, 1196, 1201, 1217, 1178, 1218, 1180, 1219, 1182, 1192, 1193, 1194, 1195, 1184, 1207, 1208, 1209, 1210, 1169, 1210, 1211, 1212, 1213, 1171, 1213, 1214, 1215, 1189, 1173, 1206, 1167, 1168, 1175, 1176, 1177, 1179, 1181, 1183] (by decide +kernel) w q
  · rcases List.mem_append.mp q with q | q
    · rcases List.mem_cons.mp q with rfl | q
      · exact te_rf h (X.1 _ (List.mem_append_right _ (List.mem_of_getElem? (i := 1193) (by decide +kernel)))) X.2.1
      · rcases List.mem_cons.mp q with rfl | q
        · exact te_rf h (X.1 _ (List.mem_append_right _ (List.mem_of_getElem? (i := 1195) (by decide +kernel)))) X.2.2
        · cases q
    · exact te_l X h hU [1187, 1186, 1185] (by decide +kernel) w q
theorem ownN_eq : Bundle.ownAtoms0 RX9 163 exN exU = (([18, 1188, 1197, 1200, 1203, 1205, 1189, 1190, 30, 31, 1191, 1196, 1201, 1217, 1178, 1218, 1180, 1219, 1182, 1192, 1193, 1194, 1195, 1184, 1238, 1239, 1240, 1210, 1169, 1210, 1211, 1212, 1213, 1171, 1213, 1214, 1215, 1189, 1173, 1237, 1229, 1230, 1231, 1199, 1232, 1233, 1234, 1235] : List Nat).filterMap (fun i => tables_1[i]?)) ++ ([isU, isV] ++ ([1187, 1186, 1236] : List Nat).filterMap (fun i => tables_1[i]?)) := by decide +kernel
theorem ownN {s U : State} {A B : Array Value} (X : XW s A) (h : TE s U) (hU : ∀ w ∈ aTB, w.before B U = true) : ∀ a ∈ Bundle.ownAtoms0 RX9 163 exN exU, a.before B U = true := by
  rw [ownN_eq]
  intro w hw
  rcases List.mem_append.mp hw with q | q
  · exact te_l X h hU [18, 1188, 1197, 1200, 1203, 1205, 1189, 1190, 30, 31, 1191, 1196, 1201, 1217, 1178, 1218, 1180, 1219, 1182, 1192, 1193, 1194, 1195, 1184, 1238, 1239, 1240, 1210, 1169, 1210, 1211, 1212, 1213, 1171, 1213, 1214, 1215, 1189, 1173, 1237, 1229, 1230, 1231, 1199, 1232, 1233, 1234, 1235] (by decide +kernel) w q
  · rcases List.mem_append.mp q with q | q
    · rcases List.mem_cons.mp q with rfl | q
      · exact te_rf h (X.1 _ (List.mem_append_right _ (List.mem_of_getElem? (i := 1193) (by decide +kernel)))) X.2.1
      · rcases List.mem_cons.mp q with rfl | q
        · exact te_rf h (X.1 _ (List.mem_append_right _ (List.mem_of_getElem? (i := 1195) (by decide +kernel)))) X.2.2
        · cases q
    · exact te_l X h hU [1187, 1186, 1236] (by decide +kernel) w q
