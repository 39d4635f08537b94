/-- which field a link of a class names: (class, index, the field's class, its place) -/
def pm_fls : List (Nat × Nat × Nat × Nat) := [(0, 9, 0, 0), (0, 15, 0, 1), (0, 18, 0, 2), (0, 22, 0, 3), (0, 25, 0, 4), (0, 28, 0, 5), (0, 31, 0, 6), (0, 34, 0, 7), (0, 37, 0, 8), (0, 40, 0, 9), (0, 43, 0, 10), (0, 63, 4, 6), (0, 74, 4, 3), (0, 81, 4, 0), (0, 130, 4, 2), (0, 133, 4, 8), (0, 136, 4, 9), (1, 9, 1, 0), (1, 15, 1, 1), (1, 18, 1, 2), (2, 9, 2, 0), (2, 15, 2, 1), (2, 19, 2, 2), (2, 22, 2, 3), (2, 25, 2, 4), (2, 28, 2, 5), (3, 9, 3, 0), (3, 15, 3, 1), (3, 18, 3, 2), (3, 22, 3, 3), (3, 25, 3, 4), (3, 28, 3, 5), (3, 31, 3, 6), (3, 48, 2, 1), (3, 58, 2, 3), (3, 61, 2, 4), (3, 91, 2, 5), (3, 98, 4, 0), (3, 101, 4, 1), (3, 108, 4, 6), (4, 9, 4, 0), (4, 15, 4, 1), (4, 18, 4, 2), (4, 21, 4, 3), (4, 25, 4, 4), (4, 28, 4, 5), (4, 31, 4, 6), (4, 34, 4, 7), (4, 37, 4, 8), (4, 40, 4, 9), (5, 10, 5, 0), (5, 16, 5, 1), (5, 19, 5, 2), (5, 23, 5, 3), (5, 30, 5, 4), (5, 37, 5, 5), (5, 44, 5, 6), (5, 50, 5, 7), (5, 54, 5, 8), (5, 67, 2, 1), (5, 74, 3, 0), (5, 87, 4, 0), (5, 90, 4, 1), (5, 109, 4, 3), (5, 122, 4, 5), (5, 128, 4, 6), (5, 131, 4, 7), (5, 224, 4, 2), (5, 233, 0, 10), (5, 266, 1, 2), (5, 272, 1, 0), (6, 7, 6, 0), (6, 13, 6, 1), (6, 16, 6, 2), (6, 20, 6, 5), (6, 23, 6, 10), (6, 26, 6, 12), (6, 29, 6, 20), (6, 32, 6, 23), (6, 35, 6, 24), (6, 38, 6, 31), (6, 41, 6, 32), (6, 44, 6, 33), (6, 47, 6, 34), (6, 50, 6, 36), (6, 59, 6, 6), (6, 63, 6, 7), (6, 66, 6, 8), (6, 69, 6, 9), (6, 72, 6, 11), (6, 75, 6, 3), (6, 78, 6, 4), (6, 87, 6, 13), (6, 90, 6, 18), (6, 93, 6, 15), (6, 96, 6, 19), (6, 99, 6, 14), (6, 113, 6, 16), (6, 124, 6, 17), (6, 175, 6, 22), (6, 178, 6, 21), (6, 197, 6, 25), (6, 200, 6, 26), (6, 206, 6, 27), (6, 211, 6, 28), (6, 215, 6, 29), (6, 218, 6, 30), (6, 318, 6, 35)]
def pm_ics : List (Nat × Nat × Int32) := [(11, 265, 1431655765), (11, 266, 858993459), (11, 267, 252645135), (5, 210, -1000000), (0, 116, -1000000), (5, 283, 1103515245), (6, 210, 1000000), (6, 214, -1000000), (6, 301, 1103515245)]
def pm_lcs : List (Nat × Nat × Int64) := [(5, 158, -1), (5, 166, -4), (5, 172, -2), (6, 81, 127), (6, 116, 97), (6, 118, 122), (6, 120, 48), (6, 122, 57), (6, 245, 2), (6, 250, 4), (6, 255, 3), (6, 257, 9), (6, 265, 99), (6, 274, -1), (6, 276, -4), (6, 282, -2), (6, 291, -999), (6, 293, 999), (6, 313, 20)]
def pm_strs : List String := ["whole", "hired", "split", "insured", "person", "prize", "draw"]
def pm_six : List Nat := [138, 140, 142, 144, 146, 148, 150]
def pm_slen : List Nat := [5, 5, 5, 7, 6, 5, 4]
def pm_sby : List (List Int32) := [[119, 104, 111, 108, 101], [104, 105, 114, 101, 100], [115, 112, 108, 105, 116], [105, 110, 115, 117, 114, 101, 100], [112, 101, 114, 115, 111, 110], [112, 114, 105, 122, 101], [100, 114, 97, 119]]
def pm_orl : List Int32 := [0, 1, 2, 3, 1, 0, 2, 3, 0, 2, 1, 3, 1, 2, 0, 3, 2, 0, 1, 3, 2, 1, 0, 3, 0, 1, 3, 2, 0, 2, 3, 1, 0, 3, 1, 2, 0, 3, 2, 1, 1, 0, 3, 2, 1, 2, 3, 0, 1, 3, 0, 2, 1, 3, 2, 0, 2, 0, 3, 1, 2, 1, 3, 0, 2, 3, 0, 1, 2, 3, 1, 0, 3, 0, 1, 2, 3, 0, 2, 1, 3, 1, 0, 2, 3, 1, 2, 0, 3, 2, 0, 1, 3, 2, 1, 0]
def pm_ORD (j : Nat) : Int32 := pm_orl.getD j 0
/-- links between nest mates -/
def pm_nw : List Cond := [.methodLinkNest "WheelTickets" 9 ⟨"WheelTickets$Wheel", "<init>", "()V"⟩ "WheelTickets", .methodLinkNest "WheelTickets" 29 ⟨"WheelTickets$Rest", "<init>", "()V"⟩ "WheelTickets", .methodLinkNest "WheelTickets" 36 ⟨"WheelTickets$Tape", "<init>", "()V"⟩ "WheelTickets", .methodLinkNest "WheelTickets" 43 ⟨"WheelTickets$Teller", "<init>", "()V"⟩ "WheelTickets", .methodLinkNest "WheelTickets" 58 ⟨"WheelTickets$Sheet", "<init>", "()V"⟩ "WheelTickets", .methodLinkNest "WheelTickets$Teller" 111 ⟨"WheelTickets", "within", "(III)Z"⟩ "WheelTickets", .methodLinkNest "WheelTickets$Wheel" 66 ⟨"WheelTickets", "within", "(III)Z"⟩ "WheelTickets", .fieldLinkNest "WheelTickets$Rest" 87 "WheelTickets" "ORDERS" "[I" "WheelTickets", .methodLinkNest "WheelTickets$Sheet" 22 ⟨"WheelTickets", "within", "(III)Z"⟩ "WheelTickets"]
set_option maxRecDepth 20000 in
theorem pm_nwin : pm_nw.all (fun w => decide (w ∈ tables_1)) = true := by decide +kernel
def pm_flc (e : Nat × Nat × Nat × Nat) : Cond := .fieldLink (pm_RN e.1) e.2.1 (pm_RN e.2.2.1) (pm_TN e.2.2.1 e.2.2.2).2.1 (pm_TN e.2.2.1 e.2.2.2).2.2.1
set_option maxRecDepth 20000 in
theorem pm_flok0 : pm_fls.all (fun e => (decide (pm_flc e ∈ tables_1) && goodWord (pm_flc e)) && (decide (e.2.2.1 < 7) && decide (e.2.2.2 < pm_NN e.2.2.1))) = true := by decide +kernel
theorem pm_flok {e : Nat × Nat × Nat × Nat} (h : e ∈ pm_fls) : pm_flc e ∈ pm_gw ∧ e.2.2.1 < 7 ∧ e.2.2.2 < pm_NN e.2.2.1 := by
  have := List.all_eq_true.mp pm_flok0 e h
  simp only [Bool.and_eq_true, decide_eq_true_eq] at this
  exact ⟨pm_in this.1.1 this.1.2, this.2.1, this.2.2⟩
def pm_fl (o i : Nat) : Option (Nat × Nat) := (pm_fls.find? (fun e => e.1 == o && e.2.1 == i)).map (fun e => e.2.2)
theorem pm_fl_ok {o i c k : Nat} (h : pm_fl o i = some (c, k)) : Cond.fieldLink (pm_RN o) i (pm_RN c) (pm_TN c k).2.1 (pm_TN c k).2.2.1 ∈ pm_gw ∧ c < 7 ∧ k < pm_NN c := by
  unfold pm_fl at h
  obtain ⟨e, h1, h2⟩ := Option.map_eq_some_iff.mp h
  have h3 := List.find?_some h1
  simp only [Bool.and_eq_true, beq_iff_eq] at h3
  obtain ⟨rfl, rfl⟩ := h3
  have h4 := pm_flok (List.mem_of_find?_eq_some h1)
  obtain ⟨a, b, c', k'⟩ := e
  simp only [Prod.mk.injEq] at h2
  obtain ⟨rfl, rfl⟩ := h2
  exact h4
set_option maxRecDepth 20000 in
theorem pm_icok0 : pm_ics.all (fun e => decide (Cond.constant (pm_RN e.1) e.2.1 e.2.2 ∈ tables_1) && goodWord (Cond.constant (pm_RN e.1) e.2.1 e.2.2)) = true := by decide +kernel
set_option maxRecDepth 20000 in
theorem pm_lcok0 : pm_lcs.all (fun e => decide (Cond.constantLong (pm_RN e.1) e.2.1 e.2.2 ∈ tables_1) && goodWord (Cond.constantLong (pm_RN e.1) e.2.1 e.2.2)) = true := by decide +kernel
def pm_ic (o i : Nat) : Option Int32 := (pm_ics.find? (fun e => e.1 == o && e.2.1 == i)).map (fun e => e.2.2)
def pm_lc (o i : Nat) : Option Int64 := (pm_lcs.find? (fun e => e.1 == o && e.2.1 == i)).map (fun e => e.2.2)
theorem pm_ic_ok {o i : Nat} {v : Int32} (h : pm_ic o i = some v) : Cond.constant (pm_RN o) i v ∈ pm_gw := by
  unfold pm_ic at h
  obtain ⟨e, h1, h2⟩ := Option.map_eq_some_iff.mp h
  have h3 := List.find?_some h1
  simp only [Bool.and_eq_true, beq_iff_eq] at h3
  obtain ⟨rfl, rfl⟩ := h3
  have h4 := List.all_eq_true.mp pm_icok0 e (List.mem_of_find?_eq_some h1)
  simp only [Bool.and_eq_true, decide_eq_true_eq] at h4
  subst h2
  exact pm_in h4.1 h4.2
theorem pm_lc_ok {o i : Nat} {v : Int64} (h : pm_lc o i = some v) : Cond.constantLong (pm_RN o) i v ∈ pm_gw := by
  unfold pm_lc at h
  obtain ⟨e, h1, h2⟩ := Option.map_eq_some_iff.mp h
  have h3 := List.find?_some h1
  simp only [Bool.and_eq_true, beq_iff_eq] at h3
  obtain ⟨rfl, rfl⟩ := h3
  have h4 := List.all_eq_true.mp pm_lcok0 e (List.mem_of_find?_eq_some h1)
  simp only [Bool.and_eq_true, decide_eq_true_eq] at h4
  subst h2
  exact pm_in h4.1 h4.2
