/-! THE START: what the tables and the statement give of the machine -/
theorem st_tb {w : Cond} (h : w ∈ tables_1) : w ∈ lw_tbl := List.mem_append_right _ h
theorem st_gw {w : Cond} (h : w ∈ pm_gw) : w ∈ lw_tbl := (List.mem_filter.mp h).1
set_option maxRecDepth 20000 in
theorem st_ins0 : (List.range 7).all (fun k => decide (Cond.instantiable (pm_RN k) (pm_NN k) ∈ tables_1)) = true := by decide +kernel
set_option maxRecDepth 20000 in
theorem st_arr0 : ([Cond.arrayClass .int, Cond.arrayClass .byte, Cond.arrayClass .boolean, Cond.arrayOver (.object "WheelTickets$Wheel"), Cond.arrayOver (.object "WheelTickets$Sheet"), Cond.laysStatic "WheelTickets" "ORDERS" "[I", Cond.initialized "WheelTickets", Cond.laysStatic "java/lang/String" "COMPACT_STRINGS" "Z", Cond.initialized "java/lang/String", Cond.laysStatic "jdk/internal/util/Preconditions" "SIOOBE_FORMATTER" "Ljava/util/function/BiFunction;", Cond.initialized "jdk/internal/util/Preconditions"] : List Cond).all (fun w => decide (w ∈ tables_1)) = true := by decide +kernel
theorem st_arr {w : Cond} (h : w ∈ ([Cond.arrayClass .int, Cond.arrayClass .byte, Cond.arrayClass .boolean, Cond.arrayOver (.object "WheelTickets$Wheel"), Cond.arrayOver (.object "WheelTickets$Sheet"), Cond.laysStatic "WheelTickets" "ORDERS" "[I", Cond.initialized "WheelTickets", Cond.laysStatic "java/lang/String" "COMPACT_STRINGS" "Z", Cond.initialized "java/lang/String", Cond.laysStatic "jdk/internal/util/Preconditions" "SIOOBE_FORMATTER" "Ljava/util/function/BiFunction;", Cond.initialized "jdk/internal/util/Preconditions"] : List Cond)) : w ∈ lw_tbl := st_tb (by simpa using List.all_eq_true.mp st_arr0 w h)
section ST0
variable {args : Array Value} {s : State}
theorem st_cls (hts : ∀ w ∈ lw_tbl, w.before args s = true) : ∃ D : va_G, ∀ (c : Nat) (q : vw_C), pm_cl[c]? = some q → u_Kn s q.1 q.2.1 q.2.2 (D.1 c) (D.2 c) := by
  have h7 : ∀ k : Nat, ∃ q : ClassId × (Nat → Nat), k < 7 → u_Kn s (pm_RN k) (pm_TN k) (pm_NN k) q.1 q.2 := by
    intro k
    by_cases h : k < 7
    · obtain ⟨cC, iS, hK⟩ := u_known (fun w hw => hts w (st_gw hw)) (pm_cw k h) (hts _ (st_tb (by simpa using List.all_eq_true.mp st_ins0 k (List.mem_range.mpr h))))
      exact ⟨(cC, iS), fun _ => hK⟩
    · exact ⟨(0, fun _ => 0), fun h9 => absurd h9 h⟩
  obtain ⟨q, hq⟩ := Classical.axiomOfChoice h7
  refine ⟨(fun k => (q k).1, fun k => (q k).2), fun c r hr => ?_⟩
  have hc : c < 7 := (List.getElem?_eq_some_iff.mp hr).1
  have h1 := pm_clat c hc
  rw [hr] at h1
  cases h1
  exact hq c hc
theorem st_pr (hts : ∀ w ∈ lw_tbl, w.before args s = true) {ty : FieldType} (h : Cond.arrayClass ty ∈ lw_tbl) : ∃ cA : ClassId, ArrOfT s cA ty ∧ s.vm.findClass ("[" ++ ty.toString) = some cA := by
  obtain ⟨cA, kA, comp, h1, h2, h3⟩ := Cond.arrayClass_spec (hts _ h)
  exact ⟨cA, fun n z => ⟨fun k h => (by cases h), kA, h2, comp, h3⟩, h1⟩
theorem st_ob (hts : ∀ w ∈ lw_tbl, w.before args s = true) {C : String} (h : Cond.arrayOver (.object C) ∈ lw_tbl) : ∃ cA : ClassId, ArrOfT s cA (.object C) ∧ va_RA s cA (.object C) := by
  obtain ⟨comp, cA, kA, h1, h2, h3, h4, h5⟩ := Cond.arrayOver_spec (hts _ h)
  exact ⟨cA, fun n z => ⟨fun k h => (by cases h), kA, h3, comp, h4⟩, kA, comp, h3, h4, h1, h5⟩
theorem st_K (hts : ∀ w ∈ lw_tbl, w.before args s = true) : ∃ (D : va_G) (cT : Nat → ClassId), va_K D pm_cl (cz_tys cT) s := by
  obtain ⟨D, hD⟩ := st_cls hts
  obtain ⟨c0, a0, b0⟩ := st_pr hts (ty := .int) (st_arr (by simp))
  obtain ⟨c1, a1, b1⟩ := st_pr hts (ty := .byte) (st_arr (by simp))
  obtain ⟨c2, a2, b2⟩ := st_pr hts (ty := .boolean) (st_arr (by simp))
  obtain ⟨c3, a3, b3⟩ := st_ob hts (C := "WheelTickets$Wheel") (st_arr (by simp))
  obtain ⟨c4, a4, b4⟩ := st_ob hts (C := "WheelTickets$Sheet") (st_arr (by simp))
  refine ⟨D, fun k => match k with
    | 0 => c0
    | 1 => c1
    | 2 => c2
    | 3 => c3
    | _ => c4, hD, fun k q hq => ?_⟩
  have hk : k < 5 := (List.getElem?_eq_some_iff.mp hq).1
  rcases k with _ | _ | _ | _ | _ | k
  · cases hq; exact ⟨a0, b0⟩
  · cases hq; exact ⟨a1, b1⟩
  · cases hq; exact ⟨a2, b2⟩
  · cases hq; exact ⟨a3, b3⟩
  · cases hq; exact ⟨a4, b4⟩
  · omega
theorem st_nw (hts : ∀ w ∈ lw_tbl, w.before args s = true) : ∀ w ∈ pm_nw, va_Nw w s := by
  intro w hw
  have h9 : w.before args s = true := hts w (st_tb (by simpa using List.all_eq_true.mp pm_nwin w hw))
  simp only [pm_nw, List.mem_cons, List.not_mem_nil, or_false] at hw
  rcases hw with rfl | rfl | rfl | rfl | rfl | rfl | rfl | rfl | rfl <;> exact va_Nw.of rfl h9
theorem st_X (hts : ∀ w ∈ lw_tbl, w.before args s = true) : cz_X s := ⟨va_AO.of (hts _ (st_arr (by simp))), va_AO.of (hts _ (st_arr (by simp))), st_nw hts⟩
def st_all : List Cond := flatC (Jvm.Cond.and given_1 narrow_1)
abbrev st_or : Term := .static "WheelTickets" "ORDERS" "[I"
abbrev st_str (i : Nat) : Term := .string "WheelTickets$Teller" (pm_six.getD i 0)
abbrev st_val (i : Nat) : Term := .field (st_str i) "java/lang/String" "value" "[B"
set_option maxRecDepth 20000 in
theorem st_f0 : (List.range 96).all (fun j => decide (Cond.eq (.elem st_or (.int (Int32.ofNat j))) (.int (pm_ORD j)) ∈ st_all)) = true := by decide +kernel
set_option maxRecDepth 20000 in
theorem st_f1 : (List.range 7).all (fun i => decide (Cond.exactly (st_str i) "java/lang/String" ∈ st_all) && (decide (Cond.eq (.field (st_str i) "java/lang/String" "coder" "B") (.int 0) ∈ st_all) && (decide (Cond.arrayOf (st_val i) .byte ∈ st_all) && (decide (Cond.eq (.length (st_val i)) (.int (Int32.ofNat (pm_slen.getD i 0))) ∈ st_all) && decide (Cond.stringRef "WheelTickets$Teller" (pm_six.getD i 0) (pm_strs.getD i "") ∈ tables_1))))) = true := by decide +kernel
set_option maxRecDepth 20000 in
theorem st_f2 : (List.range 7).all (fun i => (List.range (pm_slen.getD i 0)).all (fun j => decide (Cond.eq (.elem (st_val i) (.int (Int32.ofNat j))) (.int ((pm_sby.getD i []).getD j 0)) ∈ st_all))) = true := by decide +kernel
set_option maxRecDepth 20000 in
theorem st_f3 : (List.range 7).all (fun i => (List.range 7).all (fun j => decide (j ≤ i) || decide (Cond.not (Cond.eq (st_str i) (st_str j)) ∈ st_all))) = true := by decide +kernel
set_option maxRecDepth 20000 in
theorem st_f4 : Cond.eq (.static "java/lang/String" "COMPACT_STRINGS" "Z") (.int 1) ∈ st_all ∧ Cond.isRef (.static "jdk/internal/util/Preconditions" "SIOOBE_FORMATTER" "Ljava/util/function/BiFunction;") ∈ st_all ∧ Cond.arrayOf st_or .int ∈ st_all ∧ Cond.eq (.length st_or) (.int 96) ∈ st_all := by decide +kernel
/-- the statics and the strings, out of the statement -/
theorem st_St (hts : ∀ w ∈ lw_tbl, w.before args s = true) (hgv : (Jvm.Cond.and given_1 narrow_1).before args s = true) {A : Nat → Prop} (hA : ∀ a : Nat, a < s.heap.size → ¬ A a) : ∃ (tO : Nat) (fm : Value) (adK adV : Nat → Nat), ∀ E : pm_E, E.1 51 0 = tO → E.1 52 = adK → E.1 53 = adV → E.2.1 = fm → pm_St E A s s.heap := by
  have hs : ∀ w ∈ st_all, w.before args s = true := flat_of_before _ hgv
  obtain ⟨g1, g2, g3, g4⟩ := st_f4
  obtain ⟨tO, ht, hT⟩ := va_Tof (f := fun j => .int (pm_ORD j)) (A := A) (N := 96) (by decide) (hs _ g3) (va_eqt (hs _ g4)) (fun j hj => va_eqt (hs _ (by simpa using List.all_eq_true.mp st_f0 j (List.mem_range.mpr hj)))) hA
  have f1 : ∀ i, i < 7 → Cond.exactly (st_str i) "java/lang/String" ∈ st_all ∧ Cond.eq (.field (st_str i) "java/lang/String" "coder" "B") (.int 0) ∈ st_all ∧ Cond.arrayOf (st_val i) .byte ∈ st_all ∧ Cond.eq (.length (st_val i)) (.int (Int32.ofNat (pm_slen.getD i 0))) ∈ st_all ∧ Cond.stringRef "WheelTickets$Teller" (pm_six.getD i 0) (pm_strs.getD i "") ∈ tables_1 := by
    intro i hi
    have := List.all_eq_true.mp st_f1 i (List.mem_range.mpr hi)
    simp only [Bool.and_eq_true, decide_eq_true_eq] at this
    exact this
  obtain ⟨adK, adV, hS, hst⟩ := vk_Sof (args := args) (s := s) (N := 7) (tm := st_str) (len := pm_slen) (byt := pm_sby) (A := A)
    (fun i hi => by
      have : ∀ i, i < 7 → pm_slen.getD i 0 < 2 ^ 31 := by decide
      exact this i hi)
    (fun i hi => hs _ (f1 i hi).1) (fun i hi => hs _ (f1 i hi).2.1) (fun i hi => hs _ (f1 i hi).2.2.1) (fun i hi => hs _ (f1 i hi).2.2.2.1)
    (fun i hi j hj => hs _ (by
      have h1 := List.all_eq_true.mp st_f2 i (List.mem_range.mpr hi)
      have h2 := List.all_eq_true.mp h1 j (List.mem_range.mpr hj)
      simpa using h2))
    (fun i j hi hj hij => by
      have key : ∀ a b, a < 7 → b < 7 → a < b → Cond.not (Cond.eq (st_str a) (st_str b)) ∈ st_all := by
        intro a b ha hb hab
        have h1 := List.all_eq_true.mp st_f3 a (List.mem_range.mpr ha)
        have h2 := List.all_eq_true.mp h1 b (List.mem_range.mpr hb)
        simp only [Bool.or_eq_true, decide_eq_true_eq] at h2
        rcases h2 with h2 | h2
        · omega
        · exact h2
      rcases Nat.lt_or_ge i j with h | h
      · exact Or.inl (hs _ (key i j hi hj h))
      · exact Or.inr (hs _ (key j i hj hi (by omega)))) hA
  have hO : va_Z "WheelTickets" "ORDERS" "[I" (.ref tO) A s s.heap := va_Zref (hts _ (st_arr (by simp))) (hts _ (st_arr (by simp))) ht hA
  have hC : va_Z "java/lang/String" "COMPACT_STRINGS" "Z" (.int 1) A s s.heap := va_Zof (hts _ (st_arr (by simp))) (hts _ (st_arr (by simp))) (va_eqi (hs _ g1)) hA
  have hF : va_Zq "jdk/internal/util/Preconditions" "SIOOBE_FORMATTER" "Ljava/util/function/BiFunction;" A s s.heap := va_Zqof (hts _ (st_arr (by simp))) (hts _ (st_arr (by simp))) (hs _ g2) hA
  obtain ⟨fm, hF1, hF2⟩ : ∃ fm : Value, va_Z "jdk/internal/util/Preconditions" "SIOOBE_FORMATTER" "Ljava/util/function/BiFunction;" fm A s s.heap ∧ (fm = .null ∨ ∃ t, fm = .ref t) := by
    rcases hF with h | ⟨t, h⟩
    · exact ⟨_, h, Or.inl rfl⟩
    · exact ⟨_, h, Or.inr ⟨t, rfl⟩⟩
  refine ⟨tO, fm, adK, adV, fun E e1 e2 e3 e4 => ?_⟩
  unfold pm_St
  rw [e1, e2, e3, e4]
  exact ⟨st_nw hts, hO, hT, hC, hF1, hF2, hS, fun i hi => vk_R.of (hts _ (st_tb (f1 i hi).2.2.2.2)) (hst i hi)⟩
end ST0
