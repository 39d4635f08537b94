/-! the world of the pure machine in the heap -/
def pm_fv (E : pm_E) (M : pm_M) (t k i : Nat) (f : Nat × Nat × Nat) : Value := match f with
  | (0, _, _) => .int (M.1 t k i)
  | (1, _, _) => .long M.2
  | (_, t', b) => .ref (E.1 t' (k + b))
def pm_ent (E : pm_E) (M : pm_M) (t k : Nat) : va_E := match pm_sh t with
  | some (.inl (ci, fs)) => .inr (ci, fs.mapIdx (fun i f => pm_fv E M t k i f))
  | some (.inr (.inl (ty, n))) => .inl (E.2.2 ty, n, .inl (M.1 t k))
  | some (.inr (.inr (ty, n, t', b))) => .inl (E.2.2 ty, n, .inr (.inr (.inr (.inr (fun i => some (E.1 t' (i + b)))))))
  | none => .inl (E.2.2 0, 0, .inl (fun _ => 0))
def pm_cells : List (Nat × Nat) := (List.range 44).flatMap (fun t => (List.range (pm_cnt t)).map (fun k => (t, k)))
def pm_wl (E : pm_E) (M : pm_M) : va_W := pm_cells.map (fun q => (E.1 q.1 q.2, pm_ent E M q.1 q.2))
theorem pm_cells_in {t k : Nat} (ht : t < 44) (hk : k < pm_cnt t) : (t, k) ∈ pm_cells := by
  unfold pm_cells
  rw [List.mem_flatMap]
  exact ⟨t, List.mem_range.mpr ht, List.mem_map.mpr ⟨k, List.mem_range.mpr hk, rfl⟩⟩
theorem pm_cells_nd : pm_cells.Nodup := by decide +kernel
theorem pm_sh_lt {t : Nat} {x : (Nat × List (Nat × Nat × Nat)) ⊕ ((Nat × Nat) ⊕ (Nat × Nat × Nat × Nat))} (h : pm_sh t = some x) : t < 44 := by
  apply Nat.lt_of_not_le
  intro h9
  obtain ⟨j, rfl⟩ := Nat.exists_eq_add_of_le h9
  rw [Nat.add_comm] at h
  simp [pm_sh] at h
/-- a cell of the world, and what a write to it alone makes of the world -/
theorem pm_at (E : pm_E) (M : pm_M) {t k : Nat} (ht : t < 44) (hk : k < pm_cnt t) : ∃ j, (pm_wl E M)[j]? = some (E.1 t k, pm_ent E M t k) ∧ ∀ M' : pm_M, (∀ q ∈ pm_cells, q ≠ (t, k) → pm_ent E M' q.1 q.2 = pm_ent E M q.1 q.2) → (pm_wl E M).set j (E.1 t k, pm_ent E M' t k) = pm_wl E M' := by
  obtain ⟨j, hj⟩ := List.getElem?_of_mem (pm_cells_in ht hk)
  refine ⟨j, by simp [pm_wl, hj], fun M' h => ?_⟩
  apply List.ext_getElem?
  intro i
  rw [List.getElem?_set]
  by_cases hij : j = i
  · subst hij
    rw [if_pos rfl]
    have hlt : j < pm_cells.length := (List.getElem?_eq_some_iff.mp hj).1
    rw [if_pos (by simp [pm_wl]; exact hlt)]
    simp [pm_wl, hj]
  · rw [if_neg hij]
    simp only [pm_wl, List.getElem?_map]
    cases hc : pm_cells[i]? with
    | none => rfl
    | some q =>
      have hne : q ≠ (t, k) := fun e => by
        subst e
        exact hij ((List.getElem?_inj (List.getElem?_eq_some_iff.mp hj).1 pm_cells_nd).mp (hj.trans hc.symm))
      simp only [Option.map_some]
      rw [h q (List.mem_of_getElem? hc) hne]
theorem pm_ent_eq {E : pm_E} {M M' : pm_M} {t k : Nat} (h1 : M'.1 t k = M.1 t k) (h2 : M'.2 = M.2) : pm_ent E M' t k = pm_ent E M t k := by
  unfold pm_ent
  split
  · congr 3
    funext i f
    unfold pm_fv
    split <;> simp [h1, h2]
  · rw [h1]
  · rfl
  · rfl
theorem pm_ent_set {E : pm_E} {M : pm_M} {t k : Nat} {f : Nat → Int32} : ∀ q ∈ pm_cells, q ≠ (t, k) → pm_ent E (pm_set M t k f) q.1 q.2 = pm_ent E M q.1 q.2 := by
  intro q _ hne
  refine pm_ent_eq ?_ rfl
  have : ¬ (q.1 = t ∧ q.2 = k) := fun h => hne (by obtain ⟨a, b⟩ := q; simp_all)
  simp [pm_set, this]
theorem pm_set_at (M : pm_M) (t k : Nat) (f : Nat → Int32) : (pm_set M t k f).1 t k = f := by simp [pm_set]
theorem pm_addr (E : pm_E) (M M' : pm_M) (j : Nat) : ((pm_wl E M)[j]?).map (fun q => q.1) = ((pm_wl E M')[j]?).map (fun q => q.1) := by
  simp only [pm_wl, List.getElem?_map]
  cases pm_cells[j]? <;> rfl
theorem pm_D_any {E : pm_E} {M M' : pm_M} {A : Nat → Prop} (h : va_D A (pm_wl E M)) : va_D A (pm_wl E M') := by
  have tr : ∀ (j : Nat) (q : Nat × va_E), (pm_wl E M')[j]? = some q → ∃ q', (pm_wl E M)[j]? = some q' ∧ q'.1 = q.1 := by
    intro j q hq
    have := pm_addr E M M' j
    rw [hq] at this
    simp only [Option.map_some] at this
    exact Option.map_eq_some_iff.mp this
  refine ⟨fun i j p q hp hq e => ?_, fun k q hq => ?_⟩
  · obtain ⟨p', hp', ep⟩ := tr i p hp
    obtain ⟨q', hq', eq⟩ := tr j q hq
    exact h.1 i j p' q' hp' hq' (by rw [ep, eq, e])
  · obtain ⟨q', hq', eq⟩ := tr k q hq
    rw [← eq]
    exact h.2 k q' hq'
/-- the places that a method may write: the world's cells, and what is new -/
def pm_A (E : pm_E) (sz : Nat) : Nat → Prop := fun q => (∃ c ∈ pm_cells, q = E.1 c.1 c.2) ∨ sz ≤ q
theorem pm_D_A {E : pm_E} {M : pm_M} {A : Nat → Prop} {sz : Nat} (h : va_D A (pm_wl E M)) : va_D (pm_A E sz) (pm_wl E M) := by
  refine ⟨h.1, fun k q hq => Or.inl ?_⟩
  simp only [pm_wl, List.getElem?_map] at hq
  obtain ⟨c, h1, h2⟩ := Option.map_eq_some_iff.mp hq
  exact ⟨c, List.mem_of_getElem? h1, by rw [← h2]⟩
theorem pm_A_in {E : pm_E} {M : pm_M} {A : Nat → Prop} {c : Nat × Nat} (h : va_D A (pm_wl E M)) (hc : c ∈ pm_cells) : A (E.1 c.1 c.2) := by
  obtain ⟨j, hj⟩ := List.getElem?_of_mem hc
  exact h.2 j _ (by simp [pm_wl, hj]; rfl)
def pm_tys (E : pm_E) : List (ClassId × FieldType) := [(E.2.2 0, .int), (E.2.2 1, .byte), (E.2.2 2, .boolean), (E.2.2 3, .object "WheelTickets$Wheel"), (E.2.2 4, .object "WheelTickets$Sheet")]
/-- what stands in the machine's statics and constants, outside of what is written -/
def pm_St (E : pm_E) (A : Nat → Prop) (U : State) (H : Heap) : Prop :=
  (∀ w ∈ pm_nw, va_Nw w U) ∧ va_Z "WheelTickets" "ORDERS" "[I" (.ref (E.1 51 0)) A U H ∧ va_T .int (E.1 51 0) 96 (fun j => .int (pm_ORD j)) A U H ∧ va_Z "java/lang/String" "COMPACT_STRINGS" "Z" (.int 1) A U H ∧ va_Z "jdk/internal/util/Preconditions" "SIOOBE_FORMATTER" "Ljava/util/function/BiFunction;" E.2.1 A U H ∧ (E.2.1 = .null ∨ ∃ t, E.2.1 = .ref t) ∧ vk_S 7 pm_slen pm_sby (E.1 52) (E.1 53) A U H ∧ ∀ i, i < 7 → vk_R "WheelTickets$Teller" (pm_six.getD i 0) (pm_strs.getD i "") (E.1 52 i) U
theorem pm_nw_warm {s U : State} (hW : s.WarmedH U.vm) (h : ∀ w ∈ pm_nw, va_Nw w s) : ∀ w ∈ pm_nw, va_Nw w U := by
  intro w hw
  have h1 := h w hw
  simp only [pm_nw, List.mem_cons, List.not_mem_nil, or_false] at hw
  rcases hw with rfl | rfl | rfl | rfl | rfl | rfl | rfl | rfl | rfl
  all_goals first | exact va_Nw.warmM hW h1 | exact va_Nw.warmF hW h1
theorem pm_St.warm {E : pm_E} {A : Nat → Prop} {s U : State} {H : Heap} (hW : s.WarmedH U.vm) (h : pm_St E A s H) : pm_St E A U H := by
  obtain ⟨h1, h2, h3, h4, h5, h6, h7, h8⟩ := h
  exact ⟨pm_nw_warm hW h1, h2.moved hW.alike, h3.moved hW.alike, h4.moved hW.alike, h5.moved hW.alike, h6, h7.moved hW.alike, fun i hi => (h8 i hi).warm hW⟩
theorem pm_St.kept {E : pm_E} {A : Nat → Prop} {U : State} {H H1 : Heap} (h : pm_St E A U H) (hq : ∀ a : Nat, a < H.size → ¬ A a → H1[a]? = H[a]?) : pm_St E A U H1 := by
  obtain ⟨h1, h2, h3, h4, h5, h6, h7, h8⟩ := h
  exact ⟨h1, h2.kept hq, h3.kept hq, h4.kept hq, h5.kept hq, h6, h7.kept hq, h8⟩
theorem pm_St.narrow {E : pm_E} {A B : Nat → Prop} {U : State} {H : Heap} (h : pm_St E A U H) (hAB : ∀ q, B q → A q) : pm_St E B U H := by
  obtain ⟨h1, h2, h3, h4, h5, h6, h7, h8⟩ := h
  exact ⟨h1, h2.narrow hAB, h3.narrow hAB, h4.narrow hAB, h5.narrow hAB, h6, h7.narrow hAB, h8⟩
theorem pm_St.blind {E : pm_E} {A : Nat → Prop} {s : State} {H : Heap} (g : JFrame) (mk : MethodId) (a : Array Value) (h : pm_St E A s H) : pm_St E A (s.calling g mk a) H := by
  obtain ⟨h1, h2, h3, h4, h5, h6, h7, h8⟩ := h
  have al : s.vm.Alike (s.calling g mk a).vm := Vm.Alike.refl s.vm
  refine ⟨fun w hw => ?_, h2.moved al, h3.moved al, h4.moved al, h5.moved al, h6, h7.moved al, fun i hi => (h8 i hi).same rfl⟩
  have h9 := h1 w hw
  refine va_Nw.same (u := s) (U := s.calling g mk a) ?_ rfl h9
  simp only [pm_nw, List.mem_cons, List.not_mem_nil, or_false] at hw
  rcases hw with rfl | rfl | rfl | rfl | rfl | rfl | rfl | rfl | rfl <;> rfl
-- the method's table
def pm_ok0 (mi : pm_MI) : Prop := ∀ e ∈ mi.2.2.2.2.2.1, decode mi.2.2.1 e.1 = .ok (e.2, pm_len e.1 e.2)
def pm_ok (mi : pm_MI) : Prop := pm_ok0 mi ∧ Cond.code mi.2.1 mi.2.2.1 mi.2.2.2.1 mi.2.2.2.2.1 ∈ pm_gw
theorem pm_tab_ok {mi : pm_MI} (h : pm_ok0 mi) {pc : Nat} {i : Instr} (ht : pm_tab mi pc = some i) : decode mi.2.2.1 pc = .ok (i, pm_len pc i) := by
  unfold pm_tab at ht
  obtain ⟨e, h1, h2⟩ := Option.map_eq_some_iff.mp ht
  have h3 := List.find?_some h1
  simp only [beq_iff_eq] at h3
  subst h3; subst h2
  exact h e (List.mem_of_find?_eq_some h1)
/-- what is fixed while a method runs -/
def pm_Cx (mi : pm_MI) (p : Program) (R : Room) (s : State) (m : MethodId) (args : Array Value) (c : Code) (cells slots : Nat) (D : va_G) (E : pm_E) (A : Nat → Prop) (xs : Nat → Int32) (L : Int32) : Prop :=
  p.tables.exec = Jvm.exec ∧ c.code = mi.2.2.1 ∧ c.maxLocals = mi.2.2.2.1 ∧ s.vm.findClass (pm_RN mi.1) = some m.cls ∧ (∀ w ∈ pm_gw, w.before args s = true) ∧ va_K D pm_cl (pm_tys E) s ∧ pm_St E A s s.heap ∧ (mi.2.2.2.2.2.2.1 ≤ R.frames ∧ mi.2.2.2.2.2.2.2 ≤ R.locals ∧ cells ≤ R.cells ∧ slots ≤ R.slots) ∧ (∀ q, s.heap.size ≤ q → A q) ∧ (mi.1 = 7 → va_X (E.1 50 0) L.toNatClampNeg xs s s.heap ∧ E.1 50 0 < s.heap.size ∧ ¬ A (E.1 50 0) ∧ Int32.ofNat L.toNatClampNeg = L)
/-- the heap holds a memory -/
def pm_Wd (D : va_G) (E : pm_E) (A : Nat → Prop) (s : State) (xs : Nat → Int32) (L : Int32) (M : pm_M) (H : Heap) (locs : List Loc) : Prop :=
  va_P D pm_cl (pm_wl E M) H ∧ va_D A (pm_wl E M) ∧ va_S A s.heap H locs ∧ M.1 50 0 = xs ∧ M.1 49 0 0 = L
/-- the frame's locals and stack -/
def pm_Fr (nL : Nat) (E : pm_E) (LS : Array Slot) (ls : pm_L) (st : List pm_V) : Prop :=
  LS.size = nL ∧ lv_wf LS ∧ ls.length = nL ∧ (∀ (i : Nat) (v : pm_V), ls[i]? = some (some v) → LS[i]? = some (.val (pm_cv E v)) ∧ pm_okv v) ∧ ∀ v ∈ st, pm_okv v
