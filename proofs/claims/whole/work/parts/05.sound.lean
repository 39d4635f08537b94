/-! each step of the pure machine is a step of the machine -/
def pm_J (p : Program) (l : Launch) (e : Env) (R : Room) (s : State) (m : MethodId) (args : Array Value) (below : List Frame) (meth : Method) (c : Code) (cells slots : Nat) (Z : State → Prop) (D : va_G) (E : pm_E) (A : Nat → Prop) (xs : Nat → Int32) (L : Int32) (nL : Nat) (pc : Nat) (ls : pm_L) (st : List pm_V) (M : pm_M) : Prop :=
  ∀ (H : Heap) (locs : List Loc) (LS : Array Slot), pm_Wd D E A s xs L M H locs → pm_Fr nL E LS ls st → W p l e R s m args below meth c H locs cells slots Z (F0 m pc LS (st.map (pm_cv E)))
theorem pm_Fr.stk {nL : Nat} {E : pm_E} {LS : Array Slot} {ls : pm_L} {st st' : List pm_V} (h : pm_Fr nL E LS ls st) (hs : ∀ v ∈ st', pm_okv v) : pm_Fr nL E LS ls st' := ⟨h.1, h.2.1, h.2.2.1, h.2.2.2.1, hs⟩
theorem pm_Fr.ok {nL : Nat} {E : pm_E} {LS : Array Slot} {ls : pm_L} {st : List pm_V} (h : pm_Fr nL E LS ls st) : ∀ v ∈ st, pm_okv v := h.2.2.2.2
theorem pm_ok_c {v : pm_V} {r : List pm_V} (h : pm_okv v) (hr : ∀ w ∈ r, pm_okv w) : ∀ w ∈ v :: r, pm_okv w := fun w hw => (List.mem_cons.mp hw).elim (fun q => q ▸ h) (hr w)
theorem pm_ok_t {v : pm_V} {r : List pm_V} (h : ∀ w ∈ v :: r, pm_okv w) : ∀ w ∈ r, pm_okv w := fun w hw => h w (List.mem_cons_of_mem _ hw)
theorem pm_ok_h {v : pm_V} {r : List pm_V} (h : ∀ w ∈ v :: r, pm_okv w) : pm_okv v := h v List.mem_cons_self
theorem pm_cv_r {E : pm_E} {t k : Nat} (h : t ≠ 54) : pm_cv E (pm_r t k) = .ref (E.1 t k) := by simp [pm_cv, h]
theorem pm_cat {E : pm_E} (hE : E.2.1.category = 1) {v : pm_V} (h : pm_is1 v = true) : (pm_cv E v).category = 1 := by
  rcases v with x | x | ⟨t, k⟩
  · rfl
  · cases h
  · unfold pm_cv
    by_cases h9 : t = 54
    · simp [h9, hE]
    · simp [h9, Value.category]
def pm_as (E : pm_E) (ls : pm_L) : List (Nat × Value) := (List.range ls.length).filterMap (fun i => match ls[i]? with
  | some (some v) => some (i, pm_cv E v)
  | _ => none)
theorem pm_as_in {E : pm_E} {ls : pm_L} {i : Nat} {v : pm_V} (h : ls[i]? = some (some v)) : (i, pm_cv E v) ∈ pm_as E ls := by
  unfold pm_as
  rw [List.mem_filterMap]
  exact ⟨i, List.mem_range.mpr (List.getElem?_eq_some_iff.mp h).1, by simp [h]⟩
theorem pm_as_out {E : pm_E} {ls : pm_L} {q : Nat × Value} (h : q ∈ pm_as E ls) : ∃ v, ls[q.1]? = some (some v) ∧ q.2 = pm_cv E v := by
  unfold pm_as at h
  rw [List.mem_filterMap] at h
  obtain ⟨i, hi, h⟩ := h
  split at h
  · rename_i v hv
    cases h
    exact ⟨v, hv, rfl⟩
  · cases h
theorem pm_Fr.has {nL : Nat} {E : pm_E} {LS : Array Slot} {ls : pm_L} {st : List pm_V} (h : pm_Fr nL E LS ls st) : lv_has LS nL (pm_as E ls) := by
  refine ⟨h.1, h.2.1, fun q hq => ?_⟩
  obtain ⟨v, h1, h2⟩ := pm_as_out hq
  rw [h2]
  exact (h.2.2.2.1 _ _ h1).1
theorem pm_clr_len (ls : pm_L) (k : Nat) : (pm_clr ls k).length = ls.length := by
  unfold pm_clr
  split
  · rfl
  · split <;> simp
theorem pm_clr_get {ls : pm_L} {k i : Nat} {w : pm_V} (h : (pm_clr ls k)[i]? = some (some w)) : ls[i]? = some (some w) ∧ (i + 1 = k → pm_is1 w = true) := by
  unfold pm_clr at h
  split at h
  · exact ⟨h, fun q => by omega⟩
  · rename_i j
    split at h
    · rename_i x hx
      rw [List.getElem?_set] at h
      by_cases hij : j = i
      · subst hij
        simp at h
      · rw [if_neg hij] at h
        exact ⟨h, fun q => by omega⟩
    · rename_i hn
      refine ⟨h, fun q => ?_⟩
      have e : j = i := by omega
      subst e
      rcases w with x | x | y
      · rfl
      · exact absurd h (hn x)
      · rfl
theorem pm_Fr.st1 {nL : Nat} {E : pm_E} {LS LS' : Array Slot} {ls : pm_L} {st st' : List pm_V} {k : Nat} {v : pm_V} (hE : E.2.1.category = 1) (hF : pm_Fr nL E LS ls st) (hv : pm_okv v) (hl : lv_has LS' nL ((k, pm_cv E v) :: (pm_as E ls).filter (fun q => !(q.1 == k) && !(q.1 + 1 == k && q.2.category == 2)))) (hst : ∀ w ∈ st', pm_okv w) : pm_Fr nL E LS' (pm_st1 ls k v) st' := by
  refine ⟨hl.1, hl.2.1, by simp [pm_st1, pm_clr_len, hF.2.2.1], fun i w hw => ?_, hst⟩
  unfold pm_st1 at hw
  rw [List.getElem?_set] at hw
  by_cases hik : k = i
  · subst hik
    rw [if_pos rfl] at hw
    split at hw
    · cases hw
      exact ⟨hl.2.2 (k, pm_cv E v) List.mem_cons_self, hv⟩
    · cases hw
  · rw [if_neg hik] at hw
    obtain ⟨h1, h2⟩ := pm_clr_get hw
    refine ⟨hl.2.2 (i, pm_cv E w) (List.mem_cons_of_mem _ (List.mem_filter.mpr ⟨pm_as_in h1, ?_⟩)), (hF.2.2.2.1 i w h1).2⟩
    by_cases h3 : i + 1 = k
    · simp [Ne.symm hik, pm_cat hE (h2 h3)]
    · simp [Ne.symm hik, h3]
theorem pm_Fr.st2 {nL : Nat} {E : pm_E} {LS LS' : Array Slot} {ls : pm_L} {st st' : List pm_V} {k : Nat} {v : pm_V} (hE : E.2.1.category = 1) (hF : pm_Fr nL E LS ls st) (hv : pm_okv v) (hl : lv_has LS' nL ((k, pm_cv E v) :: (pm_as E ls).filter (fun q => !(q.1 == k) && (!(q.1 == k + 1) && !(q.1 + 1 == k && q.2.category == 2))))) (hst : ∀ w ∈ st', pm_okv w) : pm_Fr nL E LS' (pm_st2 ls k v) st' := by
  refine ⟨hl.1, hl.2.1, by simp [pm_st2, pm_clr_len, hF.2.2.1], fun i w hw => ?_, hst⟩
  unfold pm_st2 at hw
  rw [List.getElem?_set] at hw
  by_cases hik1 : k + 1 = i
  · subst hik1
    rw [if_pos rfl] at hw
    split at hw <;> cases hw
  rw [if_neg hik1, List.getElem?_set] at hw
  by_cases hik : k = i
  · subst hik
    rw [if_pos rfl] at hw
    split at hw
    · cases hw
      exact ⟨hl.2.2 (k, pm_cv E v) List.mem_cons_self, hv⟩
    · cases hw
  · rw [if_neg hik] at hw
    obtain ⟨h1, h2⟩ := pm_clr_get hw
    refine ⟨hl.2.2 (i, pm_cv E w) (List.mem_cons_of_mem _ (List.mem_filter.mpr ⟨pm_as_in h1, ?_⟩)), (hF.2.2.2.1 i w h1).2⟩
    by_cases h3 : i + 1 = k
    · simp [Ne.symm hik, Ne.symm hik1, pm_cat hE (h2 h3)]
    · simp [Ne.symm hik, Ne.symm hik1, h3]
-- what the kinds' table says
def pm_chk (t : Nat) : Bool := match pm_sh t with
  | some (.inl (ci, fs)) => decide (ci < 7) && decide (fs.length = pm_NN ci) && fs.zipIdx.all (fun q => match q.1 with
    | (0, _, _) => decide (pm_tN ci q.2 = .int) && !(pm_TN ci q.2).2.2.2
    | (1, _, _) => decide (pm_tN ci q.2 = .long) && !(pm_TN ci q.2).2.2.2 && decide (t = 29)
    | (_, t', b) => decide (b + pm_cnt t ≤ pm_cnt t') && decide (t' < 44))
  | some (.inr (.inl (ty, n))) => decide (ty < 3) && decide (n < 1000)
  | some (.inr (.inr (ty, n, t', b))) => decide (b + n ≤ pm_cnt t') && decide (t' < 44) && decide (ty = 3 ∨ ty = 4)
  | none => false
theorem pm_chks : ∀ t, t < 44 → pm_chk t = true := by decide +kernel
theorem pm_obj {t ci : Nat} {fs : List (Nat × Nat × Nat)} (h : pm_sh t = some (.inl (ci, fs))) : ci < 7 ∧ fs.length = pm_NN ci ∧ (∀ (i y z : Nat), fs[i]? = some (0, y, z) → pm_tN ci i = .int ∧ (pm_TN ci i).2.2.2 = false) ∧ (∀ (i y z : Nat), fs[i]? = some (1, y, z) → pm_tN ci i = .long ∧ (pm_TN ci i).2.2.2 = false ∧ t = 29) ∧ ∀ (i y z : Nat), fs[i]? = some (2, y, z) → z + pm_cnt t ≤ pm_cnt y ∧ y < 44 := by
  have h0 := pm_chks t (pm_sh_lt h)
  unfold pm_chk at h0
  rw [h] at h0
  simp only [Bool.and_eq_true, decide_eq_true_eq, List.all_eq_true] at h0
  obtain ⟨⟨h1, h2⟩, h3⟩ := h0
  have hz : ∀ (i : Nat) (f : Nat × Nat × Nat), fs[i]? = some f → (f, i) ∈ fs.zipIdx := fun i f hf => by
    have := List.mem_zipIdx_iff_getElem? (x := (f, i)) (l := fs)
    exact this.mpr hf
  refine ⟨h1, h2, fun i y z hf => ?_, fun i y z hf => ?_, fun i y z hf => ?_⟩
  · have := h3 _ (hz i _ hf)
    simpa using this
  · have := h3 _ (hz i _ hf)
    simpa [and_assoc] using this
  · have := h3 _ (hz i _ hf)
    simpa using this
theorem pm_arr {t ty n t' b : Nat} (h : pm_sh t = some (.inr (.inr (ty, n, t', b)))) : b + n ≤ pm_cnt t' ∧ t' < 44 ∧ (ty = 3 ∨ ty = 4) := by
  have h0 := pm_chks t (pm_sh_lt h)
  unfold pm_chk at h0
  rw [h] at h0
  simp only [Bool.and_eq_true, decide_eq_true_eq] at h0
  exact ⟨h0.1.1, h0.1.2, h0.2⟩
theorem pm_in_lt {i : Int32} {n : Nat} (h : vp_in i n) : i.toNatClampNeg < n := Nat.not_le.mp fun q => h (Or.inr q)
