/-! the wheel as a row of 45 numbers (as the reference keeps it): f; P people, T tickets -/
def cw (M : pm_M) (k : Nat) (f : Nat → Int32) (P T : Nat) : Prop :=
  M.1 4 k 0 = nI P ∧ M.1 4 k 1 = nI T ∧ M.1 4 k 2 = f 32 ∧ (∀ p, p < P → M.1 5 k p = f p) ∧ (∀ t w, t < T → w < 4 → M.1 6 k (4 * t + w) = f (4 + 5 * t + w)) ∧ (∀ t, t < T → M.1 7 k t = f (8 + 5 * t)) ∧ (∀ j, j < T → M.1 8 k j = f (24 + j)) ∧ (∀ j, j < T → M.1 9 k j = f (28 + j)) ∧ ∀ s i, f 32 = nI s → s ≤ 6 → i < s → M.1 10 k i = f (33 + 2 * i) ∧ M.1 11 k i = f (34 + 2 * i)
def aL (f : Nat → Int32) (T : Nat) : List Nat := md_lst (fun t => decide (f (8 + 5 * t) = -4)) T
def aP (f : Nat → Int32) (T : Nat) : List Nat := md_lst (fun j => decide (f (28 + j) = -4)) T
/-- a row that keeps the rules -/
def wv (f : Nat → Int32) (P T : Nat) : Prop :=
  P ≤ 4 ∧ T ≤ 4 ∧ (∀ t, t < T → ∃ kd a b fe, kd < 4 ∧ a < P ∧ b < P ∧ fe ≤ 9 ∧ f (4 + 5 * t) = nI kd ∧ f (5 + 5 * t) = nI a ∧ f (6 + 5 * t) = nI b ∧ f (7 + 5 * t) = nI fe) ∧ (∀ j, j < T → ∃ am, am ≤ 99 ∧ f (24 + j) = nI am) ∧ (∀ t, t < T → f (8 + 5 * t) = -4 ∨ ∃ j, j < T ∧ f (8 + 5 * t) = nI j) ∧ (∀ j, j < T → f (28 + j) = -4 ∨ ∃ t, t < T ∧ f (28 + j) = nI t) ∧ (aL f T).length = (aP f T).length ∧ (∃ s, s ≤ 6 ∧ f 32 = nI s ∧ ∀ i, i < s → ∃ p, p < P ∧ f (33 + 2 * i) = nI p) ∧ ∀ p, p < P → (f p).toInt.natAbs ≤ 99 + 300 * (T - (aL f T).length)
theorem md_lst_congr {p q : Nat → Bool} {n : Nat} (h : ∀ i, i < n → p i = q i) : md_lst p n = md_lst q n := by
  unfold md_lst
  apply List.filter_congr
  intro i hi
  exact h i (List.mem_range.mp hi)
theorem aL_lt {f : Nat → Int32} {T a : Nat} (ha : a < (aL f T).length) : (aL f T).getD a 0 < T ∧ f (8 + 5 * (aL f T).getD a 0) = -4 := by
  have h1 : (aL f T).getD a 0 ∈ aL f T := by
    rw [List.getD_eq_getElem?_getD, List.getElem?_eq_getElem ha]
    exact List.getElem_mem ha
  generalize (aL f T).getD a 0 = x at h1 ⊢
  unfold aL md_lst at h1
  have := List.mem_filter.mp h1
  exact ⟨List.mem_range.mp this.1, of_decide_eq_true this.2⟩
theorem aP_lt {f : Nat → Int32} {T a : Nat} (ha : a < (aP f T).length) : (aP f T).getD a 0 < T ∧ f (28 + (aP f T).getD a 0) = -4 := by
  have h1 : (aP f T).getD a 0 ∈ aP f T := by
    rw [List.getD_eq_getElem?_getD, List.getElem?_eq_getElem ha]
    exact List.getElem_mem ha
  generalize (aP f T).getD a 0 = x at h1 ⊢
  unfold aP md_lst at h1
  have := List.mem_filter.mp h1
  exact ⟨List.mem_range.mp this.1, of_decide_eq_true this.2⟩
theorem aL_len {f : Nat → Int32} {T : Nat} : (aL f T).length ≤ T := md_lst_len _ _
theorem aP_len {f : Nat → Int32} {T : Nat} : (aP f T).length ≤ T := md_lst_len _ _
def aF (f : Nat → Int32) (T : Nat) (x : Int32) (i : Nat) : Int32 := md_gn f ((aL f T).getD i 0) x
def aS (f : Nat → Int32) (T : Nat) (x : Int32) (i j : Nat) : Int32 := md_sh f ((aL f T).getD i 0) (f (24 + (aP f T).getD j 0)) x
def aA (f : Nat → Int32) (T : Nat) (x : Int32) (row : Nat) : Int32 := pm_sumI (fun i => (nI i + 1) * aF f T x (re_ord row i)) (aL f T).length
def aB (f : Nat → Int32) (T : Nat) (x : Int32) (row : Nat) : Int32 := pm_sumI (fun i => aS f T x i (re_ord row i)) (aL f T).length
def aM (f : Nat → Int32) (T p : Nat) : Int32 := f p * nI (re_parts (aL f T).length) + pm_sumI (fun i => aF f T (nI p) i * nI (aL f T).length * (nI (aL f T).length + 1) + pm_sumI (fun j => 2 * aS f T (nI p) i j) (aL f T).length) (aL f T).length
theorem fWh_trait_at {k t w : Nat} {M : pm_M} (ht : t < 4) (hw : w < 4) : fWh_trait k (nI t) (nI w) M = M.1 6 k (4 * t + w) := by
  unfold fWh_trait
  rw [(re_ix ht hw).1]
theorem cw_trait {M : pm_M} {k : Nat} {f : Nat → Int32} {P T t : Nat} (h : cw M k f P T) (h4 : T ≤ 4) (ht : t < T) : fWh_trait k (nI t) 0 M = f (4 + 5 * t) ∧ fWh_trait k (nI t) 1 M = f (5 + 5 * t) ∧ fWh_trait k (nI t) 2 M = f (6 + 5 * t) ∧ fWh_trait k (nI t) 3 M = f (7 + 5 * t) := by
  have g := h.2.2.2.2.1 t
  have e := fun w (hw : w < 4) => (fWh_trait_at (k := k) (M := M) (show t < 4 by omega) hw).trans (g w ht hw)
  exact ⟨e 0 (by omega), (e 1 (by omega)).trans (congrArg f (by omega)), (e 2 (by omega)).trans (congrArg f (by omega)), (e 3 (by omega)).trans (congrArg f (by omega))⟩
theorem cw_fee {M : pm_M} {k : Nat} {f : Nat → Int32} {P T t : Nat} (h : cw M k f P T) (h4 : T ≤ 4) (ht : t < T) (x : Int32) : fWh_feeFor k (nI t) x M = md_gn f t x := by
  obtain ⟨e0, e1, e2, e3⟩ := cw_trait h h4 ht
  unfold fWh_feeFor fWh_feeFor_37 fWh_sharedOut fWh_sharedOut_15 md_gn
  rw [e0, e1, e2, e3]
  by_cases h1 : f (4 + 5 * t) = 1
  · simp only [h1, if_true]
    by_cases h5 : f (5 + 5 * t) = x <;> by_cases h6 : f (6 + 5 * t) = x <;> simp [h5, h6]
  · by_cases h3 : f (4 + 5 * t) = 3
    · simp only [h3, if_true, if_neg (show ¬ (3 : Int32) = 1 by decide)]
      by_cases h5 : f (5 + 5 * t) = x <;> by_cases h6 : f (6 + 5 * t) = x <;> simp [h5, h6]
    · simp only [h1, h3, if_false]
      by_cases h5 : f (5 + 5 * t) = x <;> by_cases h6 : f (6 + 5 * t) = x <;> simp [h5, h6]
theorem cw_share {M : pm_M} {k : Nat} {f : Nat → Int32} {P T t : Nat} (h : cw M k f P T) (h4 : T ≤ 4) (ht : t < T) (much x : Int32) : fWh_shareFor k (nI t) much x M = md_sh f t much x := by
  obtain ⟨e0, e1, e2, e3⟩ := cw_trait h h4 ht
  have key : ∀ ins, ins = (if much = 0 then 5 * f (7 + 5 * t) else 0) → fWh_shareFor_16 k (nI t) much x ins M = md_sh f t much x := by
    intro ins hi
    unfold fWh_shareFor_16 fWh_sharedOut fWh_sharedOut_15 md_sh
    rw [e0, e1, e2, ← hi]
    by_cases h1 : f (4 + 5 * t) = 1
    · simp only [h1, if_true]
      by_cases h5 : f (5 + 5 * t) = x <;> by_cases h6 : f (6 + 5 * t) = x <;> simp [h5, h6]
    · by_cases h2 : f (4 + 5 * t) = 2
      · simp only [h2, if_true, if_neg (show ¬ (2 : Int32) = 1 by decide)]
        by_cases h5 : f (5 + 5 * t) = x <;> by_cases h6 : f (6 + 5 * t) = x <;> simp [h5, h6]
      · by_cases h3 : f (4 + 5 * t) = 3
        · simp only [h3, if_true, if_neg (show ¬ (3 : Int32) = 1 by decide), if_neg (show ¬ (3 : Int32) = 2 by decide)]
          by_cases h5 : f (5 + 5 * t) = x <;> by_cases h6 : f (6 + 5 * t) = x <;> simp [h5, h6]
        · simp only [h1, h2, h3, if_false]
          by_cases h5 : f (5 + 5 * t) = x <;> by_cases h6 : f (6 + 5 * t) = x <;> simp [h5, h6]
  unfold fWh_shareFor
  rw [e3]
  by_cases h0 : much = 0
  · rw [if_pos h0]
    exact key _ (by rw [if_pos h0])
  · rw [if_neg h0]
    exact key _ (by rw [if_neg h0])
theorem cw_L {M : pm_M} {k : Nat} {f : Nat → Int32} {P T : Nat} (h : cw M k f P T) (h4 : T ≤ 4) : re_L k M = aL f T := by
  unfold re_L aL
  rw [h.2.1, pm_cl4 (by omega)]
  exact md_lst_congr (fun i hi => by rw [h.2.2.2.2.2.1 i hi])
theorem cw_P {M : pm_M} {k : Nat} {f : Nat → Int32} {P T : Nat} (h : cw M k f P T) (h4 : T ≤ 4) : re_P k M = aP f T := by
  unfold re_P aP
  rw [h.2.1, pm_cl4 (by omega)]
  exact md_lst_congr (fun i hi => by rw [h.2.2.2.2.2.2.2.1 i hi])
theorem cw_F {M : pm_M} {k : Nat} {f : Nat → Int32} {P T i : Nat} (h : cw M k f P T) (h4 : T ≤ 4) (hi : i < (aL f T).length) (x : Int32) : re_F k x M i = aF f T x i := by
  unfold re_F aF
  rw [cw_L h h4, cw_fee h h4 (aL_lt hi).1]
theorem cw_S {M : pm_M} {k : Nat} {f : Nat → Int32} {P T i j : Nat} (h : cw M k f P T) (h4 : T ≤ 4) (hi : i < (aL f T).length) (hj : j < (aP f T).length) (x : Int32) : re_S k x M i j = aS f T x i j := by
  unfold re_S aS
  rw [cw_L h h4, cw_P h h4, cw_share h h4 (aL_lt hi).1, h.2.2.2.2.2.2.1 _ (aP_lt hj).1]
theorem pm_sumI_congr {g h : Nat → Int32} : ∀ {n : Nat}, (∀ i, i < n → g i = h i) → pm_sumI g n = pm_sumI h n
  | 0, _ => rfl
  | n + 1, hh => by
    rw [pm_sumI, pm_sumI, pm_sumI_congr (n := n) (fun i hi => hh i (by omega)), hh n (by omega)]
theorem cw_A {M : pm_M} {k : Nat} {f : Nat → Int32} {P T row : Nat} (h : cw M k f P T) (h4 : T ≤ 4) (hr : row < md_fact (aL f T).length) (x : Int32) : re_A k x M row = aA f T x row := by
  unfold re_A aA
  rw [cw_L h h4]
  exact pm_sumI_congr (fun i hi => by rw [cw_F h h4 (re_ord_lt (by have := aL_len (f := f) (T := T); omega) hr hi).1])
theorem cw_B {M : pm_M} {k : Nat} {f : Nat → Int32} {P T row : Nat} (h : cw M k f P T) (h4 : T ≤ 4) (hl : (aL f T).length = (aP f T).length) (hr : row < md_fact (aL f T).length) (x : Int32) : re_B k x M row = aB f T x row := by
  unfold re_B aB
  rw [cw_L h h4]
  exact pm_sumI_congr (fun i hi => by
    have := (re_ord_lt (by have := aL_len (f := f) (T := T); omega) hr hi).1
    rw [cw_S h h4 hi (by omega)])
theorem cw_weigh {M : pm_M} {k : Nat} {f : Nat → Int32} {P T : Nat} (h : cw M k f P T) (hv : wv f P T) (x : Int32) : sRe_weigh k x M := by
  refine ⟨⟨T, hv.2.1, h.2.1⟩, ?_⟩
  rw [cw_L h hv.2.1, cw_P h hv.2.1]
  exact hv.2.2.2.2.2.2.1
theorem cw_meanSum {M : pm_M} {k : Nat} {f : Nat → Int32} {P T p : Nat} (h : cw M k f P T) (hv : wv f P T) (hp : p < P) : sRe_meanSum k (nI p) M ∧ fRe_meanSum k (nI p) M = aM f T p := by
  have h4 := hv.2.1
  have hl := hv.2.2.2.2.2.2.1
  refine ⟨⟨cw_weigh h hv _, pm_vin (by have := hv.1; omega) (by omega)⟩, ?_⟩
  unfold fRe_meanSum aM
  rw [cw_L h h4, pm_cl4 (by have := hv.1; omega), h.2.2.2.1 p hp]
  congr 1
  refine pm_sumI_congr (fun i hi => ?_)
  rw [cw_F h h4 hi]
  congr 1
  exact pm_sumI_congr (fun j hj => by rw [cw_S h h4 hi (by omega)])
/-! the scratch cells of the class -/
def cs_x (t k : Nat) : Bool := (decide (12 ≤ t) && decide (t ≤ 20)) || (decide (4 ≤ t) && decide (t ≤ 11) && decide (k = 1))
def cs_eq (M M' : pm_M) : Prop := (∀ t k, cs_x t k = false → M'.1 t k = M.1 t k) ∧ M'.2 = M.2
theorem cs_rfl {M : pm_M} : cs_eq M M := ⟨fun _ _ _ => rfl, rfl⟩
theorem cs_trans {M M' M'' : pm_M} (h : cs_eq M M') (h' : cs_eq M' M'') : cs_eq M M'' := ⟨fun t k q => (h'.1 t k q).trans (h.1 t k q), h'.2.trans h.2⟩
theorem cs_set {M : pm_M} {t k : Nat} {f : Nat → Int32} (h : cs_x t k = true) : cs_eq M (pm_set M t k f) := by
  refine ⟨fun a b q => ?_, rfl⟩
  unfold pm_set
  dsimp only
  rw [if_neg]
  rintro ⟨rfl, rfl⟩
  rw [h] at q
  cases q
theorem cs_look {k : Nat} {M : pm_M} : cs_eq M (gRe_look k M) := by
  unfold gRe_look re_flo
  exact cs_trans (cs_set rfl) (cs_trans (cs_set rfl) (cs_set rfl))
theorem cs_weigh {k : Nat} {x : Int32} {M : pm_M} : cs_eq M (gRe_weigh k x M) := by
  unfold gRe_weigh
  exact cs_trans cs_look (cs_trans (cs_set rfl) (cs_set rfl))
theorem cs_spread {k : Nat} {x : Int32} {M : pm_M} : cs_eq M (gRe_spread k x M) := by
  unfold gRe_spread re_sp
  exact cs_trans cs_weigh (cs_trans (cs_set rfl) (cs_set rfl))
theorem cs_spa {k : Nat} {M : pm_M} : ∀ p, cs_eq M (re_spa k M p)
  | 0 => cs_look
  | p + 1 => cs_trans (cs_spa p) cs_spread
theorem cs_tally {k : Nat} {M : pm_M} : cs_eq M (gRe_tally k M) := by
  unfold gRe_tally re_ta
  exact cs_trans (cs_set rfl) (cs_set rfl)
theorem cs_beside {a b : Int32} {M : pm_M} : cs_eq M (gRe_findBeside a b M) := cs_set rfl
theorem pm_set_get {M : pm_M} {t k a b : Nat} {f : Nat → Int32} : (pm_set M t k f).1 a b = if a = t ∧ b = k then f else M.1 a b := rfl
theorem copy_ne {k k1 t k' : Nat} {M : pm_M} (h : k' ≠ k ∨ t < 4 ∨ 11 < t) : (gWh_copy k k1 M).1 t k' = M.1 t k' := by
  unfold gWh_copy
  simp only [pm_set_get]
  have : ∀ a, 4 ≤ a → a ≤ 11 → ¬ (t = a ∧ k' = k) := by omega
  rw [if_neg (this 11 (by omega) (by omega)), if_neg (this 10 (by omega) (by omega)), if_neg (this 9 (by omega) (by omega)), if_neg (this 8 (by omega) (by omega)), if_neg (this 7 (by omega) (by omega)), if_neg (this 6 (by omega) (by omega)), if_neg (this 5 (by omega) (by omega)), if_neg (this 4 (by omega) (by omega)), if_neg (this 4 (by omega) (by omega)), if_neg (this 4 (by omega) (by omega))]
theorem cs_copy {M : pm_M} : cs_eq M (gWh_copy 1 0 M) := by
  refine ⟨fun t k q => copy_ne ?_, rfl⟩
  unfold cs_x at q
  simp at q
  omega
theorem cpy_at {f g : Nat → Int32} {n j : Nat} (h : j < n) : va_cpy f g 0 0 n j = f j := by
  unfold va_cpy
  rw [if_pos (by omega)]
  congr 1
  omega
theorem cw_copy {M : pm_M} {k k1 : Nat} {f : Nat → Int32} {P T : Nat} (hk : k1 ≠ k) (h : cw M k1 f P T) (hP : P ≤ 4) (hT : T ≤ 4) : cw (gWh_copy k k1 M) k f P T := by
  have c4 : ∀ j, j < 3 → (gWh_copy k k1 M).1 4 k j = M.1 4 k1 j := by
    intro j hj
    unfold gWh_copy
    simp only [pm_set_get]
    unfold upd
    rcases (show j = 0 ∨ j = 1 ∨ j = 2 by omega) with rfl | rfl | rfl <;> simp [hk]
  have c5 : (gWh_copy k k1 M).1 5 k = va_cpy (M.1 5 k1) (M.1 5 k) 0 0 (Int32.toNatClampNeg 4) := by unfold gWh_copy; simp only [pm_set_get]; simp
  have c6 : (gWh_copy k k1 M).1 6 k = va_cpy (M.1 6 k1) (M.1 6 k) 0 0 (Int32.toNatClampNeg 16) := by unfold gWh_copy; simp only [pm_set_get]; simp
  have c7 : (gWh_copy k k1 M).1 7 k = va_cpy (M.1 7 k1) (M.1 7 k) 0 0 (Int32.toNatClampNeg 4) := by unfold gWh_copy; simp only [pm_set_get]; simp
  have c8 : (gWh_copy k k1 M).1 8 k = va_cpy (M.1 8 k1) (M.1 8 k) 0 0 (Int32.toNatClampNeg 4) := by unfold gWh_copy; simp only [pm_set_get]; simp
  have c9 : (gWh_copy k k1 M).1 9 k = va_cpy (M.1 9 k1) (M.1 9 k) 0 0 (Int32.toNatClampNeg 4) := by unfold gWh_copy; simp only [pm_set_get]; simp
  have c10 : (gWh_copy k k1 M).1 10 k = va_cpy (M.1 10 k1) (M.1 10 k) 0 0 (Int32.toNatClampNeg 6) := by unfold gWh_copy; simp only [pm_set_get]; simp
  have c11 : (gWh_copy k k1 M).1 11 k = va_cpy (M.1 11 k1) (M.1 11 k) 0 0 (Int32.toNatClampNeg 6) := by unfold gWh_copy; simp only [pm_set_get]; simp
  have z4 : Int32.toNatClampNeg 4 = 4 := by decide
  have z6 : Int32.toNatClampNeg 6 = 6 := by decide
  have z16 : Int32.toNatClampNeg 16 = 16 := by decide
  obtain ⟨h1, h2, h3, h5, h6, h7, h8, h9, h10⟩ := h
  refine ⟨(c4 0 (by omega)).trans h1, (c4 1 (by omega)).trans h2, (c4 2 (by omega)).trans h3, fun p hp => ?_, fun t w ht hw => ?_, fun t ht => ?_, fun j hj => ?_, fun j hj => ?_, fun s i hs hs6 hi => ?_⟩
  · rw [c5, z4, cpy_at (by omega), h5 p hp]
  · rw [c6, z16, cpy_at (by omega), h6 t w ht hw]
  · rw [c7, z4, cpy_at (by omega), h7 t ht]
  · rw [c8, z4, cpy_at (by omega), h8 j hj]
  · rw [c9, z4, cpy_at (by omega), h9 j hj]
  · rw [c10, c11, z6, cpy_at (by omega), cpy_at (by omega)]
    exact h10 s i hs hs6 hi
theorem cw_same {M M' : pm_M} {k : Nat} {f : Nat → Int32} {P T : Nat} (h : cw M k f P T) (e : ∀ t, 4 ≤ t → t ≤ 11 → M'.1 t k = M.1 t k) : cw M' k f P T := by
  unfold cw at h ⊢
  rw [e 4 (by omega) (by omega), e 5 (by omega) (by omega), e 6 (by omega) (by omega), e 7 (by omega) (by omega), e 8 (by omega) (by omega), e 9 (by omega) (by omega), e 10 (by omega) (by omega), e 11 (by omega) (by omega)]
  exact h
theorem cw_cs {M M' : pm_M} {k : Nat} {f : Nat → Int32} {P T : Nat} (hk : k ≠ 1) (h : cw M k f P T) (e : cs_eq M M') : cw M' k f P T := cw_same h (fun t h4 h11 => e.1 t k (by
  unfold cs_x
  simp
  omega))
/-- another trait -/
theorem cw_set {M : pm_M} {k : Nat} {f : Nat → Int32} {P T t w : Nat} {v : Int32} (h : cw M k f P T) (hP : P ≤ 4) (hT : T ≤ 4) (ht : t < T) (hw : w < 4) : cw (gWh_setTrait k (nI t) (nI w) v M) k (upd f (4 + 5 * t + w) v) P T := by
  obtain ⟨h1, h2, h3, h5, h6, h7, h8, h9, h10⟩ := h
  unfold gWh_setTrait
  have u : ∀ y, y ≠ 4 + 5 * t + w → upd f (4 + 5 * t + w) v y = f y := fun y hy => by unfold upd; rw [if_neg hy]
  unfold cw
  have n : ∀ a g, 6 ≠ a → (pm_set M 6 k g).1 a k = M.1 a k := fun a g ha => pm_set_ne _ _ ha
  rw [n 4 _ (by decide), n 5 _ (by decide), n 7 _ (by decide), n 8 _ (by decide), n 9 _ (by decide), n 10 _ (by decide), n 11 _ (by decide), pm_set_at, (re_ix (show t < 4 by omega) hw).1]
  refine ⟨h1, h2, h3.trans (u _ (by omega)).symm, fun p hp => (h5 p hp).trans (u _ ?_).symm, fun t' w' ht' hw' => ?_, fun t' ht' => (h7 t' ht').trans (u _ (by omega)).symm, fun j hj => (h8 j hj).trans (u _ (by omega)).symm, fun j hj => (h9 j hj).trans (u _ (by omega)).symm, fun s i hs h6' hi => ?_⟩
  · omega
  · unfold upd
    by_cases q : t' = t ∧ w' = w
    · obtain ⟨rfl, rfl⟩ := q
      rw [if_pos rfl, if_pos rfl]
    · rw [if_neg (by omega), if_neg (by omega)]
      exact h6 t' w' ht' hw'
  · rw [u _ (by omega)] at hs
    rw [u _ (by omega), u _ (by omega)]
    exact h10 s i hs h6' hi
