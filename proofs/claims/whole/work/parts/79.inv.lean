/-! what holds between the calls of a run -/
theorem pm_Sem_keep {mi : pm_MI} {as : List pm_V} {M : pm_M} {Q : Option pm_V → pm_M → Prop} (h : pm_Sem mi as M Q) : pm_Sem mi as M (fun v M' => Q v M' ∧ M'.1 50 0 = M.1 50 0 ∧ M'.1 49 0 0 = M.1 49 0 0) := by
  intro l D E sz xs L h1 h2 h3
  intro p e ha hc hk s m args below hf happ hP hK
  obtain ⟨n, o, a1, a2, a3, ⟨⟨v, M', q1, q2, q3, q4, q5, q6⟩, q7⟩, q8⟩ := h l D E sz xs L h1 h2 h3 p e ha hc hk s m args below hf happ hP hK
  exact ⟨n, o, a1, a2, a3, ⟨⟨v, M', q1, ⟨q2, q5.trans h2.symm, q6.trans h3.symm⟩, q3, q4, q5, q6⟩, q7⟩, q8⟩
theorem cw_ag {M : pm_M} {k : Nat} {f g : Nat → Int32} {P T : Nat} (hP : P ≤ 4) (hT : T ≤ 4) (a : ag g f) (h : cw M k f P T) : cw M k g P T := by
  obtain ⟨h1, h2, h3, h5, h6, h7, h8, h9, h10⟩ := h
  refine ⟨h1, h2, h3.trans (a 32 (by omega)).symm, fun p hp => (h5 p hp).trans (a _ (by omega)).symm, fun t w ht hw => (h6 t w ht hw).trans (a _ (by omega)).symm, fun t ht => (h7 t ht).trans (a _ (by omega)).symm, fun t ht => (h8 t ht).trans (a _ (by omega)).symm, fun t ht => (h9 t ht).trans (a _ (by omega)).symm, fun s i hs h6' hi => ?_⟩
  rw [a 32 (by omega)] at hs
  rw [a _ (by omega), a _ (by omega)]
  exact h10 s i hs h6' hi
/-- the images -/
def iG (M : pm_M) (k : Nat) : Nat → Int32 := fun j => M.1 30 0 (45 * (k + 1) + j)
def iK (M : pm_M) (P T : Nat) : Prop := ∀ k, k < 2 → (M.1 2 0 k = 0 ∧ M.1 32 0 k = 0) ∨ (M.1 2 0 k = 1 ∧ M.1 32 0 k = 1 ∧ cw M (k + 2) (iG M k) P T ∧ wv (iG M k) P T)
/-- the wheel -/
def iW (M : pm_M) (P T : Nat) : Prop := cw M 0 (M.1 30 0) P T ∧ wv (M.1 30 0) P T ∧ M.1 29 0 3 = nI P ∧ M.1 29 0 4 = nI T ∧ iK M P T
/-- the tape -/
def iT (M : pm_M) : Prop := ∃ n, n ≤ 160 ∧ M.1 21 0 1 = nI n ∧ M.1 29 0 13 = nI n ∧ ∀ i, i < n → ∃ b, b ≤ 127 ∧ M.1 22 0 i = nI b ∧ M.1 35 0 i = nI b
/-- the sheets -/
def iS (M : pm_M) : Prop := ∀ k, k < 4 → (M.1 27 k 0 = -4 ∧ M.1 40 0 k = -4) ∨ ∃ l n, l ≤ 2 ∧ n ≤ 40 ∧ M.1 27 k 0 = nI n ∧ M.1 27 k 1 = nI l ∧ M.1 40 0 k = nI l ∧ M.1 41 0 k = nI n ∧ ∀ i, i < 40 → M.1 28 k i = M.1 42 0 (40 * k + i)
def Inv (M : pm_M) : Prop := (∃ P T, iW M P T) ∧ iT M ∧ M.1 23 0 0 = M.1 29 0 18 ∧ iS M ∧ M.1 0 0 8 = M.1 29 0 35
theorem iK_same {M M' : pm_M} {P T : Nat} (h : iK M P T) (e2 : M'.1 2 0 = M.1 2 0) (e4 : ∀ t k, 4 ≤ t → t ≤ 11 → 2 ≤ k → M'.1 t k = M.1 t k) (e30 : ∀ j, 45 ≤ j → M'.1 30 0 j = M.1 30 0 j) (e32 : M'.1 32 0 = M.1 32 0) : iK M' P T := by
  intro k hk
  have eg : iG M' k = iG M k := funext fun j => e30 _ (by omega)
  rw [e2, e32, eg]
  rcases h k hk with q | ⟨q1, q2, q3, q4⟩
  · exact Or.inl q
  · exact Or.inr ⟨q1, q2, cw_same q3 (fun t a b => e4 t _ a b (by omega)), q4⟩
theorem iW_same {M M' : pm_M} {P T : Nat} (h : iW M P T) (e2 : M'.1 2 0 = M.1 2 0) (e4 : ∀ t k, 4 ≤ t → t ≤ 11 → k ≠ 1 → M'.1 t k = M.1 t k) (e30 : M'.1 30 0 = M.1 30 0) (e32 : M'.1 32 0 = M.1 32 0) (e3 : M'.1 29 0 3 = M.1 29 0 3) (e9 : M'.1 29 0 4 = M.1 29 0 4) : iW M' P T := by
  obtain ⟨h1, h2, h3, h4, h5⟩ := h
  refine ⟨?_, ?_, e3.trans h3, e9.trans h4, iK_same h5 e2 (fun t k a b c => e4 t k a b (by omega)) (fun j _ => by rw [e30]) e32⟩
  · rw [e30]
    exact cw_same h1 (fun t a b => e4 t 0 a b (by decide))
  · rw [e30]
    exact h2
theorem iT_same {M M' : pm_M} (h : iT M) (e1 : M'.1 21 0 1 = M.1 21 0 1) (e2 : M'.1 22 0 = M.1 22 0) (e3 : M'.1 29 0 13 = M.1 29 0 13) (e4 : M'.1 35 0 = M.1 35 0) : iT M' := by
  unfold iT
  rw [e1, e2, e3, e4]
  exact h
theorem iS_same {M M' : pm_M} (h : iS M) (e1 : ∀ k, M'.1 27 k = M.1 27 k) (e2 : ∀ k, M'.1 28 k = M.1 28 k) (e3 : M'.1 40 0 = M.1 40 0) (e4 : M'.1 41 0 = M.1 41 0) (e5 : M'.1 42 0 = M.1 42 0) : iS M' := by
  intro k hk
  rw [e1, e2, e3, e4, e5]
  exact h k hk
/-- scratch cells alone were written -/
theorem Inv_cs {M M' : pm_M} (h : Inv M) (c : cs_eq M M') : Inv M' := by
  obtain ⟨⟨P, T, h1⟩, h2, h3, h4, h5⟩ := h
  have e : ∀ t k, cs_x t k = false → M'.1 t k = M.1 t k := c.1
  refine ⟨⟨P, T, iW_same h1 (e _ _ rfl) (fun t k a b d => e t k ?_) (e _ _ rfl) (e _ _ rfl) (by rw [e 29 0 rfl]) (by rw [e 29 0 rfl])⟩, iT_same h2 (by rw [e 21 0 rfl]) (e _ _ rfl) (by rw [e 29 0 rfl]) (e _ _ rfl), ?_, iS_same h4 (fun k => e 27 k rfl) (fun k => e 28 k rfl) (e _ _ rfl) (e _ _ rfl) (e _ _ rfl), ?_⟩
  · unfold cs_x
    simp
    omega
  · rw [e 23 0 rfl, e 29 0 rfl]
    exact h3
  · rw [e 0 0 rfl, e 29 0 rfl]
    exact h5
theorem Inv_ms {M M' : pm_M} (h : Inv M) (c : ms_eq M M') : Inv M' := by
  obtain ⟨⟨P, T, h1⟩, h2, h3, h4, h5⟩ := h
  have e : ∀ t k, t ≠ 29 → ms_t t = false → M'.1 t k = M.1 t k := c.1
  have e9 : ∀ j, ms_j j = false → M'.1 29 0 j = M.1 29 0 j := c.2
  refine ⟨⟨P, T, iW_same h1 (e _ _ (by decide) rfl) (fun t k a b d => e t k (by omega) ?_) (e _ _ (by decide) rfl) (e _ _ (by decide) rfl) (e9 _ rfl) (e9 _ rfl)⟩, iT_same h2 (by rw [e 21 0 (by decide) rfl]) (e _ _ (by decide) rfl) (e9 _ rfl) (e _ _ (by decide) rfl), ?_, iS_same h4 (fun k => e 27 k (by decide) rfl) (fun k => e 28 k (by decide) rfl) (e _ _ (by decide) rfl) (e _ _ (by decide) rfl) (e _ _ (by decide) rfl), ?_⟩
  · unfold ms_t
    simp
    omega
  · rw [e 23 0 (by decide) rfl, e9 18 rfl]
    exact h3
  · rw [e 0 0 (by decide) rfl, e9 35 rfl]
    exact h5
/-- a call of the class and of the reference, the same answer, and the invariant behind it -/
def OkI (cm mm : pm_MI) (as : List pm_V) : Prop := ∀ M, Inv M → ∃ (x : Int32) (M1 M2 : pm_M), pm_Ev cm (pm_r 0 0 :: as) M (some (pm_i x)) M1 ∧ pm_Ev mm (pm_r 29 0 :: as) M1 (some (pm_i x)) M2 ∧ Inv M2
def OkL (cm mm : pm_MI) (as : List pm_V) : Prop := ∀ M, Inv M → ∃ (x : Int64) (M1 M2 : pm_M), pm_Ev cm (pm_r 0 0 :: as) M (some (pm_l x)) M1 ∧ pm_Ev mm (pm_r 29 0 :: as) M1 (some (pm_l x)) M2 ∧ Inv M2
theorem okI_ro {cm mm : pm_MI} {as : List pm_V} (h : ∀ (M : pm_M) (P T : Nat) (f : Nat → Int32), cw M 0 f P T → wv f P T → mw M f P T → Inv M → ∃ x M1, pm_Ev cm (pm_r 0 0 :: as) M (some (pm_i x)) M1 ∧ cs_eq M M1 ∧ (Inv M1 → mw M1 f P T → ∃ M2, pm_Ev mm (pm_r 29 0 :: as) M1 (some (pm_i x)) M2 ∧ ms_eq M1 M2)) : OkI cm mm as := by
  intro M hI
  obtain ⟨P, T, h1, h2, h3, h4, h5⟩ := hI.1
  obtain ⟨x, M1, k1, k2, k3⟩ := h M P T (M.1 30 0) h1 h2 ⟨rfl, h3, h4⟩ hI
  have hI1 := Inv_cs hI k2
  obtain ⟨M2, k4, k5⟩ := k3 hI1 ⟨k2.1 30 0 rfl, by rw [k2.1 29 0 rfl]; exact h3, by rw [k2.1 29 0 rfl]; exact h4⟩
  exact ⟨x, M1, M2, k1, k4, Inv_ms hI1 k5⟩
theorem okL_ro {cm mm : pm_MI} {as : List pm_V} (h : ∀ (M : pm_M) (P T : Nat) (f : Nat → Int32), cw M 0 f P T → wv f P T → mw M f P T → Inv M → ∃ x M1, pm_Ev cm (pm_r 0 0 :: as) M (some (pm_l x)) M1 ∧ cs_eq M M1 ∧ (Inv M1 → mw M1 f P T → ∃ M2, pm_Ev mm (pm_r 29 0 :: as) M1 (some (pm_l x)) M2 ∧ ms_eq M1 M2)) : OkL cm mm as := by
  intro M hI
  obtain ⟨P, T, h1, h2, h3, h4, h5⟩ := hI.1
  obtain ⟨x, M1, k1, k2, k3⟩ := h M P T (M.1 30 0) h1 h2 ⟨rfl, h3, h4⟩ hI
  have hI1 := Inv_cs hI k2
  obtain ⟨M2, k4, k5⟩ := k3 hI1 ⟨k2.1 30 0 rfl, by rw [k2.1 29 0 rfl]; exact h3, by rw [k2.1 29 0 rfl]; exact h4⟩
  exact ⟨x, M1, M2, k1, k4, Inv_ms hI1 k5⟩
/-- both leave the memory as it was -/
theorem okI_rr {cm mm : pm_MI} {as : List pm_V} {x : Int32} {M M2 : pm_M} {f : Nat → Int32} {P T : Nat} (h1 : pm_Ev cm (pm_r 0 0 :: as) M (some (pm_i x)) M) (h2 : pm_Ev mm (pm_r 29 0 :: as) M (some (pm_i x)) M2) (h3 : ms_eq M M2) : ∃ x M1, pm_Ev cm (pm_r 0 0 :: as) M (some (pm_i x)) M1 ∧ cs_eq M M1 ∧ (Inv M1 → mw M1 f P T → ∃ M2, pm_Ev mm (pm_r 29 0 :: as) M1 (some (pm_i x)) M2 ∧ ms_eq M1 M2) := ⟨x, M, h1, cs_rfl, fun _ _ => ⟨M2, h2, h3⟩⟩
theorem okL_rr {cm mm : pm_MI} {as : List pm_V} {x : Int64} {M M2 : pm_M} {f : Nat → Int32} {P T : Nat} (h1 : pm_Ev cm (pm_r 0 0 :: as) M (some (pm_l x)) M) (h2 : pm_Ev mm (pm_r 29 0 :: as) M (some (pm_l x)) M2) (h3 : ms_eq M M2) : ∃ x M1, pm_Ev cm (pm_r 0 0 :: as) M (some (pm_l x)) M1 ∧ cs_eq M M1 ∧ (Inv M1 → mw M1 f P T → ∃ M2, pm_Ev mm (pm_r 29 0 :: as) M1 (some (pm_l x)) M2 ∧ ms_eq M1 M2) := ⟨x, M, h1, cs_rfl, fun _ _ => ⟨M2, h2, h3⟩⟩
