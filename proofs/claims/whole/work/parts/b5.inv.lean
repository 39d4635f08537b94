/-! the invariant at the start; the class's cells -/
theorem st_wd {D : va_G} {A : Nat → Prop} {H : Heap} (h0 : Nat) (u : Nat → Nat) (b tO : Nat) (adK adV : Nat → Nat) (fm : Value) (cT : Nat → ClassId) (xs : Nat → Int32) (L : Int32) (hP : va_P D pm_cl (cz_wWt cT h0 u) H) (hD : va_D A (cz_wWt cT h0 u)) : va_P D pm_cl (st_wC (st_E0 h0 u b tO adK adV fm cT) (st_M xs L)) H ∧ va_D A (st_wC (st_E0 h0 u b tO adK adV fm cT) (st_M xs L)) := by
  have key : ∀ (k : Nat) (q : Nat × va_E), (st_wC (st_E0 h0 u b tO adK adV fm cT) (st_M xs L))[k]? = some q → ∃ c, st_c[k]? = some c ∧ q = ((st_E0 h0 u b tO adK adV fm cT).1 c.1 c.2, pm_ent (st_E0 h0 u b tO adK adV fm cT) (st_M xs L) c.1 c.2) := by
    intro k q hk
    unfold st_wC at hk
    rw [List.getElem?_map] at hk
    obtain ⟨c, h1, h2⟩ := Option.map_eq_some_iff.mp hk
    exact ⟨c, h1, h2.symm⟩
  have at' := st_cell h0 u b tO adK adV fm cT xs L
  refine ⟨fun k q hk => ?_, fun i j p q hi hj e => ?_, fun k q hk => ?_⟩
  · obtain ⟨c, h1, rfl⟩ := key k q hk
    obtain ⟨e', a1, a2⟩ := at' c (List.mem_of_getElem? h1)
    exact a2 D H (hP _ _ a1)
  · obtain ⟨c, h1, rfl⟩ := key i p hi
    obtain ⟨d, h2, rfl⟩ := key j q hj
    obtain ⟨e1, a1, -⟩ := at' c (List.mem_of_getElem? h1)
    obtain ⟨e2, a2, -⟩ := at' d (List.mem_of_getElem? h2)
    have h3 := st_ixi c (List.mem_of_getElem? h1) d (List.mem_of_getElem? h2) (hD.1 _ _ _ _ a1 a2 e)
    rw [← h3] at h2
    exact (List.getElem?_inj (List.getElem?_eq_some_iff.mp h1).1 st_cn).mp (h1.trans h2.symm)
  · obtain ⟨c, h1, rfl⟩ := key k q hk
    obtain ⟨e', a1, a2⟩ := at' c (List.mem_of_getElem? h1)
    have h9 := hD.2 _ _ a1
    exact h9
theorem st_inv {xs : Nat → Int32} {L : Int32} {M : pm_M} (h : st_P xs L M) : Inv M := by
  obtain ⟨h1, h2, h3, h4, h5, h6, h7⟩ := h
  have f32 : M.1 30 0 32 = 0 := (h3 32 (by decide)).trans fd_at.2.2.2
  have z : ∀ t k j, t ≠ 29 → t ≠ 30 → t ≠ 32 → t ≠ 33 → t ≠ 40 → M.1 t k j = (st_M xs L).1 t k j := fun t k j a b c d e => by rw [h1 t k a b c d e]
  have s0 : ∀ s, M.1 30 0 32 = nI s → s ≤ 6 → s = 0 := by
    intro s hs h6
    rw [f32] at hs
    have := congrArg Int32.toInt hs
    rw [nI_toInt (by omega)] at this
    simp at this
    omega
  refine ⟨⟨0, 0, ?_, ?_, h4, h5, fun k hk => Or.inl ⟨z 2 0 k (by decide) (by decide) (by decide) (by decide) (by decide), h7 k hk⟩⟩, ⟨0, by omega, z 21 0 1 (by decide) (by decide) (by decide) (by decide) (by decide), h6 13 (by decide) (by decide) (by decide) (by decide) (by decide) (by decide) (by decide), fun i hi => absurd hi (Nat.not_lt_zero _)⟩, ?_, fun k hk => Or.inl ⟨z 27 k 0 (by decide) (by decide) (by decide) (by decide) (by decide), h2 k hk⟩, ?_⟩
  · refine ⟨z 4 0 0 (by decide) (by decide) (by decide) (by decide) (by decide), z 4 0 1 (by decide) (by decide) (by decide) (by decide) (by decide), ?_, fun p hp => absurd hp (Nat.not_lt_zero _), fun t w ht => absurd ht (Nat.not_lt_zero _), fun t ht => absurd ht (Nat.not_lt_zero _), fun t ht => absurd ht (Nat.not_lt_zero _), fun t ht => absurd ht (Nat.not_lt_zero _), fun s i hs h6' hi => ?_⟩
    · rw [f32]
      exact z 4 0 2 (by decide) (by decide) (by decide) (by decide) (by decide)
    · have := s0 s hs h6'
      omega
  · exact ⟨by omega, by omega, fun t ht => absurd ht (Nat.not_lt_zero _), fun t ht => absurd ht (Nat.not_lt_zero _), fun t ht => absurd ht (Nat.not_lt_zero _), fun t ht => absurd ht (Nat.not_lt_zero _), rfl, ⟨0, by omega, f32, fun i hi => absurd hi (Nat.not_lt_zero _)⟩, fun p hp => absurd hp (Nat.not_lt_zero _)⟩
  · rw [z 23 0 0 (by decide) (by decide) (by decide) (by decide) (by decide), h6 18 (by decide) (by decide) (by decide) (by decide) (by decide) (by decide) (by decide)]
    rfl
  · rw [z 0 0 8 (by decide) (by decide) (by decide) (by decide) (by decide), h6 35 (by decide) (by decide) (by decide) (by decide) (by decide) (by decide) (by decide)]
    rfl
