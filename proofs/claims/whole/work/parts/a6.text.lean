/-! text: the class -/
def A0 : tD := (fd, 0, 0, 0, 0, fun _ => 0)
theorem fd_at : (∀ t, t < 4 → fd (8 + 5 * t) = -4) ∧ (∀ z, z < 4 → fd (28 + z) = -4) ∧ (∀ z, z < 4 → fd (24 + z) = 0) ∧ fd 32 = 0 := by
  refine ⟨fun t ht => ?_, fun z hz => ?_, fun z hz => ?_, rfl⟩
  · unfold fd
    rw [if_pos (by omega)]
  · unfold fd
    rw [if_pos (by omega)]
  · unfold fd
    rw [if_neg (by omega)]
theorem aV_0 : aV A0 := ⟨⟨Nat.zero_le _, Nat.zero_le _, Nat.zero_le _, Nat.zero_le _⟩, fun p hp => absurd hp (Nat.not_lt_zero _), fun t ht => absurd ht (Nat.not_lt_zero _), fun z hz => ⟨0, by omega, fd_at.2.2.1 z hz⟩, fd_at.1, fd_at.2.1, fd_at.2.2.2, fun i hi => absurd hi (Nat.not_lt_zero _)⟩
noncomputable def txO (n : Nat) (b : Nat → Nat) : (Nat × Nat) ⊕ (Nat × (Nat → Int32) × Nat × Nat) := match tlO n b 81 0 A0 0 with
  | .inl f => .inl f
  | .inr (l, A) => match bhO n A with
    | .inl f => .inl f
    | .inr f' => .inr (l, f', A.2.1, A.2.2.1)
theorem nm_code {n w : Nat} {b : Nat → Nat} : ∀ (m i p : Nat) (v : Nat → Nat) (c a : Nat), nmO n b w m i p v = .inl (c, a) → 1 ≤ c ∧ c ≤ 8
  | 0, i, p, v, c, a, h => by
    rw [nmO] at h
    cases h
  | m + 1, i, p, v, c, a, h => by
    rw [nmO] at h
    by_cases q : tkf n b p 2 = 0
    · rw [if_pos q] at h
      by_cases qv : tkV n b p ≤ tBd w i
      · rw [if_pos qv] at h
        exact nm_code m _ _ _ c a h
      · rw [if_neg qv] at h
        obtain ⟨e1, _⟩ := Prod.mk.inj (Sum.inl.inj h)
        omega
    · rw [if_neg q] at h
      obtain ⟨e1, _⟩ := Prod.mk.inj (Sum.inl.inj h)
      have := tkf_le (n := n) (p := p) (w := 2) (b := b)
      omega
theorem ln_code {n p c a : Nat} {b : Nat → Nat} {A : tD} (h : lnO n b p A = some (.inl (c, a))) : 1 ≤ c ∧ c ≤ 8 := by
  unfold lnO at h
  by_cases q0 : tkK n b p = 0
  · rw [if_pos q0] at h
    cases h
  · rw [if_neg q0] at h
    by_cases q4 : tkK n b p = 4
    · rw [if_pos q4] at h
      obtain ⟨e1, _⟩ := Prod.mk.inj (Sum.inl.inj (Option.some.inj h))
      omega
    · rw [if_neg q4] at h
      by_cases q1 : tkK n b p = 1 ∧ ¬ lw b (tkS n b p) (tkE n b p) = -4
      · rw [if_pos q1] at h
        generalize (lw b (tkS n b p) (tkE n b p)).toNatClampNeg = w at h
        by_cases qr : tTold A w < 4
        · rw [if_pos qr] at h
          have h := Option.some.inj h
          unfold lnR at h
          have nk := nm_code (n := n) (w := w) (b := b) (tHm w) 0 (tkE n b p) (fun _ => 0)
          revert h nk
          cases nmO n b w (tHm w) 0 (tkE n b p) (fun _ => 0) with
          | inl z =>
            obtain ⟨c', a'⟩ := z
            intro h nk
            obtain ⟨e1, _⟩ := Prod.mk.inj (Sum.inl.inj h)
            have := nk c' a' rfl
            omega
          | inr z =>
            obtain ⟨p1, v1⟩ := z
            intro h _
            dsimp only at h
            by_cases qs : tkf n b p1 3 = 0
            · rw [if_pos qs] at h
              cases h
            · rw [if_neg qs] at h
              obtain ⟨e1, _⟩ := Prod.mk.inj (Sum.inl.inj h)
              have := tkf_le (n := n) (p := p1) (w := 3) (b := b)
              omega
        · rw [if_neg qr] at h
          obtain ⟨e1, _⟩ := Prod.mk.inj (Sum.inl.inj (Option.some.inj h))
          omega
      · rw [if_neg q1] at h
        obtain ⟨e1, _⟩ := Prod.mk.inj (Sum.inl.inj (Option.some.inj h))
        omega
theorem tl_code {n : Nat} {b : Nat → Nat} : ∀ (m p : Nat) (A : tD) (l c a : Nat), tlO n b m p A l = .inl (c, a) → 1 ≤ c ∧ c ≤ 8
  | 0, p, A, l, c, a, h => by
    rw [tlO] at h
    cases h
  | m + 1, p, A, l, c, a, h => by
    rw [tlO] at h
    have lk : ∀ c a, lnO n b p A = some (.inl (c, a)) → 1 ≤ c ∧ c ≤ 8 := fun c a => ln_code
    revert h lk
    cases lnO n b p A with
    | none => exact fun h _ => by cases h
    | some z =>
      cases z with
      | inl f =>
        intro h lk
        exact lk c a (by rw [Sum.inl.inj h])
      | inr z =>
        obtain ⟨p', A'⟩ := z
        exact fun h _ => tl_code m _ _ _ c a h
theorem bh_code {n c a : Nat} {A : tD} (h : bhO n A = .inl (c, a)) : (1 ≤ c ∧ c ≤ 8) := by
  unfold bhO at h
  by_cases q6 : okP A
  · rw [if_pos (by simpa using q6)] at h
    by_cases q7 : A.2.2.1 < A.2.2.2.1
    · rw [if_pos q7] at h
      obtain ⟨e1, _⟩ := Prod.mk.inj (Sum.inl.inj h)
      omega
    · rw [if_neg q7] at h
      revert h
      cases dwO A with
      | inl z =>
        intro h
        obtain ⟨e1, _⟩ := Prod.mk.inj (Sum.inl.inj h)
        omega
      | inr z =>
        obtain ⟨d, x, f'⟩ := z
        intro h
        cases h
  · rw [if_neg (by simpa using q6)] at h
    obtain ⟨e1, _⟩ := Prod.mk.inj (Sum.inl.inj h)
    omega
def teC (M M' : pm_M) : (Nat × Nat) ⊕ (Nat × (Nat → Int32) × Nat × Nat) → Prop
  | .inl (c, a) => pm_Ev mTe_tell [pm_r 23 0, pm_r 21 0, pm_r 4 1] M (some (pm_i (-10 - nI a))) M' ∧ M'.1 23 0 0 = nI c ∧ (1 ≤ c ∧ c ≤ 8)
  | .inr (l, f', P, T) => pm_Ev mTe_tell [pm_r 23 0, pm_r 21 0, pm_r 4 1] M (some (pm_i (nI l))) M' ∧ M'.1 23 0 0 = 0 ∧ cw M' 1 f' P T ∧ wv f' P T
theorem c_tell {M : pm_M} {n : Nat} {b : Nat → Nat} (h : tp M n b) : ∃ M', cf M M' ∧ teC M M' (txO n b) := by
  have hn := h.1
  generalize hM2 : gWh_clear 1 (gTa_rewind M) = M2
  generalize hM3 : pm_set (pm_set (pm_set M2 23 0 (upd (M2.1 23 0) 0 0)) 23 0 (upd ((pm_set M2 23 0 (upd (M2.1 23 0) 0 0)).1 23 0) 3 0)) 23 0 (upd ((pm_set (pm_set M2 23 0 (upd (M2.1 23 0) 0 0)) 23 0 (upd ((pm_set M2 23 0 (upd (M2.1 23 0) 0 0)).1 23 0) 3 0)).1 23 0) 4 0) = M3
  have cf3 : cf M M3 := by
    rw [← hM3, ← hM2]
    unfold gWh_clear gTa_rewind gAr_fill9 gAr_fill7 gAr_fill8
    exact cf_set (cf_set (cf_set (cf_set (cf_set (cf_set (cf_set (cf_set (cf_set (cf_set cf_rfl rfl) rfl) rfl) rfl) rfl) rfl) rfl) rfl) rfl) rfl
  have tp3 : tp M3 n b := ⟨hn, by rw [← hM3, ← hM2]; exact h.2.1, fun j hj => by rw [cf3 22 0 rfl]; exact h.2.2 j hj⟩
  have p3 : M3.1 21 0 2 = nI 0 := by
    rw [← hM3, ← hM2]
    rfl
  have f3 : M3.1 23 0 0 = 0 := by
    rw [← hM3]
    rfl
  have cD3 : cD M3 A0 := by
    refine ⟨⟨by rw [← hM3, ← hM2]; rfl, by rw [← hM3, ← hM2]; rfl, by rw [← hM3, ← hM2]; rfl⟩, fun p hp => absurd hp (Nat.not_lt_zero _), fun t w ht => absurd ht (Nat.not_lt_zero _), fun t ht => ?_, fun z hz => ?_, fun z hz => ?_, ⟨by rw [← hM3]; rfl, by rw [← hM3]; rfl⟩, fun i hi => absurd hi (Nat.not_lt_zero _)⟩
    · have e : M3.1 7 1 t = if t < 4 then -4 else M.1 7 1 t := by
        rw [← hM3, ← hM2]
        rfl
      rw [e, if_pos ht]
    · have e : M3.1 8 1 z = if z < 4 then 0 else M.1 8 1 z := by
        rw [← hM3, ← hM2]
        rfl
      rw [e, if_pos hz]
      exact (fd_at.2.2.1 z hz).symm
    · have e : M3.1 9 1 z = if z < 4 then -4 else M.1 9 1 z := by
        rw [← hM3, ← hM2]
        rfl
      rw [e, if_pos hz]
  obtain ⟨M4, k1, k2, k3⟩ := c_lines 81 0 A0 0 M3 (by omega) (by omega) (by omega) tp3 p3 cD3 aV_0 f3
  have start : ∀ {x : Int32} {M' : pm_M}, pm_G mTe_tell 25 [some (pm_r 23 0), some (pm_r 21 0), some (pm_r 4 1), some (pm_i (nI 0)), none] [] M3 (pm_D (some (pm_i x)) M') → pm_Ev mTe_tell [pm_r 23 0, pm_r 21 0, pm_r 4 1] M (some (pm_i x)) M' := by
    intro x M' kk
    refine pm_Sem_of (ls := [some (pm_r 23 0), some (pm_r 21 0), some (pm_r 4 1), none, none]) ok_mTe_tell (by decide +kernel) rfl (by decide) (Nat.le_of_ble_eq_true rfl) rfl ?_
    refine bTe_tell_0 eTa_rewind (bTe_tell_4 eWh_clear (bTe_tell_8 ?_))
    rw [hM2, hM3]
    exact kk
  have bad : ∀ {M5 : pm_M} {l a : Nat}, M5.1 23 0 1 = nI a → pm_G mTe_tell 70 [some (pm_r 23 0), some (pm_r 21 0), some (pm_r 4 1), some (pm_i (nI l)), none] [] M5 (pm_D (some (pm_i (-10 - nI a))) M5) := by
    intro M5 l a e
    refine bTe_tell_70 (bTe_tell_71 (fun _ => bTe_tell_82 (bTe_tell_89 ⟨?_, rfl⟩)) (fun c => absurd rfl c))
    rw [e]
  unfold txO
  have tc := tl_code (n := n) (b := b) 81 0 A0 0
  revert k3 tc
  cases tlO n b 81 0 A0 0 with
  | inl f =>
    obtain ⟨c, a⟩ := f
    intro k3 tc
    obtain ⟨⟨l', r⟩, r2, r3⟩ := k3
    have hc := tc c a rfl
    refine ⟨M4, cf_trans cf3 k1, start (r _ (bTe_tell_47 (fun x => ?_) (fun _ => bad r3))), r2, hc⟩
    rw [r2] at x
    exact absurd x (nI_ne0 (by omega) (by omega))
  | inr z =>
    obtain ⟨l, A⟩ := z
    intro k3 _
    obtain ⟨r, r2, r3, r4, r5⟩ := k3
    obtain ⟨M5, j1, j2, j3⟩ := c_behind (n := n) r3 r4
    have bc : ∀ c a, bhO n A = .inl (c, a) → 1 ≤ c ∧ c ≤ 8 := fun c a => bh_code
    have go : ∀ {x : Int32} {y : Int32}, pm_Ev mTe_tellBehindAll [pm_r 23 0, pm_i (nI n), pm_r 4 1] M4 (some (pm_i y)) M5 → pm_G mTe_tell 63 [some (pm_r 23 0), some (pm_r 21 0), some (pm_r 4 1), some (pm_i (nI l)), none] [pm_i y] M5 (pm_D (some (pm_i x)) M5) → pm_Ev mTe_tell [pm_r 23 0, pm_r 21 0, pm_r 4 1] M (some (pm_i x)) M5 := by
      intro x y ev kk
      rw [← k2] at ev
      exact start (r _ (bTe_tell_47 (fun _ => bTe_tell_54 ev kk) (fun c => absurd r2 c)))
    refine ⟨M5, cf_trans cf3 (cf_trans k1 j1), ?_⟩
    revert j3 bc
    dsimp only
    cases bhO n A with
    | inl f =>
      obtain ⟨c, a⟩ := f
      intro j3 bc
      exact ⟨go j3.1 (bTe_tell_63 (fun _ => bad j3.2.2) (fun c => absurd rfl c)), j3.2.1, bc c a rfl⟩
    | inr f' =>
      intro j3 _
      exact ⟨go j3.1 (bTe_tell_63 (fun c => absurd c (by decide)) (fun _ => bTe_tell_66 (bTe_tell_71 (fun c => absurd c (by decide)) (fun _ => bTe_tell_78 (bTe_tell_89 ⟨rfl, rfl⟩))))), by rw [j3.2.1]; exact r2, j3.2.2⟩
def txC (M M1 : pm_M) : (Nat × Nat) ⊕ (Nat × (Nat → Int32) × Nat × Nat) → Prop
  | .inl (c, a) => pm_Ev mWt_text [pm_r 0 0] M (some (pm_i (-10 - nI a))) M1 ∧ cf M M1 ∧ M1.1 21 0 1 = 0 ∧ M1.1 23 0 0 = nI c
  | .inr (l, f', P, T) => pm_Ev mWt_text [pm_r 0 0] M (some (pm_i (nI l))) M1 ∧ (∀ a k, cfx a k = false → ¬ (4 ≤ a ∧ a ≤ 11 ∧ k = 0) → a ≠ 2 → M1.1 a k = M.1 a k) ∧ M1.1 21 0 1 = 0 ∧ M1.1 23 0 0 = 0 ∧ cw M1 0 f' P T ∧ wv f' P T ∧ ∀ j, j < 2 → M1.1 2 0 j = 0
theorem c_text {M : pm_M} {n : Nat} {b : Nat → Nat} (h : tp M n b) : ∃ M1, txC M M1 (txO n b) := by
  obtain ⟨M2, k1, k2⟩ := c_tell h
  have cf3 : cf M (pm_set M2 21 0 (upd (M2.1 21 0) 1 0)) := cf_set k1 rfl
  revert k2
  cases txO n b with
  | inl f =>
    obtain ⟨c, a⟩ := f
    intro k2
    refine ⟨pm_set M2 21 0 (upd (M2.1 21 0) 1 0), ?_, cf3, by rw [pm_set_at, pk_us], k2.2.1⟩
    refine pm_Sem_of (ls := [some (pm_r 0 0), none]) ok_mWt_text (by decide +kernel) rfl (by decide) (Nat.le_of_ble_eq_true rfl) rfl ?_
    refine bWt_text_0 k2.1 (bWt_text_15 (fun x => ?_) (fun _ => bWt_text_53 ⟨rfl, rfl⟩))
    rw [k2.2.1] at x
    exact absurd x (nI_ne0 (by have := k2.2.2; omega) (by have := k2.2.2; omega))
  | inr z =>
    obtain ⟨l, f', P, T⟩ := z
    intro k2
    obtain ⟨e1, e2, e3, e4⟩ := k2
    have c3 : cw (pm_set M2 21 0 (upd (M2.1 21 0) 1 0)) 1 f' P T := cw_same e3 (fun a a4 a11 => pm_set_ne _ _ (by omega))
    have c0 := cw_copy (k := 0) (k1 := 1) (by decide) c3 e4.1 e4.2.1
    generalize hM4 : gWh_copy 0 1 (pm_set M2 21 0 (upd (M2.1 21 0) 1 0)) = M4 at c0
    have t4 : ∀ a k, (k ≠ 0 ∨ a < 4 ∨ 11 < a) → M4.1 a k = (pm_set M2 21 0 (upd (M2.1 21 0) 1 0)).1 a k := fun a k hk => by
      rw [← hM4]
      exact copy_ne hk
    refine ⟨gAr_fill2 0 M4, ?_, fun a k q1 q2 q3 => ?_, ?_, ?_, ?_, e4, fun j hj => ?_⟩
    · refine pm_Sem_of (ls := [some (pm_r 0 0), none]) ok_mWt_text (by decide +kernel) rfl (by decide) (Nat.le_of_ble_eq_true rfl) rfl ?_
      refine bWt_text_0 e1 (bWt_text_15 (fun _ => bWt_text_34 eWh_copy (bWt_text_45 (M1 := gAr_fill2 0 M4) ?_ (bWt_text_53 ⟨rfl, rfl⟩))) (fun x => absurd e2 x))
      rw [hM4]
      exact eAr_fill2
    · unfold gAr_fill2
      rw [pm_set_ne _ _ (Ne.symm q3), t4 a k (by omega)]
      exact cf3 a k q1
    · show M4.1 21 0 1 = 0
      rw [t4 21 0 (by omega), pm_set_at, pk_us]
    · show M4.1 23 0 0 = 0
      rw [t4 23 0 (by omega)]
      exact e2
    · unfold gAr_fill2
      exact cw_same c0 (fun a a4 a11 => pm_set_ne _ _ (by omega))
    · unfold gAr_fill2
      rw [pm_set_at, if_pos hj]
