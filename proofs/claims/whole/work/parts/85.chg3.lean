/-! sign -/
theorem tr_case {M : pm_M} {P T : Nat} {a2 a3 : Int32} (h : cw M 0 (M.1 30 0) P T) (hP : P ≤ 4) (hc : ¬ fWh_takesTrait 0 a2 a3 M = 0) : ∃ w v, w < 4 ∧ a2 = nI w ∧ a3 = nI v ∧ tv P w v := by
  unfold fWh_takesTrait at hc
  by_cases q0 : a2 = 0
  · rw [if_pos q0] at hc
    obtain ⟨v, hv, rfl⟩ := within_of (n := 3) (by omega) hc
    exact ⟨0, v, by omega, q0, rfl, Or.inl ⟨rfl, by omega⟩⟩
  · rw [if_neg q0] at hc
    by_cases q1 : a2 = 1
    · rw [if_pos q1] at hc
      obtain ⟨v, hv, rfl⟩ := Classical.byContradiction (fun q => hc (hasP_bad h.1 hP q))
      exact ⟨1, v, by omega, q1, rfl, Or.inr (Or.inl ⟨rfl, hv⟩)⟩
    · rw [if_neg q1] at hc
      by_cases q2 : a2 = 2
      · rw [if_pos q2] at hc
        obtain ⟨v, hv, rfl⟩ := Classical.byContradiction (fun q => hc (hasP_bad h.1 hP q))
        exact ⟨2, v, by omega, q2, rfl, Or.inr (Or.inr (Or.inl ⟨rfl, hv⟩))⟩
      · rw [if_neg q2] at hc
        by_cases q3 : a2 = 3
        · rw [if_pos q3] at hc
          obtain ⟨v, hv, rfl⟩ := within_of (n := 9) (by omega) hc
          exact ⟨3, v, by omega, q3, rfl, Or.inr (Or.inr (Or.inr ⟨rfl, by omega⟩))⟩
        · rw [if_neg q3] at hc
          exact absurd rfl hc
/-- what the reference asks of a trait, in one word -/
def mTk (a2 a3 : Int32) (M : pm_M) : Int32 := if fMo_in a2.toInt64 0 3 M = 0 then 0 else if a2 = 0 then fMo_in a3.toInt64 0 3 M else if a2 = 3 then fMo_in a3.toInt64 0 9 M else fMo_isPerson a3 M
theorem mTk_eq {M M' : pm_M} {P T : Nat} {a2 a3 : Int32} (h : cw M 0 (M.1 30 0) P T) (hP : P ≤ 4) (h3 : M'.1 29 0 3 = nI P) : mTk a2 a3 M' = 0 ↔ fWh_takesTrait 0 a2 a3 M = 0 := by
  unfold mTk fWh_takesTrait
  rw [show fMo_in a2.toInt64 0 3 M' = fWt_within a2 0 3 M from mo_in a2 0 3 M' M, show fMo_in a3.toInt64 0 3 M' = fWt_within a3 0 3 M from mo_in a3 0 3 M' M, show fMo_in a3.toInt64 0 9 M' = fWt_within a3 0 9 M from mo_in a3 0 9 M' M]
  have hp : fMo_isPerson a3 M' = 0 ↔ fWh_hasPerson 0 a3 M = 0 := by
    by_cases q : ∃ t, t < P ∧ a3 = nI t
    · obtain ⟨t, ht, rfl⟩ := q
      rw [moP_good h3 hP ht, hasP_good h.1 hP ht]
    · rw [moP_bad h3 hP q, hasP_bad h.1 hP q]
  by_cases q : fWt_within a2 0 3 M = 0
  · have n : ∀ j, j ≤ 3 → ¬ a2 = nI j := fun j hj e => by
      rw [e, show fWt_within (nI j) 0 3 M = 1 from within_in (n := 3) (by omega) hj] at q
      exact absurd q (by decide)
    rw [if_pos q, if_neg (show ¬ a2 = 0 from n 0 (by omega)), if_neg (show ¬ a2 = 1 from n 1 (by omega)), if_neg (show ¬ a2 = 2 from n 2 (by omega)), if_neg (show ¬ a2 = 3 from n 3 (by omega))]
  · obtain ⟨j, hj, rfl⟩ := within_of (n := 3) (by omega) q
    rw [if_neg q]
    rcases (show j = 0 ∨ j = 1 ∨ j = 2 ∨ j = 3 by omega) with rfl | rfl | rfl | rfl
    · rw [if_pos (by decide), if_pos (by decide)]
    · rw [if_neg (by decide), if_neg (by decide), if_neg (by decide), if_pos (by decide)]
      exact hp
    · rw [if_neg (by decide), if_neg (by decide), if_neg (by decide), if_neg (by decide), if_pos (by decide)]
      exact hp
    · rw [if_neg (by decide), if_pos (by decide), if_neg (by decide), if_neg (by decide), if_neg (by decide), if_pos (by decide)]
theorem mo_sign_eq {a1 a2 a3 : Int32} {M : pm_M} : fMo_sign a1 a2 a3 M = (if fMo_isTicket a1 M = 0 then -1 else if mTk a2 a3 M = 0 then -1 else fMo_sign_60 a1 a2 a3 1 M) ∧ gMo_sign a1 a2 a3 M = (if fMo_isTicket a1 M = 0 then M else if mTk a2 a3 M = 0 then M else gMo_sign_60 a1 a2 a3 1 M) := by
  have k : ∀ x : Int32, fMo_sign_60 a1 a2 a3 x M = (if x = 0 then -1 else fMo_sign_60 a1 a2 a3 1 M) ∧ gMo_sign_60 a1 a2 a3 x M = (if x = 0 then M else gMo_sign_60 a1 a2 a3 1 M) := by
    intro x
    unfold fMo_sign_60 gMo_sign_60
    by_cases q : x = 0
    · rw [if_pos q, if_pos q, if_pos q, if_pos q]
      exact ⟨rfl, rfl⟩
    · rw [if_neg q, if_neg q, if_neg q, if_neg q, if_neg (show ¬ (1 : Int32) = 0 by decide), if_neg (show ¬ (1 : Int32) = 0 by decide)]
      exact ⟨rfl, rfl⟩
  unfold fMo_sign gMo_sign mTk
  by_cases q : fMo_isTicket a1 M = 0
  · rw [if_pos q, if_pos q, if_pos q, if_pos q]
    exact ⟨rfl, rfl⟩
  · rw [if_neg q, if_neg q, if_neg q, if_neg q]
    by_cases q2 : fMo_in a2.toInt64 0 3 M = 0
    · rw [if_pos q2, if_pos q2, if_pos q2, if_pos rfl, if_pos rfl]
      exact ⟨rfl, rfl⟩
    · rw [if_neg q2, if_neg q2, if_neg q2]
      by_cases q3 : a2 = 0
      · rw [if_pos q3, if_pos q3, if_pos q3]
        exact k _
      · rw [if_neg q3, if_neg q3, if_neg q3]
        by_cases q4 : a2 = 3
        · rw [if_pos q4, if_pos q4, if_pos q4]
          exact k _
        · rw [if_neg q4, if_neg q4, if_neg q4]
          exact k _
theorem ok_sign (a1 a2 a3 : Int32) : OkI mWt_sign mMo_sign [pm_i a1, pm_i a2, pm_i a3] := by
  intro M hI
  obtain ⟨P, T, hW⟩ := hI.1
  obtain ⟨h, hv, hw3, hw4, _⟩ := id hW
  have h4 := hv.2.1
  have hP := hv.1
  -- the reference wants only this
  have sM : ∀ M' : pm_M, (∀ t, t < T → a1 = nI t → (∃ w, w < 4 ∧ a2 = nI w) → vp_in ((4 + 5 * a1) + a2) 135) → (fMo_isTicket a1 M' = 0 ∨ ∃ t, t < T ∧ a1 = nI t) → (∀ q : ¬ fMo_in a2.toInt64 0 3 M' = 0, ∃ w, w < 4 ∧ a2 = nI w) → sMo_sign a1 a2 a3 M' := by
    intro M' k1 k2 k3
    have s60 : ¬ fMo_isTicket a1 M' = 0 → ¬ fMo_in a2.toInt64 0 3 M' = 0 → ∀ x, sMo_sign_60 a1 a2 a3 x M' := by
      intro q1 q2 x
      obtain ⟨t, ht, e⟩ := k2.resolve_left q1
      have k4 := k1 t ht e (k3 q2)
      refine ⟨fun _ => trivial, fun _ => ⟨?_, fun _ => ⟨k4, k4⟩, fun _ => trivial⟩⟩
      rw [e]
      exact (md_v (show t < 4 by omega)).2.2.2.1
    exact ⟨fun _ => trivial, fun q1 => ⟨fun _ => trivial, fun q2 => ⟨fun _ => s60 q1 q2 _, fun _ => ⟨fun _ => s60 q1 q2 _, fun _ => s60 q1 q2 _⟩⟩⟩⟩
  have vin : ∀ t w, t < T → w < 4 → vp_in ((4 + 5 * nI t) + nI w) 135 ∧ Int32.toNatClampNeg ((4 + 5 * nI t) + nI w) = 4 + 5 * t + w := fun t w ht hw => by
    rw [md_ij (by omega) hw]
    exact ⟨pm_vin (by omega) (by omega), pm_cl4 (by omega)⟩
  have k1 : ∀ t, t < T → a1 = nI t → (∃ w, w < 4 ∧ a2 = nI w) → vp_in ((4 + 5 * a1) + a2) 135 := by
    rintro t ht rfl ⟨w, hw, rfl⟩
    exact (vin t w ht hw).1
  have k3 : ∀ M' : pm_M, ∀ q : ¬ fMo_in a2.toInt64 0 3 M' = 0, ∃ w, w < 4 ∧ a2 = nI w := by
    intro M' q
    rw [show fMo_in a2.toInt64 0 3 M' = fWt_within a2 0 3 M from mo_in a2 0 3 M' M] at q
    obtain ⟨w, hw, e⟩ := within_of (n := 3) (by omega) q
    exact ⟨w, by omega, e⟩
  by_cases hb : (¬ ∃ t, t < T ∧ a1 = nI t) ∨ fWh_takesTrait 0 a2 a3 M = 0
  · have e1 : pm_Ev mWt_sign [pm_r 0 0, pm_i a1, pm_i a2, pm_i a3] M (some (pm_i (-1))) M := by
      by_cases q1 : fWh_hasTicket 0 a1 M = 0
      · have hev := eWt_sign (a1 := a1) (a2 := a2) (a3 := a3) (M := M) ⟨fun _ => trivial, fun q => absurd q1 q⟩
        unfold fWt_sign gWt_sign at hev
        rw [if_pos q1, if_pos q1] at hev
        exact hev
      · have q2 := hb.resolve_left (fun q => q1 (has_bad h.2.1 h4 q).1)
        have hev := eWt_sign (a1 := a1) (a2 := a2) (a3 := a3) (M := M) ⟨fun _ => trivial, fun _ => ⟨fun _ => trivial, fun q => absurd q2 q⟩⟩
        unfold fWt_sign gWt_sign at hev
        rw [if_neg q1, if_neg q1, if_pos q2, if_pos q2] at hev
        exact hev
    have e2 := eMo_sign (a1 := a1) (a2 := a2) (a3 := a3) (M := M) (sM M k1 (by
      by_cases q : ∃ t, t < T ∧ a1 = nI t
      · exact Or.inr q
      · exact Or.inl (moT_bad hw4 h4 q)) (k3 M))
    rw [mo_sign_eq.1, mo_sign_eq.2] at e2
    by_cases q1 : fMo_isTicket a1 M = 0
    · rw [if_pos q1, if_pos q1] at e2
      exact okI_no hI e1 e2
    · have q2 := hb.resolve_left (fun q => q1 (moT_bad hw4 h4 q))
      have q3 := (mTk_eq h hP hw3).mpr q2
      rw [if_neg q1, if_neg q1, if_pos q3, if_pos q3] at e2
      exact okI_no hI e1 e2
  · obtain ⟨hb1, hb2⟩ := not_or.mp hb
    obtain ⟨t, ht, e⟩ := Classical.not_not.mp hb1
    obtain ⟨w, v, hw9, e2', e3', htv⟩ := tr_case h hP hb2
    subst e e2' e3'
    have c1 : ¬ fWh_hasTicket 0 (nI t) M = 0 := by rw [(has_good h.2.1 h4 ht).1]; decide
    have i1 : fWh_isTicketIn 0 (nI t) M = if M.1 30 0 (8 + 5 * t) = -4 then 1 else 0 := by rw [fWh_isTicketIn_at h.2.1 h4 ht, h.2.2.2.2.2.1 t ht]
    have si : sWh_isTicketIn 0 (nI t) M := ⟨fun _ => trivial, fun _ => pm_vin (by omega) (by omega)⟩
    have st : sWh_trait 0 (nI t) (nI w) M := sWh_all (by omega) (by rcases (show w = 0 ∨ w = 1 ∨ w = 2 ∨ w = 3 by omega) with rfl | rfl | rfl | rfl <;> decide)
    have e1 := eWt_sign (a1 := nI t) (a2 := nI w) (a3 := nI v) (M := M) ⟨fun _ => trivial, fun _ => ⟨fun _ => trivial, fun _ => ⟨si, fun _ => trivial, fun _ => ⟨st, st⟩⟩⟩⟩
    unfold fWt_sign gWt_sign at e1
    rw [if_neg c1, if_neg c1, if_neg hb2, if_neg hb2, i1, fWh_trait_at (by omega) hw9, h.2.2.2.2.1 t w ht hw9] at e1
    have e2 : ∀ M1 : pm_M, M1.1 29 0 = M.1 29 0 → M1.1 30 0 = M.1 30 0 → pm_Ev mMo_sign [pm_r 29 0, pm_i (nI t), pm_i (nI w), pm_i (nI v)] M1 (some (pm_i (if M.1 30 0 (8 + 5 * t) = -4 then M.1 30 0 (4 + 5 * t + w) else -2))) (if M.1 30 0 (8 + 5 * t) = -4 then pm_set M1 30 0 (upd (M.1 30 0) (4 + 5 * t + w) (nI v)) else M1) := by
      intro M1 a29 a30
      have c2 : ¬ fMo_isTicket (nI t) M1 = 0 := by rw [moT_good (by rw [a29]; exact hw4) h4 ht]; decide
      have c3 : ¬ mTk (nI w) (nI v) M1 = 0 := fun q => hb2 ((mTk_eq h hP (by rw [a29]; exact hw3)).mp q)
      have hev := eMo_sign (a1 := nI t) (a2 := nI w) (a3 := nI v) (M := M1) (sM M1 k1 (Or.inr ⟨t, ht, rfl⟩) (k3 M1))
      rw [mo_sign_eq.1, mo_sign_eq.2, if_neg c2, if_neg c2, if_neg c3, if_neg c3] at hev
      unfold fMo_sign_60 gMo_sign_60 fMo_becomes gMo_becomes at hev
      rw [if_neg (show ¬ (1 : Int32) = 0 by decide), if_neg (show ¬ (1 : Int32) = 0 by decide), (vin t w ht hw9).2] at hev
      have i2 : fMo_isDrawn (nI t) M1 = if M.1 30 0 (8 + 5 * t) = -4 then 0 else 1 := by unfold fMo_isDrawn; rw [md_i4 (by omega), a30]
      rw [i2, a30] at hev
      by_cases hd : M.1 30 0 (8 + 5 * t) = -4
      · rw [if_pos hd, if_pos rfl, if_pos rfl] at hev
        rw [if_pos hd, if_pos hd]
        exact hev
      · rw [if_neg hd, if_neg (by decide), if_neg (by decide)] at hev
        rw [if_neg hd, if_neg hd]
        exact hev
    by_cases hd : M.1 30 0 (8 + 5 * t) = -4
    · rw [if_pos hd, if_neg (by decide), if_neg (by decide)] at e1
      have e2 := e2 (gWh_setTrait 0 (nI t) (nI w) (nI v) M) rfl rfl
      rw [if_pos hd, if_pos hd] at e2
      refine ⟨_, _, _, e1, e2, ?_⟩
      have hc := cw_set (v := nI v) h hP h4 ht hw9
      unfold gWh_setTrait at hc ⊢
      exact Inv_one hI hW (t := 6) (by decide) rfl (by omega) hc (wv_trait hv ht htv)
    · rw [if_neg hd, if_pos rfl, if_pos rfl] at e1
      have e2 := e2 M rfl rfl
      rw [if_neg hd, if_neg hd] at e2
      exact okI_no hI e1 e2
