/-! keep, back -/
theorem i45 {k : Nat} (hk : k < 2) : 45 * (nI k + 1) = nI (45 * (k + 1)) := (by decide +kernel : ∀ k : Fin 2, 45 * (nI k.val + 1) = nI (45 * (k.val + 1))) ⟨k, hk⟩
theorem copy_tch {k k1 : Nat} {M : pm_M} : tch [4, 5, 6, 7, 8, 9, 10, 11] M (gWh_copy k k1 M) := fun a b ha => copy_ne (by simp at ha; omega)
theorem ok_keep (a1 : Int32) : OkI mWt_keep mMo_keep [pm_i a1] := by
  intro M hI
  obtain ⟨P, T, hW⟩ := hI.1
  obtain ⟨h, hv, hw3, hw4, hK⟩ := id hW
  have h4 := hv.2.1
  have hP := hv.1
  by_cases hb : fWt_within a1 0 1 M = 0
  · have c2 : fMo_in a1.toInt64 0 1 M = 0 := (mo_in a1 0 1 M M).trans hb
    have e1 := eWt_keep (a1 := a1) (M := M) ⟨fun _ => trivial, fun q => absurd hb q⟩
    have e2 := eMo_keep (a1 := a1) (M := M) ⟨fun _ => trivial, fun q => absurd c2 q⟩
    unfold fWt_keep gWt_keep at e1
    unfold fMo_keep gMo_keep at e2
    rw [if_pos hb, if_pos hb] at e1
    rw [if_pos c2, if_pos c2] at e2
    exact okI_no hI e1 e2
  · obtain ⟨k, hk, rfl⟩ := within_of (n := 1) (by omega) hb
    have vk : vp_in (nI k) 2 := pm_vin (by omega) (by omega)
    have e1 := eWt_keep (a1 := nI k) (M := M) ⟨fun _ => trivial, fun _ => ⟨vk, vk, vk⟩⟩
    unfold fWt_keep gWt_keep at e1
    rw [if_neg hb, if_neg hb, pm_cl4 (by omega), copy_tch 2 0 (by decide)] at e1
    generalize hM1 : pm_set (gWh_copy (k + 2) 0 M) 2 0 (upd (M.1 2 0) k 1) = M1 at e1
    have t1 : tch [2, 4, 5, 6, 7, 8, 9, 10, 11] M M1 := by
      rw [← hM1]
      exact tch_set (tch_mono copy_tch (by decide)) (by decide)
    have c2 : ¬ fMo_in (nI k).toInt64 0 1 M1 = 0 := by rw [show fMo_in (nI k).toInt64 0 1 M1 = fWt_within (nI k) 0 1 M from mo_in (nI k) 0 1 M1 M]; exact hb
    have e2 := eMo_keep (a1 := nI k) (M := M1) ⟨fun _ => trivial, fun _ => ⟨vk, vk, ⟨45 * (k + 1), 0, by omega, by omega, by omega, i45 (by omega), rfl⟩⟩⟩
    unfold fMo_keep gMo_keep gMo_copies at e2
    rw [if_neg c2, if_neg c2, i45 (by omega), pm_cl4 (by omega), pm_cl4 (by omega), show Int32.toNatClampNeg 0 = 0 from by decide, t1 32 0 (by decide), show vp_nar .boolean 1 = 1 from by decide] at e2
    generalize hM2 : pm_set (pm_set M1 32 0 (upd (M.1 32 0) k 1)) 30 0 (fun j => if 45 * (k + 1) ≤ j ∧ j < 45 * (k + 1) + 45 then (pm_set M1 32 0 (upd (M.1 32 0) k 1)).1 30 0 (j - 45 * (k + 1) + 0) else (pm_set M1 32 0 (upd (M.1 32 0) k 1)).1 30 0 j) = M2 at e2
    have tt : tch [2, 4, 5, 6, 7, 8, 9, 10, 11, 30, 32] M M2 := by
      rw [← hM2]
      exact tch_set (tch_set (tch_mono t1 (by decide)) (by decide)) (by decide)
    have ans : fMo_flag (M.1 32 0 k) M1 = M.1 2 0 k := by
      rcases hK k (by omega) with ⟨q1, q2⟩ | ⟨q1, q2, _⟩
      · rw [q1, q2]
        rfl
      · rw [q1, q2]
        rfl
    rw [ans] at e2
    refine ⟨_, M1, M2, e1, e2, ?_⟩
    have e30 : ∀ j, M2.1 30 0 j = if 45 * (k + 1) ≤ j ∧ j < 45 * (k + 1) + 45 then M.1 30 0 (j - 45 * (k + 1)) else M.1 30 0 j := by
      intro j
      rw [← hM2, pm_set_at, pm_set_ne _ _ (by decide), t1 30 0 (by decide)]
      rfl
    have e2' : M2.1 2 0 = upd (M.1 2 0) k 1 := by rw [← hM2, ← hM1]; rfl
    have e32 : M2.1 32 0 = upd (M.1 32 0) k 1 := by rw [← hM2, pm_set_ne _ _ (by decide), pm_set_at]
    have ew : ∀ a k', 4 ≤ a → a ≤ 11 → M2.1 a k' = (gWh_copy (k + 2) 0 M).1 a k' := fun a k' a4 a11 => by
      rw [← hM2, pm_set_ne _ _ (by omega), pm_set_ne _ _ (by omega), ← hM1, pm_set_ne _ _ (by omega)]
    have ag0 : ag (M2.1 30 0) (M.1 30 0) := fun j hj => by rw [e30, if_neg (by omega)]
    refine Inv_wheel (P := P) (T := T) hI tt (by decide) ⟨?_, ag_wv ag0 hv, by rw [tt 29 0 (by decide)]; exact hw3, by rw [tt 29 0 (by decide)]; exact hw4, fun k' hk' => ?_⟩
    · exact cw_ag hP h4 ag0 (cw_same h (fun a a4 a11 => by rw [ew a 0 a4 a11, copy_ne (by omega)]))
    · by_cases q : k' = k
      · subst q
        have agk : ag (iG M2 k') (M.1 30 0) := fun j hj => by
          unfold iG
          rw [e30, if_pos (by omega)]
          exact congrArg (M.1 30 0) (by omega)
        refine Or.inr ⟨by rw [e2', pk_us], by rw [e32, pk_us], ?_, ag_wv agk hv⟩
        exact cw_ag hP h4 agk (cw_same (cw_copy (k := k' + 2) (k1 := 0) (by omega) h hP h4) (fun a a4 a11 => ew a _ a4 a11))
      · have agk : ag (iG M2 k') (iG M k') := fun j hj => by
          unfold iG
          rw [e30, if_neg (by omega)]
        rw [e2', e32, pk_un q, pk_un q]
        rcases hK k' hk' with q9 | ⟨q1, q2, q3, q4⟩
        · exact Or.inl q9
        · refine Or.inr ⟨q1, q2, ?_, ag_wv agk q4⟩
          exact cw_ag hP h4 agk (cw_same q3 (fun a a4 a11 => by rw [ew a _ a4 a11, copy_ne (by omega)]))
theorem ok_back (a1 : Int32) : OkI mWt_back mMo_back [pm_i a1] := by
  intro M hI
  obtain ⟨P, T, hW⟩ := hI.1
  obtain ⟨h, hv, hw3, hw4, hK⟩ := id hW
  have h4 := hv.2.1
  have hP := hv.1
  by_cases hb : fWt_within a1 0 1 M = 0
  · have c2 : fMo_in a1.toInt64 0 1 M = 0 := (mo_in a1 0 1 M M).trans hb
    have e1 := eWt_back (a1 := a1) (M := M) ⟨fun _ => trivial, fun q => absurd hb q⟩
    have e2 := eMo_back (a1 := a1) (M := M) ⟨fun _ => trivial, fun q => absurd c2 q⟩
    unfold fWt_back gWt_back at e1
    unfold fMo_back gMo_back at e2
    rw [if_pos hb, if_pos hb] at e1
    rw [if_pos c2, if_pos c2] at e2
    exact okI_no hI e1 e2
  · obtain ⟨k, hk, rfl⟩ := within_of (n := 1) (by omega) hb
    have vk : vp_in (nI k) 2 := pm_vin (by omega) (by omega)
    have c2 : ∀ M', ¬ fMo_in (nI k).toInt64 0 1 M' = 0 := fun M' => by rw [show fMo_in (nI k).toInt64 0 1 M' = fWt_within (nI k) 0 1 M from mo_in (nI k) 0 1 M' M]; exact hb
    rcases hK k (by omega) with ⟨q1, q2⟩ | ⟨q1, q2, q3, q4⟩
    · have z1 : M.1 2 0 (nI k).toNatClampNeg = 0 := by rw [pm_cl4 (by omega)]; exact q1
      have z2 : M.1 32 0 (nI k).toNatClampNeg = 0 := by rw [pm_cl4 (by omega)]; exact q2
      have e1 := eWt_back (a1 := nI k) (M := M) ⟨fun _ => trivial, fun _ => ⟨vk, fun _ => trivial, fun q => absurd z1 q⟩⟩
      have e2 := eMo_back (a1 := nI k) (M := M) ⟨fun _ => trivial, fun _ => ⟨vk, fun _ => trivial, fun q => absurd z2 q⟩⟩
      unfold fWt_back gWt_back at e1
      unfold fMo_back gMo_back at e2
      rw [if_neg hb, if_neg hb, if_pos z1, if_pos z1] at e1
      rw [if_neg (c2 M), if_neg (c2 M), if_pos z2, if_pos z2] at e2
      exact okI_no hI e1 e2
    · have hc := cw_copy (k := 0) (k1 := k + 2) (by omega) q3 hP h4
      have z1 : ¬ M.1 2 0 (nI k).toNatClampNeg = 0 := by rw [pm_cl4 (by omega), q1]; decide
      have e1 := eWt_back (a1 := nI k) (M := M) ⟨fun _ => trivial, fun _ => ⟨vk, fun q => absurd q z1, fun _ => ⟨vk, by rw [pm_cl4 (by omega)]; exact ⟨T, h4, hc.2.1⟩⟩⟩⟩
      unfold fWt_back gWt_back at e1
      rw [if_neg hb, if_neg hb, if_neg z1, if_neg z1, pm_cl4 (by omega), cw_days hc h4] at e1
      generalize hM1 : gWh_copy 0 (k + 2) M = M1 at e1 hc
      have t1 : tch [4, 5, 6, 7, 8, 9, 10, 11] M M1 := by rw [← hM1]; exact copy_tch
      have z2 : ¬ M1.1 32 0 (nI k).toNatClampNeg = 0 := by rw [pm_cl4 (by omega), t1 32 0 (by decide), q2]; decide
      have sc : sMo_copies 0 (45 * (nI k + 1)) M1 := ⟨0, 45 * (k + 1), by omega, by omega, by omega, rfl, i45 (by omega)⟩
      have hF : gMo_copies 0 (45 * (nI k + 1)) M1 = pm_set M1 30 0 (fun j => if j < 45 then M.1 30 0 (45 * (k + 1) + j) else M.1 30 0 j) := by
        unfold gMo_copies
        rw [i45 (by omega), pm_cl4 (by omega), show Int32.toNatClampNeg 0 = 0 from by decide, t1 30 0 (by decide)]
        congr 1
        funext j
        by_cases q : j < 45
        · rw [if_pos (by omega), if_pos q]
          exact congrArg (M.1 30 0) (by omega)
        · rw [if_neg (by omega), if_neg q]
      have mwF : mw (pm_set M1 30 0 (fun j => if j < 45 then M.1 30 0 (45 * (k + 1) + j) else M.1 30 0 j)) (fun j => if j < 45 then M.1 30 0 (45 * (k + 1) + j) else M.1 30 0 j) P T := ⟨pm_set_at _ _ _ _, by rw [pm_set_ne _ _ (by decide), t1 29 0 (by decide)]; exact hw3, by rw [pm_set_ne _ _ (by decide), t1 29 0 (by decide)]; exact hw4⟩
      have agF : ag (fun j => if j < 45 then M.1 30 0 (45 * (k + 1) + j) else M.1 30 0 j) (iG M k) := fun j hj => by
        dsimp only
        rw [if_pos hj]
        rfl
      have e2 := eMo_back (a1 := nI k) (M := M1) ⟨fun _ => trivial, fun _ => ⟨vk, fun q => absurd q z2, fun _ => ⟨sc, by rw [hF]; exact ⟨T, h4, mwF.2.2⟩⟩⟩⟩
      unfold fMo_back gMo_back at e2
      rw [if_neg (c2 M1), if_neg (c2 M1), if_neg z2, if_neg z2, hF, left_at mwF h4, (mw_ms mwF ms_left).2.2, (ag_L agF h4).1] at e2
      refine ⟨_, M1, _, e1, e2, ?_⟩
      refine Inv_ms ?_ ms_left
      generalize hM2 : pm_set M1 30 0 (fun j => if j < 45 then M.1 30 0 (45 * (k + 1) + j) else M.1 30 0 j) = M2
      have tt : tch [4, 5, 6, 7, 8, 9, 10, 11, 30] M M2 := by
        rw [← hM2]
        exact tch_set (tch_mono t1 (by decide)) (by decide)
      have e30 : M2.1 30 0 = fun j => if j < 45 then M.1 30 0 (45 * (k + 1) + j) else M.1 30 0 j := by rw [← hM2, pm_set_at]
      refine Inv_wheel (P := P) (T := T) hI tt (by decide) (iW_mk hW (tt 2 0 (by decide)) (tt 32 0 (by decide)) (by rw [tt 29 0 (by decide)]) (by rw [tt 29 0 (by decide)]) (fun a k' a4 a11 hk' => ?_) (fun j hj => ?_) ?_ ?_)
      · rw [← hM2, pm_set_ne _ _ (by omega), ← hM1, copy_ne (by omega)]
      · rw [e30]
        dsimp only
        rw [if_neg (by omega)]
      · rw [e30]
        exact cw_ag hP h4 agF (cw_same hc (fun a a4 a11 => by rw [← hM2, pm_set_ne _ _ (by omega)]))
      · rw [e30]
        exact ag_wv agF q4
/-! sheet, lay -/
/-- only the sheets are others -/
theorem Inv_sheet {L : List Nat} {M M' : pm_M} (h : Inv M) (t : tch L M M') (hL : ∀ x ∈ L, x = 27 ∨ x = 28 ∨ x = 40 ∨ x = 41 ∨ x = 42) (s : iS M') : Inv M' := by
  obtain ⟨⟨P, T, h1⟩, h2, h3, h4, h5⟩ := h
  have g : ∀ x, ¬ (x = 27 ∨ x = 28 ∨ x = 40 ∨ x = 41 ∨ x = 42) → x ∉ L := fun x hx q => hx (hL x q)
  refine ⟨⟨P, T, iW_tch h1 t (fun x hx => by have := hL x hx; omega) (by rw [t 29 0 (g _ (by omega))]) (by rw [t 29 0 (g _ (by omega))])⟩, iT_tch h2 t ⟨g _ (by omega), g _ (by omega), g _ (by omega)⟩ (by rw [t 29 0 (g _ (by omega))]), ?_, s, ?_⟩
  · rw [t 23 0 (g _ (by omega)), t 29 0 (g _ (by omega))]
    exact h3
  · rw [t 0 0 (g _ (by omega)), t 29 0 (g _ (by omega))]
    exact h5
theorem sheet_bad {a1 a2 : Int32} {M M' : pm_M} : fMo_isSheet a1 a2 M' = 0 ↔ (fWt_isSheet a1 M = 0 ∨ fSh_isLane a2 M = 0) := by
  unfold fMo_isSheet
  rw [show fMo_in a1.toInt64 0 3 M' = fWt_isSheet a1 M from mo_in a1 0 3 M' M, show fMo_in a2.toInt64 0 2 M' = fSh_isLane a2 M from mo_in a2 0 2 M' M]
  by_cases q1 : fWt_isSheet a1 M = 0
  · rw [if_pos q1]
    simp [q1]
  · rw [if_neg q1]
    by_cases q2 : fSh_isLane a2 M = 0
    · rw [if_pos q2]
      simp [q2]
    · rw [if_neg q2]
      simp [q1, q2]
theorem ok_sheet (a1 a2 a3 : Int32) : OkI mWt_sheet mMo_sheet [pm_i a1, pm_i a2, pm_i a3] := by
  intro M hI
  have vA : ∀ q : ¬ fWt_isSheet a1 M = 0, ∃ k, k < 4 ∧ a1 = nI k := fun q => by
    obtain ⟨k, hk, e⟩ := within_of (n := 3) (by omega) q
    exact ⟨k, by omega, e⟩
  have v4 : ∀ q : ¬ fWt_isSheet a1 M = 0, vp_in a1 4 := fun q => by
    obtain ⟨k, hk, e⟩ := vA q
    rw [e]
    exact pm_vin (by omega) (by omega)
  have e1 := eWt_sheet (a1 := a1) (a2 := a2) (a3 := a3) (M := M) ⟨fun _ => trivial, fun q => ⟨fun _ => trivial, fun _ => ⟨fun _ => ⟨fun _ => v4 q, fun _ => trivial⟩, fun _ => trivial⟩⟩⟩
  have e2 : ∀ M1, pm_Ev mMo_sheet [pm_r 29 0, pm_i a1, pm_i a2, pm_i a3] M1 (some (pm_i (fMo_sheet a1 a2 a3 M1))) (gMo_sheet a1 a2 a3 M1) := fun M1 => by
    refine eMo_sheet ⟨fun _ => trivial, fun q => ?_⟩
    have q1 : ¬ fWt_isSheet a1 M = 0 := fun q1 => q ((sheet_bad (M := M)).mpr (Or.inl q1))
    exact ⟨fun _ => ⟨fun _ => ⟨v4 q1, v4 q1, vA q1⟩, fun _ => trivial⟩, fun _ => trivial⟩
  unfold fWt_sheet gWt_sheet at e1
  unfold fMo_sheet gMo_sheet at e2
  by_cases hb : fWt_isSheet a1 M = 0 ∨ fSh_isLane a2 M = 0
  · have e2 := e2 M
    have hb2 := (sheet_bad (a1 := a1) (a2 := a2) (M := M) (M' := M)).mpr hb
    rw [if_pos hb2, if_pos hb2] at e2
    by_cases q1 : fWt_isSheet a1 M = 0
    · rw [if_pos q1, if_pos q1] at e1
      exact okI_no hI e1 e2
    · have q2 := hb.resolve_left q1
      rw [if_neg q1, if_neg q1, if_pos q2, if_pos q2] at e1
      exact okI_no hI e1 e2
  · obtain ⟨q1, q2⟩ := not_or.mp hb
    have hb2 : ∀ M1, ¬ fMo_isSheet a1 a2 M1 = 0 := fun M1 q => hb ((sheet_bad (M' := M1)).mp q)
    rw [if_neg q1, if_neg q1, if_neg q2, if_neg q2] at e1
    by_cases q3 : a3 ≤ 40
    · by_cases q4 : (0 : Int32) ≤ a3
      · obtain ⟨k, hk, rfl⟩ := vA q1
        obtain ⟨l, hl, rfl⟩ := within_of (n := 2) (by omega) q2
        have q5 : ¬ a3 < 0 := by
          rw [Int32.lt_iff_toInt_lt]
          rw [Int32.le_iff_toInt_le] at q4
          omega
        obtain ⟨n, hn, rfl⟩ := nI_of2 (M := 40) (n := 40) (by decide) q5 q3
        rw [if_pos q3, if_pos q3, if_pos q4, if_pos q4, pm_cl4 (by omega)] at e1
        generalize hM1 : gSh_renew k (nI l) (nI n) M = M1 at e1
        have t1 : tch [27, 28, 40, 41, 42] M M1 := by
          rw [← hM1]
          unfold gSh_renew gAr_fill28
          exact tch_set (tch_set (tch_set tch_rfl (by decide)) (by decide)) (by decide)
        have e2 := e2 M1
        rw [if_neg (hb2 M1), if_neg (hb2 M1), if_pos q3, if_pos q3, if_pos q4, if_pos q4, pm_cl4 (by omega)] at e2
        refine ⟨_, M1, _, e1, e2, ?_⟩
        generalize hM2 : pm_set (pm_set (pm_set M1 40 0 (upd (M1.1 40 0) k (nI l))) 41 0 (upd (M1.1 41 0) k (nI n))) 42 0 (fun j => if 40 * k ≤ j ∧ j < 40 * k + 40 then 0 else (pm_set (pm_set M1 40 0 (upd (M1.1 40 0) k (nI l))) 41 0 (upd (M1.1 41 0) k (nI n))).1 42 0 j) = M2
        have tt : tch [27, 28, 40, 41, 42] M M2 := by
          rw [← hM2]
          exact tch_set (tch_set (tch_set t1 (by decide)) (by decide)) (by decide)
        have e27 : ∀ k', M2.1 27 k' = if k' = k then upd (upd (M.1 27 k) 1 (nI l)) 0 (nI n) else M.1 27 k' := by
          intro k'
          rw [← hM2, pm_set_ne _ _ (by decide), pm_set_ne _ _ (by decide), pm_set_ne _ _ (by decide), ← hM1]
          unfold gSh_renew gAr_fill28
          rw [pm_set_ne _ _ (by decide)]
          by_cases q : k' = k
          · subst q
            rw [if_pos rfl, pm_set_at, pm_set_at]
          · rw [if_neg q, set_nk q, set_nk q]
        have e28 : ∀ k', M2.1 28 k' = if k' = k then (fun j => if j < 40 then 0 else M.1 28 k j) else M.1 28 k' := by
          intro k'
          rw [← hM2, pm_set_ne _ _ (by decide), pm_set_ne _ _ (by decide), pm_set_ne _ _ (by decide), ← hM1]
          unfold gSh_renew gAr_fill28
          by_cases q : k' = k
          · subst q
            rw [if_pos rfl, pm_set_at]
            rfl
          · rw [if_neg q, set_nk q, pm_set_ne _ _ (by decide), pm_set_ne _ _ (by decide)]
        have a4 : M1.1 40 0 = M.1 40 0 ∧ M1.1 41 0 = M.1 41 0 ∧ M1.1 42 0 = M.1 42 0 := by
          rw [← hM1]
          exact ⟨rfl, rfl, rfl⟩
        have e40 : M2.1 40 0 = upd (M.1 40 0) k (nI l) := by rw [← hM2, pm_set_ne _ _ (by decide), pm_set_ne _ _ (by decide), pm_set_at, a4.1]
        have e41 : M2.1 41 0 = upd (M.1 41 0) k (nI n) := by rw [← hM2, pm_set_ne _ _ (by decide), pm_set_at, a4.2.1]
        have e42 : ∀ j, M2.1 42 0 j = if 40 * k ≤ j ∧ j < 40 * k + 40 then 0 else M.1 42 0 j := by
          intro j
          rw [← hM2, pm_set_at, pm_set_ne _ _ (by decide), pm_set_ne _ _ (by decide), a4.2.2]
        refine Inv_sheet hI tt (by decide) (fun k' hk' => ?_)
        rw [e27, e28, e40, e41]
        by_cases q : k' = k
        · subst q
          rw [if_pos rfl, if_pos rfl]
          refine Or.inr ⟨l, n, hl, hn, pk_us, by rw [pk_un (by decide), pk_us], pk_us, pk_us, fun i hi => ?_⟩
          rw [e42, if_pos hi, if_pos (by omega)]
        · rw [if_neg q, if_neg q, pk_un q, pk_un q]
          rcases hI.2.2.2.1 k' hk' with q9 | ⟨l', n', r1, r2, r3, r4, r5, r6, r7⟩
          · exact Or.inl q9
          · refine Or.inr ⟨l', n', r1, r2, r3, r4, r5, r6, fun i hi => ?_⟩
            rw [e42, if_neg (by omega)]
            exact r7 i hi
      · have e2 := e2 M
        rw [if_pos q3, if_pos q3, if_neg q4, if_neg q4] at e1
        rw [if_neg (hb2 M), if_neg (hb2 M), if_pos q3, if_pos q3, if_neg q4, if_neg q4] at e2
        exact okI_no hI e1 e2
    · have e2 := e2 M
      rw [if_neg q3, if_neg q3] at e1
      rw [if_neg (hb2 M), if_neg (hb2 M), if_neg q3, if_neg q3] at e2
      exact okI_no hI e1 e2
theorem lay_one {M M2 : pm_M} {k i : Nat} {x : Int32} (hI : Inv M) (hk : k < 4) (hi : i < 40) (hM2 : pm_set (pm_set M 28 k (upd (M.1 28 k) i x)) 42 0 (upd (M.1 42 0) (40 * k + i) x) = M2) : Inv M2 := by
  have tt : tch [28, 42] M M2 := by
    rw [← hM2]
    exact tch_set (tch_set tch_rfl (by decide)) (by decide)
  have e28 : ∀ k', M2.1 28 k' = if k' = k then upd (M.1 28 k) i x else M.1 28 k' := by
    intro k'
    rw [← hM2, pm_set_ne _ _ (by decide)]
    by_cases q : k' = k
    · subst q
      rw [if_pos rfl, pm_set_at]
    · rw [if_neg q, set_nk q]
  have e42 : M2.1 42 0 = upd (M.1 42 0) (40 * k + i) x := by rw [← hM2, pm_set_at]
  refine Inv_sheet hI tt (by decide) (fun k' hk' => ?_)
  rw [e28, e42, tt 27 k' (by decide), tt 40 0 (by decide), tt 41 0 (by decide)]
  rcases hI.2.2.2.1 k' hk' with q9 | ⟨l', n', r1, r2, r3, r4, r5, r6, r7⟩
  · exact Or.inl q9
  · refine Or.inr ⟨l', n', r1, r2, r3, r4, r5, r6, fun j hj => ?_⟩
    by_cases q : k' = k
    · subst q
      rw [if_pos rfl]
      by_cases q2 : j = i
      · subst q2
        rw [pk_us, pk_us]
      · rw [pk_un q2, pk_un (by omega)]
        exact r7 j hj
    · rw [if_neg q, pk_un (by omega)]
      exact r7 j hj
theorem size_in {n : Nat} {a : Int32} {M : pm_M} (hn : n ≤ 40) (h : ¬ fWt_within a 0 (nI n - 1) M = 0) : ∃ i, i < n ∧ a = nI i := by
  rcases n with _ | n
  · exfalso
    apply h
    unfold fWt_within
    by_cases q : a < 0
    · rw [if_pos q]
    · rw [if_neg q, if_pos]
      rw [Int32.lt_iff_toInt_lt] at q ⊢
      have e1 : (nI 0 - 1).toInt = -1 := by decide
      have e2 : (0 : Int32).toInt = 0 := by decide
      omega
  · rw [nI_pred] at h
    obtain ⟨i, hi, e⟩ := within_of (n := n) (by omega) h
    exact ⟨i, by omega, e⟩
theorem ok_lay (a1 a2 a3 : Int32) : OkI mWt_lay mMo_lay [pm_i a1, pm_i a2, pm_i a3] := by
  intro M hI
  have hz : fSh_isLane 0 M = 0 ↔ False := by
    rw [show fSh_isLane 0 M = 1 from within_in (n := 2) (j := 0) (by omega) (by omega)]
    decide
  by_cases hb : fWt_isSheet a1 M = 0
  · have hb2 : fMo_isSheet a1 0 M = 0 := (sheet_bad (M := M)).mpr (Or.inl hb)
    have e1 := eWt_lay (a1 := a1) (a2 := a2) (a3 := a3) (M := M) ⟨fun _ => trivial, fun q => absurd hb q⟩
    have e2 := eMo_lay (a1 := a1) (a2 := a2) (a3 := a3) (M := M) ⟨fun _ => trivial, fun q => absurd hb2 q⟩
    unfold fWt_lay gWt_lay at e1
    unfold fMo_lay gMo_lay at e2
    rw [if_pos hb, if_pos hb] at e1
    rw [if_pos hb2, if_pos hb2] at e2
    exact okI_no hI e1 e2
  · have hb2 : ∀ M', ¬ fMo_isSheet a1 0 M' = 0 := fun M' q => ((sheet_bad (M := M)).mp q).elim hb (fun q => hz.mp q)
    obtain ⟨k, hk, rfl⟩ := within_of (n := 3) (by omega) hb
    have vk : vp_in (nI k) 4 := pm_vin (by omega) (by omega)
    rcases hI.2.2.2.1 k (by omega) with ⟨q1, q2⟩ | ⟨l, n, r1, r2, r3, r4, r5, r6, r7⟩
    · have hf : fSh_faultAt k a2 M = 1 := by unfold fSh_faultAt; rw [if_pos q1]
      have c1 : ¬ fSh_faultAt (nI k).toNatClampNeg a2 M = 0 := by rw [pm_cl4 (by omega), hf]; decide
      have c2 : M.1 40 0 (nI k).toNatClampNeg = -4 := by rw [pm_cl4 (by omega)]; exact q2
      have e1 := eWt_lay (a1 := nI k) (a2 := a2) (a3 := a3) (M := M) ⟨fun _ => trivial, fun _ => ⟨vk, fun q => absurd q c1, fun _ => trivial⟩⟩
      have e2 := eMo_lay (a1 := nI k) (a2 := a2) (a3 := a3) (M := M) ⟨fun _ => trivial, fun _ => ⟨vk, fun _ => trivial, fun q => absurd c2 q⟩⟩
      unfold fWt_lay gWt_lay at e1
      unfold fMo_lay gMo_lay at e2
      rw [if_neg hb, if_neg hb, if_neg c1, if_neg c1, pm_cl4 (by omega), hf] at e1
      rw [if_neg (hb2 M), if_neg (hb2 M), if_pos c2, if_pos c2] at e2
      exact okI_no hI e1 e2
    · have n4 : ¬ nI n = -4 := nI_ne45 (by omega)
      have l4 : ¬ nI l = -4 := nI_ne45 (by omega)
      have hf : fSh_faultAt k a2 M = if fWt_within a2 0 (nI n - 1) M = 0 then 2 else 0 := by unfold fSh_faultAt; rw [r3, if_neg n4]
      by_cases hi : fWt_within a2 0 (nI n - 1) M = 0
      · rw [if_pos hi] at hf
        have c1 : ¬ fSh_faultAt (nI k).toNatClampNeg a2 M = 0 := by rw [pm_cl4 (by omega), hf]; decide
        have c2 : ¬ M.1 40 0 (nI k).toNatClampNeg = -4 := by rw [pm_cl4 (by omega), r5]; exact l4
        have c3 : fMo_in a2.toInt64 0 (Int32.toInt64 ((M.1 41 0 (nI k).toNatClampNeg) - 1)) M = 0 := by
          rw [pm_cl4 (by omega), r6]
          exact (mo_in a2 0 (nI n - 1) M M).trans hi
        have e1 := eWt_lay (a1 := nI k) (a2 := a2) (a3 := a3) (M := M) ⟨fun _ => trivial, fun _ => ⟨vk, fun q => absurd q c1, fun _ => trivial⟩⟩
        have e2 := eMo_lay (a1 := nI k) (a2 := a2) (a3 := a3) (M := M) ⟨fun _ => trivial, fun _ => ⟨vk, fun _ => trivial, fun _ => ⟨vk, fun _ => trivial, fun q => absurd c3 q⟩⟩⟩
        unfold fWt_lay gWt_lay at e1
        unfold fMo_lay gMo_lay at e2
        rw [if_neg hb, if_neg hb, if_neg c1, if_neg c1, pm_cl4 (by omega), hf] at e1
        rw [if_neg (hb2 M), if_neg (hb2 M), if_neg c2, if_neg c2, if_pos c3, if_pos c3] at e2
        exact okI_no hI e1 e2
      · rw [if_neg hi] at hf
        have c1 : fSh_faultAt (nI k).toNatClampNeg a2 M = 0 := by rw [pm_cl4 (by omega)]; exact hf
        obtain ⟨i, hin, rfl⟩ := size_in r2 hi
        have v40 : vp_in (nI i) 40 := pm_vin (by omega) (by omega)
        obtain ⟨ic1, ic2⟩ := md_ic (show k < 4 by omega) (show i < 40 by omega)
        have e1 := eWt_lay (a1 := nI k) (a2 := nI i) (a3 := a3) (M := M) ⟨fun _ => trivial, fun _ => ⟨vk, fun _ => ⟨vk, fun _ => v40, fun _ => ⟨fun _ => v40, fun _ => v40⟩⟩, fun _ => trivial⟩⟩
        unfold fWt_lay gWt_lay gSh_setCell at e1
        rw [if_neg hb, if_neg hb, if_pos c1, if_pos c1, pm_cl4 (by omega), pm_cl4 (by omega), r4] at e1
        have e2 : ∀ M1 : pm_M, M1.1 40 0 = M.1 40 0 → M1.1 41 0 = M.1 41 0 → M1.1 42 0 = M.1 42 0 → pm_Ev mMo_lay [pm_r 29 0, pm_i (nI k), pm_i (nI i), pm_i a3] M1 (some (pm_i 1)) (if nI l = 0 then pm_set M1 42 0 (upd (M.1 42 0) (40 * k + i) (Int32.toInt8 a3).toInt32) else if nI l = 1 then pm_set M1 42 0 (upd (M.1 42 0) (40 * k + i) (Int32.toInt16 a3).toInt32) else pm_set M1 42 0 (upd (M.1 42 0) (40 * k + i) a3)) := by
          intro M1 a40 a41 a42
          have c2 : ¬ M1.1 40 0 (nI k).toNatClampNeg = -4 := by rw [pm_cl4 (by omega), a40, r5]; exact l4
          have c3 : ¬ fMo_in (nI i).toInt64 0 (Int32.toInt64 ((M1.1 41 0 (nI k).toNatClampNeg) - 1)) M1 = 0 := by
            rw [pm_cl4 (by omega), a41, r6]
            intro q
            exact hi ((mo_in (nI i) 0 (nI n - 1) M1 M).symm.trans q)
          have hev := eMo_lay (a1 := nI k) (a2 := nI i) (a3 := a3) (M := M1) ⟨fun _ => trivial, fun _ => ⟨vk, fun _ => trivial, fun _ => ⟨vk, fun _ => trivial, fun _ => ⟨vk, fun _ => ic2, fun _ => ⟨vk, fun _ => ic2, fun _ => ic2⟩⟩⟩⟩⟩
          unfold fMo_lay gMo_lay at hev
          rw [if_neg (hb2 M1), if_neg (hb2 M1), if_neg c2, if_neg c2, if_neg c3, if_neg c3, pm_cl4 (by omega), ic1, a40, r5, a42, ite_self, ite_self] at hev
          exact hev
        by_cases l0 : nI l = 0
        · rw [if_pos l0] at e1
          have e2 := e2 (pm_set M 28 k (upd (M.1 28 k) i (Int32.toInt8 a3).toInt32)) rfl rfl rfl
          rw [if_pos l0] at e2
          exact ⟨_, _, _, e1, e2, lay_one hI (by omega) (by omega) rfl⟩
        · by_cases l1 : nI l = 1
          · rw [if_neg l0, if_pos l1] at e1
            have e2 := e2 (pm_set M 28 k (upd (M.1 28 k) i (Int32.toInt16 a3).toInt32)) rfl rfl rfl
            rw [if_neg l0, if_pos l1] at e2
            exact ⟨_, _, _, e1, e2, lay_one hI (by omega) (by omega) rfl⟩
          · rw [if_neg l0, if_neg l1] at e1
            have e2 := e2 (pm_set M 28 k (upd (M.1 28 k) i a3)) rfl rfl rfl
            rw [if_neg l0, if_neg l1] at e2
            exact ⟨_, _, _, e1, e2, lay_one hI (by omega) (by omega) rfl⟩
