/-! read: both -/
theorem Inv_gen {L : List Nat} {M M' : pm_M} {P T : Nat} (h : Inv M) (w : iW M' P T) (t : tch L M M') (hL : ∀ x ∈ L, ¬ (21 ≤ x ∧ x ≤ 23 ∨ x = 27 ∨ x = 28 ∨ x = 35 ∨ 40 ≤ x ∧ x ≤ 42)) (e13 : M'.1 29 0 13 = M.1 29 0 13) (e18 : M'.1 29 0 18 = M.1 29 0 18) (e35 : M'.1 0 0 8 = M'.1 29 0 35) : Inv M' := by
  obtain ⟨_, h2, h3, h4, h5⟩ := h
  have g : ∀ x, (21 ≤ x ∧ x ≤ 23 ∨ x = 27 ∨ x = 28 ∨ x = 35 ∨ 40 ≤ x ∧ x ≤ 42) → x ∉ L := fun x hx q => hL x q hx
  refine ⟨⟨P, T, w⟩, iT_tch h2 t ⟨g _ (by omega), g _ (by omega), g _ (by omega)⟩ e13, ?_, iS_tch h4 t ⟨g _ (by omega), g _ (by omega), g _ (by omega), g _ (by omega), g _ (by omega)⟩, e35⟩
  rw [t 23 0 (g _ (by omega)), e18]
  exact h3
theorem ok_read (a1 a2 a3 a4 : Int32) : OkI mWt_read mMo_read [pm_i a1, pm_i a2, pm_i a3, pm_i a4] := by
  intro M hI
  obtain ⟨P, T, hW⟩ := hI.1
  obtain ⟨h, hv, hw3, hw4, hK⟩ := id hW
  have h4 := hv.2.1
  have hP := hv.1
  by_cases hb : (fWt_isSheet a1 M = 0 ∨ fSh_isLane a2 M = 0) ∨ fWt_within a4 0 20 M = 0
  · refine okI_no (x := -1) hI ?_ ?_
    · refine pm_Sem_of (ls := [some (pm_r 0 0), some (pm_i a1), some (pm_i a2), some (pm_i a3), some (pm_i a4), none, none, none, none, none, none]) ok_mWt_read (by decide +kernel) rfl (by decide) (Nat.le_of_ble_eq_true rfl) rfl ?_
      refine bWt_read_0 eWt_isSheet (bWt_read_4 (fun _ => bWt_read_25 ⟨rfl, rfl⟩) (fun q1 => bWt_read_7 eSh_isLane (bWt_read_11 (fun _ => bWt_read_25 ⟨rfl, rfl⟩) (fun q2 => bWt_read_14 eWt_within (bWt_read_22 (fun _ => bWt_read_25 ⟨rfl, rfl⟩) (fun q3 => ?_))))))
      exact absurd ((hb.resolve_right q3).resolve_left q1) q2
    · refine pm_Sem_of (ls := [some (pm_r 29 0), some (pm_i a1), some (pm_i a2), some (pm_i a3), some (pm_i a4), none, none, none, none, none, none]) ok_mMo_read (by decide +kernel) rfl (by decide) (Nat.le_of_ble_eq_true rfl) rfl ?_
      refine bMo_read_0 eMo_isSheet (bMo_read_5 (fun _ => bMo_read_21 ⟨rfl, rfl⟩) (fun q1 => bMo_read_8 eMo_in (bMo_read_18 (fun _ => bMo_read_21 ⟨rfl, rfl⟩) (fun q2 => ?_))))
      rcases hb with hb | hb
      · exact absurd (sheet_bad.mpr hb) q1
      · exact absurd ((mo_in a4 0 20 M M).trans hb) q2
  · obtain ⟨hb1, hb3⟩ := not_or.mp hb
    obtain ⟨hb1', hb2⟩ := not_or.mp hb1
    obtain ⟨k, hk, rfl⟩ := within_of (n := 3) (by omega) hb1'
    obtain ⟨n, hn, rfl⟩ := within_of (n := 20) (by omega) hb3
    have vk : vp_in (nI k) 4 := pm_vin (by omega) (by omega)
    have hs : shOK M k (M.1 27 k 0) (M.1 27 k 1) := by
      rcases hI.2.2.2.1 k (by omega) with q9 | ⟨l, n, r1, r2, r3, r4, r5, r6, _⟩
      · exact Or.inl q9
      · exact Or.inr ⟨l, n, r1, r2, r3, r4, r5, r6⟩
    have hcell : ¬ M.1 27 k 0 = -4 → ∀ j, j < 40 → M.1 42 0 (40 * k + j) = M.1 28 k j := by
      intro q
      rcases hI.2.2.2.1 k (by omega) with q9 | ⟨l, n, r1, r2, r3, r4, r5, r6, r7⟩
      · exact absurd q9.1 q
      · exact fun j hj => (r7 j hj).symm
    -- the class
    have tc := copy_tch (k := 1) (k1 := 0) (M := M)
    have hc := cw_copy (k := 1) (k1 := 0) (by decide) h hP h4
    obtain ⟨Mx, x1, x2⟩ := c_read_loop (a1 := nI k) (a2 := a2) (a3 := a3) (k := k) (n := n) (sz := M.1 27 k 0) (ln := M.1 27 k 1) (C := M.1 28 k) (X := fun i => M.1 28 k (a3.toInt + 2 * i).toNat) (Y := fun i => M.1 28 k ((a3.toInt + 2 * i).toNat + 1)) hn (fun _ => rfl) (fun _ => rfl) n 0 (M.1 30 0) (gWh_copy 1 0 M) hc hv (by omega) (by
      unfold shOK
      rw [tc 27 k (by decide), tc 40 0 (by decide), tc 41 0 (by decide)]
      exact hs) (by rw [tc 27 k (by decide)]) (by rw [tc 27 k (by decide)]) (tc 28 k (by decide))
    have csx : cs_eq M Mx := cs_trans cs_copy x1
    have cls : ∀ {v : Int32} {M1 : pm_M}, pm_G mWt_read 55 [some (pm_r 0 0), some (pm_i (nI k)), some (pm_i a2), some (pm_i a3), some (pm_i (nI n)), some (pm_r 27 k), some (pm_i 0), some (pm_i 0), some (pm_i 0), none, none] [] (gWh_copy 1 0 M) (pm_D (some (pm_i v)) M1) → pm_Ev mWt_read [pm_r 0 0, pm_i (nI k), pm_i a2, pm_i a3, pm_i (nI n)] M (some (pm_i v)) M1 := by
      intro v M1 kk
      refine pm_Sem_of (ls := [some (pm_r 0 0), some (pm_i (nI k)), some (pm_i a2), some (pm_i a3), some (pm_i (nI n)), none, none, none, none, none, none]) ok_mWt_read (by decide +kernel) rfl (by decide) (Nat.le_of_ble_eq_true rfl) rfl ?_
      refine bWt_read_0 eWt_isSheet (bWt_read_4 (fun q => absurd q hb1') (fun _ => bWt_read_7 eSh_isLane (bWt_read_11 (fun q => absurd q hb2) (fun _ => bWt_read_14 eWt_within (bWt_read_22 (fun q => absurd q hb3) (fun _ => bWt_read_27 vk eWh_copy ?_))))))
      rw [pm_cl4 (by omega)]
      exact bWt_read_46 kk
    -- the reference, over what the class leaves
    have ref : ∀ M1 : pm_M, M1.1 29 0 = M.1 29 0 → M1.1 30 0 = M.1 30 0 → M1.1 40 0 = M.1 40 0 → M1.1 41 0 = M.1 41 0 → M1.1 42 0 = M.1 42 0 → ∃ M', tch [29, 30, 31, 43] M1 M' ∧ (match rd (rF (M.1 27 k 0) (M.1 27 k 1) a2 a3) (fun i => M.1 28 k (a3.toInt + 2 * i).toNat) (fun i => M.1 28 k ((a3.toInt + 2 * i).toNat + 1)) T n 0 (M.1 30 0) with
        | .inl j => pm_Ev mMo_read [pm_r 29 0, pm_i (nI k), pm_i a2, pm_i a3, pm_i (nI n)] M1 (some (pm_i (-20 - nI j))) M' ∧ M'.1 30 0 = M.1 30 0 ∧ M'.1 29 0 = M.1 29 0
        | .inr (d, x, f') => pm_Ev mMo_read [pm_r 29 0, pm_i (nI k), pm_i a2, pm_i a3, pm_i (nI n)] M1 (some (pm_i (nI d))) M' ∧ ag (M'.1 30 0) f' ∧ (∀ y, 45 ≤ y → M'.1 30 0 y = M.1 30 0 y) ∧ M'.1 29 0 = upd (M.1 29 0) 35 x) := by
      intro M1 g29 g30 g40 g41 g42
      have t9 : tch [43] M1 (pm_set M1 43 0 (fun j => if j < 45 then M1.1 30 0 j else M1.1 43 0 j)) := tch_set tch_rfl (by decide)
      obtain ⟨M', y1, y2⟩ := m_read_loop (a2 := a2) (a3 := a3) (k := k) (n := n) (P := P) (T := T) (sz := M.1 27 k 0) (ln := M.1 27 k 1) (f0 := M.1 30 0) (C := M.1 28 k) (X := fun i => M.1 28 k (a3.toInt + 2 * i).toNat) (Y := fun i => M.1 28 k ((a3.toInt + 2 * i).toNat + 1)) (by omega) hn (fun _ => rfl) (fun _ => rfl) n 0 (M.1 30 0) (pm_set M1 43 0 (fun j => if j < 45 then M1.1 30 0 j else M1.1 43 0 j)) (fun y _ => by rw [t9 30 0 (by decide), g30]) hv (by rw [t9 29 0 (by decide), g29]; exact hw3) (by rw [t9 29 0 (by decide), g29]; exact hw4) (fun y _ => by rw [t9 30 0 (by decide), g30]) (fun y hy => by rw [pm_set_at, if_pos hy, g30]) (by omega) (by
        unfold shOK
        rw [t9 40 0 (by decide), t9 41 0 (by decide), g40, g41]
        exact hs) (fun z j hj => by rw [t9 42 0 (by decide), g42]; exact hcell z j hj)
      have go : ∀ {v : Int32}, pm_G mMo_read 62 [some (pm_r 29 0), some (pm_i (nI k)), some (pm_i a2), some (pm_i a3), some (pm_i (nI n)), some (pm_i 0), some (pm_i 0), some (pm_i 0), none, none, none] [] (pm_set M1 43 0 (fun j => if j < 45 then M1.1 30 0 j else M1.1 43 0 j)) (pm_D (some (pm_i v)) M') → pm_Ev mMo_read [pm_r 29 0, pm_i (nI k), pm_i a2, pm_i a3, pm_i (nI n)] M1 (some (pm_i v)) M' := by
        intro v kk
        refine pm_Sem_of (ls := [some (pm_r 29 0), some (pm_i (nI k)), some (pm_i a2), some (pm_i a3), some (pm_i (nI n)), none, none, none, none, none, none]) ok_mMo_read (by decide +kernel) rfl (by decide) (Nat.le_of_ble_eq_true rfl) rfl ?_
        refine bMo_read_0 eMo_isSheet (bMo_read_5 (fun q => ?_) (fun _ => bMo_read_8 eMo_in (bMo_read_18 (fun q => ?_) (fun _ => bMo_read_23 (wMo_read_26 (bMo_read_53 kk))))))
        · exact absurd (sheet_bad.mp q) hb1
        · exact absurd ((mo_in (nI n) 0 20 M1 M).symm.trans q) hb3
      refine ⟨M', tch_trans (tch_mono t9 (by decide)) (tch_mono y1 (by decide)), ?_⟩
      revert y2
      cases rd (rF (M.1 27 k 0) (M.1 27 k 1) a2 a3) (fun i => M.1 28 k (a3.toInt + 2 * i).toNat) (fun i => M.1 28 k ((a3.toInt + 2 * i).toNat + 1)) T n 0 (M.1 30 0) with
      | inl j9 => exact fun q2 => ⟨go q2.1, q2.2.1, by rw [q2.2.2, t9 29 0 (by decide), g29]⟩
      | inr z =>
        obtain ⟨d, x, f'⟩ := z
        exact fun q2 => ⟨go q2.1, q2.2.1, q2.2.2.1, by rw [q2.2.2.2, t9 29 0 (by decide), g29]⟩
    revert x2 ref
    cases rd (rF (M.1 27 k 0) (M.1 27 k 1) a2 a3) (fun i => M.1 28 k (a3.toInt + 2 * i).toNat) (fun i => M.1 28 k ((a3.toInt + 2 * i).toNat + 1)) T n 0 (M.1 30 0) with
    | inl j =>
      intro x2 ref
      obtain ⟨M', y1, y2, y3, y4⟩ := ref Mx (csx.1 29 0 rfl) (csx.1 30 0 rfl) (csx.1 40 0 rfl) (csx.1 41 0 rfl) (csx.1 42 0 rfl)
      refine ⟨_, Mx, M', cls x2, y2, ?_⟩
      have hI1 := Inv_cs hI csx
      have ew : ∀ a k', 4 ≤ a → a ≤ 11 → k' ≠ 1 → M'.1 a k' = M.1 a k' := fun a k' a4 a11 hk' => by
        rw [y1 a k' (by simp; omega), csx.1 a k' (by unfold cs_x; simp; omega)]
      refine Inv_gen hI1 (P := P) (T := T) ?_ y1 (by decide) (by rw [y4, csx.1 29 0 rfl]) (by rw [y4, csx.1 29 0 rfl]) (by rw [y4, y1 0 0 (by decide), csx.1 0 0 rfl]; exact hI.2.2.2.2)
      refine iW_mk hW (by rw [y1 2 0 (by decide), csx.1 2 0 rfl]) (by rw [y1 32 0 (by decide), csx.1 32 0 rfl]) (by rw [y4]) (by rw [y4]) (fun a k' a4 a11 hk' => ew a k' a4 a11 (by omega)) (fun y _ => by rw [y3]) ?_ (by rw [y3]; exact hv)
      rw [y3]
      exact cw_same h (fun a a4 a11 => ew a 0 a4 a11 (by decide))
    | inr z =>
      obtain ⟨d, x, f'⟩ := z
      intro x2 ref
      obtain ⟨x3, x4, x5, x6⟩ := x2
      have c0 := cw_copy (k := 0) (k1 := 1) (by decide) x3 hP h4
      have e1 := cls x6
      rw [show (gWh_copy 1 0 M).1 0 0 = M.1 0 0 from copy_ne (by omega)] at e1
      generalize hM1 : pm_set (gWh_copy 0 1 Mx) 0 0 (upd (M.1 0 0) 8 x) = M1 at e1
      have g : ∀ a b, a ≠ 0 → (a < 4 ∨ 11 < a ∨ b ≠ 0) → cs_x a b = false → M1.1 a b = M.1 a b := fun a b ha hb hc9 => by
        rw [← hM1, pm_set_ne _ _ (Ne.symm ha), copy_ne (by omega), csx.1 a b hc9]
      obtain ⟨M', y1, y2, y3, y4, y5⟩ := ref M1 (g 29 0 (by decide) (by omega) rfl) (g 30 0 (by decide) (by omega) rfl) (g 40 0 (by decide) (by omega) rfl) (g 41 0 (by decide) (by omega) rfl) (g 42 0 (by decide) (by omega) rfl)
      refine ⟨_, M1, M', e1, y2, ?_⟩
      have e0 : M1.1 0 0 8 = x := by rw [← hM1, pm_set_at, pk_us]
      refine ⟨⟨P, T, iW_mk hW (by rw [y1 2 0 (by decide), g 2 0 (by decide) (by omega) rfl]) (by rw [y1 32 0 (by decide), g 32 0 (by decide) (by omega) rfl]) (by rw [y5, pk_un (by decide)]) (by rw [y5, pk_un (by decide)]) (fun a k' a4 a11 hk' => ?_) y4 ?_ (ag_wv y3 x4)⟩, ?_, ?_, ?_, ?_⟩
      · rw [y1 a k' (by simp; omega), g a k' (by omega) (by omega) (by unfold cs_x; simp; omega)]
      · refine cw_ag hP h4 y3 (cw_same c0 (fun a a4 a11 => ?_))
        rw [y1 a 0 (by simp; omega), ← hM1, pm_set_ne _ _ (by omega)]
      · refine iT_same hI.2.1 ?_ ?_ ?_ ?_
        · rw [y1 21 0 (by decide), g 21 0 (by decide) (by omega) rfl]
        · rw [y1 22 0 (by decide), g 22 0 (by decide) (by omega) rfl]
        · rw [y5, pk_un (by decide)]
        · rw [y1 35 0 (by decide), g 35 0 (by decide) (by omega) rfl]
      · rw [y1 23 0 (by decide), g 23 0 (by decide) (by omega) rfl, y5, pk_un (by decide)]
        exact hI.2.2.1
      · refine iS_same hI.2.2.2.1 (fun k' => ?_) (fun k' => ?_) ?_ ?_ ?_
        · rw [y1 27 k' (by decide), g 27 k' (by decide) (by omega) rfl]
        · rw [y1 28 k' (by decide), g 28 k' (by decide) (by omega) rfl]
        · rw [y1 40 0 (by decide), g 40 0 (by decide) (by omega) rfl]
        · rw [y1 41 0 (by decide), g 41 0 (by decide) (by omega) rfl]
        · rw [y1 42 0 (by decide), g 42 0 (by decide) (by omega) rfl]
      · rw [y1 0 0 (by decide), y5, pk_us]
        exact e0
