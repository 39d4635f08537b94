/-! draw -/
theorem draw_ag {f g : Nat → Int32} {T t j : Nat} (a : ag g f) (hT : T ≤ 4) (ht : t < T) (hj : j < T) : ag (md_draw T t j g) (md_draw T t j f) := by
  intro y hy
  unfold md_draw
  by_cases q : y < 4
  · rw [if_pos q, if_pos q]
    unfold md_day
    rw [if_pos q, if_pos q, a (24 + j) (by omega), ag_sh a (by omega)]
    congr 1
    refine pm_acc_congr (a y hy) (fun u hu => ?_)
    rw [a _ (by omega), ag_gn a (by omega)]
  · rw [if_neg q, if_neg q, a y hy]
theorem tv_ag {f g : Nat → Int32} {T : Nat} (a : ag g f) (hT : T ≤ 4) (h : md_tv f T) : md_tv g T := fun u hu => by
  rw [a _ (by omega), a _ (by omega)]
  exact h u hu
theorem ref_bad {M : pm_M} {k : Nat} {f : Nat → Int32} {P T : Nat} {a1 a2 : Int32} (h : cw M k f P T) (h4 : T ≤ 4) (hb : (¬ ∃ t, t < T ∧ a1 = nI t) ∨ ¬ ∃ t, t < T ∧ a2 = nI t) : fWh_refusal k a1 a2 M = -1 ∧ sWh_refusal k a1 a2 M := by
  unfold fWh_refusal sWh_refusal
  by_cases q1 : fWh_hasTicket k a1 M = 0
  · rw [if_pos q1]
    exact ⟨rfl, fun _ => trivial, fun q => absurd q1 q⟩
  · have q2 := (has_bad h.2.1 h4 (hb.resolve_left (fun q => q1 (has_bad h.2.1 h4 q).1))).2
    rw [if_neg q1, if_pos q2]
    exact ⟨rfl, fun _ => trivial, fun _ => ⟨fun _ => trivial, fun q => absurd q2 q⟩⟩
theorem ref_at {M : pm_M} {k : Nat} {f : Nat → Int32} {P T t j : Nat} (h : cw M k f P T) (h4 : T ≤ 4) (ht : t < T) (hj : j < T) : fWh_refusal k (nI t) (nI j) M = (if f (8 + 5 * t) = -4 then (if f (28 + j) = -4 then 0 else -2) else -2) ∧ sWh_refusal k (nI t) (nI j) M := by
  have c1 : ¬ fWh_hasTicket k (nI t) M = 0 := by rw [(has_good h.2.1 h4 ht).1]; decide
  have c2 : ¬ fWh_hasPrize k (nI j) M = 0 := by rw [(has_good h.2.1 h4 hj).2]; decide
  have i1 : fWh_isTicketIn k (nI t) M = if f (8 + 5 * t) = -4 then 1 else 0 := by rw [fWh_isTicketIn_at h.2.1 h4 ht, h.2.2.2.2.2.1 t ht]
  have i2 : fWh_isPrizeIn k (nI j) M = if f (28 + j) = -4 then 1 else 0 := by rw [fWh_isPrizeIn_at h.2.1 h4 hj, h.2.2.2.2.2.2.2.1 j hj]
  unfold fWh_refusal sWh_refusal
  rw [if_neg c1, if_neg c2, i1, i2]
  refine ⟨?_, fun _ => trivial, fun _ => ⟨fun _ => trivial, fun _ => ⟨⟨fun _ => trivial, fun _ => pm_vin (by omega) (by omega)⟩, fun _ => trivial, fun _ => ⟨fun _ => trivial, fun _ => pm_vin (by omega) (by omega)⟩⟩⟩⟩
  by_cases q1 : f (8 + 5 * t) = -4
  · rw [if_pos q1, if_pos q1, if_neg (by decide)]
    by_cases q2 : f (28 + j) = -4
    · rw [if_pos q2, if_pos q2, if_neg (by decide)]
    · rw [if_neg q2, if_neg q2, if_pos rfl]
  · rw [if_neg q1, if_neg q1, if_pos rfl]
theorem mo_draw_bad {M : pm_M} {f : Nat → Int32} {P T : Nat} {a1 a2 : Int32} (hv : wv f P T) (hw : mw M f P T) (hb : (¬ ∃ t, t < T ∧ a1 = nI t) ∨ ¬ ∃ t, t < T ∧ a2 = nI t) : pm_Ev mMo_draw [pm_r 29 0, pm_i a1, pm_i a2] M (some (pm_i (-1))) M := by
  have h4 := hv.2.1
  by_cases q1 : fMo_isTicket a1 M = 0
  · have hev := eMo_draw (a1 := a1) (a2 := a2) (M := M) ⟨fun _ => trivial, fun q => absurd q1 q⟩
    unfold fMo_draw gMo_draw at hev
    rw [if_pos q1, if_pos q1] at hev
    exact hev
  · have q2 := moT_bad hw.2.2 h4 (hb.resolve_left (fun q => q1 (moT_bad hw.2.2 h4 q)))
    have hev := eMo_draw (a1 := a1) (a2 := a2) (M := M) ⟨fun _ => trivial, fun _ => ⟨fun _ => trivial, fun q => absurd q2 q⟩⟩
    unfold fMo_draw gMo_draw at hev
    rw [if_neg q1, if_neg q1, if_pos q2, if_pos q2] at hev
    exact hev
theorem mo_draw {M : pm_M} {f : Nat → Int32} {P T t j : Nat} (hv : wv f P T) (hw : mw M f P T) (ht : t < T) (hj : j < T) : ∃ M', pm_Ev mMo_draw [pm_r 29 0, pm_i (nI t), pm_i (nI j)] M (some (pm_i (if f (8 + 5 * t) = -4 then (if f (28 + j) = -4 then f (24 + j) else -2) else -2))) M' ∧ tch [30, 31] M M' ∧ (f (8 + 5 * t) = -4 → f (28 + j) = -4 → ag (M'.1 30 0) (md_draw T t j f) ∧ ∀ y, 45 ≤ y → M'.1 30 0 y = f y) ∧ ((¬ f (8 + 5 * t) = -4 ∨ ¬ f (28 + j) = -4) → M' = M) := by
  have h4 := hv.2.1
  have c1 : ¬ fMo_isTicket (nI t) M = 0 := by rw [moT_good hw.2.2 h4 ht]; decide
  have c2 : ¬ fMo_isTicket (nI j) M = 0 := by rw [moT_good hw.2.2 h4 hj]; decide
  have i2 : fMo_isDrawn (nI t) M = if f (8 + 5 * t) = -4 then 0 else 1 := by unfold fMo_isDrawn; rw [md_i4 (by omega), hw.1]
  have sd : sMo_isDrawn (nI t) M := (md_v (show t < 4 by omega)).2.2.2.1
  have mv := md_v (show j < 4 by omega)
  have e9 : (gMo_starts M).1 29 0 4 = nI T := hw.2.2
  have a0 : ag ((gMo_starts M).1 31 0) f := fun y hy => by
    unfold gMo_starts
    rw [pm_set_at, if_pos hy, hw.1]
  have hev := eMo_draw (a1 := nI t) (a2 := nI j) (M := M) ⟨fun _ => trivial, fun _ => ⟨fun _ => trivial, fun _ => ⟨sd, fun _ => ⟨mv.2.2.2.2.2, fun _ => ⟨⟨T, t, j, h4, ht, by omega, e9, rfl, rfl, tv_ag a0 h4 (wv_tv hv)⟩, mv.2.2.2.2.1⟩, fun _ => trivial⟩, fun _ => trivial⟩⟩⟩
  unfold fMo_draw gMo_draw at hev
  rw [if_neg c1, if_neg c1, if_neg c2, if_neg c2, i2, md_iB (by omega), hw.1] at hev
  by_cases q1 : f (8 + 5 * t) = -4
  · by_cases q2 : f (28 + j) = -4
    · rw [if_pos q1, if_pos rfl, if_pos rfl, if_pos q2, if_pos q2, e9, md_iP (by omega)] at hev
      generalize hM' : gMo_settles (gMo_draws (nI T) (nI t) (nI j) (gMo_starts M)) = M' at hev
      have e30 : M'.1 30 0 = fun y => if y < 45 then md_draw T t j ((gMo_starts M).1 31 0) y else f y := by
        rw [← hM']
        unfold gMo_settles gMo_draws
        rw [pm_set_at, pm_set_at, pm_set_ne _ _ (by decide), pm_cl4 (by omega), pm_cl4 (by omega), pm_cl4 (by omega), show (gMo_starts M).1 30 0 = f from hw.1]
      have aa := draw_ag a0 h4 ht hj
      have ev : M'.1 30 0 (24 + j) = f (24 + j) := by
        rw [e30]
        dsimp only
        rw [if_pos (by omega), aa _ (by omega)]
        unfold md_draw
        rw [if_neg (by omega), if_neg (by omega), if_neg (by omega)]
      rw [ev] at hev
      refine ⟨M', ?_, ?_, fun _ _ => ⟨fun y hy => ?_, fun y hy => ?_⟩, fun q => ?_⟩
      · rw [if_pos q1, if_pos q2]
        exact hev
      · rw [← hM']
        unfold gMo_settles gMo_draws gMo_starts
        exact tch_set (tch_set (tch_set tch_rfl (by decide)) (by decide)) (by decide)
      · rw [e30]
        dsimp only
        rw [if_pos hy]
        exact aa y hy
      · rw [e30]
        dsimp only
        rw [if_neg (by omega)]
      · rcases q with q | q
        · exact absurd q1 q
        · exact absurd q2 q
    · rw [if_pos q1, if_pos rfl, if_pos rfl, if_neg q2, if_neg q2] at hev
      refine ⟨M, ?_, tch_rfl, fun _ q => absurd q q2, fun _ => rfl⟩
      rw [if_pos q1, if_neg q2]
      exact hev
  · rw [if_neg q1, if_neg (by decide), if_neg (by decide)] at hev
    refine ⟨M, ?_, tch_rfl, fun q => absurd q q1, fun _ => rfl⟩
    rw [if_neg q1]
    exact hev
theorem tch_pull {k : Nat} {a1 a2 : Int32} {M : pm_M} : tch [5, 7, 9] M (gWh_pull k a1 a2 M) := by
  unfold gWh_pull
  exact tch_set (tch_set (tch_set tch_rfl (by decide)) (by decide)) (by decide)
theorem pull_nk {k k' : Nat} {a1 a2 : Int32} {M : pm_M} {a : Nat} (h : k' ≠ k) : (gWh_pull k a1 a2 M).1 a k' = M.1 a k' := by
  unfold gWh_pull
  rw [set_nk h, set_nk h, set_nk h]
theorem ok_draw (a1 a2 : Int32) : OkI mWt_draw mMo_draw [pm_i a1, pm_i a2] := by
  intro M hI
  obtain ⟨P, T, hW⟩ := hI.1
  obtain ⟨h, hv, hw3, hw4, _⟩ := id hW
  have h4 := hv.2.1
  have hP := hv.1
  have hw : mw M (M.1 30 0) P T := ⟨rfl, hw3, hw4⟩
  by_cases hb : (¬ ∃ t, t < T ∧ a1 = nI t) ∨ ¬ ∃ t, t < T ∧ a2 = nI t
  · obtain ⟨r1, r2⟩ := ref_bad h h4 hb
    have r3 : ¬ fWh_refusal 0 a1 a2 M = 0 := by rw [r1]; decide
    have e1 := eWt_draw (a1 := a1) (a2 := a2) (M := M) ⟨r2, fun q => absurd q r3, fun _ => trivial⟩
    unfold fWt_draw gWt_draw at e1
    rw [if_neg r3, if_neg r3, r1] at e1
    exact okI_no hI e1 (mo_draw_bad hv hw hb)
  · obtain ⟨hb1, hb2⟩ := not_or.mp hb
    obtain ⟨t, ht, rfl⟩ := Classical.not_not.mp hb1
    obtain ⟨j, hj, rfl⟩ := Classical.not_not.mp hb2
    obtain ⟨r1, r2⟩ := ref_at h h4 ht hj
    obtain ⟨p1, p2⟩ := cw_pull h hP h4 ht hj
    have e1 := eWt_draw (a1 := nI t) (a2 := nI j) (M := M) ⟨r2, fun _ => ⟨p2, pm_vin (by omega) (by omega)⟩, fun _ => trivial⟩
    unfold fWt_draw gWt_draw at e1
    rw [r1] at e1
    by_cases q : M.1 30 0 (8 + 5 * t) = -4 ∧ M.1 30 0 (28 + j) = -4
    · rw [if_pos q.1, if_pos q.2, if_pos rfl, if_pos rfl, pm_cl4 (by omega), tch_pull 8 0 (by decide), h.2.2.2.2.2.2.1 j hj] at e1
      generalize hM1 : gWh_pull 0 (nI t) (nI j) M = M1 at e1
      have t1 : tch [5, 7, 9] M M1 := by rw [← hM1]; exact tch_pull
      obtain ⟨M2, k1, k2, k3, k4⟩ := mo_draw (M := M1) (f := M.1 30 0) hv ⟨t1 30 0 (by decide), by rw [t1 29 0 (by decide)]; exact hw3, by rw [t1 29 0 (by decide)]; exact hw4⟩ ht hj
      rw [if_pos q.1, if_pos q.2] at k1
      obtain ⟨k5, k6⟩ := k3 q.1 q.2
      refine ⟨_, M1, M2, e1, k1, ?_⟩
      have tt : tch [5, 7, 9, 30, 31] M M2 := tch_trans (tch_mono t1 (by decide)) (tch_mono k2 (by decide))
      refine Inv_wheel (P := P) (T := T) hI tt (by decide) (iW_mk hW (tt 2 0 (by decide)) (tt 32 0 (by decide)) (by rw [tt 29 0 (by decide)]) (by rw [tt 29 0 (by decide)]) (fun a k a4 a11 hk => ?_) k6 ?_ ?_)
      · rw [k2 a k (by simp; omega), ← hM1, pull_nk (by omega)]
      · refine cw_ag hP h4 k5 (cw_same p1 (fun a a4 a11 => ?_))
        rw [k2 a 0 (by simp; omega), ← hM1]
      · exact ag_wv k5 (wv_draw hv ht hj q.1 q.2)
    · have r3 : (if M.1 30 0 (8 + 5 * t) = -4 then (if M.1 30 0 (28 + j) = -4 then (0 : Int32) else -2) else -2) = -2 := by
        by_cases q1 : M.1 30 0 (8 + 5 * t) = -4
        · rw [if_pos q1, if_neg (fun q2 => q ⟨q1, q2⟩)]
        · rw [if_neg q1]
      have r4 : (if M.1 30 0 (8 + 5 * t) = -4 then (if M.1 30 0 (28 + j) = -4 then M.1 30 0 (24 + j) else -2) else -2) = -2 := by
        by_cases q1 : M.1 30 0 (8 + 5 * t) = -4
        · rw [if_pos q1, if_neg (fun q2 => q ⟨q1, q2⟩)]
        · rw [if_neg q1]
      rw [r3, if_neg (by decide), if_neg (by decide)] at e1
      obtain ⟨M2, k1, k2, k3, k4⟩ := mo_draw (M := M) hv hw ht hj
      have k5 := k4 (by
        by_cases q1 : M.1 30 0 (8 + 5 * t) = -4
        · exact Or.inr (fun q2 => q ⟨q1, q2⟩)
        · exact Or.inl q1)
      rw [r4, k5] at k1
      exact okI_no hI e1 k1
