/-! fill, promise, sign -/
theorem cw_purse {M : pm_M} {k : Nat} {f : Nat → Int32} {P T p : Nat} {x : Int32} (h : cw M k f P T) (hP : P ≤ 4) (hT : T ≤ 4) (hp : p < P) : cw (pm_set M 5 k (upd (M.1 5 k) p x)) k (upd f p x) P T := by
  obtain ⟨h1, h2, h3, h5, h6, h7, h8, h9, h10⟩ := h
  have u : ∀ y, y ≠ p → upd f p x y = f y := fun y hy => pk_un hy
  unfold cw
  rw [pm_set_ne _ _ (show 5 ≠ 4 by decide), pm_set_at, pm_set_ne _ _ (show 5 ≠ 6 by decide), pm_set_ne _ _ (show 5 ≠ 7 by decide), pm_set_ne _ _ (show 5 ≠ 8 by decide), pm_set_ne _ _ (show 5 ≠ 9 by decide), pm_set_ne _ _ (show 5 ≠ 10 by decide), pm_set_ne _ _ (show 5 ≠ 11 by decide)]
  refine ⟨h1, h2, h3.trans (u _ (by omega)).symm, fun q hq => ?_, fun t w ht hw => (h6 t w ht hw).trans (u _ (by omega)).symm, fun t ht => (h7 t ht).trans (u _ (by omega)).symm, fun t ht => (h8 t ht).trans (u _ (by omega)).symm, fun t ht => (h9 t ht).trans (u _ (by omega)).symm, fun s i hs h6' hi => ?_⟩
  · by_cases e : q = p
    · subst e
      rw [pk_us, pk_us]
    · rw [pk_un e, pk_un e]
      exact h5 q hq
  · rw [u _ (by omega)] at hs
    rw [u _ (by omega), u _ (by omega)]
    exact h10 s i hs h6' hi
theorem aL_of {f g : Nat → Int32} {T : Nat} (h : ∀ t, t < T → g (8 + 5 * t) = f (8 + 5 * t)) (h' : ∀ t, t < T → g (28 + t) = f (28 + t)) : aL g T = aL f T ∧ aP g T = aP f T := ⟨md_lst_congr (fun i hi => by rw [h i hi]), md_lst_congr (fun i hi => by rw [h' i hi])⟩
theorem wv_purse {f : Nat → Int32} {P T p v : Nat} (hv : wv f P T) (hp : p < P) (h99 : v ≤ 99) : wv (upd f p (nI v)) P T := by
  obtain ⟨h1, h2, h3, h4, h5, h6, h7, ⟨s, h8, h9, h10⟩, h11⟩ := hv
  have u : ∀ y, y ≠ p → upd f p (nI v) y = f y := fun y hy => pk_un hy
  obtain ⟨e1, e2⟩ := aL_of (f := f) (g := upd f p (nI v)) (T := T) (fun t ht => u _ (by omega)) (fun t ht => u _ (by omega))
  refine ⟨h1, h2, fun t ht => ?_, fun t ht => ?_, fun t ht => ?_, fun t ht => ?_, by rw [e1, e2]; exact h7, ⟨s, h8, ?_, fun i hi => ?_⟩, fun q hq => ?_⟩
  · rw [u _ (by omega), u _ (by omega), u _ (by omega), u _ (by omega)]
    exact h3 t ht
  · rw [u _ (by omega)]
    exact h4 t ht
  · rw [u _ (by omega)]
    exact h5 t ht
  · rw [u _ (by omega)]
    exact h6 t ht
  · rw [u _ (by omega)]
    exact h9
  · rw [u _ (by omega)]
    exact h10 i hi
  · rw [e1]
    by_cases e : q = p
    · subst e
      rw [pk_us, nI_toInt (by omega)]
      omega
    · rw [pk_un e]
      exact h11 q hq
/-- the new wheel of class and reference, where one number of each has changed -/
theorem Inv_one {M M2 : pm_M} {P T : Nat} (hI : Inv M) (h : iW M P T) {t i j : Nat} {x y : Int32} (ht : 4 ≤ t ∧ t ≤ 11) (hM2 : pm_set (pm_set M t 0 (upd (M.1 t 0) i x)) 30 0 (upd (M.1 30 0) j y) = M2) (hj : j < 45) (c : cw (pm_set M t 0 (upd (M.1 t 0) i x)) 0 (upd (M.1 30 0) j y) P T) (v : wv (upd (M.1 30 0) j y) P T) : Inv M2 := by
  have tt : tch [t, 30] M M2 := by
    rw [← hM2]
    exact tch_set (tch_set tch_rfl (by simp)) (by simp)
  have e30 : M2.1 30 0 = upd (M.1 30 0) j y := by rw [← hM2, pm_set_at]
  have g : ∀ z, z ≠ t → z ≠ 30 → z ∉ [t, 30] := fun z a b => by simp [a, b]
  refine Inv_wheel (P := P) (T := T) hI tt (fun z hz => ?_) (iW_mk h (tt 2 0 (g _ (by omega) (by omega))) (tt 32 0 (g _ (by omega) (by omega))) (by rw [tt 29 0 (g _ (by omega) (by omega))]) (by rw [tt 29 0 (g _ (by omega) (by omega))]) (fun a k h4 h11 hk => ?_) (fun z hz => ?_) ?_ ?_)
  · simp at hz
    omega
  · rw [← hM2, pm_set_ne _ _ (by omega), set_nk (by omega)]
  · rw [e30, pk_un (by omega)]
  · rw [e30]
    exact cw_same c (fun a h4 h11 => by rw [← hM2, pm_set_ne _ _ (by omega)])
  · rw [e30]
    exact v
theorem ok_fill (a1 a2 : Int32) : OkI mWt_fill mMo_fill [pm_i a1, pm_i a2] := by
  intro M hI
  obtain ⟨P, T, hW⟩ := hI.1
  obtain ⟨h, hv, hw3, hw4, _⟩ := id hW
  have h4 := hv.2.1
  have hP := hv.1
  by_cases hb : (¬ ∃ t, t < P ∧ a1 = nI t) ∨ fWt_within a2 0 99 M = 0
  · have e1 : pm_Ev mWt_fill [pm_r 0 0, pm_i a1, pm_i a2] M (some (pm_i (-1))) M := by
      by_cases q1 : fWh_hasPerson 0 a1 M = 0
      · have hev := eWt_fill (a1 := a1) (a2 := a2) (M := M) ⟨fun _ => trivial, fun q => absurd q1 q⟩
        unfold fWt_fill gWt_fill at hev
        rw [if_pos q1, if_pos q1] at hev
        exact hev
      · have q2 := hb.resolve_left (fun q => q1 (hasP_bad h.1 hP q))
        have hev := eWt_fill (a1 := a1) (a2 := a2) (M := M) ⟨fun _ => trivial, fun _ => ⟨fun _ => trivial, fun q => absurd q2 q⟩⟩
        unfold fWt_fill gWt_fill at hev
        rw [if_neg q1, if_neg q1, if_pos q2, if_pos q2] at hev
        exact hev
    have e2 : pm_Ev mMo_fill [pm_r 29 0, pm_i a1, pm_i a2] M (some (pm_i (-1))) M := by
      by_cases q1 : fMo_isPerson a1 M = 0
      · have hev := eMo_fill (a1 := a1) (a2 := a2) (M := M) ⟨fun _ => trivial, fun q => absurd q1 q⟩
        unfold fMo_fill gMo_fill at hev
        rw [if_pos q1, if_pos q1] at hev
        exact hev
      · have q2 : fMo_in a2.toInt64 0 99 M = 0 := (mo_in a2 0 99 M M).trans (hb.resolve_left (fun q => q1 (moP_bad hw3 hP q)))
        have hev := eMo_fill (a1 := a1) (a2 := a2) (M := M) ⟨fun _ => trivial, fun _ => ⟨fun _ => trivial, fun q => absurd q2 q⟩⟩
        unfold fMo_fill gMo_fill at hev
        rw [if_neg q1, if_neg q1, if_pos q2, if_pos q2] at hev
        exact hev
    exact okI_no hI e1 e2
  · obtain ⟨hb1, hb2⟩ := not_or.mp hb
    obtain ⟨p, hp, rfl⟩ := Classical.not_not.mp hb1
    obtain ⟨v, hv9, rfl⟩ := within_of (n := 99) (by omega) hb2
    have c1 : ¬ fWh_hasPerson 0 (nI p) M = 0 := by rw [hasP_good h.1 hP hp]; decide
    have e1 := eWt_fill (a1 := nI p) (a2 := nI v) (M := M) ⟨fun _ => trivial, fun _ => ⟨fun _ => trivial, fun _ => ⟨pm_vin (by omega) (by omega), pm_vin (by omega) (by omega)⟩⟩⟩
    unfold fWt_fill gWt_fill at e1
    rw [if_neg c1, if_neg c1, if_neg hb2, if_neg hb2, pm_cl4 (by omega), h.2.2.2.1 p hp] at e1
    generalize hM1 : pm_set M 5 0 (upd (M.1 5 0) p (nI v)) = M1 at e1
    have a29 : M1.1 29 0 = M.1 29 0 := by rw [← hM1]; rfl
    have a30 : M1.1 30 0 = M.1 30 0 := by rw [← hM1]; rfl
    have c2 : ¬ fMo_isPerson (nI p) M1 = 0 := by rw [moP_good (by rw [a29]; exact hw3) hP hp]; decide
    have c3 : ¬ fMo_in (nI v).toInt64 0 99 M1 = 0 := by rw [show fMo_in (nI v).toInt64 0 99 M1 = fWt_within (nI v) 0 99 M from mo_in (nI v) 0 99 M1 M]; exact hb2
    have e2 := eMo_fill (a1 := nI p) (a2 := nI v) (M := M1) ⟨fun _ => trivial, fun _ => ⟨fun _ => trivial, fun _ => ⟨pm_vin (by omega) (by omega), pm_vin (by omega) (by omega)⟩⟩⟩
    unfold fMo_fill gMo_fill fMo_becomes gMo_becomes at e2
    rw [if_neg c2, if_neg c2, if_neg c3, if_neg c3, pm_cl4 (by omega), a30] at e2
    refine ⟨_, M1, _, e1, e2, ?_⟩
    exact Inv_one hI hW (t := 5) (by decide) (by rw [hM1]) (by omega) (cw_purse h hP h4 hp) (wv_purse hv hp hv9)
theorem cw_amount {M : pm_M} {k : Nat} {f : Nat → Int32} {P T z : Nat} {x : Int32} (h : cw M k f P T) (hP : P ≤ 4) (hT : T ≤ 4) (hz : z < T) : cw (pm_set M 8 k (upd (M.1 8 k) z x)) k (upd f (24 + z) x) P T := by
  obtain ⟨h1, h2, h3, h5, h6, h7, h8, h9, h10⟩ := h
  have u : ∀ y, y ≠ 24 + z → upd f (24 + z) x y = f y := fun y hy => pk_un hy
  unfold cw
  rw [pm_set_ne _ _ (show 8 ≠ 4 by decide), pm_set_at, pm_set_ne _ _ (show 8 ≠ 5 by decide), pm_set_ne _ _ (show 8 ≠ 6 by decide), pm_set_ne _ _ (show 8 ≠ 7 by decide), pm_set_ne _ _ (show 8 ≠ 9 by decide), pm_set_ne _ _ (show 8 ≠ 10 by decide), pm_set_ne _ _ (show 8 ≠ 11 by decide)]
  refine ⟨h1, h2, h3.trans (u _ (by omega)).symm, fun q hq => (h5 q hq).trans (u _ (by omega)).symm, fun t w ht hw => (h6 t w ht hw).trans (u _ (by omega)).symm, fun t ht => (h7 t ht).trans (u _ (by omega)).symm, fun t ht => ?_, fun t ht => (h9 t ht).trans (u _ (by omega)).symm, fun s i hs h6' hi => ?_⟩
  · by_cases e : t = z
    · subst e
      rw [pk_us, pk_us]
    · rw [pk_un e, pk_un (by omega)]
      exact h8 t ht
  · rw [u _ (by omega)] at hs
    rw [u _ (by omega), u _ (by omega)]
    exact h10 s i hs h6' hi
theorem wv_amount {f : Nat → Int32} {P T z v : Nat} (hv : wv f P T) (hz : z < T) (h99 : v ≤ 99) : wv (upd f (24 + z) (nI v)) P T := by
  obtain ⟨h1, h2, h3, h4, h5, h6, h7, ⟨s, h8, h9, h10⟩, h11⟩ := hv
  have u : ∀ y, y ≠ 24 + z → upd f (24 + z) (nI v) y = f y := fun y hy => pk_un hy
  obtain ⟨e1, e2⟩ := aL_of (f := f) (g := upd f (24 + z) (nI v)) (T := T) (fun t ht => u _ (by omega)) (fun t ht => u _ (by omega))
  refine ⟨h1, h2, fun t ht => ?_, fun t ht => ?_, fun t ht => ?_, fun t ht => ?_, by rw [e1, e2]; exact h7, ⟨s, h8, ?_, fun i hi => ?_⟩, fun q hq => ?_⟩
  · rw [u _ (by omega), u _ (by omega), u _ (by omega), u _ (by omega)]
    exact h3 t ht
  · by_cases e : t = z
    · subst e
      exact ⟨v, h99, pk_us⟩
    · rw [u _ (by omega)]
      exact h4 t ht
  · rw [u _ (by omega)]
    exact h5 t ht
  · rw [u _ (by omega)]
    exact h6 t ht
  · rw [u _ (by omega)]
    exact h9
  · rw [u _ (by omega)]
    exact h10 i hi
  · rw [e1, u _ (by omega)]
    exact h11 q hq
theorem ok_promise (a1 a2 : Int32) : OkI mWt_promise mMo_promise [pm_i a1, pm_i a2] := by
  intro M hI
  obtain ⟨P, T, hW⟩ := hI.1
  obtain ⟨h, hv, hw3, hw4, _⟩ := id hW
  have h4 := hv.2.1
  have hP := hv.1
  by_cases hb : (¬ ∃ t, t < T ∧ a1 = nI t) ∨ fWt_within a2 0 99 M = 0
  · have e1 : pm_Ev mWt_promise [pm_r 0 0, pm_i a1, pm_i a2] M (some (pm_i (-1))) M := by
      by_cases q1 : fWh_hasPrize 0 a1 M = 0
      · have hev := eWt_promise (a1 := a1) (a2 := a2) (M := M) ⟨fun _ => trivial, fun q => absurd q1 q⟩
        unfold fWt_promise gWt_promise at hev
        rw [if_pos q1, if_pos q1] at hev
        exact hev
      · have q2 := hb.resolve_left (fun q => q1 (has_bad h.2.1 h4 q).2)
        have hev := eWt_promise (a1 := a1) (a2 := a2) (M := M) ⟨fun _ => trivial, fun _ => ⟨fun _ => trivial, fun q => absurd q2 q⟩⟩
        unfold fWt_promise gWt_promise at hev
        rw [if_neg q1, if_neg q1, if_pos q2, if_pos q2] at hev
        exact hev
    have e2 : pm_Ev mMo_promise [pm_r 29 0, pm_i a1, pm_i a2] M (some (pm_i (-1))) M := by
      by_cases q1 : fMo_isTicket a1 M = 0
      · have hev := eMo_promise (a1 := a1) (a2 := a2) (M := M) ⟨fun _ => trivial, fun q => absurd q1 q⟩
        unfold fMo_promise gMo_promise at hev
        rw [if_pos q1, if_pos q1] at hev
        exact hev
      · have q2 : fMo_in a2.toInt64 0 99 M = 0 := (mo_in a2 0 99 M M).trans (hb.resolve_left (fun q => q1 (moT_bad hw4 h4 q)))
        have hev := eMo_promise (a1 := a1) (a2 := a2) (M := M) ⟨fun _ => trivial, fun _ => ⟨fun _ => trivial, fun q => absurd q2 q⟩⟩
        unfold fMo_promise gMo_promise at hev
        rw [if_neg q1, if_neg q1, if_pos q2, if_pos q2] at hev
        exact hev
    exact okI_no hI e1 e2
  · obtain ⟨hb1, hb2⟩ := not_or.mp hb
    obtain ⟨z, hz, rfl⟩ := Classical.not_not.mp hb1
    obtain ⟨v, hv9, rfl⟩ := within_of (n := 99) (by omega) hb2
    have c1 : ¬ fWh_hasPrize 0 (nI z) M = 0 := by rw [(has_good h.2.1 h4 hz).2]; decide
    have i1 : fWh_isPrizeIn 0 (nI z) M = if M.1 30 0 (28 + z) = -4 then 1 else 0 := by rw [fWh_isPrizeIn_at h.2.1 h4 hz, h.2.2.2.2.2.2.2.1 z hz]
    have si : sWh_isPrizeIn 0 (nI z) M := ⟨fun _ => trivial, fun _ => pm_vin (by omega) (by omega)⟩
    have e1 := eWt_promise (a1 := nI z) (a2 := nI v) (M := M) ⟨fun _ => trivial, fun _ => ⟨fun _ => trivial, fun _ => ⟨si, fun _ => trivial, fun _ => ⟨pm_vin (by omega) (by omega), pm_vin (by omega) (by omega)⟩⟩⟩⟩
    unfold fWt_promise gWt_promise at e1
    rw [if_neg c1, if_neg c1, if_neg hb2, if_neg hb2, pm_cl4 (by omega), i1, h.2.2.2.2.2.2.1 z hz] at e1
    have e2 : ∀ M1 : pm_M, M1.1 29 0 = M.1 29 0 → M1.1 30 0 = M.1 30 0 → pm_Ev mMo_promise [pm_r 29 0, pm_i (nI z), pm_i (nI v)] M1 (some (pm_i (if M.1 30 0 (28 + z) = -4 then M.1 30 0 (24 + z) else -2))) (if M.1 30 0 (28 + z) = -4 then pm_set M1 30 0 (upd (M.1 30 0) (24 + z) (nI v)) else M1) := by
      intro M1 a29 a30
      have c2 : ¬ fMo_isTicket (nI z) M1 = 0 := by rw [moT_good (by rw [a29]; exact hw4) h4 hz]; decide
      have c3 : ¬ fMo_in (nI v).toInt64 0 99 M1 = 0 := by rw [show fMo_in (nI v).toInt64 0 99 M1 = fWt_within (nI v) 0 99 M from mo_in (nI v) 0 99 M1 M]; exact hb2
      have mv := md_v (show z < 4 by omega)
      have hev := eMo_promise (a1 := nI z) (a2 := nI v) (M := M1) ⟨fun _ => trivial, fun _ => ⟨fun _ => trivial, fun _ => ⟨mv.2.2.2.2.2, fun _ => ⟨mv.2.2.2.2.1, mv.2.2.2.2.1⟩, fun _ => trivial⟩⟩⟩
      unfold fMo_promise gMo_promise fMo_becomes gMo_becomes at hev
      rw [if_neg c2, if_neg c2, if_neg c3, if_neg c3, md_iP (by omega), md_iB (by omega), a30] at hev
      exact hev
    by_cases hd : M.1 30 0 (28 + z) = -4
    · rw [if_pos hd, if_neg (by decide), if_neg (by decide)] at e1
      have e2 := e2 (pm_set M 8 0 (upd (M.1 8 0) z (nI v))) rfl rfl
      rw [if_pos hd, if_pos hd] at e2
      exact ⟨_, _, _, e1, e2, Inv_one hI hW (t := 8) (by decide) rfl (by omega) (cw_amount h hP h4 hz) (wv_amount hv hz hv9)⟩
    · rw [if_neg hd, if_pos rfl, if_pos rfl] at e1
      have e2 := e2 M rfl rfl
      rw [if_neg hd, if_neg hd] at e2
      exact okI_no hI e1 e2
