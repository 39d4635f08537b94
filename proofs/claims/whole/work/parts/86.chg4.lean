/-! see, forget -/
def seeF (f : Nat → Int32) (s : Nat) (x y : Int32) : Nat → Int32 := upd (upd (upd f (33 + 2 * s) x) (34 + 2 * s) y) 32 (nI (s + 1))
theorem seeF_at {f : Nat → Int32} {s j : Nat} {x y : Int32} (h1 : j ≠ 32) (h2 : j ≠ 33 + 2 * s) (h3 : j ≠ 34 + 2 * s) : seeF f s x y j = f j := by
  unfold seeF
  rw [pk_un h1, pk_un h3, pk_un h2]
theorem cw_seeF {M M' : pm_M} {k s : Nat} {f : Nat → Int32} {P T : Nat} {x y : Int32} (h : cw M k f P T) (hP : P ≤ 4) (hT : T ≤ 4) (hs : s < 6) (hf : f 32 = nI s) (hM : pm_set (pm_set (pm_set M 10 k (upd (M.1 10 k) s x)) 11 k (upd (M.1 11 k) s y)) 4 k (upd (M.1 4 k) 2 (nI (s + 1))) = M') : cw M' k (seeF f s x y) P T := by
  obtain ⟨h1, h2, h3, h5, h6, h7, h8, h9, h10⟩ := h
  have e : ∀ a, a ≠ 4 → a ≠ 10 → a ≠ 11 → M'.1 a k = M.1 a k := fun a a4 a10 a11 => by rw [← hM, pm_set_ne _ _ (Ne.symm a4), pm_set_ne _ _ (Ne.symm a11), pm_set_ne _ _ (Ne.symm a10)]
  have e4 : M'.1 4 k = upd (M.1 4 k) 2 (nI (s + 1)) := by rw [← hM, pm_set_at]
  have e10 : M'.1 10 k = upd (M.1 10 k) s x := by rw [← hM, pm_set_ne _ _ (by decide), pm_set_ne _ _ (by decide), pm_set_at]
  have e11 : M'.1 11 k = upd (M.1 11 k) s y := by rw [← hM, pm_set_ne _ _ (by decide), pm_set_at]
  unfold cw
  rw [e4, e10, e11, e 5 (by decide) (by decide) (by decide), e 6 (by decide) (by decide) (by decide), e 7 (by decide) (by decide) (by decide), e 8 (by decide) (by decide) (by decide), e 9 (by decide) (by decide) (by decide)]
  have f32 : seeF f s x y 32 = nI (s + 1) := by unfold seeF; rw [pk_us]
  refine ⟨by rw [pk_un (by decide)]; exact h1, by rw [pk_un (by decide)]; exact h2, by rw [pk_us, f32], fun p hp => ?_, fun t w ht hw => ?_, fun t ht => ?_, fun t ht => ?_, fun t ht => ?_, fun s' i hs' h6' hi => ?_⟩
  · rw [seeF_at (by omega) (by omega) (by omega)]
    exact h5 p hp
  · rw [seeF_at (by omega) (by omega) (by omega)]
    exact h6 t w ht hw
  · rw [seeF_at (by omega) (by omega) (by omega)]
    exact h7 t ht
  · rw [seeF_at (by omega) (by omega) (by omega)]
    exact h8 t ht
  · rw [seeF_at (by omega) (by omega) (by omega)]
    exact h9 t ht
  · rw [f32] at hs'
    have es : s + 1 = s' := (pm_eq4 (by omega) (by omega)).mp hs'
    by_cases q : i = s
    · subst q
      rw [pk_us, pk_us]
      unfold seeF
      rw [pk_un (by omega), pk_un (by omega), pk_us, pk_un (by omega), pk_us]
      exact ⟨rfl, rfl⟩
    · rw [pk_un q, pk_un q, seeF_at (by omega) (by omega) (by omega), seeF_at (by omega) (by omega) (by omega)]
      exact h10 s i hf (by omega) (by omega)
theorem wv_seeF {f : Nat → Int32} {P T s p : Nat} {y : Int32} (hv : wv f P T) (hp : p < P) (hs : s < 6) (hf : f 32 = nI s) : wv (seeF f s (nI p) y) P T := by
  obtain ⟨h1, h2, h3, h4, h5, h6, h7, ⟨s', h8, h9, h10⟩, h11⟩ := hv
  have es : s' = s := (pm_eq4 (by omega) (by omega)).mp (h9.symm.trans hf)
  subst es
  have u : ∀ j, j < 32 → seeF f s' (nI p) y j = f j := fun j hj => seeF_at (by omega) (by omega) (by omega)
  obtain ⟨e1, e2⟩ := aL_of (f := f) (g := seeF f s' (nI p) y) (T := T) (fun t ht => u _ (by omega)) (fun t ht => u _ (by omega))
  refine ⟨h1, h2, fun t ht => ?_, fun t ht => ?_, fun t ht => ?_, fun t ht => ?_, by rw [e1, e2]; exact h7, ⟨s' + 1, by omega, ?_, fun i hi => ?_⟩, fun q hq => ?_⟩
  · rw [u _ (by omega), u _ (by omega), u _ (by omega), u _ (by omega)]
    exact h3 t ht
  · rw [u _ (by omega)]
    exact h4 t ht
  · rw [u _ (by omega)]
    exact h5 t ht
  · rw [u _ (by omega)]
    exact h6 t ht
  · unfold seeF
    rw [pk_us]
  · by_cases q : i = s'
    · subst q
      refine ⟨p, hp, ?_⟩
      unfold seeF
      rw [pk_un (by omega), pk_un (by omega), pk_us]
    · rw [seeF_at (by omega) (by omega) (by omega)]
      exact h10 i (by omega)
  · rw [e1, u _ (by omega)]
    exact h11 q hq
theorem i33 {s : Nat} (hs : s < 6) : Int32.toNatClampNeg (33 + (2 * nI s)) = 33 + 2 * s ∧ Int32.toNatClampNeg ((33 + (2 * nI s)) + 1) = 34 + 2 * s ∧ vp_in (33 + (2 * nI s)) 135 ∧ vp_in ((33 + (2 * nI s)) + 1) 135 := by
  have e1 : 33 + (2 * nI s) = nI (33 + 2 * s) := (by decide +kernel : ∀ s : Fin 6, 33 + (2 * nI s.val) = nI (33 + 2 * s.val)) ⟨s, hs⟩
  rw [e1, nI_1, show 33 + 2 * s + 1 = 34 + 2 * s by omega]
  exact ⟨pm_cl4 (by omega), pm_cl4 (by omega), pm_vin (by omega) (by omega), pm_vin (by omega) (by omega)⟩
theorem mo_see {M : pm_M} {P p s : Nat} {y : Int32} (h3 : M.1 29 0 3 = nI P) (hP : P ≤ 4) (hp : p < P) (hs : s < 6) (hf : M.1 30 0 32 = nI s) (he : ¬ fWt_isEnd y M = 0) : pm_Ev mMo_see [pm_r 29 0, pm_i (nI p), pm_i y] M (some (pm_i (nI (s + 1)))) (pm_set M 30 0 (seeF (M.1 30 0) s (nI p) y)) := by
  have c2 : ¬ fMo_isPerson (nI p) M = 0 := by rw [moP_good h3 hP hp]; decide
  have c3 : ¬ fMo_in y.toInt64 (-999) 999 M = 0 := by rw [mo_end y M M]; exact he
  have z : Int32.toNatClampNeg 32 = 32 := by decide
  have c4 : ¬ M.1 30 0 (Int32.toNatClampNeg 32) = 6 := by rw [z, hf]; exact fun q => by have := (pm_eq4 (a := s) (b := 6) (by omega) (by omega)).mp q; omega
  obtain ⟨x1, x2, x3, x4⟩ := i33 hs
  have v32 : vp_in 32 135 := pm_vin (a := 32) (by decide) (by decide)
  have e0 : ∀ i x, i ≠ 32 → (pm_set M 30 0 (upd (M.1 30 0) i x)).1 30 0 32 = nI s := fun i x hi => by rw [pm_set_at, pk_un (Ne.symm hi), hf]
  have hev := eMo_see (a1 := nI p) (a2 := y) (M := M) ⟨fun _ => trivial, fun _ => ⟨fun _ => trivial, fun _ => ⟨v32, fun _ => trivial, fun _ => ⟨v32, by rw [z, hf]; exact x3, v32, by rw [z, hf, x1, e0 _ _ (by omega)]; exact x4, v32, v32, v32⟩⟩⟩⟩
  unfold fMo_see gMo_see at hev
  rw [if_neg c2, if_neg c2, if_neg c3, if_neg c3, if_neg c4, if_neg c4, z, hf, x1, e0 _ _ (by omega), x2] at hev
  simp only [pm_set_at, pm_set_set, pk_us] at hev
  rw [pk_un (show 32 ≠ 34 + 2 * s by omega), pk_un (show 32 ≠ 33 + 2 * s by omega), hf, nI_1] at hev
  exact hev
theorem ok_see (a1 a2 : Int32) : OkI mWt_see mMo_see [pm_i a1, pm_i a2] := by
  intro M hI
  obtain ⟨P, T, hW⟩ := hI.1
  obtain ⟨h, hv, hw3, hw4, _⟩ := id hW
  have h4 := hv.2.1
  have hP := hv.1
  obtain ⟨s, hs6, hf, _⟩ := hv.2.2.2.2.2.2.2.1
  have z : Int32.toNatClampNeg 32 = 32 := by decide
  have v32 : vp_in 32 135 := pm_vin (a := 32) (by decide) (by decide)
  by_cases hb : (¬ ∃ t, t < P ∧ a1 = nI t) ∨ fWt_isEnd a2 M = 0
  · have e1 : pm_Ev mWt_see [pm_r 0 0, pm_i a1, pm_i a2] M (some (pm_i (-1))) M := by
      by_cases q1 : fWh_hasPerson 0 a1 M = 0
      · have hev := eWt_see (a1 := a1) (a2 := a2) (M := M) ⟨fun _ => trivial, fun q => absurd q1 q⟩
        unfold fWt_see gWt_see at hev
        rw [if_pos q1, if_pos q1] at hev
        exact hev
      · have q2 := hb.resolve_left (fun q => q1 (hasP_bad h.1 hP q))
        have hev := eWt_see (a1 := a1) (a2 := a2) (M := M) ⟨fun _ => trivial, fun _ => ⟨fun _ => trivial, fun q => absurd q2 q⟩⟩
        unfold fWt_see gWt_see at hev
        rw [if_neg q1, if_neg q1, if_pos q2, if_pos q2] at hev
        exact hev
    have e2 : pm_Ev mMo_see [pm_r 29 0, pm_i a1, pm_i a2] M (some (pm_i (-1))) M := by
      by_cases q1 : fMo_isPerson a1 M = 0
      · have hev := eMo_see (a1 := a1) (a2 := a2) (M := M) ⟨fun _ => trivial, fun q => absurd q1 q⟩
        unfold fMo_see gMo_see at hev
        rw [if_pos q1, if_pos q1] at hev
        exact hev
      · have q2 : fMo_in a2.toInt64 (-999) 999 M = 0 := (mo_end a2 M M).trans (hb.resolve_left (fun q => q1 (moP_bad hw3 hP q)))
        have hev := eMo_see (a1 := a1) (a2 := a2) (M := M) ⟨fun _ => trivial, fun _ => ⟨fun _ => trivial, fun q => absurd q2 q⟩⟩
        unfold fMo_see gMo_see at hev
        rw [if_neg q1, if_neg q1, if_pos q2, if_pos q2] at hev
        exact hev
    exact okI_no hI e1 e2
  · obtain ⟨hb1, hb2⟩ := not_or.mp hb
    obtain ⟨p, hp, rfl⟩ := Classical.not_not.mp hb1
    have c1 : ¬ fWh_hasPerson 0 (nI p) M = 0 := by rw [hasP_good h.1 hP hp]; decide
    have e4 : M.1 4 0 2 = nI s := h.2.2.1.trans hf
    by_cases q6 : s = 6
    · subst q6
      have c5 : ¬ M.1 4 0 2 < 6 := by rw [e4]; exact nI_nlt (a := 6) (b := 6) (by omega) (by omega)
      have e1 := eWt_see (a1 := nI p) (a2 := a2) (M := M) ⟨fun _ => trivial, fun _ => ⟨fun _ => trivial, fun _ => ⟨fun q => absurd q c5, fun _ => trivial⟩⟩⟩
      unfold fWt_see gWt_see fWh_noteSeen gWh_noteSeen at e1
      rw [if_neg c1, if_neg c1, if_neg hb2, if_neg hb2, if_neg c5, if_neg c5, if_pos rfl, if_pos rfl] at e1
      have c2 : ¬ fMo_isPerson (nI p) M = 0 := by rw [moP_good hw3 hP hp]; decide
      have c3 : ¬ fMo_in a2.toInt64 (-999) 999 M = 0 := by rw [mo_end a2 M M]; exact hb2
      have c4 : M.1 30 0 (Int32.toNatClampNeg 32) = 6 := by rw [z]; exact hf
      have e2 := eMo_see (a1 := nI p) (a2 := a2) (M := M) ⟨fun _ => trivial, fun _ => ⟨fun _ => trivial, fun _ => ⟨v32, fun _ => trivial, fun q => absurd c4 q⟩⟩⟩
      unfold fMo_see gMo_see at e2
      rw [if_neg c2, if_neg c2, if_neg c3, if_neg c3, if_pos c4, if_pos c4] at e2
      exact okI_no hI e1 e2
    · have c5 : M.1 4 0 2 < 6 := by rw [e4]; exact nI_lt (b := 6) (by omega) (by omega)
      have e1 := eWt_see (a1 := nI p) (a2 := a2) (M := M) ⟨fun _ => trivial, fun _ => ⟨fun _ => trivial, fun _ => ⟨fun _ => by rw [e4]; exact ⟨pm_vin (by omega) (by omega), pm_vin (by omega) (by omega)⟩, fun _ => trivial⟩⟩⟩
      unfold fWt_see gWt_see fWh_noteSeen gWh_noteSeen at e1
      rw [if_neg c1, if_neg c1, if_neg hb2, if_neg hb2, if_pos c5, if_pos c5, if_neg (show ¬ (1 : Int32) = 0 by decide), if_neg (show ¬ (1 : Int32) = 0 by decide), e4, pm_cl4 (by omega), nI_1] at e1
      generalize hM1 : pm_set (pm_set (pm_set M 10 0 (upd (M.1 10 0) s (nI p))) 11 0 (upd (M.1 11 0) s a2)) 4 0 (upd (M.1 4 0) 2 (nI (s + 1))) = M1 at e1
      have ea : M1.1 4 0 2 = nI (s + 1) := by rw [← hM1]; rfl
      rw [ea] at e1
      have a29 : M1.1 29 0 = M.1 29 0 := by rw [← hM1]; rfl
      have a30 : M1.1 30 0 = M.1 30 0 := by rw [← hM1]; rfl
      have e2 := mo_see (M := M1) (P := P) (p := p) (s := s) (y := a2) (by rw [a29]; exact hw3) hP hp (by omega) (by rw [a30]; exact hf) hb2
      rw [a30] at e2
      refine ⟨_, M1, _, e1, e2, ?_⟩
      generalize hM2 : pm_set M1 30 0 (seeF (M.1 30 0) s (nI p) a2) = M2
      have tt : tch [4, 10, 11, 30] M M2 := by
        rw [← hM2, ← hM1]
        exact tch_set (tch_set (tch_set (tch_set tch_rfl (by decide)) (by decide)) (by decide)) (by decide)
      have e30 : M2.1 30 0 = seeF (M.1 30 0) s (nI p) a2 := by rw [← hM2, pm_set_at]
      refine Inv_wheel (P := P) (T := T) hI tt (by decide) (iW_mk hW (tt 2 0 (by decide)) (tt 32 0 (by decide)) (by rw [tt 29 0 (by decide)]) (by rw [tt 29 0 (by decide)]) (fun a k a4 a11 hk => ?_) (fun j hj => ?_) ?_ ?_)
      · rw [← hM2, ← hM1, pm_set_ne _ _ (by omega), set_nk (by omega), set_nk (by omega), set_nk (by omega)]
      · rw [e30, seeF_at (by omega) (by omega) (by omega)]
      · rw [e30]
        exact cw_same (cw_seeF (x := nI p) (y := a2) h hP h4 (by omega) hf hM1) (fun a a4 a11 => by rw [← hM2, pm_set_ne _ _ (by omega)])
      · rw [e30]
        exact wv_seeF hv hp (by omega) hf
theorem ok_forget (a1 : Int32) : OkI mWt_forget mMo_forget [pm_i a1] := by
  intro M hI
  obtain ⟨P, T, hW⟩ := hI.1
  obtain ⟨h, hv, hw3, hw4, _⟩ := id hW
  have h4 := hv.2.1
  have hP := hv.1
  obtain ⟨s, hs6, hf, hsp⟩ := hv.2.2.2.2.2.2.2.1
  have z : Int32.toNatClampNeg 32 = 32 := by decide
  have v32 : vp_in 32 135 := pm_vin (a := 32) (by decide) (by decide)
  have e4 : M.1 4 0 2 = nI s := h.2.2.1.trans hf
  have e1 := eWt_forget (a1 := a1) (M := M)
  unfold fWt_forget gWt_forget at e1
  rw [e4] at e1
  have e2 : ∀ M1 : pm_M, M1.1 30 0 = M.1 30 0 → pm_Ev mMo_forget [pm_r 29 0, pm_i a1] M1 (some (pm_i (if fWt_within a1 0 (nI s) M = 0 then -1 else nI s))) (if fWt_within a1 0 (nI s) M = 0 then M1 else pm_set M1 30 0 (upd (M.1 30 0) 32 a1)) := by
    intro M1 a30
    have hev := eMo_forget (a1 := a1) (M := M1) ⟨v32, fun _ => trivial, fun _ => ⟨v32, v32⟩⟩
    unfold fMo_forget gMo_forget fMo_becomes gMo_becomes at hev
    rw [z, a30, hf, show fMo_in a1.toInt64 0 (nI s).toInt64 M1 = fWt_within a1 0 (nI s) M from mo_in a1 0 (nI s) M1 M] at hev
    exact hev
  by_cases hb : fWt_within a1 0 (nI s) M = 0
  · have e2 := e2 M rfl
    rw [if_pos hb, if_pos hb] at e1 e2
    exact okI_no hI e1 e2
  · rw [if_neg hb, if_neg hb] at e1
    have e2 := e2 (pm_set M 4 0 (upd (M.1 4 0) 2 a1)) rfl
    rw [if_neg hb, if_neg hb] at e2
    obtain ⟨j, hj, rfl⟩ := within_of (n := s) (by omega) hb
    refine ⟨_, _, _, e1, e2, Inv_one hI hW (t := 4) (by decide) rfl (by omega) ?_ ?_⟩
    · obtain ⟨h1, h2, h3, h5, h6, h7, h8, h9, h10⟩ := h
      have u : ∀ y, y ≠ 32 → upd (M.1 30 0) 32 (nI j) y = M.1 30 0 y := fun y hy => pk_un hy
      unfold cw
      rw [pm_set_at, pm_set_ne _ _ (show 4 ≠ 5 by decide), pm_set_ne _ _ (show 4 ≠ 6 by decide), pm_set_ne _ _ (show 4 ≠ 7 by decide), pm_set_ne _ _ (show 4 ≠ 8 by decide), pm_set_ne _ _ (show 4 ≠ 9 by decide), pm_set_ne _ _ (show 4 ≠ 10 by decide), pm_set_ne _ _ (show 4 ≠ 11 by decide)]
      refine ⟨by rw [pk_un (by decide)]; exact h1, by rw [pk_un (by decide)]; exact h2, by rw [pk_us, pk_us], fun q hq => (h5 q hq).trans (u _ (by omega)).symm, fun t w ht hw => (h6 t w ht hw).trans (u _ (by omega)).symm, fun t ht => (h7 t ht).trans (u _ (by omega)).symm, fun t ht => (h8 t ht).trans (u _ (by omega)).symm, fun t ht => (h9 t ht).trans (u _ (by omega)).symm, fun s' i hs' h6' hi => ?_⟩
      rw [pk_us] at hs'
      have es : j = s' := (pm_eq4 (by omega) (by omega)).mp hs'
      rw [u _ (by omega), u _ (by omega)]
      exact h10 s i hf hs6 (by omega)
    · obtain ⟨h1, h2, h3, h4', h5, h6, h7, _, h11⟩ := hv
      have u : ∀ y, y ≠ 32 → upd (M.1 30 0) 32 (nI j) y = M.1 30 0 y := fun y hy => pk_un hy
      obtain ⟨e1, e2⟩ := aL_of (f := M.1 30 0) (g := upd (M.1 30 0) 32 (nI j)) (T := T) (fun t ht => u _ (by omega)) (fun t ht => u _ (by omega))
      refine ⟨h1, h2, fun t ht => ?_, fun t ht => ?_, fun t ht => ?_, fun t ht => ?_, by rw [e1, e2]; exact h7, ⟨j, by omega, pk_us, fun i hi => ?_⟩, fun q hq => ?_⟩
      · rw [u _ (by omega), u _ (by omega), u _ (by omega), u _ (by omega)]
        exact h3 t ht
      · rw [u _ (by omega)]
        exact h4' t ht
      · rw [u _ (by omega)]
        exact h5 t ht
      · rw [u _ (by omega)]
        exact h6 t ht
      · rw [u _ (by omega)]
        exact hsp i (by omega)
      · rw [e1, u _ (by omega)]
        exact h11 q hq
