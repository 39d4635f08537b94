/-! calls that change something -/
def tch (L : List Nat) (M M' : pm_M) : Prop := ∀ a b, a ∉ L → M'.1 a b = M.1 a b
theorem tch_rfl {L : List Nat} {M : pm_M} : tch L M M := fun _ _ _ => rfl
theorem tch_set {L : List Nat} {M M' : pm_M} {t k : Nat} {f : Nat → Int32} (h : tch L M M') (ht : t ∈ L) : tch L M (pm_set M' t k f) := fun a b ha => by
  rw [pm_set_ne _ _ (fun e : t = a => ha (e ▸ ht))]
  exact h a b ha
theorem tch_trans {L : List Nat} {M M' M'' : pm_M} (h : tch L M M') (h' : tch L M' M'') : tch L M M'' := fun a b ha => (h' a b ha).trans (h a b ha)
theorem tch_mono {L L' : List Nat} {M M' : pm_M} (h : tch L M M') (hl : ∀ x ∈ L, x ∈ L') : tch L' M M' := fun a b ha => h a b (fun q => ha (hl a q))
theorem set_nk {M : pm_M} {t k a b : Nat} {f : Nat → Int32} (h : b ≠ k) : (pm_set M t k f).1 a b = M.1 a b := by
  rw [pm_set_get, if_neg (fun q => h q.2)]
theorem iW_tch {L : List Nat} {M M' : pm_M} {P T : Nat} (h : iW M P T) (t : tch L M M') (hL : ∀ x ∈ L, ¬ (x = 2 ∨ (4 ≤ x ∧ x ≤ 11) ∨ x = 30 ∨ x = 32)) (e3 : M'.1 29 0 3 = M.1 29 0 3) (e9 : M'.1 29 0 4 = M.1 29 0 4) : iW M' P T :=
  iW_same h (t 2 0 (fun q => hL _ q (by omega))) (fun a k h1 h2 _ => t a k (fun q => hL _ q (by omega))) (t 30 0 (fun q => hL _ q (by omega))) (t 32 0 (fun q => hL _ q (by omega))) e3 e9
theorem iT_tch {L : List Nat} {M M' : pm_M} (h : iT M) (t : tch L M M') (hL : 21 ∉ L ∧ 22 ∉ L ∧ 35 ∉ L) (e : M'.1 29 0 13 = M.1 29 0 13) : iT M' := iT_same h (by rw [t 21 0 hL.1]) (t 22 0 hL.2.1) e (t 35 0 hL.2.2)
theorem iS_tch {L : List Nat} {M M' : pm_M} (h : iS M) (t : tch L M M') (hL : 27 ∉ L ∧ 28 ∉ L ∧ 40 ∉ L ∧ 41 ∉ L ∧ 42 ∉ L) : iS M' := iS_same h (fun k => t 27 k hL.1) (fun k => t 28 k hL.2.1) (t 40 0 hL.2.2.1) (t 41 0 hL.2.2.2.1) (t 42 0 hL.2.2.2.2)
theorem iW_mk {M M' : pm_M} {P T : Nat} (h : iW M P T) (e2 : M'.1 2 0 = M.1 2 0) (e32 : M'.1 32 0 = M.1 32 0) (e3 : M'.1 29 0 3 = M.1 29 0 3) (e9 : M'.1 29 0 4 = M.1 29 0 4) (e4 : ∀ t k, 4 ≤ t → t ≤ 11 → 2 ≤ k → M'.1 t k = M.1 t k) (e30 : ∀ j, 45 ≤ j → M'.1 30 0 j = M.1 30 0 j) (c : cw M' 0 (M'.1 30 0) P T) (v : wv (M'.1 30 0) P T) : iW M' P T := ⟨c, v, e3.trans h.2.2.1, e9.trans h.2.2.2.1, iK_same h.2.2.2.2 e2 e4 e30 e32⟩
/-- only the wheel (kinds 2 to 11, 30 to 32) is another -/
theorem Inv_wheel {L : List Nat} {M M' : pm_M} {P T : Nat} (h : Inv M) (t : tch L M M') (hL : ∀ x ∈ L, 1 ≤ x ∧ x ≤ 11 ∧ x ≠ 3 ∨ 30 ≤ x ∧ x ≤ 32) (w : iW M' P T) : Inv M' := by
  obtain ⟨_, h2, h3, h4, h5⟩ := h
  have g : ∀ x, ¬ (1 ≤ x ∧ x ≤ 11 ∧ x ≠ 3 ∨ 30 ≤ x ∧ x ≤ 32) → x ∉ L := fun x hx q => hx (hL x q)
  refine ⟨⟨P, T, w⟩, iT_tch h2 t ⟨g _ (by omega), g _ (by omega), g _ (by omega)⟩ (by rw [t 29 0 (g _ (by omega))]), ?_, iS_tch h4 t ⟨g _ (by omega), g _ (by omega), g _ (by omega), g _ (by omega), g _ (by omega)⟩, ?_⟩
  · rw [t 23 0 (g _ (by omega)), t 29 0 (g _ (by omega))]
    exact h3
  · rw [t 0 0 (g _ (by omega)), t 29 0 (g _ (by omega))]
    exact h5
theorem okI_no {cm mm : pm_MI} {as : List pm_V} {M : pm_M} {x : Int32} (hI : Inv M) (h1 : pm_Ev cm (pm_r 0 0 :: as) M (some (pm_i x)) M) (h2 : pm_Ev mm (pm_r 29 0 :: as) M (some (pm_i x)) M) : ∃ (x : Int32) (M1 M2 : pm_M), pm_Ev cm (pm_r 0 0 :: as) M (some (pm_i x)) M1 ∧ pm_Ev mm (pm_r 29 0 :: as) M1 (some (pm_i x)) M2 ∧ Inv M2 := ⟨x, M, M, h1, h2, hI⟩
theorem nar_b {b : Nat} (h : b ≤ 127) : vp_nar .byte ((Int32.toInt8 (nI b)).toInt32) = nI b := (by decide +kernel : ∀ b : Fin 128, vp_nar .byte ((Int32.toInt8 (nI b.val)).toInt32) = nI b.val) ⟨b, by omega⟩
theorem ok_feed (a1 : Int32) : OkI mWt_feed mMo_feed [pm_i a1] := by
  intro M hI
  have hI0 := hI
  obtain ⟨⟨P, T, h1⟩, ⟨n, n1, n2, n3, n4⟩, h3, h4, h5⟩ := hI
  have ei : fMo_in a1.toInt64 0 127 M = fWt_within a1 0 127 M := mo_in a1 0 127 M M
  by_cases hb : fWt_within a1 0 127 M = 0
  · have c2 := ei.trans hb
    have e1 := eWt_feed (a1 := a1) (M := M) ⟨fun _ => trivial, fun q => absurd hb q⟩
    have e2 := eMo_feed (a1 := a1) (M := M) ⟨fun _ => trivial, fun q => absurd c2 q⟩
    unfold fWt_feed gWt_feed at e1
    unfold fMo_feed gMo_feed at e2
    rw [if_pos hb, if_pos hb] at e1
    rw [if_pos c2, if_pos c2] at e2
    exact okI_no hI0 e1 e2
  · obtain ⟨b, hb9, rfl⟩ := within_of (n := 127) (by omega) hb
    have c2 : ∀ M', ¬ fMo_in (nI b).toInt64 0 127 M' = 0 := fun M' => by rw [show fMo_in (nI b).toInt64 0 127 M' = fWt_within (nI b) 0 127 M from mo_in (nI b) 0 127 M' M]; exact hb
    by_cases hn : n = 160
    · subst hn
      have c3 : ¬ M.1 21 0 1 < 160 := by rw [n2]; exact nI_nlt (a := 160) (b := 160) (by omega) (by omega)
      have c4 : fTa_put (nI b) M = 0 := by unfold fTa_put; rw [if_neg c3]
      have c5 : gTa_put (nI b) M = M := by unfold gTa_put; rw [if_neg c3]
      have c6 : M.1 29 0 13 = 160 := n3
      have e1 := eWt_feed (a1 := nI b) (M := M) ⟨fun _ => trivial, fun _ => ⟨fun q => absurd q c3, fun _ => trivial⟩⟩
      have e2 := eMo_feed (a1 := nI b) (M := M) ⟨fun _ => trivial, fun _ => ⟨fun _ => trivial, fun q => absurd c6 q⟩⟩
      unfold fWt_feed gWt_feed at e1
      unfold fMo_feed gMo_feed at e2
      rw [if_neg hb, if_neg hb, if_pos c4, if_pos c4, c5] at e1
      rw [if_neg (c2 M), if_neg (c2 M), if_pos c6, if_pos c6] at e2
      exact okI_no hI0 e1 e2
    · have c3 : M.1 21 0 1 < 160 := by rw [n2]; exact nI_lt (b := 160) (by omega) (by omega)
      have c4 : ¬ fTa_put (nI b) M = 0 := by unfold fTa_put; rw [if_pos c3]; decide
      have e1 := eWt_feed (a1 := nI b) (M := M) ⟨fun _ => trivial, fun _ => ⟨fun _ => by rw [n2]; exact pm_vin (by omega) (by omega), fun _ => trivial⟩⟩
      unfold fWt_feed gWt_feed at e1
      rw [if_neg hb, if_neg hb, if_neg c4, if_neg c4] at e1
      unfold gTa_put at e1
      rw [if_pos c3, n2, nar_b hb9, pm_cl4 (by omega)] at e1
      have ev1 : ∀ x : Int32, (pm_set (pm_set M 22 0 (upd (M.1 22 0) n (nI b))) 21 0 (upd (M.1 21 0) 1 x)).1 21 0 1 = x := fun x => by rw [pm_set_at, pk_us]
      rw [ev1] at e1
      generalize hM1 : pm_set (pm_set M 22 0 (upd (M.1 22 0) n (nI b))) 21 0 (upd (M.1 21 0) 1 (nI n + 1)) = M1 at e1
      have t1 : tch [21, 22, 29, 35] M M1 := by
        rw [← hM1]
        exact tch_set (tch_set tch_rfl (by decide)) (by decide)
      have a29 : M1.1 29 0 = M.1 29 0 := by rw [← hM1]; rfl
      have c6 : M1.1 29 0 13 = nI n := by rw [a29]; exact n3
      have c7 : ¬ M1.1 29 0 13 = 160 := by rw [c6]; exact fun q => hn ((pm_eq4 (a := n) (b := 160) (by omega) (by omega)).mp q)
      have e2 := eMo_feed (a1 := nI b) (M := M1) ⟨fun _ => trivial, fun _ => ⟨fun _ => trivial, fun _ => by rw [c6]; exact pm_vin (by omega) (by omega)⟩⟩
      unfold fMo_feed gMo_feed at e2
      rw [if_neg (c2 M1), if_neg (c2 M1), if_neg c7, if_neg c7, c6, pm_cl4 (by omega)] at e2
      have ev2 : ∀ x : Int32, (pm_set (pm_set M1 35 0 (upd (M1.1 35 0) n (nI b))) 29 0 (upd (M1.1 29 0) 13 x)).1 29 0 13 = x := fun x => by rw [pm_set_at, pk_us]
      rw [ev2] at e2
      refine ⟨_, M1, _, e1, e2, ?_⟩
      generalize hM2 : pm_set (pm_set M1 35 0 (upd (M1.1 35 0) n (nI b))) 29 0 (upd (M1.1 29 0) 13 (nI n + 1)) = M2
      have t2 : tch [21, 22, 29, 35] M M2 := by
        rw [← hM2]
        exact tch_set (tch_set t1 (by decide)) (by decide)
      have g9 : M2.1 29 0 = upd (M.1 29 0) 13 (nI n + 1) := by rw [← hM2, pm_set_at, a29]
      have g21 : M2.1 21 0 1 = nI n + 1 := by rw [← hM2, ← hM1]; rfl
      have g22 : M2.1 22 0 = upd (M.1 22 0) n (nI b) := by rw [← hM2, ← hM1]; rfl
      have g35 : M2.1 35 0 = upd (M.1 35 0) n (nI b) := by rw [← hM2, ← hM1]; rfl
      refine ⟨⟨P, T, iW_tch h1 t2 (by decide) (by rw [g9]; exact pk_un (by decide)) (by rw [g9]; exact pk_un (by decide))⟩, ⟨n + 1, by omega, by rw [g21, nI_1], by rw [g9, pk_us, nI_1], fun i hi => ?_⟩, ?_, iS_tch h4 t2 (by decide), ?_⟩
      · rw [g22, g35]
        by_cases q : i = n
        · subst q
          exact ⟨b, hb9, pk_us, pk_us⟩
        · rw [pk_un q, pk_un q]
          exact n4 i (by omega)
      · rw [t2 23 0 (by decide), g9, pk_un (by decide)]
        exact h3
      · rw [t2 0 0 (by decide), g9, pk_un (by decide)]
        exact h5
theorem ok_end (a1 : Int32) : OkI mWt_end mMo_end [pm_i a1] := by
  intro M hI
  have hI0 := hI
  obtain ⟨⟨P, T, h1⟩, ⟨n, n1, n2, n3, n4⟩, h3, h4, h5⟩ := hI
  have e1 := eWt_end (a1 := a1) (M := M)
  unfold fWt_end gWt_end at e1
  rw [n2] at e1
  by_cases hb : fWt_within a1 0 (nI n) M = 0
  · have e2 := eMo_end (a1 := a1) (M := M)
    unfold fMo_end gMo_end at e2
    rw [n3, show fMo_in a1.toInt64 0 (nI n).toInt64 M = fWt_within a1 0 (nI n) M from mo_in a1 0 (nI n) M M] at e2
    rw [if_pos hb, if_pos hb] at e1 e2
    exact okI_no hI0 e1 e2
  · obtain ⟨j, hj, rfl⟩ := within_of (n := n) (by omega) hb
    rw [if_neg hb, if_neg hb] at e1
    generalize hM1 : pm_set M 21 0 (upd (M.1 21 0) 1 (nI j)) = M1 at e1
    have t1 : tch [21, 29] M M1 := by
      rw [← hM1]
      exact tch_set tch_rfl (by decide)
    have e2 := eMo_end (a1 := nI j) (M := M1)
    unfold fMo_end gMo_end at e2
    have a29 : M1.1 29 0 = M.1 29 0 := by rw [← hM1]; rfl
    rw [a29, n3, show fMo_in (nI j).toInt64 0 (nI n).toInt64 M1 = fWt_within (nI j) 0 (nI n) M from mo_in (nI j) 0 (nI n) M1 M, if_neg hb, if_neg hb] at e2
    refine ⟨_, M1, _, e1, e2, ?_⟩
    generalize hM2 : pm_set M1 29 0 (upd (M.1 29 0) 13 (nI j)) = M2
    have t2 : tch [21, 29] M M2 := by
      rw [← hM2]
      exact tch_set t1 (by decide)
    have g9 : M2.1 29 0 = upd (M.1 29 0) 13 (nI j) := by rw [← hM2, pm_set_at]
    have g21 : M2.1 21 0 1 = nI j := by rw [← hM2, ← hM1]; rfl
    refine ⟨⟨P, T, iW_tch h1 t2 (by decide) (by rw [g9]; exact pk_un (by decide)) (by rw [g9]; exact pk_un (by decide))⟩, ⟨j, by omega, g21, by rw [g9, pk_us], fun i hi => ?_⟩, ?_, iS_tch h4 t2 (by decide), ?_⟩
    · rw [t2 22 0 (by decide), t2 35 0 (by decide)]
      exact n4 i (by omega)
    · rw [t2 23 0 (by decide), g9, pk_un (by decide)]
      exact h3
    · rw [t2 0 0 (by decide), g9, pk_un (by decide)]
      exact h5
