/-! the reference: mean, ends, fee, kind, buy -/
def mw (M : pm_M) (f : Nat → Int32) (P T : Nat) : Prop := M.1 30 0 = f ∧ M.1 29 0 3 = nI P ∧ M.1 29 0 4 = nI T
theorem mw_ms {M M' : pm_M} {f : Nat → Int32} {P T : Nat} (h : mw M f P T) (e : ms_eq M M') : mw M' f P T := ⟨(e.1 30 0 (by decide) (by decide)).trans h.1, (e.2 3 (by decide)).trans h.2.1, (e.2 4 (by decide)).trans h.2.2⟩
theorem ms_tries {a b : Int32} {M : pm_M} : ms_eq M (gMo_tries a b M) := by
  unfold gMo_tries
  exact ms_trans (ms_upd (j := 25) (x := a) (by decide)) (ms_upd (M := pm_set M 29 0 (upd (M.1 29 0) 25 a)) (j := 26) (x := b) (by decide))
theorem tries_25 {a b : Int32} {M : pm_M} : (gMo_tries a b M).1 29 0 25 = a ∧ (gMo_tries a b M).1 29 0 26 = b := by
  unfold gMo_tries
  rw [pm_set_at, pk_us, pk_un (by decide), pm_set_at, pk_us]
  exact ⟨rfl, rfl⟩
theorem wB_self {f f' : Nat → Int32} {T : Nat} (eL : aL f' T = aL f T) : wB f T = wB f' T := by
  funext w
  unfold wB wt
  rw [eL]
theorem zSum_bd {f : Nat → Int32} {P T p : Nat} (hv : wv f P T) (hp : p < P) : (zSum f T p).natAbs ≤ 576 * 2343 := by
  have h1 := (aW_le hv).1
  refine Nat.le_trans (sumZ_bd (K := 2343) (fun w hw => ?_)) (Nat.mul_le_mul_right _ h1)
  rw [wE_toInt hv hp hw]
  exact zE_bd hv hp (wE_in hv hw).1 (wE_in hv hw).2
theorem m_try {M : pm_M} {f : Nat → Int32} {P T p : Nat} {c : Option (Nat × Int32)} (hv : wv f P T) (hw : mw M f P T) (hp : p < P) (hc : tc M c) (hv' : wv (tr f c) P T) (eL : aL (tr f c) T = aL f T) (eP : aP (tr f c) T = aP f T) : ∃ M', pm_Ev mMo_findEnds [pm_r 29 0, pm_i (nI p)] M none M' ∧ ms_eq M M' ∧ fMo_waysMany M' = nI (aW f T) ∧ M'.2 = Int64.ofInt (zSum (tr f c) T p) ∧ M'.1 29 0 28 = tr f c p + aLo (tr f c) T p ∧ M'.1 29 0 29 = tr f c p + aHi (tr f c) T p ∧ M'.1 29 0 30 = aFi (tr f c) T p := by
  obtain ⟨M', k1, k2, k3, k4, k5, k6, k7⟩ := m_findEnds hv hw.1 hw.2.1 hw.2.2 hp hc hv' eL eP
  rw [(wE_self (p := p) eL).1, (wE_self (p := p) eL).2] at k4 k5 k6 k7
  rw [wB_self eL] at k7
  refine ⟨M', k1, k2, mf_ways k3, k4, k5.trans (lo_eq hv' hp), k6.trans (hi_eq hv' hp), k7.trans (fi_eq hv' hp)⟩
theorem parts_pos (n : Nat) : 0 < re_parts n := by
  unfold re_parts
  split <;> omega
theorem parts_le {n : Nat} (h : n ≤ 4) : re_parts n ≤ 8 := by
  unfold re_parts
  split <;> omega
theorem m_mean_bad {M : pm_M} {f : Nat → Int32} {P T : Nat} {a w : Int32} (hv : wv f P T) (hw : mw M f P T) (hb : (¬ ∃ t, t < P ∧ a = nI t) ∨ fWt_isPart w M = 0) : pm_Ev mMo_mean [pm_r 29 0, pm_i a, pm_i w] M (some (pm_l (-1))) M := by
  refine pm_Sem_of (ls := [some (pm_r 29 0), some (pm_i a), some (pm_i w)]) ok_mMo_mean (by decide +kernel) rfl (by decide) (Nat.le_of_ble_eq_true rfl) rfl ?_
  refine bMo_mean_0 eMo_isPerson (bMo_mean_5 (fun _ => bMo_mean_15 ⟨rfl, rfl⟩) (fun h1 => bMo_mean_8 eMo_isPart (bMo_mean_12 (fun _ => bMo_mean_15 ⟨rfl, rfl⟩) (fun h2 => ?_))))
  rcases hb with hb | hb
  · exact absurd (moP_bad hw.2.1 hv.1 hb) h1
  · rw [mo_isPart w M M] at h2
    exact absurd hb h2
theorem m_mean {M : pm_M} {f : Nat → Int32} {P T p : Nat} {w : Int32} (hv : wv f P T) (hw : mw M f P T) (hp : p < P) (hb : ¬ fWt_isPart w M = 0) : ∃ M', pm_Ev mMo_mean [pm_r 29 0, pm_i (nI p), pm_i w] M (some (pm_l (aPart (aM f T p) (nI (re_parts (aL f T).length)) w))) M' ∧ ms_eq M M' := by
  obtain ⟨hW, hW1⟩ := aW_le hv
  obtain ⟨M', k1, k2, k3, k4, k5, k6, k7⟩ := m_try (c := none) hv (mw_ms hw ms_tries) hp (tries_25 (a := -4) (b := 0) (M := M)).1 hv rfl rfl
  refine ⟨M', ?_, ms_trans ms_tries k2⟩
  refine pm_Sem_of (ls := [some (pm_r 29 0), some (pm_i (nI p)), some (pm_i w)]) ok_mMo_mean (by decide +kernel) rfl (by decide) (Nat.le_of_ble_eq_true rfl) rfl ?_
  have hz := zSum_bd hv hp
  have hm := zM_bd hv hp
  have hn := (aN hv).1
  have ht := told_val (w := w) (M := M') (C := zSum f T p) (D := aW f T) (by omega) (by omega) (by omega)
  have hpt := part_told (w := w) (M := M') (A := zM f T p) (C := zSum f T p) (B := re_parts (aL f T).length) (D := aW f T) (by omega) (parts_pos _) (by have := parts_le hn; omega) (by omega) (by omega) (by omega) (mean_eq hv hp)
  rw [← aM_z] at hpt
  rw [hpt]
  refine bMo_mean_0 eMo_isPerson (bMo_mean_5 (fun q => ?_) (fun _ => bMo_mean_8 eMo_isPart (bMo_mean_12 (fun q => ?_) (fun _ => bMo_mean_19 eMo_tries (bMo_mean_26 k1 (bMo_mean_31 eMo_waysMany ?_))))))
  · rw [moP_good hw.2.1 hv.1 hp] at q
    exact absurd q (by decide)
  · rw [mo_isPart w M M] at q
    exact absurd q hb
  · rw [k3, k4]
    refine bMo_mean_39 ?_ (bMo_mean_44 ⟨rfl, rfl⟩)
    rw [nI_l (by omega)]
    exact eMo_told ht.2
theorem m_ends_bad {M : pm_M} {f : Nat → Int32} {P T : Nat} {a w : Int32} (hv : wv f P T) (hw : mw M f P T) (hb : (¬ ∃ t, t < P ∧ a = nI t) ∨ fWt_within w 0 2 M = 0) : pm_Ev mMo_ends [pm_r 29 0, pm_i a, pm_i w] M (some (pm_i (-1))) M := by
  refine pm_Sem_of (ls := [some (pm_r 29 0), some (pm_i a), some (pm_i w)]) ok_mMo_ends (by decide +kernel) rfl (by decide) (Nat.le_of_ble_eq_true rfl) rfl ?_
  refine bMo_ends_0 eMo_isPerson (bMo_ends_5 (fun _ => bMo_ends_20 ⟨rfl, rfl⟩) (fun h1 => bMo_ends_8 eMo_in (bMo_ends_17 (fun _ => bMo_ends_20 ⟨rfl, rfl⟩) (fun h2 => ?_))))
  rcases hb with hb | hb
  · exact absurd (moP_bad hw.2.1 hv.1 hb) h1
  · exact absurd ((mo_in w 0 2 M M).trans hb) h2
theorem m_ends {M : pm_M} {f : Nat → Int32} {P T p : Nat} {w : Int32} (hv : wv f P T) (hw : mw M f P T) (hp : p < P) (hb : ¬ fWt_within w 0 2 M = 0) : ∃ M', pm_Ev mMo_ends [pm_r 29 0, pm_i (nI p), pm_i w] M (some (pm_i (aEnds f T p w))) M' ∧ ms_eq M M' := by
  obtain ⟨M', k1, k2, k3, k4, k5, k6, k7⟩ := m_try (c := none) hv (mw_ms hw ms_tries) hp (tries_25 (a := -4) (b := 0) (M := M)).1 hv rfl rfl
  refine ⟨M', ?_, ms_trans ms_tries k2⟩
  refine pm_Sem_of (ls := [some (pm_r 29 0), some (pm_i (nI p)), some (pm_i w)]) ok_mMo_ends (by decide +kernel) rfl (by decide) (Nat.le_of_ble_eq_true rfl) rfl ?_
  refine bMo_ends_0 eMo_isPerson (bMo_ends_5 (fun q => ?_) (fun _ => bMo_ends_8 eMo_in (bMo_ends_17 (fun q => ?_) (fun _ => bMo_ends_22 eMo_tries (bMo_ends_29 k1 (bMo_ends_34 (fun q => bMo_ends_38 (bMo_ends_69 ?_)) (fun q => bMo_ends_49 (fun q2 => bMo_ends_54 (bMo_ends_69 ?_)) (fun q2 => bMo_ends_65 (bMo_ends_69 ?_)))))))))
  · rw [moP_good hw.2.1 hv.1 hp] at q
    exact absurd q (by decide)
  · exact absurd ((mo_in w 0 2 M M).symm.trans q) hb
  · unfold aEnds
    rw [if_pos q, k5, Int32.add_assoc]
    exact ⟨rfl, rfl⟩
  · unfold aEnds
    rw [if_neg q, if_pos q2, k6, Int32.add_assoc]
    exact ⟨rfl, rfl⟩
  · unfold aEnds
    rw [if_neg q, if_neg q2, k7]
    exact ⟨rfl, rfl⟩
-- comparisons of means
theorem sum_le {f : Nat → Int32} {P T p : Nat} (hv : wv f P T) (hp : p < P) (v : Int) : (v * (re_parts (aL f T).length : Int) ≤ zM f T p) ↔ v * (aW f T : Int) ≤ zSum f T p := by
  have h := mean_eq hv hp
  have h1 : (0 : Int) < (aW f T : Int) := by have := (aW_le hv).2; omega
  have h2 : (0 : Int) < (re_parts (aL f T).length : Int) := by have := parts_pos (aL f T).length; omega
  rw [← Int.mul_le_mul_right h1, h, Int.mul_assoc, Int.mul_comm (re_parts (aL f T).length : Int), ← Int.mul_assoc, Int.mul_le_mul_right h2]
theorem sum_lt {f g : Nat → Int32} {P T p : Nat} (hv : wv f P T) (hg : wv g P T) (eL : aL g T = aL f T) (hp : p < P) : (zM f T p < zM g T p) ↔ zSum f T p < zSum g T p := by
  have h := mean_eq hv hp
  have h' := mean_eq hg hp
  have eW' : aW g T = aW f T := by unfold aW; rw [eL]
  rw [eL, eW'] at h'
  have h1 : (0 : Int) < (aW f T : Int) := by have := (aW_le hv).2; omega
  have h2 : (0 : Int) < (re_parts (aL f T).length : Int) := by have := parts_pos (aL f T).length; omega
  rw [← Int.mul_lt_mul_right h1, h, h', Int.mul_lt_mul_right h2]
theorem aM_toInt {f : Nat → Int32} {P T p : Nat} (hv : wv f P T) (hp : p < P) : (aM f T p).toInt = zM f T p := by
  have h := zM_bd hv hp
  rw [aM_z, Int32.toInt_ofInt_of_le (by omega) (by omega)]
theorem zSum_toInt {f : Nat → Int32} {P T p : Nat} (hv : wv f P T) (hp : p < P) : (Int64.ofInt (zSum f T p)).toInt = zSum f T p := by
  have h := zSum_bd hv hp
  exact Int64.toInt_ofInt_of_le (by omega) (by omega)
theorem end_bd {v : Int32} {M : pm_M} (h : ¬ fWt_isEnd v M = 0) : -999 ≤ v.toInt ∧ v.toInt ≤ 999 := by
  unfold fWt_isEnd fWt_within at h
  have a1 : (-999 : Int32).toInt = -999 := by decide
  have a2 : (999 : Int32).toInt = 999 := by decide
  by_cases q : v < -999
  · rw [if_pos q] at h
    exact absurd rfl h
  · rw [if_neg q] at h
    by_cases q2 : 999 < v
    · rw [if_pos q2] at h
      exact absurd rfl h
    · rw [Int32.lt_iff_toInt_lt] at q q2
      omega
theorem fee_iff {f : Nat → Int32} {P T p : Nat} {v : Int32} (hv : wv f P T) (hp : p < P) (h1 : -999 ≤ v.toInt) (h2 : v.toInt ≤ 999) : (v * nI (re_parts (aL f T).length) ≤ aM f T p) ↔ ¬ (lg_cmp (Int64.ofInt (zSum f T p)) (v.toInt64 * (nI (aW f T)).toInt64) < 0) := by
  have hW := aW_le hv
  have hP8 := parts_le (aN hv).1
  have hP0 := parts_pos (aL f T).length
  rw [lg_cmp_lt, Int32.le_iff_toInt_le, aM_toInt hv hp, Int64.lt_iff_toInt_lt, zSum_toInt hv hp]
  have b1 : (v.toInt * (re_parts (aL f T).length : Int)).natAbs ≤ 999 * 8 := by
    rw [Int.natAbs_mul]
    exact Nat.mul_le_mul (by omega) (by omega)
  have b2 : (v.toInt * (aW f T : Int)).natAbs ≤ 999 * 576 := by
    rw [Int.natAbs_mul]
    exact Nat.mul_le_mul (by omega) (by omega)
  have e1 : (v * nI (re_parts (aL f T).length)).toInt = v.toInt * (re_parts (aL f T).length : Int) := by
    rw [Int32.toInt_mul, nI_toInt (by omega), Int.bmod_eq_of_le (by omega) (by omega)]
  have e2 : (v.toInt64 * (nI (aW f T)).toInt64).toInt = v.toInt * (aW f T : Int) := by
    rw [Int64.toInt_mul, Int32.toInt_toInt64, Int32.toInt_toInt64, nI_toInt (by omega), Int.bmod_eq_of_le (by omega) (by omega)]
  rw [e1, e2, sum_le hv hp]
  omega
theorem md_ij {t w : Nat} (ht : t < 4) (hw : w < 4) : (4 + 5 * nI t) + nI w = nI (4 + 5 * t + w) := (by decide +kernel : ∀ t : Fin 4, ∀ w : Fin 4, (4 + 5 * nI t.val) + nI w.val = nI (4 + 5 * t.val + w.val)) ⟨t, ht⟩ ⟨w, hw⟩
/-- another trait is tried -/
theorem m_trait {M : pm_M} {f : Nat → Int32} {P T p t w v : Nat} (hv : wv f P T) (hw : mw M f P T) (hp : p < P) (ht : t < T) (hw4 : w < 4) (hvv : tv P w v) : ∃ M', pm_Ev mMo_findEnds [pm_r 29 0, pm_i (nI p)] (gMo_tries (nI (4 + 5 * t + w)) (nI v) M) none M' ∧ ms_eq M M' ∧ fMo_waysMany M' = nI (aW f T) ∧ M'.2 = Int64.ofInt (zSum (upd f (4 + 5 * t + w) (nI v)) T p) ∧ wv (upd f (4 + 5 * t + w) (nI v)) P T ∧ aL (upd f (4 + 5 * t + w) (nI v)) T = aL f T := by
  have hT := hv.2.1
  have hv2 : wv (upd f (4 + 5 * t + w) (nI v)) P T := wv_trait hv ht hvv
  obtain ⟨e1, e2⟩ := aL_upd (f := f) (v := nI v) hT ht hw4
  obtain ⟨M', k1, k2, k3, k4, -⟩ := m_try (c := some (4 + 5 * t + w, nI v)) hv (mw_ms hw ms_tries) hp (M := gMo_tries (nI (4 + 5 * t + w)) (nI v) M) ⟨by omega, tries_25.1, tries_25.2⟩ hv2 e1 e2
  exact ⟨M', k1, ms_trans ms_tries k2, k3, k4, hv2, e1⟩
theorem owner_at {M : pm_M} {f : Nat → Int32} {P T t o : Nat} (hw : mw M f P T) (hT : T ≤ 4) (ht : t < T) (ho : f (5 + 5 * t) = nI o) : fMo_ownerOf (nI t) M = nI o ∧ sMo_ownerOf (nI t) M := by
  unfold fMo_ownerOf sMo_ownerOf
  rw [md_i1 (show t < 4 by omega), hw.1]
  refine ⟨ho, ?_⟩
  have : ∀ u : Fin 4, vp_in ((4 + (5 * nI u.val)) + 1) 135 := by
    unfold vp_in
    decide +kernel
  exact this ⟨t, by omega⟩
theorem drawn_at {M : pm_M} {f : Nat → Int32} {P T t : Nat} (hw : mw M f P T) (hT : T ≤ 4) (ht : t < T) : fMo_isDrawn (nI t) M = (if f (8 + 5 * t) = -4 then 0 else 1) ∧ sMo_isDrawn (nI t) M := by
  unfold fMo_isDrawn sMo_isDrawn
  rw [md_i4 (show t < 4 by omega), hw.1]
  exact ⟨rfl, (md_v (show t < 4 by omega)).2.2.2.1⟩
theorem m_fee_bad {M : pm_M} {f : Nat → Int32} {P T : Nat} {a v : Int32} (hv : wv f P T) (hw : mw M f P T) (hb : (¬ ∃ t, t < T ∧ a = nI t) ∨ fWt_isEnd v M = 0) : pm_Ev mMo_fee [pm_r 29 0, pm_i a, pm_i v] M (some (pm_i (-1))) M := by
  refine pm_Sem_of (ls := [some (pm_r 29 0), some (pm_i a), some (pm_i v), none]) ok_mMo_fee (by decide +kernel) rfl (by decide) (Nat.le_of_ble_eq_true rfl) rfl ?_
  refine bMo_fee_0 eMo_isTicket (bMo_fee_5 (fun _ => bMo_fee_22 ⟨rfl, rfl⟩) (fun h1 => bMo_fee_8 eMo_in (bMo_fee_19 (fun _ => bMo_fee_22 ⟨rfl, rfl⟩) (fun h2 => ?_))))
  rcases hb with hb | hb
  · exact absurd (moT_bad hw.2.2 hv.2.1 hb) h1
  · exact absurd ((mo_end v M M).trans hb) h2
theorem m_fee_st {M : pm_M} {f : Nat → Int32} {P T t : Nat} {v : Int32} (hv : wv f P T) (hw : mw M f P T) (ht : t < T) (hb : ¬ fWt_isEnd v M = 0) (hd : ¬ f (8 + 5 * t) = -4) : pm_Ev mMo_fee [pm_r 29 0, pm_i (nI t), pm_i v] M (some (pm_i (-2))) M := by
  refine pm_Sem_of (ls := [some (pm_r 29 0), some (pm_i (nI t)), some (pm_i v), none]) ok_mMo_fee (by decide +kernel) rfl (by decide) (Nat.le_of_ble_eq_true rfl) rfl ?_
  have hd' := drawn_at hw hv.2.1 ht
  refine bMo_fee_0 eMo_isTicket (bMo_fee_5 (fun q => ?_) (fun _ => bMo_fee_8 eMo_in (bMo_fee_19 (fun q => absurd ((mo_end v M M).symm.trans q) hb) (fun _ => bMo_fee_24 (eMo_isDrawn hd'.2) (bMo_fee_29 (fun q => ?_) (fun _ => bMo_fee_32 ⟨rfl, rfl⟩))))))
  · rw [moT_good hw.2.2 hv.2.1 ht] at q
    exact absurd q (by decide)
  · rw [hd'.1, if_neg hd] at q
    exact absurd q (by decide)
theorem m_fee {M : pm_M} {f : Nat → Int32} {P T t o : Nat} {v : Int32} (hv : wv f P T) (hw : mw M f P T) (ht : t < T) (hb : ¬ fWt_isEnd v M = 0) (hd : f (8 + 5 * t) = -4) (ho : f (5 + 5 * t) = nI o) (hoP : o < P) : ∃ M', pm_Ev mMo_fee [pm_r 29 0, pm_i (nI t), pm_i v] M (some (pm_i (aFee f T t o v))) M' ∧ ms_eq M M' := by
  have hT := hv.2.1
  have hd' := drawn_at hw hT ht
  obtain ⟨vb1, vb2⟩ := end_bd hb
  suffices hL : ∃ M', pm_G mMo_fee 37 [some (pm_r 29 0), some (pm_i (nI t)), some (pm_i v), some (pm_i (nI 0))] [] M (pm_D (some (pm_i (aFee f T t o v))) M') ∧ ms_eq M M' by
    obtain ⟨M', g1, g2⟩ := hL
    refine ⟨M', ?_, g2⟩
    refine pm_Sem_of (ls := [some (pm_r 29 0), some (pm_i (nI t)), some (pm_i v), none]) ok_mMo_fee (by decide +kernel) rfl (by decide) (Nat.le_of_ble_eq_true rfl) rfl ?_
    refine bMo_fee_0 eMo_isTicket (bMo_fee_5 (fun q => ?_) (fun _ => bMo_fee_8 eMo_in (bMo_fee_19 (fun q => absurd ((mo_end v M M).symm.trans q) hb) (fun _ => bMo_fee_24 (eMo_isDrawn hd'.2) (bMo_fee_29 (fun _ => bMo_fee_35 g1) (fun q => ?_))))))
    · rw [moT_good hw.2.2 hT ht] at q
      exact absurd q (by decide)
    · rw [hd'.1, if_pos hd] at q
      exact absurd rfl q
  generalize hc : (fun fe => decide (v * nI (re_parts (aL f T).length) ≤ aG f T t 3 o fe)) = c
  have hres : aFee f T t o v = pm_first c 10 := by unfold aFee; rw [hc]
  rw [hres]
  refine pm_upto (N := 10) (P := fun i => (∀ j, j < i → c j = false) → ∀ M1, ms_eq M M1 → ∃ M', pm_G mMo_fee 37 [some (pm_r 29 0), some (pm_i (nI t)), some (pm_i v), some (pm_i (nI i))] [] M1 (pm_D (some (pm_i (pm_first c 10))) M') ∧ ms_eq M M') ?_ ?_ 0 (Nat.zero_le _) (fun j hj => absurd hj (Nat.not_lt_zero _)) M ms_rfl
  · intro hall M1 hms
    refine ⟨M1, ?_, hms⟩
    rw [pm_first_no hall]
    exact bMo_fee_37 (fun _ => bMo_fee_88 ⟨rfl, rfl⟩) (fun q => absurd (show nI 9 < nI 10 from (pm_lt4 (by omega) (by omega)).mpr (by omega)) q)
  · intro i hi ih hall M1 hms
    have hw1 := mw_ms hw hms
    obtain ⟨M2, k1, k2, k3, k4, k5, k6⟩ := m_trait (w := 3) (v := i) hv hw1 hoP ht (by omega) (Or.inr (Or.inr (Or.inr ⟨rfl, by omega⟩)))
    have hms2 := ms_trans hms k2
    have hown := owner_at (mw_ms hw1 (ms_tries (a := nI (4 + 5 * t + 3)) (b := nI i))) hT ht ho
    have eij : (4 + (5 * nI t)) + 3 = nI (4 + 5 * t + 3) := md_ij (show t < 4 by omega) (show 3 < 4 by omega)
    have eW' : aW (upd f (4 + 5 * t + 3) (nI i)) T = aW f T := by unfold aW; rw [k6]
    have hiff := fee_iff k5 hoP vb1 vb2
    rw [k6, eW'] at hiff
    have go : ∀ M', pm_G mMo_fee 74 [some (pm_r 29 0), some (pm_i (nI t)), some (pm_i v), some (pm_i (nI i))] [pm_i (nI (aW f T)), pm_l v.toInt64, pm_l (Int64.ofInt (zSum (upd f (4 + 5 * t + 3) (nI i)) T o))] M2 (pm_D (some (pm_i (pm_first c 10))) M') → pm_G mMo_fee 37 [some (pm_r 29 0), some (pm_i (nI t)), some (pm_i v), some (pm_i (nI i))] [] M1 (pm_D (some (pm_i (pm_first c 10))) M') := by
      intro M' g
      refine bMo_fee_37 (fun q => ?_) (fun _ => bMo_fee_43 eMo_tries ?_)
      · have := (pm_lt4 (a := 9) (b := i) (by omega) (by omega)).mp q
        omega
      · rw [eij]
        refine bMo_fee_55 (eMo_ownerOf hown.2) ?_
        rw [hown.1]
        refine bMo_fee_61 k1 (bMo_fee_64 eMo_waysMany ?_)
        rw [k3, k4]
        exact g
    by_cases hci : c i = true
    · refine ⟨M2, go _ (bMo_fee_74 (fun q => ?_) (fun _ => bMo_fee_80 ?_)), hms2⟩
      · rw [← hc] at hci
        exact absurd q (hiff.mp (of_decide_eq_true hci))
      · rw [pm_first_at hi hci hall]
        exact ⟨rfl, rfl⟩
    · have hcf : c i = false := by simpa using hci
      obtain ⟨M', g1, g2⟩ := ih (fun j hj => by
        by_cases e : j = i
        · subst e; exact hcf
        · exact hall j (by omega)) M2 hms2
      refine ⟨M', go _ (bMo_fee_74 (fun _ => bMo_fee_82 ?_) (fun q => ?_)), g2⟩
      · rw [nI_1]
        exact g1
      · rw [← hc] at hcf
        exact absurd (hiff.mpr q) (of_decide_eq_false hcf)
