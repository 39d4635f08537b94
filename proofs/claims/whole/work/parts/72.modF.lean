/-! the reference: isFit, fits -/
def wFit (f : Nat → Int32) (T w : Nat) : Bool := pm_alln (fun k => decide (wE f f T (aSp f k) w = f (34 + 2 * k))) (aSn f)
/-- the prize of the i-th ticket by a way -/
def gP (f : Nat → Int32) (T i w : Nat) : Nat := (aP f T).getD (re_ord (rB (aL f T).length (w / md_fact (aL f T).length) (w % md_fact (aL f T).length)) i) 0
theorem md_33 {k : Nat} (hk : k < 6) : Int32.toNatClampNeg (33 + (2 * nI k)) = 33 + 2 * k ∧ Int32.toNatClampNeg ((33 + (2 * nI k)) + 1) = 34 + 2 * k ∧ vp_in (33 + (2 * nI k)) 135 ∧ vp_in ((33 + (2 * nI k)) + 1) 135 := by
  have : ∀ k : Fin 6, Int32.toNatClampNeg (33 + (2 * nI k.val)) = 33 + 2 * k.val ∧ Int32.toNatClampNeg ((33 + (2 * nI k.val)) + 1) = 34 + 2 * k.val ∧ vp_in (33 + (2 * nI k.val)) 135 ∧ vp_in ((33 + (2 * nI k.val)) + 1) 135 := by
    unfold vp_in
    decide +kernel
  exact this ⟨k, hk⟩
theorem oo_at {n r j : Nat} (hn : n ≤ 4) (hr : r < md_fact n) (hj : j < n) : ∃ i, i < n ∧ oo n r i = j := by
  have h24 := (md_fact24 hn).1
  have : ∀ n : Fin 5, ∀ r : Fin 24, ∀ j : Fin 4, r.val < md_fact n.val → j.val < n.val → ∃ i : Fin 4, i.val < n.val ∧ oo n.val r.val i.val = j.val := by decide +kernel
  obtain ⟨i, h1, h2⟩ := this ⟨n, by omega⟩ ⟨r, by omega⟩ ⟨j, by omega⟩ hr hj
  exact ⟨i.val, h1, h2⟩
theorem aL_inj {f : Nat → Int32} {T i j : Nat} (hi : i < (aL f T).length) (hj : j < (aL f T).length) (h : (aL f T).getD i 0 = (aL f T).getD j 0) : i = j := by
  have hnd : (aL f T).Nodup := List.Pairwise.filter _ List.nodup_range
  rw [List.getD_eq_getElem?_getD, List.getD_eq_getElem?_getD, List.getElem?_eq_getElem hi, List.getElem?_eq_getElem hj] at h
  exact (List.getElem_inj hnd).mp h
theorem aL_at {f : Nat → Int32} {T t : Nat} (ht : t < T) (hd : f (8 + 5 * t) = -4) : ∃ j, j < (aL f T).length ∧ (aL f T).getD j 0 = t := by
  have hm : t ∈ aL f T := List.mem_filter.mpr ⟨List.mem_range.mpr ht, decide_eq_true hd⟩
  obtain ⟨j, hj, e⟩ := List.mem_iff_getElem.mp hm
  exact ⟨j, hj, by rw [List.getD_eq_getElem?_getD, List.getElem?_eq_getElem hj]; exact e⟩
theorem wt_inj {f : Nat → Int32} {P T w i j : Nat} (hv : wv f P T) (hw : w < aW f T) (hi : i < (aL f T).length) (hj : j < (aL f T).length) (h : wt f T w i = wt f T w j) : i = j := by
  obtain ⟨hn4, hN24, hN1⟩ := aN hv
  obtain ⟨d1, d2⟩ := w_dm hN1 hw
  have := aL_inj (OR_lt hn4 d1 hi) (OR_lt hn4 d1 hj) h
  rw [oo_eq hn4 d1 hi, oo_eq hn4 d1 hj] at this
  exact oo_inj hn4 d1 hi hj this
/-- what was drawn by a way -/
theorem way_drew {f g : Nat → Int32} {P T w : Nat} (hv : wv f P T) (hg : ag g f) (hw : w < aW f T) : (∀ i, i < (aL f T).length → md_go T (wt f T w) (wz f T w) g (aL f T).length (8 + 5 * (aL f T).getD i 0) = nI (gP f T i w)) ∧ ∀ t, t < T → ¬ f (8 + 5 * t) = -4 → md_go T (wt f T w) (wz f T w) g (aL f T).length (8 + 5 * t) = f (8 + 5 * t) := by
  have hT := hv.2.1
  obtain ⟨hn4, hN24, hN1⟩ := aN hv
  obtain ⟨d1, d2⟩ := w_dm hN1 hw
  have lt4 : ∀ a, a < (aL f T).length → wt f T w a < 4 ∧ wz f T w a < 4 := fun a ha => by
    have := wt_lt hv hw ha
    omega
  refine ⟨fun i hi => ?_, fun t ht hd => ?_⟩
  · obtain ⟨j, hj, ej⟩ := oo_at hn4 d1 hi
    have e1 : wt f T w j = (aL f T).getD i 0 := by
      unfold wt
      rw [oo_eq hn4 d1 hj, ej]
    have e2 : wz f T w j = gP f T i w := by
      unfold wz gP
      rw [oo_eq hn4 d2 hj, ro_eq (show rB (aL f T).length (w / md_fact (aL f T).length) (w % md_fact (aL f T).length) < 24 by have := (rB_ok hn4 d1 d2).1; omega) (by omega), ← ej, (rB_ok hn4 d1 d2).2 j hj]
    rw [← e1, ← e2]
    refine go_drew (fun a b hab hb e => ?_) hj lt4 (fun b hb hjb e => ?_)
    · have := wt_inj hv hw (show a < _ by omega) (show b < _ by omega) e
      omega
    · have := wt_inj hv hw hb hj e
      omega
  · rw [go_hi (by omega) (fun j hj => ?_), hg _ (by omega)]
    have h1 := lt4 j hj
    refine ⟨by omega, fun e => ?_⟩
    have h2 := (aL_lt (OR_lt hn4 d1 hj)).2
    have h3 : wt f T w j = t := by omega
    unfold wt at h3
    rw [h3] at h2
    exact hd h2
theorem m_isFit {M : pm_M} {f : Nat → Int32} {P T w : Nat} (hv : wv f P T) (hm : mf M f P T) (hw : w < aW f T) : ∃ G, pm_Ev mMo_isFit [pm_r 29 0, pm_i (nI w)] M (some (pm_i (if wFit f T w = true then 1 else 0))) (pm_set M 31 0 G) ∧ (∀ i, i < (aL f T).length → G (8 + 5 * (aL f T).getD i 0) = nI (gP f T i w)) ∧ ∀ t, t < T → ¬ f (8 + 5 * t) = -4 → G (8 + 5 * t) = f (8 + 5 * t) := by
  have hP := hv.1
  obtain ⟨g, G, s1, s2, s3, s4, s5⟩ := m_way hv hm hw
  have hdr := way_drew hv s3 hw
  rw [← s4] at hdr
  refine ⟨G, ?_, hdr⟩
  obtain ⟨s, hs6, hs, hsp⟩ := hv.2.2.2.2.2.2.2.1
  have hsn : aSn f = s := by unfold aSn; rw [hs, pm_cl4 (by omega)]
  refine pm_Sem_of (ls := [some (pm_r 29 0), some (pm_i (nI w)), none, none]) ok_mMo_isFit (by decide +kernel) rfl (by decide) (Nat.le_of_ble_eq_true rfl) rfl ?_
  refine bMo_isFit_0 s1 (bMo_isFit_6 s2 (bMo_isFit_11 ?_))
  have h30 : (pm_set M 31 0 G).1 30 0 = f := by rw [pm_set_ne _ _ (by decide)]; exact hm.2.2.2.2.2.2.2
  have h31 : ∀ p, p < 4 → (pm_set M 31 0 G).1 31 0 p = wE f f T p w := fun p hp => by rw [pm_set_at, s5 p hp]
  have hv32 : vp_in 32 135 := by unfold vp_in; decide
  have z32 : Int32.toNatClampNeg 32 = 32 := by decide
  unfold wFit
  rw [hsn]
  generalize pm_set M 31 0 G = M3 at h30 h31 ⊢
  refine pm_upto (N := s) (P := fun k => pm_G mMo_isFit 13 [some (pm_r 29 0), some (pm_i (nI w)), some (pm_i (if pm_alln (fun k => decide (wE f f T (aSp f k) w = f (34 + 2 * k))) k = true then 1 else 0)), some (pm_i (nI k))] [] M3 (pm_D (some (pm_i (if pm_alln (fun k => decide (wE f f T (aSp f k) w = f (34 + 2 * k))) s = true then 1 else 0))) M3)) ?_ ?_ 0 (Nat.zero_le _)
  · refine bMo_isFit_13 hv32 (fun _ => bMo_isFit_72 ?_ ⟨rfl, rfl⟩) (fun q => absurd (pm_yle ?_ (by omega)) q)
    · split <;> rfl
    · rw [z32, h30, hs]
  · intro k hk kp
    obtain ⟨p, hp, hpk⟩ := hsp k hk
    obtain ⟨i1, i2, i3, i4⟩ := md_33 (show k < 6 by omega)
    have eSp : aSp f k = p := by unfold aSp; rw [hpk, pm_cl4 (by omega)]
    rw [pm_alln, ← nI_1] at kp
    refine bMo_isFit_13 hv32 (fun q => absurd q (pm_nle ?_ hk (by omega))) (fun _ => ?_)
    · rw [z32, h30, hs]
    · by_cases ha : pm_alln (fun k => decide (wE f f T (aSp f k) w = f (34 + 2 * k))) k = true
      · rw [ha, Bool.true_and, eSp] at kp
        rw [if_pos ha]
        refine bMo_isFit_24 (fun q => absurd q (by decide)) (fun _ => bMo_isFit_28 i3 ?_ i4 (fun q => bMo_isFit_60 (bMo_isFit_65 ?_)) (fun q => bMo_isFit_64 (bMo_isFit_65 ?_)))
        · rw [i1, h30, hpk]
          exact pm_vin (by omega) (by omega)
        · rw [i1, i2, h30, hpk, pm_cl4 (show p ≤ 1000 by omega), h31 p (by omega)] at q
          rw [if_pos (decide_eq_true q)] at kp
          exact kp
        · rw [i1, i2, h30, hpk, pm_cl4 (show p ≤ 1000 by omega), h31 p (by omega)] at q
          rw [if_neg (by rw [decide_eq_false q]; decide)] at kp
          exact kp
      · have ha2 : pm_alln (fun k => decide (wE f f T (aSp f k) w = f (34 + 2 * k))) k = false := by simpa using ha
        rw [ha2, Bool.false_and, if_neg (by decide)] at kp
        rw [if_neg ha]
        exact bMo_isFit_24 (fun _ => bMo_isFit_64 (bMo_isFit_65 kp)) (fun q => absurd rfl q)
-- counts
theorem sum_swap {h : Nat → Nat → Nat} {n : Nat} : ∀ {m : Nat}, pm_sumN (fun a => pm_sumN (h a) n) m = pm_sumN (fun b => pm_sumN (fun a => h a b) m) n
  | 0 => by
    rw [pm_sumN]
    have : ∀ n, pm_sumN (fun b => pm_sumN (fun a => h a b) 0) n = 0 := by
      intro n
      induction n with
      | zero => rfl
      | succ n ih => rw [pm_sumN, ih]; rfl
    rw [this]
  | m + 1 => by
    rw [pm_sumN, sum_swap (m := m)]
    have : ∀ n, pm_sumN (fun b => pm_sumN (fun a => h a b) m) n + pm_sumN (h m) n = pm_sumN (fun b => pm_sumN (fun a => h a b) (m + 1)) n := by
      intro n
      induction n with
      | zero => rfl
      | succ n ih =>
        rw [pm_sumN, pm_sumN, pm_sumN, ← ih]
        show _ = _ + (pm_sumN (fun a => h a n) m + h m n)
        omega
    exact this n
theorem cnt_pos {c : Nat → Bool} : ∀ {n : Nat}, 0 < pm_cnt1 c n ↔ ∃ i, i < n ∧ c i = true
  | 0 => ⟨fun h => absurd h (by rw [pm_cnt1]; omega), fun ⟨i, h, _⟩ => absurd h (Nat.not_lt_zero _)⟩
  | n + 1 => by
    rw [pm_cnt1]
    have ih := cnt_pos (c := c) (n := n)
    by_cases h : c n = true
    · rw [if_pos h]
      exact ⟨fun _ => ⟨n, by omega, h⟩, fun _ => by omega⟩
    · rw [if_neg h, Nat.add_zero, ih]
      constructor
      · rintro ⟨i, a, b⟩
        exact ⟨i, by omega, b⟩
      · rintro ⟨i, a, b⟩
        by_cases e : i = n
        · subst e
          exact absurd b h
        · exact ⟨i, by omega, b⟩
theorem fit_cnt {f : Nat → Int32} {P T : Nat} (hv : wv f P T) : aFit f T = pm_cnt1 (wFit f T) (aW f T) := by
  have hn := (aN hv).1
  have e : pm_cnt1 (wFit f T) (aW f T) = aCnt (aSeen f T) (md_fact (aL f T).length) := cnt_rows (c := aSeen f T) hn
  rw [e]
  unfold aFit aCnt
  have e1 : pm_sumN (aC f T) (md_fact (aL f T).length) = pm_sumN (fun q => pm_sumN (fun o => if aSeen f T o q = true then 1 else 0) (md_fact (aL f T).length)) (md_fact (aL f T).length) := pm_sumN_congr (fun q _ => cnt_sum _ _)
  have e2 : pm_sumN (fun o => pm_cnt1 (aSeen f T o) (md_fact (aL f T).length)) (md_fact (aL f T).length) = pm_sumN (fun o => pm_sumN (fun q => if aSeen f T o q = true then 1 else 0) (md_fact (aL f T).length)) (md_fact (aL f T).length) := pm_sumN_congr (fun o _ => cnt_sum _ _)
  rw [e1, e2]
  exact (sum_swap (h := fun o q => if aSeen f T o q = true then 1 else 0)).symm
theorem sumN_at {g : Nat → Nat} {i : Nat} : ∀ {n : Nat}, i < n → (∀ k, k < n → k ≠ i → g k = 0) → pm_sumN g n = g i
  | n + 1, hi, h => by
    rw [pm_sumN]
    by_cases e : i = n
    · subst e
      have : ∀ m, m ≤ i → pm_sumN g m = 0 := by
        intro m
        induction m with
        | zero => intro _; rfl
        | succ m ih => intro hm; rw [pm_sumN, ih (by omega), h m (by omega) (by omega)]
      rw [this i (Nat.le_refl _), Nat.zero_add]
    · rw [sumN_at (n := n) (by omega) (fun k hk => h k (by omega)), h n (by omega) (fun q => e q.symm), Nat.add_zero]
theorem pr_cnt {f : Nat → Int32} {P T i k : Nat} (hv : wv f P T) (hi : i < (aL f T).length) (hk : k < 4) : aPr f T (4 * (aL f T).getD i 0 + k) = pm_cnt1 (fun w => wFit f T w && decide (gP f T i w = k)) (aW f T) := by
  have hn := (aN hv).1
  have hT := hv.2.1
  have hl := hv.2.2.2.2.2.2.1
  have e : pm_cnt1 (fun w => wFit f T w && decide (gP f T i w = k)) (aW f T) = aCnt (fun o q => aSeen f T o q && decide ((aP f T).getD (re_ord q i) 0 = k)) (md_fact (aL f T).length) := cnt_rows (c := fun o q => aSeen f T o q && decide ((aP f T).getD (re_ord q i) 0 = k)) hn
  rw [e]
  unfold aPr aCnt
  have e1 : pm_sumN (fun q => pm_sumN (fun j => if aCell f T q j = 4 * (aL f T).getD i 0 + k then aC f T q else 0) (aL f T).length) (md_fact (aL f T).length) = pm_sumN (fun q => pm_sumN (fun o => if (aSeen f T o q && decide ((aP f T).getD (re_ord q i) 0 = k)) = true then 1 else 0) (md_fact (aL f T).length)) (md_fact (aL f T).length) := by
    refine pm_sumN_congr (fun q hq => ?_)
    rw [sumN_at hi (fun j hj hne => ?_)]
    · unfold aCell
      by_cases c : (aP f T).getD (re_ord q i) 0 = k
      · rw [if_pos (by omega)]
        unfold aC
        rw [cnt_sum]
        exact pm_sumN_congr (fun o _ => by rw [decide_eq_true c, Bool.and_true])
      · rw [if_neg (by omega)]
        have : ∀ m, pm_sumN (fun o => if (aSeen f T o q && decide ((aP f T).getD (re_ord q i) 0 = k)) = true then 1 else 0) m = 0 := by
          intro m
          induction m with
          | zero => rfl
          | succ m ih => rw [pm_sumN, ih, decide_eq_false c, Bool.and_false, if_neg (by decide)]
        rw [this]
    · unfold aCell
      rw [if_neg]
      intro q2
      have b1 := (aL_lt hj).1
      have b2 := (aL_lt hi).1
      have b3 := (aP_lt (f := f) (T := T) (a := re_ord q j) (by have := (re_ord_lt hn hq hj).1; omega)).1
      exact hne (aL_inj hj hi (by omega))
  rw [e1, ← sum_swap (h := fun o q => if (aSeen f T o q && decide ((aP f T).getD (re_ord q i) 0 = k)) = true then 1 else 0)]
  exact pm_sumN_congr (fun o _ => (cnt_sum _ _).symm)
theorem bits4_bit (p : Nat → Bool) (j : Nat) : (pm_bits p 4).testBit j = (decide (j < 4) && p j) := by
  by_cases h : j < 4
  · rw [decide_eq_true h, Bool.true_and]
    rcases (show j = 0 ∨ j = 1 ∨ j = 2 ∨ j = 3 by omega) with rfl | rfl | rfl | rfl
    all_goals
      simp only [pm_bits]
      cases h0 : p 0 <;> cases h1 : p 1 <;> cases h2 : p 2 <;> cases h3 : p 3 <;> decide
  · rw [decide_eq_false h, Bool.false_and]
    apply Nat.testBit_lt_two_pow
    exact Nat.lt_of_lt_of_le (pm_bits_lt p 4) (Nat.pow_le_pow_right (by omega) (by omega))
theorem gP_lt {f : Nat → Int32} {P T i w : Nat} (hv : wv f P T) (hi : i < (aL f T).length) (hw : w < aW f T) : gP f T i w < T := by
  have hn := (aN hv).1
  exact (aP_lt (by have := (re_ord_lt hn (wE_in hv hw).2 hi).1; have := hv.2.2.2.2.2.2.1; omega)).1
theorem bits_or {f : Nat → Int32} {P T i : Nat} (hv : wv f P T) (hi : i < (aL f T).length) : aBits f T ((aL f T).getD i 0) = re_or (wFit f T) (gP f T i) (aW f T) := by
  have hW := aW_le hv
  apply Nat.eq_of_testBit_eq
  intro j
  unfold aBits
  rw [bits4_bit]
  apply Bool.eq_iff_iff.mpr
  rw [re_or_bit, Bool.and_eq_true, decide_eq_true_eq, decide_eq_true_eq]
  constructor
  · rintro ⟨h1, h2⟩
    have hc := pr_cnt hv hi h1
    have hle := pm_cnt1_le (fun w => wFit f T w && decide (gP f T i w = j)) (aW f T)
    rw [hc] at h2
    have h3 : 0 < pm_cnt1 (fun w => wFit f T w && decide (gP f T i w = j)) (aW f T) := (pm_lt4 (a := 0) (by omega) (by omega)).mp h2
    obtain ⟨w, w1, w2⟩ := cnt_pos.mp h3
    rw [Bool.and_eq_true, decide_eq_true_eq] at w2
    exact ⟨w, w1, w2.1, w2.2⟩
  · rintro ⟨w, w1, w2, w3⟩
    have hj : j < 4 := by
      have := gP_lt hv hi w1
      have := hv.2.1
      omega
    refine ⟨hj, ?_⟩
    rw [pr_cnt hv hi hj]
    have hle := pm_cnt1_le (fun w => wFit f T w && decide (gP f T i w = j)) (aW f T)
    exact (pm_lt4 (a := 0) (by omega) (by omega)).mpr (cnt_pos.mpr ⟨w, w1, by rw [w2, decide_eq_true w3]; rfl⟩)
theorem m_fits_bad {M : pm_M} {f : Nat → Int32} {P T : Nat} {a : Int32} (hv : wv f P T) (hw : mw M f P T) (h0 : ¬ a = 0) (hb : ¬ ∃ t, t < T ∧ a = nI (10 + t)) : pm_Ev mMo_fits [pm_r 29 0, pm_i a] M (some (pm_i (-1))) M := by
  refine pm_Sem_of (ls := [some (pm_r 29 0), some (pm_i a), none, none, none]) ok_mMo_fits (by decide +kernel) rfl (by decide) (Nat.le_of_ble_eq_true rfl) rfl ?_
  have hT := hv.2.1
  refine bMo_fits_0 (fun q => absurd q h0) (fun _ => bMo_fits_4 eMo_isTicket (bMo_fits_12 (fun _ => bMo_fits_15 ⟨rfl, rfl⟩) (fun q => absurd (moT_bad hw.2.2 hT ?_) q)))
  rintro ⟨t, ht, e⟩
  refine hb ⟨t, ht, ?_⟩
  have : a = nI t + 10 := by rw [← e]; exact (Int32.sub_add_cancel ..).symm
  rw [this]
  exact (by decide +kernel : ∀ t : Fin 4, nI t.val + 10 = nI (10 + t.val)) ⟨t, by omega⟩
theorem m_fits_st {M : pm_M} {f : Nat → Int32} {P T t : Nat} (hv : wv f P T) (hw : mw M f P T) (ht : t < T) (hd : ¬ f (8 + 5 * t) = -4) : pm_Ev mMo_fits [pm_r 29 0, pm_i (nI (10 + t))] M (some (pm_i (1 <<< (f (8 + 5 * t) &&& 31)))) M := by
  refine pm_Sem_of (ls := [some (pm_r 29 0), some (pm_i (nI (10 + t))), none, none, none]) ok_mMo_fits (by decide +kernel) rfl (by decide) (Nat.le_of_ble_eq_true rfl) rfl ?_
  have hT := hv.2.1
  obtain ⟨a1, a2, a3⟩ := ten_sub (show t < 4 by omega)
  have hd' := drawn_at hw hT ht
  refine bMo_fits_0 (fun q => absurd q a3) (fun _ => bMo_fits_4 eMo_isTicket (bMo_fits_12 (fun q => ?_) (fun _ => bMo_fits_17 (fun q => absurd q a3) (fun _ => bMo_fits_21 (eMo_isDrawn (by rw [a1]; exact hd'.2)) (bMo_fits_29 (fun q => ?_) (fun _ => bMo_fits_32 ?_ ?_))))))
  · rw [a1, moT_good hw.2.2 hT ht] at q
    exact absurd q (by decide)
  · rw [a1, hd'.1, if_neg hd] at q
    exact absurd q (by decide)
  · rw [a1]
    exact (md_v (show t < 4 by omega)).2.2.2.1
  · rw [a1, md_i4 (show t < 4 by omega), hw.1]
    exact ⟨rfl, rfl⟩
theorem m_fits0 {M : pm_M} {f : Nat → Int32} {P T : Nat} (hv : wv f P T) (hw : mw M f P T) : ∃ M', pm_Ev mMo_fits [pm_r 29 0, pm_i 0] M (some (pm_i (nI (aFit f T)))) M' ∧ ms_eq M M' := by
  obtain ⟨hW, hW1⟩ := aW_le hv
  obtain ⟨M1, k1, k2, k3, -⟩ := m_orders hv hw.1 hw.2.1 hw.2.2
  rw [fit_cnt hv]
  suffices hL : ∃ M', pm_G mMo_fits 61 [some (pm_r 29 0), some (pm_i 0), some (pm_i (nI (pm_cnt1 (wFit f T) 0))), some (pm_i 0), some (pm_i (nI 0))] [] M1 (pm_D (some (pm_i (nI (pm_cnt1 (wFit f T) (aW f T))))) M') ∧ ms_eq M M' by
    obtain ⟨M', g1, g2⟩ := hL
    refine ⟨M', ?_, g2⟩
    refine pm_Sem_of (ls := [some (pm_r 29 0), some (pm_i 0), none, none, none]) ok_mMo_fits (by decide +kernel) rfl (by decide) (Nat.le_of_ble_eq_true rfl) rfl ?_
    exact bMo_fits_0 (fun _ => bMo_fits_17 (fun _ => bMo_fits_50 k1 (bMo_fits_58 g1)) (fun q => absurd rfl q)) (fun q => absurd rfl q)
  refine pm_upto (N := aW f T) (P := fun x => ∀ M2, ms_eq M M2 → mf M2 f P T → ∃ M', pm_G mMo_fits 61 [some (pm_r 29 0), some (pm_i 0), some (pm_i (nI (pm_cnt1 (wFit f T) x))), some (pm_i 0), some (pm_i (nI x))] [] M2 (pm_D (some (pm_i (nI (pm_cnt1 (wFit f T) (aW f T))))) M') ∧ ms_eq M M') ?_ ?_ 0 (Nat.zero_le _) M1 k2 k3
  · intro M2 hms hm
    exact ⟨M2, bMo_fits_61 eMo_waysMany (bMo_fits_67 (fun _ => bMo_fits_110 (fun _ => bMo_fits_114 (bMo_fits_119 ⟨rfl, rfl⟩)) (fun q => absurd rfl q)) (fun q => absurd (pm_yle (mf_ways hm) (by omega)) q)), hms⟩
  · intro x hx ih M2 hms hm
    obtain ⟨G, s1, s2, s3⟩ := m_isFit hv hm hx
    obtain ⟨M', g1, g2⟩ := ih (pm_set M2 31 0 G) (ms_trans hms (ms_set (by decide) (by decide))) (mf_set hm (by decide))
    refine ⟨M', ?_, g2⟩
    rw [pm_cnt1, ← nI_1] at g1
    refine bMo_fits_61 eMo_waysMany (bMo_fits_67 (fun q => absurd q (pm_nle (mf_ways hm) hx (by omega))) (fun _ => bMo_fits_70 s1 ?_))
    by_cases hf : wFit f T x = true
    · rw [if_pos hf] at g1 ⊢
      refine bMo_fits_76 (fun q => absurd q (by decide)) (fun _ => bMo_fits_79 (fun _ => bMo_fits_87 (bMo_fits_102 (bMo_fits_104 ?_))) (fun q => absurd rfl q))
      rw [nI_1]
      exact g1
    · rw [if_neg hf, Nat.add_zero] at g1
      rw [if_neg hf]
      exact bMo_fits_76 (fun _ => bMo_fits_104 g1) (fun q => absurd rfl q)
theorem m_fits_t {M : pm_M} {f : Nat → Int32} {P T t : Nat} (hv : wv f P T) (hw : mw M f P T) (ht : t < T) (hd : f (8 + 5 * t) = -4) : ∃ M', pm_Ev mMo_fits [pm_r 29 0, pm_i (nI (10 + t))] M (some (pm_i (nI (aBits f T t)))) M' ∧ ms_eq M M' := by
  have hT := hv.2.1
  obtain ⟨hW, hW1⟩ := aW_le hv
  obtain ⟨a1, a2, a3⟩ := ten_sub (show t < 4 by omega)
  have hd' := drawn_at hw hT ht
  obtain ⟨i, hi, ei⟩ := aL_at ht hd
  obtain ⟨M1, k1, k2, k3, -⟩ := m_orders hv hw.1 hw.2.1 hw.2.2
  have hbo := bits_or hv hi
  rw [ei] at hbo
  rw [hbo]
  suffices hL : ∃ M', pm_G mMo_fits 61 [some (pm_r 29 0), some (pm_i (nI (10 + t))), some (pm_i (nI (pm_cnt1 (wFit f T) 0))), some (pm_i (nI (re_or (wFit f T) (gP f T i) 0))), some (pm_i (nI 0))] [] M1 (pm_D (some (pm_i (nI (re_or (wFit f T) (gP f T i) (aW f T))))) M') ∧ ms_eq M M' by
    obtain ⟨M', g1, g2⟩ := hL
    refine ⟨M', ?_, g2⟩
    refine pm_Sem_of (ls := [some (pm_r 29 0), some (pm_i (nI (10 + t))), none, none, none]) ok_mMo_fits (by decide +kernel) rfl (by decide) (Nat.le_of_ble_eq_true rfl) rfl ?_
    refine bMo_fits_0 (fun q => absurd q a3) (fun _ => bMo_fits_4 eMo_isTicket (bMo_fits_12 (fun q => ?_) (fun _ => bMo_fits_17 (fun q => absurd q a3) (fun _ => bMo_fits_21 (eMo_isDrawn (by rw [a1]; exact hd'.2)) (bMo_fits_29 (fun _ => bMo_fits_50 k1 (bMo_fits_58 g1)) (fun q => ?_))))))
    · rw [a1, moT_good hw.2.2 hT ht] at q
      exact absurd q (by decide)
    · rw [a1, hd'.1, if_pos hd] at q
      exact absurd rfl q
  refine pm_upto (N := aW f T) (P := fun x => ∀ M2, ms_eq M M2 → mf M2 f P T → ∃ M', pm_G mMo_fits 61 [some (pm_r 29 0), some (pm_i (nI (10 + t))), some (pm_i (nI (pm_cnt1 (wFit f T) x))), some (pm_i (nI (re_or (wFit f T) (gP f T i) x))), some (pm_i (nI x))] [] M2 (pm_D (some (pm_i (nI (re_or (wFit f T) (gP f T i) (aW f T))))) M') ∧ ms_eq M M') ?_ ?_ 0 (Nat.zero_le _) M1 k2 k3
  · intro M2 hms hm
    exact ⟨M2, bMo_fits_61 eMo_waysMany (bMo_fits_67 (fun _ => bMo_fits_110 (fun q => absurd q a3) (fun _ => bMo_fits_118 (bMo_fits_119 ⟨rfl, rfl⟩))) (fun q => absurd (pm_yle (mf_ways hm) (by omega)) q)), hms⟩
  · intro x hx ih M2 hms hm
    obtain ⟨G, s1, s2, s3⟩ := m_isFit hv hm hx
    have hgl := gP_lt hv hi hx
    obtain ⟨M', g1, g2⟩ := ih (pm_set M2 31 0 G) (ms_trans hms (ms_set (by decide) (by decide))) (mf_set hm (by decide))
    refine ⟨M', ?_, g2⟩
    rw [pm_cnt1, re_or, ← nI_1] at g1
    refine bMo_fits_61 eMo_waysMany (bMo_fits_67 (fun q => absurd q (pm_nle (mf_ways hm) hx (by omega))) (fun _ => bMo_fits_70 s1 ?_))
    by_cases hf : wFit f T x = true
    · rw [if_pos hf, if_pos hf] at g1
      rw [if_pos hf]
      refine bMo_fits_76 (fun q => absurd q (by decide)) (fun _ => bMo_fits_79 (fun q => absurd q a3) (fun _ => ?_))
      rw [nI_1]
      have hof : pm_Ev mMo_of [pm_r 29 0, pm_i (nI (10 + t) - 10), pm_i 4] (pm_set M2 31 0 G) (some (pm_i (nI (gP f T i x)))) (pm_set M2 31 0 G) := by
        rw [a1]
        have h1 := fMo_of4 (M := M2) (f := G) (show t < 4 by omega)
        have h2 := s2 i hi
        rw [ei] at h2
        rw [h2] at h1
        rw [← h1]
        exact eMo_of (md_v (show t < 4 by omega)).1.2.2.2.2
      refine bMo_fits_91 hof (bMo_fits_101 (bMo_fits_102 (bMo_fits_104 ?_)))
      rw [re_or_I (b := re_or (wFit f T) (gP f T i) x) (t := gP f T i x) ?_ (by omega)]
      · exact g1
      · apply Nat.lt_of_not_le
        intro q9
        obtain ⟨j, hj, hb⟩ := Nat.exists_ge_and_testBit_of_ge_two_pow (n := 4) q9
        obtain ⟨i', h1, h2, h3⟩ := re_or_bit.mp hb
        have := gP_lt hv hi (show i' < aW f T by omega)
        omega
    · rw [if_neg hf, if_neg hf, Nat.add_zero] at g1
      rw [if_neg hf]
      exact bMo_fits_76 (fun _ => bMo_fits_104 g1) (fun q => absurd rfl q)
