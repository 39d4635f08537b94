/-! ends -/
def aLo (f : Nat → Int32) (T p : Nat) : Int32 := re_min (aA f T (nI p)) (md_fact (aL f T).length - 1) + re_min (aB f T (nI p)) (md_fact (aL f T).length - 1)
def aHA (f : Nat → Int32) (T p : Nat) : Int32 := re_max (aA f T (nI p)) (md_fact (aL f T).length - 1)
def aHi (f : Nat → Int32) (T p : Nat) : Int32 := aHA f T p + re_max (aB f T (nI p)) (md_fact (aL f T).length - 1)
def aFi (f : Nat → Int32) (T p : Nat) : Int32 := if (aL f T).length = 0 then 0 else nI (re_or (fun row => decide (aA f T (nI p) row = aHA f T p)) (fun row => (aL f T).getD (re_ord row 0) 0) (md_fact (aL f T).length))
theorem sp_mm {M' : pm_M} {f : Nat → Int32} {P T p : Nat} (hv : wv f P T) (hp : p < P) (h : sp_f M' f T) (hr : sp_r M' f T p) : fRe_leastGain (nI p) M' = aLo f T p ∧ fRe_mostGain (nI p) M' = aHi f T p ∧ fRe_mostByFees (nI p) M' = aHA f T p := by
  have hP := hv.1
  obtain ⟨hN1, hN2, hN3⟩ := aN hv
  obtain ⟨t1, t2, t3⟩ := sp_some hv h
  have eA : ∀ i, i ≤ md_fact (aL f T).length - 1 → (fun row => M'.1 17 0 (24 * p + row)) i = aA f T (nI p) i := fun i hi => (hr i (by omega)).1
  have eB : ∀ i, i ≤ md_fact (aL f T).length - 1 → (fun row => M'.1 18 0 (24 * p + row)) i = aB f T (nI p) i := fun i hi => (hr i (by omega)).2
  unfold fRe_leastGain fRe_mostGain fRe_mostByFees fRe_leastOf17 fRe_leastOf18 fRe_mostOf17 fRe_mostOf18 aLo aHi aHA
  rw [t2, pm_cl4 (show p ≤ 1000 by omega), (re_min_congr eA).1, (re_min_congr eA).2, (re_min_congr eB).1, (re_min_congr eB).2]
  exact ⟨rfl, rfl, rfl⟩
theorem sp_fm {M' : pm_M} {f : Nat → Int32} {P T p : Nat} (hv : wv f P T) (hp : p < P) (h : sp_f M' f T) (hr : sp_r M' f T p) : fRe_firstToMost (nI p) M' = aFi f T p ∧ sRe_firstToMost (nI p) M' := by
  have hP := hv.1
  obtain ⟨hN1, hN2, hN3⟩ := aN hv
  obtain ⟨t1, t2, t3⟩ := sp_some hv h
  constructor
  · unfold fRe_firstToMost aFi
    rw [(sp_mm hv hp h hr).2.2, t2, pm_cl4 (show p ≤ 1000 by omega), h.1]
    by_cases h0 : (aL f T).length = 0
    · rw [if_pos h0, h0, if_pos (by decide)]
    · rw [if_neg h0, if_neg]
      · congr 1
        refine re_or_congr (fun i hi => ⟨?_, ?_⟩)
        · rw [(hr i hi).1, decide_eq_true (show i < 24 by omega), Bool.true_and]
        · have ho := (re_ord_lt hN1 hi (show 0 < (aL f T).length by omega)).1
          rw [h.2.2.1 _ ho, pm_cl4]
          have := (aL_lt ho).1
          have := hv.2.1
          omega
      · intro q
        have := (pm_le4 (a := (aL f T).length) (b := 0) (by omega) (by omega)).mp q
        omega
  · obtain ⟨n, a1, a2, a3, a4, a5⟩ := sp_lok hv h
    exact ⟨sp_rows hv h hp, n, a1, a2, a3, a4⟩
def aEnds (f : Nat → Int32) (T p : Nat) (w : Int32) : Int32 := if w = 0 then 10000 + f p + aLo f T p else if w = 1 then 10000 + f p + aHi f T p else aFi f T p
theorem c_ends_bad {M : pm_M} {f : Nat → Int32} {P T : Nat} {a1 w : Int32} (h : cw M 0 f P T) (hv : wv f P T) (hb : (¬ ∃ t, t < P ∧ a1 = nI t) ∨ fWt_within w 0 2 M = 0) : pm_Ev mWt_ends [pm_r 0 0, pm_i a1, pm_i w] M (some (pm_i (-1))) M := by
  refine pm_Sem_of (ls := [some (pm_r 0 0), some (pm_i a1), some (pm_i w)]) ok_mWt_ends (by decide +kernel) rfl (by decide) (Nat.le_of_ble_eq_true rfl) rfl ?_
  refine bWt_ends_0 eWh_hasPerson (bWt_ends_8 (fun _ => bWt_ends_20 ⟨rfl, rfl⟩) (fun h1 => bWt_ends_11 eWt_within (bWt_ends_17 (fun _ => bWt_ends_20 ⟨rfl, rfl⟩) (fun h2 => ?_))))
  rcases hb with hb | hb
  · exact absurd (hasP_bad h.1 hv.1 hb) h1
  · exact absurd hb h2
theorem lsw2 {w : Int32} {x y d : Int} : Op.lookupswitch.offset [(0, x), (1, y)] d w.toInt = if w = 0 then x else if w = 1 then y else d := by
  have h0 : (w.toInt = 0) ↔ w = 0 := by
    rw [← show (0 : Int32).toInt = 0 by decide, Int32.toInt_inj]
  have h1 : (w.toInt = 1) ↔ w = 1 := by
    rw [← show (1 : Int32).toInt = 1 by decide, Int32.toInt_inj]
  by_cases q0 : w = 0
  · have := h0.mpr q0
    simp [Op.lookupswitch.offset, this, q0]
  · by_cases q1 : w = 1
    · have := h1.mpr q1
      simp [Op.lookupswitch.offset, this, q1]
    · have a0 : ¬ w.toInt = 0 := fun q => q0 (h0.mp q)
      have a1 : ¬ w.toInt = 1 := fun q => q1 (h1.mp q)
      have b0 : ¬ (0 : Int) = w.toInt := fun q => a0 q.symm
      have b1 : ¬ (1 : Int) = w.toInt := fun q => a1 q.symm
      simp [Op.lookupswitch.offset, q0, q1, a0, a1, b0, b1]
theorem c_ends {M : pm_M} {f : Nat → Int32} {P T p : Nat} {w : Int32} (h : cw M 0 f P T) (hv : wv f P T) (hp : p < P) (hw : ¬ fWt_within w 0 2 M = 0) : ∃ M', pm_Ev mWt_ends [pm_r 0 0, pm_i (nI p), pm_i w] M (some (pm_i (aEnds f T p w))) M' ∧ cs_eq M M' := by
  have h4 := hv.2.1
  have hP := hv.1
  obtain ⟨s1, s2, s3, s4⟩ := sp_one h hv hp
  refine ⟨gRe_spread 0 (nI p) M, ?_, cs_spread⟩
  refine pm_Sem_of (ls := [some (pm_r 0 0), some (pm_i (nI p)), some (pm_i w)]) ok_mWt_ends (by decide +kernel) rfl (by decide) (Nat.le_of_ble_eq_true rfl) rfl ?_
  have hpu : (gRe_spread 0 (nI p) M).1 5 0 (nI p).toNatClampNeg = f p := by rw [pm_cl4 (by omega), spread_ne (by decide), h.2.2.2.1 p hp]
  refine bWt_ends_0 eWh_hasPerson (bWt_ends_8 (fun q => ?_) (fun _ => bWt_ends_11 eWt_within (bWt_ends_17 (fun q => absurd q hw) (fun _ => bWt_ends_22 (eRe_spread s1) (bWt_ends_34 ?_ ?_)))))
  · rw [hasP_good h.1 hP hp] at q
    exact absurd q (by decide)
  · rw [lsw2]
    by_cases q0 : w = 0
    · rw [if_pos q0]; decide
    · rw [if_neg q0]
      by_cases q1 : w = 1
      · rw [if_pos q1]; decide
      · rw [if_neg q1]; decide
  · rw [lsw2]
    unfold aEnds
    by_cases q0 : w = 0
    · rw [if_pos q0, if_pos q0]
      refine bWt_ends_60 (pm_vin (by omega) (by omega)) (eRe_leastGain (sp_rows hv s2 hp)) (bWt_ends_81 ?_)
      rw [hpu, (sp_mm hv hp s2 s3).1]
      exact ⟨rfl, rfl⟩
    · rw [if_neg q0, if_neg q0]
      by_cases q1 : w = 1
      · rw [if_pos q1, if_pos q1]
        refine bWt_ends_83 (pm_vin (by omega) (by omega)) (eRe_mostGain (sp_rows hv s2 hp)) (bWt_ends_104 ?_)
        rw [hpu, (sp_mm hv hp s2 s3).2.1]
        exact ⟨rfl, rfl⟩
      · rw [if_neg q1, if_neg q1]
        refine bWt_ends_106 (eRe_firstToMost (sp_fm hv hp s2 s3).2) (bWt_ends_114 ?_)
        rw [(sp_fm hv hp s2 s3).1]
        exact ⟨rfl, rfl⟩
/-! cap -/
def pm_last (c : Nat → Bool) : Nat → Int32
  | 0 => -4
  | n + 1 => if c n = true then nI n else pm_last c n
/-- the most that all others bring beside prize z with the j-th ticket -/
def aBs (f : Nat → Int32) (T p z j : Nat) : Nat → Int32
  | 0 => -1000000
  | r + 1 => if (aP f T).getD (re_ord r j) 0 = z then fMa_max (aBs f T p z j r) (aB f T (nI p) r - aS f T (nI p) j (re_ord r j)) else aBs f T p z j r
def aMw (f : Nat → Int32) (T p z : Nat) (much : Int32) : Nat → Int32
  | 0 => -1000000
  | i + 1 => fMa_max (aMw f T p z much i) (aBs f T p z i (md_fact (aL f T).length) + md_sh f ((aL f T).getD i 0) much (nI p))
def aCap (f : Nat → Int32) (T z p : Nat) (v : Int32) : Int32 := pm_last (fun much => decide (f p + aHA f T p + aMw f T p z (nI much) (aL f T).length ≤ v)) 100
theorem c_cap_bad {M : pm_M} {f : Nat → Int32} {P T : Nat} {a1 a2 v : Int32} (h : cw M 0 f P T) (hv : wv f P T) (hb : (¬ ∃ t, t < T ∧ a1 = nI t) ∨ (¬ ∃ t, t < P ∧ a2 = nI t) ∨ fWt_within v 0 999 M = 0) : pm_Ev mWt_cap [pm_r 0 0, pm_i a1, pm_i a2, pm_i v] M (some (pm_i (-1))) M := by
  refine pm_Sem_of (ls := [some (pm_r 0 0), some (pm_i a1), some (pm_i a2), some (pm_i v), none, none]) ok_mWt_cap (by decide +kernel) rfl (by decide) (Nat.le_of_ble_eq_true rfl) rfl ?_
  refine bWt_cap_0 eWh_hasPrize (bWt_cap_8 (fun _ => bWt_cap_33 ⟨rfl, rfl⟩) (fun h1 => bWt_cap_11 eWh_hasPerson (bWt_cap_19 (fun _ => bWt_cap_33 ⟨rfl, rfl⟩) (fun h2 => bWt_cap_22 eWt_within (bWt_cap_30 (fun _ => bWt_cap_33 ⟨rfl, rfl⟩) (fun h3 => ?_))))))
  rcases hb with hb | hb | hb
  · exact absurd (has_bad h.2.1 hv.2.1 hb).2 h1
  · exact absurd (hasP_bad h.1 hv.1 hb) h2
  · exact absurd hb h3
theorem cw_pin {M : pm_M} {k : Nat} {f : Nat → Int32} {P T t : Nat} (h : cw M k f P T) (h4 : T ≤ 4) (ht : t < T) : fWh_isPrizeIn k (nI t) M = (if f (28 + t) = -4 then 1 else 0) ∧ sWh_isPrizeIn k (nI t) M := by
  rw [fWh_isPrizeIn_at h.2.1 h4 ht, h.2.2.2.2.2.2.2.1 t ht]
  exact ⟨rfl, sWh_isPrizeIn_at h.2.1 h4 ht⟩
theorem c_cap_st {M : pm_M} {f : Nat → Int32} {P T z p : Nat} {v : Int32} (h : cw M 0 f P T) (hv : wv f P T) (hz : z < T) (hp : p < P) (he : ¬ fWt_within v 0 999 M = 0) (hd : ¬ f (28 + z) = -4) : pm_Ev mWt_cap [pm_r 0 0, pm_i (nI z), pm_i (nI p), pm_i v] M (some (pm_i (-2))) M := by
  refine pm_Sem_of (ls := [some (pm_r 0 0), some (pm_i (nI z)), some (pm_i (nI p)), some (pm_i v), none, none]) ok_mWt_cap (by decide +kernel) rfl (by decide) (Nat.le_of_ble_eq_true rfl) rfl ?_
  refine bWt_cap_0 eWh_hasPrize (bWt_cap_8 (fun q => ?_) (fun _ => bWt_cap_11 eWh_hasPerson (bWt_cap_19 (fun q => ?_) (fun _ => bWt_cap_22 eWt_within (bWt_cap_30 (fun q => absurd q he) (fun _ => bWt_cap_35 (eWh_isPrizeIn (cw_pin h hv.2.1 hz).2) (bWt_cap_43 (fun _ => bWt_cap_46 ⟨rfl, rfl⟩) (fun q => ?_))))))))
  · rw [(has_good h.2.1 hv.2.1 hz).2] at q
    exact absurd q (by decide)
  · rw [hasP_good h.1 hv.1 hp] at q
    exact absurd q (by decide)
  · rw [(cw_pin h hv.2.1 hz).1, if_neg hd] at q
    exact absurd rfl q
theorem c_cap {M : pm_M} {f : Nat → Int32} {P T z p : Nat} {v : Int32} (h : cw M 0 f P T) (hv : wv f P T) (hz : z < T) (hp : p < P) (he : ¬ fWt_within v 0 999 M = 0) (hd : f (28 + z) = -4) : ∃ M', pm_Ev mWt_cap [pm_r 0 0, pm_i (nI z), pm_i (nI p), pm_i v] M (some (pm_i (aCap f T z p v))) M' ∧ cs_eq M M' := by
  have h4 := hv.2.1
  have hP := hv.1
  have hl := hv.2.2.2.2.2.2.1
  obtain ⟨s1, s2, s3, s4⟩ := sp_one h hv hp
  obtain ⟨hN1, hN2, hN3⟩ := aN hv
  obtain ⟨t1, t2, t3⟩ := sp_some hv s2
  have hlok := sp_lok hv s2
  refine ⟨gRe_findBeside (nI p) (nI z) (gRe_spread 0 (nI p) M), ?_, cs_trans cs_spread cs_beside⟩
  refine pm_Sem_of (ls := [some (pm_r 0 0), some (pm_i (nI z)), some (pm_i (nI p)), some (pm_i v), none, none]) ok_mWt_cap (by decide +kernel) rfl (by decide) (Nat.le_of_ble_eq_true rfl) rfl ?_
  have b19 : ∀ i, i < (aL f T).length → (gRe_findBeside (nI p) (nI z) (gRe_spread 0 (nI p) M)).1 19 0 i = aBs f T p z i (md_fact (aL f T).length) := by
    intro i hi
    unfold gRe_findBeside
    rw [pm_set_at, t2, t3, if_pos (by omega), if_pos hi, pm_cl4 (show p ≤ 1000 by omega)]
    have : ∀ r, r ≤ md_fact (aL f T).length → re_bs p (nI z) (gRe_spread 0 (nI p) M) i r = aBs f T p z i r := by
      intro r
      induction r with
      | zero => intro _; rfl
      | succ r ih =>
        intro hr
        have ho := (re_ord_lt hN1 (show r < md_fact (aL f T).length by omega) hi).1
        have hz4 := (aP_lt (show re_ord r i < (aP f T).length by omega)).1
        rw [re_bs, aBs, ih (by omega), (s3 r (by omega)).2, s4 i (re_ord r i) hi ho, s2.2.2.2 _ ho]
        simp only [pm_eq4 (show (aP f T).getD (re_ord r i) 0 ≤ 1000 by omega) (show z ≤ 1000 by omega)]
    exact this _ (Nat.le_refl _)
  have bne : ∀ t k, t ≠ 19 → (gRe_findBeside (nI p) (nI z) (gRe_spread 0 (nI p) M)).1 t k = (gRe_spread 0 (nI p) M).1 t k := fun t k ht => by
    unfold gRe_findBeside
    rw [pm_set_ne _ _ (Ne.symm ht)]
  have hcw : cw (gRe_findBeside (nI p) (nI z) (gRe_spread 0 (nI p) M)) 0 f P T := cw_cs (by decide) h (cs_trans cs_spread cs_beside)
  have hb : sp_f (gRe_findBeside (nI p) (nI z) (gRe_spread 0 (nI p) M)) f T := by
    unfold sp_f
    rw [bne 12 _ (by decide), bne 13 _ (by decide), bne 14 _ (by decide)]
    exact s2
  have hbr : sp_r (gRe_findBeside (nI p) (nI z) (gRe_spread 0 (nI p) M)) f T p := by
    unfold sp_r
    rw [bne 17 _ (by decide), bne 18 _ (by decide)]
    exact s3
  refine bWt_cap_0 eWh_hasPrize (bWt_cap_8 (fun q => ?_) (fun _ => bWt_cap_11 eWh_hasPerson (bWt_cap_19 (fun q => ?_) (fun _ => bWt_cap_22 eWt_within (bWt_cap_30 (fun q => absurd q he) (fun _ => bWt_cap_35 (eWh_isPrizeIn (cw_pin h h4 hz).2) (bWt_cap_43 (fun q => ?_) (fun _ => bWt_cap_49 (eRe_spread s1) (bWt_cap_61 (eRe_findBeside ⟨⟨p, by omega, rfl⟩, hlok⟩) ?_)))))))))
  · rw [(has_good h.2.1 h4 hz).2] at q
    exact absurd q (by decide)
  · rw [hasP_good h.1 hP hp] at q
    exact absurd q (by decide)
  · rw [(cw_pin h h4 hz).1, if_pos hd] at q
    exact absurd q (by decide)
  · generalize hM' : gRe_findBeside (nI p) (nI z) (gRe_spread 0 (nI p) M) = M' at b19 bne hcw hb hbr ⊢
    refine bWt_cap_70 (pm_vin (by omega) (by omega)) (eRe_mostByFees (sp_rows hv hb hp)) (bWt_cap_87 ?_)
    rw [(sp_mm hv hp hb hbr).2.2, pm_cl4 (show p ≤ 1000 by omega), hcw.2.2.2.1 p hp]
    have emw : ∀ much : Int32, fRe_mostByPrizesWith 0 (nI p) much M' = aMw f T p z much (aL f T).length := by
      intro much
      unfold fRe_mostByPrizesWith
      rw [(sp_some hv hb).2.2]
      have : ∀ i, i ≤ (aL f T).length → re_mw 0 (nI p) much M' i = aMw f T p z much i := by
        intro i
        induction i with
        | zero => intro _; rfl
        | succ i ih =>
          intro hi
          rw [re_mw, aMw, ih (by omega), b19 i (by omega), hb.2.2.1 i (by omega), cw_share hcw h4 (aL_lt (show i < (aL f T).length by omega)).1]
      exact this _ (Nat.le_refl _)
    unfold aCap
    generalize hah : f p + aHA f T p = ah
    generalize hc : (fun much => decide (ah + aMw f T p z (nI much) (aL f T).length ≤ v)) = c
    have key : ∀ i, i ≤ 100 → pm_G mWt_cap 94 [some (pm_r 0 0), some (pm_i (nI z)), some (pm_i (nI p)), some (pm_i v), some (pm_i ah), some (pm_i (nI i - 1))] [] M' (pm_D (some (pm_i (pm_last c i))) M') := by
      intro i
      induction i with
      | zero =>
        intro _
        exact bWt_cap_94 (fun _ => bWt_cap_129 ⟨rfl, rfl⟩) (fun q => absurd (by decide) q)
      | succ i ih =>
        intro hi
        rw [show nI (i + 1) - 1 = nI i by rw [← nI_1]; exact Int32.add_sub_cancel ..]
        have e1 : nI i + (-1) = nI i - 1 := (Int32.sub_eq_add_neg ..).symm
        refine bWt_cap_94 (fun q => absurd q (pm_pos4 (by omega))) (fun _ => bWt_cap_99 (eRe_mostByPrizesWith (sp_lok hv hb)) ?_)
        rw [emw, pm_last]
        by_cases hci : c i = true
        · rw [if_pos hci]
          refine bWt_cap_115 (fun q => ?_) (fun _ => bWt_cap_120 ⟨rfl, rfl⟩)
          rw [← hc] at hci
          have := of_decide_eq_true hci
          rw [Int32.lt_iff_toInt_lt] at q
          rw [Int32.le_iff_toInt_le] at this
          omega
        · rw [if_neg hci]
          refine bWt_cap_115 (fun _ => bWt_cap_123 ?_) (fun q => ?_)
          · rw [e1]
            exact ih (by omega)
          · rw [← hc] at hci
            have := of_decide_eq_false (Bool.not_eq_true _ ▸ hci)
            rw [Int32.lt_iff_toInt_lt] at q
            rw [Int32.le_iff_toInt_le] at this
            omega
    exact key 100 (Nat.le_refl _)
