/-! more calls that only look -/
theorem within_of {x : Int32} {n : Nat} {M : pm_M} (hn : n ≤ 1000) (h : ¬ fWt_within x 0 (nI n) M = 0) : ∃ j, j ≤ n ∧ x = nI j := by
  unfold fWt_within at h
  by_cases h1 : x < 0
  · rw [if_pos h1] at h
    exact absurd rfl h
  · rw [if_neg h1] at h
    by_cases h2 : nI n < x
    · rw [if_pos h2] at h
      exact absurd rfl h
    · refine nI_of2 (nI_toInt (by omega)) h1 ?_
      rw [Int32.le_iff_toInt_le]
      rw [Int32.lt_iff_toInt_lt] at h2
      omega
theorem within_in {n j : Nat} {M : pm_M} (hn : n ≤ 1000) (hj : j ≤ n) : fWt_within (nI j) 0 (nI n) M = 1 := by
  unfold fWt_within
  rw [if_neg (pm_pos4 (by omega)), if_neg (fun q => by have := (pm_lt4 (by omega) (by omega)).mp q; omega)]
theorem in02 {j : Nat} {M : pm_M} (hj : j ≤ 2) : ¬ fMo_in (nI j).toInt64 0 2 M = 0 := by
  rw [show fMo_in (nI j).toInt64 0 2 M = fWt_within (nI j) 0 2 M from mo_in _ 0 2 M M, show fWt_within (nI j) 0 2 M = 1 from within_in (n := 2) (by omega) hj]
  decide
theorem bc_add {b i : Nat} {M : pm_M} (hi : i < 4) (hb : b < 2 ^ i) : fIn_bitCount (nI (b + 2 ^ i)) M = fIn_bitCount (nI b) M + 1 :=
  (by decide +kernel : ∀ i : Fin 4, ∀ b : Fin 8, b.val < 2 ^ i.val → fIn_bitCount (nI (b.val + 2 ^ i.val)) (fun _ _ _ => 0, 0) = fIn_bitCount (nI b.val) (fun _ _ _ => 0, 0) + 1) ⟨i, hi⟩ ⟨b, by have := Nat.pow_le_pow_right (n := 2) (by omega) (show i ≤ 3 by omega); omega⟩ hb
theorem bc_bits {p : Nat → Bool} {M : pm_M} : ∀ {n : Nat}, n ≤ 4 → fIn_bitCount (nI (pm_bits p n)) M = nI (md_lst p n).length
  | 0, _ => (by decide +kernel : fIn_bitCount (nI 0) (fun _ _ _ => 0, 0) = nI 0)
  | n + 1, h => by
    rw [pm_bits, md_lst_succ]
    by_cases q : p n = true
    · rw [if_pos q, if_pos q, bc_add (by omega) (pm_bits_lt p n), bc_bits (n := n) (by omega), List.length_append, nI_1]
      rfl
    · rw [if_neg q, if_neg q, Nat.add_zero, bc_bits (n := n) (by omega)]
theorem pb_congr {p q : Nat → Bool} : ∀ {n : Nat}, (∀ i, i < n → p i = q i) → pm_bits p n = pm_bits q n
  | 0, _ => rfl
  | n + 1, h => by rw [pm_bits, pm_bits, pb_congr (n := n) (fun i hi => h i (by omega)), h n (by omega)]
def aTb (f : Nat → Int32) (T : Nat) : Nat := pm_bits (fun t => decide (f (8 + 5 * t) = -4)) T
def aPb (f : Nat → Int32) (T : Nat) : Nat := pm_bits (fun t => decide (f (28 + t) = -4)) T
def aAm (f : Nat → Int32) (T : Nat) : Int32 := pm_sumI (fun j => if f (28 + j) = -4 then f (24 + j) else 0) T
theorem cw_tin {M : pm_M} {k : Nat} {f : Nat → Int32} {P T : Nat} (h : cw M k f P T) (h4 : T ≤ 4) : fWh_ticketsIn k M = nI (aTb f T) := by
  unfold fWh_ticketsIn aTb
  rw [h.2.1, pm_cl4 (by omega)]
  exact congrArg nI (pb_congr (fun i hi => by rw [h.2.2.2.2.2.1 i hi]))
theorem cw_pinA {M : pm_M} {k : Nat} {f : Nat → Int32} {P T : Nat} (h : cw M k f P T) (h4 : T ≤ 4) : fWh_prizesIn k M = nI (aPb f T) := by
  unfold fWh_prizesIn aPb
  rw [h.2.1, pm_cl4 (by omega)]
  exact congrArg nI (pb_congr (fun i hi => by rw [h.2.2.2.2.2.2.2.1 i hi]))
theorem cw_amt {M : pm_M} {k : Nat} {f : Nat → Int32} {P T : Nat} (h : cw M k f P T) (h4 : T ≤ 4) : fWh_amountIn k M = aAm f T := by
  unfold fWh_amountIn aAm
  rw [h.2.1, pm_cl4 (by omega)]
  exact pm_sumI_congr (fun i hi => by rw [h.2.2.2.2.2.2.2.1 i hi, h.2.2.2.2.2.2.1 i hi])
theorem cw_small {M : pm_M} {k : Nat} {f : Nat → Int32} {P T : Nat} (h : cw M k f P T) (hv : wv f P T) : pm_small (M.1 4 k 1) ∧ pm_small (M.1 4 k 0) := ⟨⟨T, hv.2.1, h.2.1⟩, ⟨P, hv.1, h.1⟩⟩
theorem cw_days {M : pm_M} {k : Nat} {f : Nat → Int32} {P T : Nat} (h : cw M k f P T) (h4 : T ≤ 4) : fWh_daysGone k M = nI T - nI (aL f T).length := by
  unfold fWh_daysGone
  rw [h.2.1, cw_tin h h4, aTb, bc_bits h4]
  rfl
theorem left_at {M : pm_M} {f : Nat → Int32} {P T : Nat} (hw : mw M f P T) (h4 : T ≤ 4) : (gMo_findLeft M).1 29 0 22 = nI (aL f T).length := by
  unfold gMo_findLeft md_fl
  rw [pm_set_at, pk_us, hw.1, hw.2.2, pm_cl4 (by omega)]
  rfl
theorem mw_wheel {M : pm_M} {f : Nat → Int32} {P T : Nat} (hw : mw M f P T) (h4 : T ≤ 4) : fMo_wheel M = nI (aTb f T) ∧ fMo_wheelPrizes M = nI (aPb f T) ∧ fMo_sumInWheel M = aAm f T := by
  unfold fMo_wheel fMo_wheelPrizes fMo_sumInWheel
  rw [hw.1, hw.2.2, pm_cl4 (by omega)]
  exact ⟨rfl, rfl, rfl⟩
theorem mw_small {M : pm_M} {f : Nat → Int32} {P T : Nat} (hw : mw M f P T) (hv : wv f P T) : pm_small (M.1 29 0 4) ∧ pm_small (M.1 29 0 3) := ⟨⟨T, hv.2.1, hw.2.2⟩, ⟨P, hv.1, hw.2.1⟩⟩
theorem ok_rule (a1 : Int32) : OkI mWt_rule mMo_rule [pm_i a1] := okI_ro (fun M P T f h hv hw _ => by
  have h4 := hv.2.1
  have s1 := (cw_small h hv).1
  have hl := mw_ms hw (ms_left (M := M))
  have s2 := (mw_small hl hv).1
  have e1 := eWt_rule (a1 := a1) (M := M) ⟨fun _ => trivial, fun _ => ⟨fun _ => trivial, fun _ => ⟨fun _ => s1, fun _ => ⟨fun _ => s1, fun _ => ⟨fun _ => s1, fun _ => ⟨fun _ => s1, fun _ => trivial⟩⟩⟩⟩⟩⟩
  have e2 := eMo_rule (a1 := a1) (M := M) ⟨(mw_small hw hv).1, fun _ => trivial, fun _ => ⟨fun _ => trivial, fun _ => ⟨fun _ => trivial, fun _ => ⟨fun _ => s2, fun _ => ⟨fun _ => s2, fun _ => ⟨fun _ => s2, fun _ => trivial⟩⟩⟩⟩⟩⟩
  have eg : gMo_rule a1 M = gMo_findLeft M := by
    unfold gMo_rule
    simp only [ite_self]
  have ef : fMo_rule a1 M = fWt_rule a1 M := by
    unfold fMo_rule fWt_rule
    rw [hl.2.1, hl.2.2, left_at hw h4, (mw_wheel hl h4).1, (mw_wheel hl h4).2.1, (mw_wheel hl h4).2.2, h.1, h.2.1, cw_days h h4, cw_tin h h4, cw_pinA h h4, cw_amt h h4]
  rw [eg, ef] at e2
  exact okI_rr e1 e2 ms_left)
theorem ok_fault : OkI mWt_fault mMo_fault [] := okI_ro (fun M P T f h hv hw hI => by
  have e2 := eMo_fault (M := M)
  rw [show fMo_fault M = fWt_fault M from hI.2.2.1.symm] at e2
  exact okI_rr eWt_fault e2 ms_rfl)
theorem ok_torn : OkI mWt_torn mMo_torn [] := okI_ro (fun M P T f h hv hw hI => by
  have e2 := eMo_torn (M := M)
  rw [show fMo_torn M = fWt_torn M from hI.2.2.2.2.symm] at e2
  exact okI_rr eWt_torn e2 ms_rfl)
theorem ok_person (a1 a2 : Int32) : OkI mWt_person mMo_person [pm_i a1, pm_i a2] := okI_ro (fun M P T f h hv hw _ => by
  have h4 := hv.2.1
  have hP := hv.1
  by_cases hb : ∃ t, t < P ∧ a1 = nI t
  · obtain ⟨p, hp, rfl⟩ := hb
    have c1 : ¬ fWh_hasPerson 0 (nI p) M = 0 := by rw [hasP_good h.1 hP hp]; decide
    have c2 : ¬ fMo_isPerson (nI p) M = 0 := by rw [moP_good hw.2.1 hP hp]; decide
    have st : ∀ w : Int32, (w = 1 ∨ w = 2) → sWh_ticketsWith 0 w (nI p) M := fun w hw9 => ⟨(cw_small h hv).1, fun t ht => sWh_all ht (by rcases hw9 with rfl | rfl <;> simp)⟩
    have e1 := eWt_person (a1 := nI p) (a2 := a2) (M := M) ⟨fun q => absurd q c1, fun _ => ⟨fun _ => pm_vin (by omega) (by omega), fun _ => ⟨fun _ => st 1 (by simp), fun _ => ⟨fun _ => st 2 (by simp), fun _ => trivial⟩⟩⟩⟩
    have hs := mw_ms hw (ms_starts (M := M))
    have e2 := eMo_person (a1 := nI p) (a2 := a2) (M := M) ⟨fun q => absurd q c2, fun _ => ⟨fun _ => trivial, fun _ => ⟨(mw_small hs hv).1, fun _ => pm_vin (by omega) (by omega), fun _ => trivial⟩⟩⟩
    have tw : ∀ (w : Nat), w = 1 ∨ w = 2 → fWh_ticketsWith 0 (nI w) (nI p) M = nI (pm_bits (fun t => decide (f (4 + w + 5 * t) = nI p)) T) := by
      intro w hw9
      unfold fWh_ticketsWith
      rw [h.2.1, pm_cl4 (by omega)]
      refine congrArg nI (pb_congr (fun t ht => ?_))
      rw [fWh_trait_at (by omega) (by omega), h.2.2.2.2.1 t w ht (by omega)]
      rw [show 4 + 5 * t + w = 4 + w + 5 * t by omega]
    have mt : ∀ (w : Nat), w = 1 ∨ w = 2 → pm_bits (fun t => decide ((gMo_starts M).1 31 0 (4 + w + 5 * t) = nI p)) ((gMo_starts M).1 29 0 4).toNatClampNeg = pm_bits (fun t => decide (f (4 + w + 5 * t) = nI p)) T := by
      intro w hw9
      rw [hs.2.2, pm_cl4 (by omega)]
      refine pb_congr (fun t ht => ?_)
      unfold gMo_starts
      rw [pm_set_at, if_pos (by omega), hw.1]
    have ef : fMo_person (nI p) a2 M = fWt_person (nI p) a2 M := by
      unfold fMo_person fWt_person
      rw [if_neg c1, if_neg c2, pm_cl4 (by omega), hs.1, h.2.2.2.1 p hp]
      by_cases q0 : a2 = 0
      · subst q0
        rw [if_pos rfl, if_pos rfl, if_neg (show ¬ fMo_in (Int32.toInt64 0) 0 2 M = 0 from in02 (j := 0) (by omega))]
      · by_cases q1 : a2 = 1
        · subst q1
          rw [if_neg q0, if_neg q0, if_neg (show ¬ fMo_in (Int32.toInt64 1) 0 2 M = 0 from in02 (j := 1) (by omega)), if_pos rfl, if_pos rfl]
          exact (congrArg nI (mt 1 (by simp))).trans (tw 1 (by simp)).symm
        · by_cases q2 : a2 = 2
          · subst q2
            rw [if_neg q0, if_neg q0, if_neg (show ¬ fMo_in (Int32.toInt64 2) 0 2 M = 0 from in02 (j := 2) (by omega)), if_neg q1, if_neg q1, if_pos rfl]
            exact (congrArg nI (mt 2 (by simp))).trans (tw 2 (by simp)).symm
          · rw [if_pos (c := fMo_in a2.toInt64 0 2 M = 0) ?_, if_neg q0, if_neg q1, if_neg q2]
            apply Classical.byContradiction
            intro q
            rw [show fMo_in a2.toInt64 0 2 M = fWt_within a2 0 2 M from mo_in a2 0 2 M M] at q
            obtain ⟨j, hj, rfl⟩ := within_of (n := 2) (by omega) q
            rcases (show j = 0 ∨ j = 1 ∨ j = 2 by omega) with rfl | rfl | rfl
            · exact q0 rfl
            · exact q1 rfl
            · exact q2 rfl
    have eg : ms_eq M (gMo_person (nI p) a2 M) := by
      unfold gMo_person
      rw [if_neg c2, ite_self]
      by_cases q : fMo_in a2.toInt64 0 2 M = 0
      · rw [if_pos q]
        exact ms_rfl
      · rw [if_neg q]
        exact ms_starts
    rw [ef] at e2
    exact okI_rr e1 e2 eg
  · have c1 := hasP_bad h.1 hP hb
    have c2 := moP_bad hw.2.1 hP hb
    have e1 := eWt_person (a1 := a1) (a2 := a2) (M := M) ⟨fun _ => trivial, fun q => absurd c1 q⟩
    have e2 := eMo_person (a1 := a1) (a2 := a2) (M := M) ⟨fun _ => trivial, fun q => absurd c2 q⟩
    unfold fWt_person at e1
    unfold fMo_person gMo_person at e2
    rw [if_pos c1] at e1
    rw [if_pos c2, if_pos c2] at e2
    exact okI_rr e1 e2 ms_rfl)
