/-! what fits what is seen, in the row's own numbers -/
def aSn (f : Nat → Int32) : Nat := (f 32).toNatClampNeg
def aSp (f : Nat → Int32) (i : Nat) : Nat := (f (33 + 2 * i)).toNatClampNeg
def aSeen (f : Nat → Int32) (T o q : Nat) : Bool := pm_alln (fun i => decide (f (aSp f i) + (aA f T (nI (aSp f i)) o + aB f T (nI (aSp f i)) q) = f (34 + 2 * i))) (aSn f)
def aC (f : Nat → Int32) (T q : Nat) : Nat := pm_cnt1 (fun o => aSeen f T o q) (md_fact (aL f T).length)
def aCell (f : Nat → Int32) (T q i : Nat) : Nat := 4 * (aL f T).getD i 0 + (aP f T).getD (re_ord q i) 0
def aPr (f : Nat → Int32) (T c : Nat) : Nat := pm_sumN (fun q => pm_sumN (fun i => if aCell f T q i = c then aC f T q else 0) (aL f T).length) (md_fact (aL f T).length)
def aFit (f : Nat → Int32) (T : Nat) : Nat := pm_sumN (aC f T) (md_fact (aL f T).length)
theorem ta_facts {M : pm_M} {f : Nat → Int32} {P T : Nat} (h : cw M 0 f P T) (hv : wv f P T) : sRe_spreadAll 0 M ∧ sRe_tally 0 (gRe_spreadAll 0 M) ∧ (gRe_tally 0 (gRe_spreadAll 0 M)).1 12 0 10 = nI (aFit f T) ∧ (∀ c, c < 16 → (gRe_tally 0 (gRe_spreadAll 0 M)).1 20 0 c = nI (aPr f T c)) ∧ cs_eq M (gRe_tally 0 (gRe_spreadAll 0 M)) := by
  have h4 := hv.2.1
  have hP := hv.1
  have hl := hv.2.2.2.2.2.2.1
  obtain ⟨s1, s2, s3, s4⟩ := sp_all h hv
  obtain ⟨hN1, hN2, hN3⟩ := aN hv
  obtain ⟨t1, t2, t3⟩ := sp_some hv s2
  have hcw := cw_cs (by decide) h s4
  obtain ⟨s, hs6, hs, hsp⟩ := hv.2.2.2.2.2.2.2.1
  generalize gRe_spreadAll 0 M = M1 at s2 s3 s4 t1 t2 t3 hcw ⊢
  have hsn : aSn f = s := by unfold aSn; rw [hs, pm_cl4 (by omega)]
  have hsn1 : re_sn 0 M1 = s := by unfold re_sn; rw [hcw.2.2.1, hs, pm_cl4 (by omega)]
  have h10 := fun i (hi : i < s) => hcw.2.2.2.2.2.2.2.2 s i hs hs6 hi
  have eC : ∀ q, q < md_fact (aL f T).length → re_C 0 M1 q = aC f T q := by
    intro q hq
    unfold re_C aC
    rw [t2]
    refine pm_cnt1_congr (fun o ho => ?_)
    unfold aSeen
    rw [hsn1, hsn]
    refine pm_alln_congr (fun i hi => ?_)
    obtain ⟨p, hp, hpi⟩ := hsp i hi
    unfold re_seen aSp
    rw [(h10 i hi).1, (h10 i hi).2, hpi, pm_cl4 (show p ≤ 1000 by omega), fRe_gain_at (by omega) (by omega) (by omega), (s3 p hp o ho).1, (s3 p hp q hq).2, hcw.2.2.2.1 p hp]
  have eS : ∀ K, K ≤ md_fact (aL f T).length → pm_sumN (re_C 0 M1) K = pm_sumN (aC f T) K := fun K hK => pm_sumN_congr (fun q hq => eC q (by omega))
  have eCell : ∀ q i, q < md_fact (aL f T).length → i < (aL f T).length → re_cell M1 q i = aCell f T q i := by
    intro q i hq hi
    have ho := (re_ord_lt hN1 hq hi).1
    have b1 := (aL_lt hi).1
    have b2 := (aP_lt (show re_ord q i < (aP f T).length by omega)).1
    unfold re_cell aCell
    rw [s2.2.2.1 i hi, s2.2.2.2 _ ho, pm_cl4 (by omega), pm_cl4 (by omega)]
  refine ⟨s1, ⟨⟨s, hs6, hcw.2.2.1.trans hs, fun i hi => ?_⟩, sp_lok hv s2⟩, ?_, fun c hc => ?_, cs_trans s4 cs_tally⟩
  · obtain ⟨p, hp, hpi⟩ := hsp i hi
    exact ⟨p, by omega, (h10 i hi).1.trans hpi⟩
  · unfold gRe_tally aFit
    rw [re_ta_12]
    unfold upd
    rw [if_pos rfl, t2, eS _ (Nat.le_refl _)]
  · unfold gRe_tally
    rw [re_ta_20, if_pos hc, t2, t3]
    congr 1
    unfold re_pr aPr
    refine pm_sumN_congr (fun q hq => pm_sumN_congr (fun i hi => ?_))
    rw [eCell q i hq hi, eC q hq]
def aBits (f : Nat → Int32) (T t : Nat) : Nat := pm_bits (fun k => decide (0 < nI (aPr f T (4 * t + k)))) 4
theorem c_fits0 {M : pm_M} {f : Nat → Int32} {P T : Nat} (h : cw M 0 f P T) (hv : wv f P T) : ∃ M', pm_Ev mWt_fits [pm_r 0 0, pm_i 0] M (some (pm_i (nI (aFit f T)))) M' ∧ cs_eq M M' := by
  obtain ⟨s1, s2, s3, s4, s5⟩ := ta_facts h hv
  refine ⟨_, ?_, s5⟩
  have s65 : sWt_fits_65 0 (0 - 10) 0 M := ⟨s1, s2, fun _ => trivial, fun q => absurd rfl q⟩
  have s26 : sWt_fits_26 0 (0 - 10) M := ⟨fun _ => ⟨fun _ => s65, fun q => absurd rfl q⟩, fun q => absurd rfl q⟩
  have hev := eWt_fits (a1 := 0) (M := M) ⟨fun _ => s26, fun q => absurd (by decide) q⟩
  have e1 : fWt_fits 0 M = nI (aFit f T) := by
    unfold fWt_fits fWt_fits_26 fWt_fits_27 fWt_fits_38 fWt_fits_65
    rw [if_pos (by decide), if_pos rfl, if_pos rfl, if_pos rfl, s3]
  have e2 : gWt_fits 0 M = gRe_tally 0 (gRe_spreadAll 0 M) := by
    unfold gWt_fits gWt_fits_26 gWt_fits_27 gWt_fits_38 gWt_fits_65
    rw [if_pos (by decide), if_pos rfl, if_pos rfl, if_pos rfl]
  rw [e1, e2] at hev
  exact hev
theorem ten_sub {t : Nat} (ht : t < 4) : nI (10 + t) - 10 = nI t ∧ ¬ nI (10 + t) < 10 ∧ ¬ nI (10 + t) = 0 := (by decide +kernel : ∀ t : Fin 4, nI (10 + t.val) - 10 = nI t.val ∧ ¬ nI (10 + t.val) < 10 ∧ ¬ nI (10 + t.val) = 0) ⟨t, ht⟩
theorem c_fits_st {M : pm_M} {f : Nat → Int32} {P T t : Nat} (h : cw M 0 f P T) (hv : wv f P T) (ht : t < T) (hd : ¬ f (8 + 5 * t) = -4) : pm_Ev mWt_fits [pm_r 0 0, pm_i (nI (10 + t))] M (some (pm_i (1 <<< (f (8 + 5 * t) &&& 31)))) M := by
  have h4 := hv.2.1
  obtain ⟨a1, a2, a3⟩ := ten_sub (show t < 4 by omega)
  have hg := (has_good h.2.1 h4 ht).1
  have hi := cw_in h h4 ht
  have hg0 : ¬ fWh_hasTicket 0 (nI (10 + t) - 10) M = 0 := by rw [a1, hg]; decide
  have hi0 : fWh_isTicketIn 0 (nI (10 + t) - 10) M = 0 := by rw [a1, hi.1, if_neg hd]
  have n1 : ¬ (1 : Int32) = 0 := by decide
  have s38 : sWt_fits_38 (nI (10 + t)) (nI (10 + t) - 10) 1 M := ⟨fun q => absurd q n1, fun _ => ⟨by rw [a1]; exact hi.2, fun _ => by rw [a1]; exact pm_vin (by omega) (by omega), fun q => absurd hi0 q⟩⟩
  have s27 : sWt_fits_27 (nI (10 + t)) (nI (10 + t) - 10) 1 M := ⟨fun q => absurd q a3, fun _ => ⟨fun q => absurd q n1, fun _ => s38⟩⟩
  have hev := eWt_fits (a1 := nI (10 + t)) (M := M) ⟨fun q => absurd q a2, fun _ => ⟨fun q => absurd q hg0, fun _ => s27⟩⟩
  unfold fWt_fits fWt_fits_27 fWt_fits_38 gWt_fits gWt_fits_27 gWt_fits_38 at hev
  rw [if_neg a2, if_neg a2, if_neg hg0, if_neg hg0, if_neg a3, if_neg a3, if_neg n1, if_neg n1, if_neg n1, if_neg n1, if_pos hi0, if_pos hi0, a1, pm_cl4 (show t ≤ 1000 by omega), h.2.2.2.2.2.1 t ht] at hev
  exact hev
theorem c_fits_t {M : pm_M} {f : Nat → Int32} {P T t : Nat} (h : cw M 0 f P T) (hv : wv f P T) (ht : t < T) (hd : f (8 + 5 * t) = -4) : ∃ M', pm_Ev mWt_fits [pm_r 0 0, pm_i (nI (10 + t))] M (some (pm_i (nI (aBits f T t)))) M' ∧ cs_eq M M' := by
  have h4 := hv.2.1
  obtain ⟨r1, r2, r3, r4, r5⟩ := ta_facts h hv
  obtain ⟨a1, a2, a3⟩ := ten_sub (show t < 4 by omega)
  have hg := (has_good h.2.1 h4 ht).1
  have hi := cw_in h h4 ht
  have hg0 : ¬ fWh_hasTicket 0 (nI (10 + t) - 10) M = 0 := by rw [a1, hg]; decide
  have hi0 : ¬ fWh_isTicketIn 0 (nI (10 + t) - 10) M = 0 := by rw [a1, hi.1, if_pos hd]; decide
  have n1 : ¬ (1 : Int32) = 0 := by decide
  have s65 : sWt_fits_65 (nI (10 + t)) (nI (10 + t) - 10) 1 M := ⟨r1, r2, fun q => absurd q n1, fun _ => by rw [a1]; exact ⟨t, by omega, rfl⟩⟩
  have s38 : sWt_fits_38 (nI (10 + t)) (nI (10 + t) - 10) 1 M := ⟨fun q => absurd q n1, fun _ => ⟨by rw [a1]; exact hi.2, fun q => absurd q hi0, fun _ => s65⟩⟩
  have s27 : sWt_fits_27 (nI (10 + t)) (nI (10 + t) - 10) 1 M := ⟨fun q => absurd q a3, fun _ => ⟨fun q => absurd q n1, fun _ => s38⟩⟩
  have hev := eWt_fits (a1 := nI (10 + t)) (M := M) ⟨fun q => absurd q a2, fun _ => ⟨fun q => absurd q hg0, fun _ => s27⟩⟩
  refine ⟨_, ?_, r5⟩
  unfold fWt_fits fWt_fits_27 fWt_fits_38 fWt_fits_65 gWt_fits gWt_fits_27 gWt_fits_38 gWt_fits_65 at hev
  rw [if_neg a2, if_neg a2, if_neg hg0, if_neg hg0, if_neg a3, if_neg a3, if_neg n1, if_neg n1, if_neg n1, if_neg n1, if_neg hi0, if_neg hi0, if_neg n1, if_neg n1, a1] at hev
  unfold fRe_prizesOf at hev
  unfold aBits
  have e : pm_bits (fun k => decide (0 < (gRe_tally 0 (gRe_spreadAll 0 M)).1 20 0 (4 * (nI t).toNatClampNeg + k))) 4 = pm_bits (fun k => decide (0 < nI (aPr f T (4 * t + k)))) 4 := by
    rw [pm_cl4 (show t ≤ 1000 by omega)]
    simp only [pm_bits, r4 (4 * t + 0) (by omega), r4 (4 * t + 1) (by omega), r4 (4 * t + 2) (by omega), r4 (4 * t + 3) (by omega)]
  rw [e] at hev
  exact hev
theorem c_fits_bad {M : pm_M} {f : Nat → Int32} {P T : Nat} {a1 : Int32} (h : cw M 0 f P T) (hv : wv f P T) (h0 : ¬ a1 = 0) (hb : ¬ ∃ t, t < T ∧ a1 = nI (10 + t)) : pm_Ev mWt_fits [pm_r 0 0, pm_i a1] M (some (pm_i (-1))) M := by
  have h4 := hv.2.1
  have s27 : sWt_fits_27 a1 (a1 - 10) 0 M := ⟨fun q => absurd q h0, fun _ => ⟨fun _ => trivial, fun q => absurd rfl q⟩⟩
  have hg : ¬ a1 < 10 → fWh_hasTicket 0 (a1 - 10) M = 0 := by
    intro _
    refine (has_bad h.2.1 h4 ?_).1
    rintro ⟨t, ht, e⟩
    refine hb ⟨t, ht, ?_⟩
    have : a1 = nI t + 10 := by rw [← e]; exact (Int32.sub_add_cancel ..).symm
    rw [this]
    exact (by decide +kernel : ∀ t : Fin 4, nI t.val + 10 = nI (10 + t.val)) ⟨t, by omega⟩
  have hev := eWt_fits (a1 := a1) (M := M) ⟨fun _ => s27, fun q => ⟨fun _ => s27, fun q2 => absurd (hg q) q2⟩⟩
  unfold fWt_fits fWt_fits_26 fWt_fits_27 gWt_fits gWt_fits_26 gWt_fits_27 at hev
  by_cases hl : a1 < 10
  · rw [if_pos hl, if_pos hl, if_neg h0, if_neg h0, if_pos rfl, if_pos rfl] at hev
    exact hev
  · rw [if_neg hl, if_neg hl, if_pos (hg hl), if_pos (hg hl), if_neg h0, if_neg h0, if_pos rfl, if_pos rfl] at hev
    exact hev
/-! ask -/
def aWorst (f : Nat → Int32) (T t : Nat) : Int32 := re_mx0 (fun k => nI (aPr f T (4 * t + k))) 4
def aAsk (f : Nat → Int32) (T : Nat) : Nat → Int32 × Int32
  | 0 => (-4, nI (aFit f T))
  | t + 1 => if f (8 + 5 * t) = -4 ∧ aWorst f T t < (aAsk f T t).2 then (nI t, aWorst f T t) else aAsk f T t
theorem c_ask_bad {M : pm_M} {a1 : Int32} (hb : fWt_within a1 0 1 M = 0) : pm_Ev mWt_ask [pm_r 0 0, pm_i a1] M (some (pm_i (-1))) M := by
  refine pm_Sem_of (ls := [some (pm_r 0 0), some (pm_i a1), none, none, none]) ok_mWt_ask (by decide +kernel) rfl (by decide) (Nat.le_of_ble_eq_true rfl) rfl ?_
  exact bWt_ask_0 eWt_within (bWt_ask_6 (fun _ => bWt_ask_9 ⟨rfl, rfl⟩) (fun h1 => absurd hb h1))
theorem c_ask {M : pm_M} {f : Nat → Int32} {P T : Nat} {a1 : Int32} (h : cw M 0 f P T) (hv : wv f P T) (hb : ¬ fWt_within a1 0 1 M = 0) : ∃ M', pm_Ev mWt_ask [pm_r 0 0, pm_i a1] M (some (pm_i (if (aAsk f T T).1 = -4 then -4 else if a1 = 0 then (aAsk f T T).1 else (aAsk f T T).2))) M' ∧ cs_eq M M' := by
  have h4 := hv.2.1
  obtain ⟨r1, r2, r3, r4, r5⟩ := ta_facts h hv
  refine ⟨_, ?_, r5⟩
  refine pm_Sem_of (ls := [some (pm_r 0 0), some (pm_i a1), none, none, none]) ok_mWt_ask (by decide +kernel) rfl (by decide) (Nat.le_of_ble_eq_true rfl) rfl ?_
  refine bWt_ask_0 eWt_within (bWt_ask_6 (fun q => absurd q hb) (fun _ => bWt_ask_11 (eRe_spreadAll r1) (bWt_ask_22 (eRe_tally r2) (bWt_ask_33 ?_))))
  have hcw := cw_cs (by decide) h r5
  generalize gRe_tally 0 (gRe_spreadAll 0 M) = M2 at r3 r4 hcw ⊢
  rw [r3]
  have hwo : ∀ t, t < T → fRe_worstOf (nI t) M2 = aWorst f T t := by
    intro t ht
    unfold fRe_worstOf aWorst
    rw [pm_cl4 (show t ≤ 1000 by omega)]
    simp only [re_mx0, r4 (4 * t + 0) (by omega), r4 (4 * t + 1) (by omega), r4 (4 * t + 2) (by omega), r4 (4 * t + 3) (by omega)]
  refine pm_upto (N := T) (P := fun t => pm_G mWt_ask 47 [some (pm_r 0 0), some (pm_i a1), some (pm_i (aAsk f T t).1), some (pm_i (aAsk f T t).2), some (pm_i (nI t))] [] M2 (pm_D (some (pm_i (if (aAsk f T T).1 = -4 then -4 else if a1 = 0 then (aAsk f T T).1 else (aAsk f T T).2))) M2)) ?_ ?_ 0 (Nat.zero_le _)
  · refine bWt_ask_47 (fun _ => ?_) (fun q => absurd (pm_yle hcw.2.1 (by omega)) q)
    generalize (aAsk f T T).1 = b
    generalize (aAsk f T T).2 = m
    refine bWt_ask_103 (fun q => ?_) (fun q => bWt_ask_109 (fun q2 => ?_) (fun q2 => ?_))
    · refine bWt_ask_113 (bWt_ask_118 ?_)
      rw [if_pos q, q]
      exact ⟨rfl, rfl⟩
    · refine bWt_ask_113 (bWt_ask_118 ?_)
      rw [if_neg q, if_pos q2]
      exact ⟨rfl, rfl⟩
    · refine bWt_ask_117 (bWt_ask_118 ?_)
      rw [if_neg q, if_neg q2]
      exact ⟨rfl, rfl⟩
  · intro t ht k2
    have hin := cw_in hcw h4 ht
    rw [aAsk, ← nI_1] at k2
    refine bWt_ask_47 (fun q => absurd q (pm_nle hcw.2.1 ht (by omega))) (fun _ => bWt_ask_59 (eWh_isTicketIn hin.2) ?_)
    rw [hin.1]
    by_cases hd : f (8 + 5 * t) = -4
    · rw [if_pos hd]
      refine bWt_ask_68 (fun q => absurd q (by decide)) (fun _ => bWt_ask_71 (eRe_worstOf ⟨t, by omega, rfl⟩) ?_)
      rw [hwo t ht]
      by_cases hw : aWorst f T t < (aAsk f T t).2
      · rw [if_pos ⟨hd, hw⟩] at k2
        refine bWt_ask_80 (fun q => ?_) (fun _ => bWt_ask_84 (eRe_worstOf ⟨t, by omega, rfl⟩) (bWt_ask_93 (bWt_ask_97 ?_)))
        · rw [Int32.lt_iff_toInt_lt] at hw
          have q : (aAsk f T t).2 ≤ aWorst f T t := q
          rw [Int32.le_iff_toInt_le] at q
          omega
        · rw [hwo t ht]
          exact k2
      · rw [if_neg (fun q => hw q.2)] at k2
        refine bWt_ask_80 (fun _ => bWt_ask_97 k2) (fun q => ?_)
        rw [Int32.lt_iff_toInt_lt] at hw
        have q : ¬ (aAsk f T t).2 ≤ aWorst f T t := q
        rw [Int32.le_iff_toInt_le] at q
        omega
    · rw [if_neg hd]
      rw [if_neg (fun q => hd q.1)] at k2
      exact bWt_ask_68 (fun _ => bWt_ask_97 k2) (fun q => absurd rfl q)
