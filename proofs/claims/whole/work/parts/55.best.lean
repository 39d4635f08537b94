/-! which arguments are good -/
theorem pm_toNat {a : Int32} (h : ¬ a < 0) : a = nI a.toNatClampNeg := by
  rw [Int32.lt_iff_toInt_lt] at h
  have h0 : (0 : Int32).toInt = 0 := by decide
  rw [h0] at h
  have h1 : a.toNatClampNeg = a.toInt.toNat := rfl
  have h2 := Int32.toInt_lt a
  apply Int32.toInt_inj.mp
  rw [nI_toInt (by rw [h1]; omega), h1]
  omega
theorem pm_nless {a : Int32} {n : Nat} (hn : n ≤ 1000) (h : ¬ ∃ i, i < n ∧ a = nI i) (h0 : ¬ a < 0) : nI n ≤ a := by
  have e := pm_toNat h0
  rw [Int32.le_iff_toInt_le, nI_toInt (by omega)]
  have h1 : a.toNatClampNeg = a.toInt.toNat := rfl
  have : ¬ a.toNatClampNeg < n := fun q => h ⟨_, q, e⟩
  rw [h1] at this
  rw [Int32.lt_iff_toInt_lt] at h0
  have h3 : (0 : Int32).toInt = 0 := by decide
  omega
theorem has_bad {k : Nat} {M : pm_M} {T : Nat} {a : Int32} (hT : M.1 4 k 1 = nI T) (h4 : T ≤ 4) (h : ¬ ∃ t, t < T ∧ a = nI t) : fWh_hasTicket k a M = 0 ∧ fWh_hasPrize k a M = 0 := by
  unfold fWh_hasTicket fWh_hasPrize
  rw [hT]
  by_cases h0 : a < 0
  · rw [if_pos h0]
    exact ⟨rfl, rfl⟩
  · rw [if_neg h0, if_pos (pm_nless (by omega) h h0)]
    exact ⟨rfl, rfl⟩
theorem has_good {k : Nat} {M : pm_M} {T t : Nat} (hT : M.1 4 k 1 = nI T) (h4 : T ≤ 4) (h : t < T) : fWh_hasTicket k (nI t) M = 1 ∧ fWh_hasPrize k (nI t) M = 1 := by
  rw [fWh_hasTicket_at hT h4 (by omega), fWh_hasPrize_at hT h4 (by omega), if_pos h]
  exact ⟨rfl, rfl⟩
theorem hasP_bad {k : Nat} {M : pm_M} {P : Nat} {a : Int32} (hP : M.1 4 k 0 = nI P) (h4 : P ≤ 4) (h : ¬ ∃ t, t < P ∧ a = nI t) : fWh_hasPerson k a M = 0 := by
  unfold fWh_hasPerson
  rw [hP]
  by_cases h0 : a < 0
  · rw [if_pos h0]
  · rw [if_neg h0, if_pos (pm_nless (by omega) h h0)]
theorem hasP_good {k : Nat} {M : pm_M} {P p : Nat} (hP : M.1 4 k 0 = nI P) (h4 : P ≤ 4) (h : p < P) : fWh_hasPerson k (nI p) M = 1 := by
  unfold fWh_hasPerson
  rw [hP, if_neg (pm_pos4 (by omega)), if_neg (pm_nle rfl h (by omega))]
/-- the first that does -/
def pm_first (c : Nat → Bool) (N : Nat) : Int32 := match (List.range N).find? c with
  | some i => nI i
  | none => -4
theorem pm_first_at {c : Nat → Bool} {N i : Nat} (hi : i < N) (h : c i = true) (hl : ∀ j, j < i → c j = false) : pm_first c N = nI i := by
  unfold pm_first
  have : (List.range N).find? c = some i := by
    rw [List.find?_range_eq_some]
    exact ⟨h, List.mem_range.mpr hi, fun j hj => by simp [hl j hj]⟩
  rw [this]
theorem pm_first_no {c : Nat → Bool} {N : Nat} (hl : ∀ j, j < N → c j = false) : pm_first c N = -4 := by
  unfold pm_first
  have : (List.range N).find? c = none := by
    rw [List.find?_eq_none]
    intro j hj
    simp [hl j (List.mem_range.mp hj)]
  rw [this]
/-- a trait that may be -/
def tv (P w v : Nat) : Prop := (w = 0 ∧ v < 4) ∨ (w = 1 ∧ v < P) ∨ (w = 2 ∧ v < P) ∨ (w = 3 ∧ v ≤ 9)
theorem aL_upd {f : Nat → Int32} {T t w : Nat} {v : Int32} (hT : T ≤ 4) (ht : t < T) (hw : w < 4) : aL (upd f (4 + 5 * t + w) v) T = aL f T ∧ aP (upd f (4 + 5 * t + w) v) T = aP f T := by
  unfold aL aP
  constructor
  · exact md_lst_congr (fun i hi => by unfold upd; rw [if_neg (by omega)])
  · exact md_lst_congr (fun i hi => by unfold upd; rw [if_neg (by omega)])
theorem wv_trait {f : Nat → Int32} {P T t w v : Nat} (h : wv f P T) (ht : t < T) (hv : tv P w v) : wv (upd f (4 + 5 * t + w) (nI v)) P T := by
  have hw : w < 4 := by rcases hv with q | q | q | q <;> omega
  obtain ⟨h1, h2, h3, h4, h5, h6, h7, h8, h9⟩ := h
  have u : ∀ y, y ≠ 4 + 5 * t + w → upd f (4 + 5 * t + w) (nI v) y = f y := fun y hy => by unfold upd; rw [if_neg hy]
  obtain ⟨eL, eP⟩ := aL_upd (f := f) (v := nI v) h2 ht hw
  refine ⟨h1, h2, fun t' ht' => ?_, fun j hj => by rw [u _ (by omega)]; exact h4 j hj, fun t' ht' => by rw [u _ (by omega)]; exact h5 t' ht', fun j hj => by rw [u _ (by omega)]; exact h6 j hj, by rw [eL, eP]; exact h7, ?_, fun p hp => by rw [u _ (by omega), eL]; exact h9 p hp⟩
  · obtain ⟨kd, a, b, fe, q1, q2, q3, q4, q5, q6, q7, q8⟩ := h3 t' ht'
    by_cases e : t' = t
    · subst e
      rcases hv with ⟨rfl, q⟩ | ⟨rfl, q⟩ | ⟨rfl, q⟩ | ⟨rfl, q⟩
      · exact ⟨v, a, b, fe, q, q2, q3, q4, by unfold upd; rw [if_pos (by omega)], by rw [u _ (by omega)]; exact q6, by rw [u _ (by omega)]; exact q7, by rw [u _ (by omega)]; exact q8⟩
      · exact ⟨kd, v, b, fe, q1, q, q3, q4, by rw [u _ (by omega)]; exact q5, by unfold upd; rw [if_pos (by omega)], by rw [u _ (by omega)]; exact q7, by rw [u _ (by omega)]; exact q8⟩
      · exact ⟨kd, a, v, fe, q1, q2, q, q4, by rw [u _ (by omega)]; exact q5, by rw [u _ (by omega)]; exact q6, by unfold upd; rw [if_pos (by omega)], by rw [u _ (by omega)]; exact q8⟩
      · exact ⟨kd, a, b, v, q1, q2, q3, q, by rw [u _ (by omega)]; exact q5, by rw [u _ (by omega)]; exact q6, by rw [u _ (by omega)]; exact q7, by unfold upd; rw [if_pos (by omega)]⟩
    · exact ⟨kd, a, b, fe, q1, q2, q3, q4, by rw [u _ (by omega)]; exact q5, by rw [u _ (by omega)]; exact q6, by rw [u _ (by omega)]; exact q7, by rw [u _ (by omega)]; exact q8⟩
  · obtain ⟨s, s1, s2, s3⟩ := h8
    exact ⟨s, s1, by rw [u _ (by omega)]; exact s2, fun i hi => by rw [u _ (by omega)]; exact s3 i hi⟩
theorem cw_wk {M : pm_M} {k k1 : Nat} {x : Int32} {f : Nat → Int32} {P T : Nat} (h : cw M k f P T) : cw (gRe_weigh k1 x M) k f P T := cw_same h (fun t h4 h11 => weigh_ne (by omega))
theorem cw_wn {M : pm_M} {k : Nat} {x : Int32} {f : Nat → Int32} {P T : Nat} (h : cw M k f P T) (h4 : T ≤ 4) : fRe_meanParts (gRe_weigh k x M) = nI (re_parts (aL f T).length) := by
  have := aL_len (f := f) (T := T)
  rw [fRe_meanParts_at weigh_n (by rw [cw_L h h4]; omega), cw_L h h4]
theorem upd_self {f : Nat → Int32} {a : Nat} : upd f a (f a) = f := by
  funext j
  unfold upd
  by_cases h : j = a
  · rw [if_pos h, h]
  · rw [if_neg h]
theorem cs_trait {M : pm_M} {a b c : Int32} : cs_eq M (gWh_setTrait 1 a b c M) := by
  unfold gWh_setTrait
  exact cs_set rfl
theorem cw_own {M : pm_M} {f : Nat → Int32} {P T t : Nat} (h : cw M 0 f P T) (hv : wv f P T) (ht : t < T) : ∃ o, o < P ∧ f (5 + 5 * t) = nI o ∧ fWh_trait 0 (nI t) 1 M = nI o := by
  obtain ⟨kd, a, b, fe, q1, q2, q3, q4, q5, q6, q7, q8⟩ := hv.2.2.1 t ht
  exact ⟨a, q2, q6, (cw_trait h hv.2.1 ht).2.1.trans q6⟩
theorem cw_in {M : pm_M} {k : Nat} {f : Nat → Int32} {P T t : Nat} (h : cw M k f P T) (h4 : T ≤ 4) (ht : t < T) : fWh_isTicketIn k (nI t) M = (if f (8 + 5 * t) = -4 then 1 else 0) ∧ sWh_isTicketIn k (nI t) M := by
  rw [fWh_isTicketIn_at h.2.1 h4 ht, h.2.2.2.2.2.1 t ht]
  exact ⟨rfl, sWh_isTicketIn_at h.2.1 h4 ht⟩
/-- what the owner's mean is with another trait -/
def aG (f : Nat → Int32) (T t w p : Nat) (v : Nat) : Int32 := aM (upd f (4 + 5 * t + w) (nI v)) T p
def aFee (f : Nat → Int32) (T t p : Nat) (v : Int32) : Int32 := pm_first (fun fe => decide (v * nI (re_parts (aL f T).length) ≤ aG f T t 3 p fe)) 10
theorem c_fee_bad {M : pm_M} {f : Nat → Int32} {P T : Nat} {a1 a2 : Int32} (h : cw M 0 f P T) (hv : wv f P T) (hb : (¬ ∃ t, t < T ∧ a1 = nI t) ∨ fWt_isEnd a2 M = 0) : pm_Ev mWt_fee [pm_r 0 0, pm_i a1, pm_i a2] M (some (pm_i (-1))) M := by
  refine pm_Sem_of (ls := [some (pm_r 0 0), some (pm_i a1), some (pm_i a2), none, none, none]) ok_mWt_fee (by decide +kernel) rfl (by decide) (Nat.le_of_ble_eq_true rfl) rfl ?_
  refine bWt_fee_0 eWh_hasTicket (bWt_fee_8 (fun _ => bWt_fee_18 ⟨rfl, rfl⟩) (fun h1 => bWt_fee_11 eWt_isEnd (bWt_fee_15 (fun _ => bWt_fee_18 ⟨rfl, rfl⟩) (fun h2 => ?_))))
  rcases hb with hb | hb
  · exact absurd (has_bad h.2.1 hv.2.1 hb).1 h1
  · exact absurd hb h2
theorem c_fee_st {M : pm_M} {f : Nat → Int32} {P T t : Nat} {a2 : Int32} (h : cw M 0 f P T) (hv : wv f P T) (ht : t < T) (he : ¬ fWt_isEnd a2 M = 0) (hd : ¬ f (8 + 5 * t) = -4) : pm_Ev mWt_fee [pm_r 0 0, pm_i (nI t), pm_i a2] M (some (pm_i (-2))) M := by
  refine pm_Sem_of (ls := [some (pm_r 0 0), some (pm_i (nI t)), some (pm_i a2), none, none, none]) ok_mWt_fee (by decide +kernel) rfl (by decide) (Nat.le_of_ble_eq_true rfl) rfl ?_
  refine bWt_fee_0 eWh_hasTicket (bWt_fee_8 (fun q => ?_) (fun _ => bWt_fee_11 eWt_isEnd (bWt_fee_15 (fun q => absurd q he) (fun _ => bWt_fee_20 (eWh_isTicketIn (cw_in h hv.2.1 ht).2) (bWt_fee_28 (fun _ => bWt_fee_31 ⟨rfl, rfl⟩) (fun q => ?_))))))
  · rw [(has_good h.2.1 hv.2.1 ht).1] at q
    exact absurd q (by decide)
  · rw [(cw_in h hv.2.1 ht).1, if_neg hd] at q
    exact absurd rfl q
theorem c_fee {M : pm_M} {f : Nat → Int32} {P T t o : Nat} {a2 : Int32} (h : cw M 0 f P T) (hv : wv f P T) (ht : t < T) (he : ¬ fWt_isEnd a2 M = 0) (hd : f (8 + 5 * t) = -4) (ho : f (5 + 5 * t) = nI o) (hoP : o < P) : ∃ M', pm_Ev mWt_fee [pm_r 0 0, pm_i (nI t), pm_i a2] M (some (pm_i (aFee f T t o a2))) M' ∧ cs_eq M M' := by
  have h4 := hv.2.1
  have hP4 := hv.1
  suffices hG : ∃ M', pm_G mWt_fee 0 [some (pm_r 0 0), some (pm_i (nI t)), some (pm_i a2), none, none, none] [] M (pm_D (some (pm_i (aFee f T t o a2))) M') ∧ cs_eq M M' by
    obtain ⟨M', g1, g2⟩ := hG
    exact ⟨M', pm_Sem_of (ls := [some (pm_r 0 0), some (pm_i (nI t)), some (pm_i a2), none, none, none]) ok_mWt_fee (by decide +kernel) rfl (by decide) (Nat.le_of_ble_eq_true rfl) rfl g1, g2⟩
  suffices hL : ∃ M', pm_G mWt_fee 58 [some (pm_r 0 0), some (pm_i (nI t)), some (pm_i a2), some (pm_i (nI o)), some (pm_i (nI 0)), none] [] (gWh_copy 1 0 M) (pm_D (some (pm_i (aFee f T t o a2))) M') ∧ cs_eq M M' by
    obtain ⟨M', g1, g2⟩ := hL
    refine ⟨M', ?_, g2⟩
    refine bWt_fee_0 eWh_hasTicket (bWt_fee_8 (fun q => ?_) (fun _ => bWt_fee_11 eWt_isEnd (bWt_fee_15 (fun q => absurd q he) (fun _ => bWt_fee_20 (eWh_isTicketIn (cw_in h h4 ht).2) (bWt_fee_28 (fun q => ?_) (fun _ => bWt_fee_34 (eWh_trait (sWh_all (by omega) (by simp))) (bWt_fee_43 eWh_copy (bWt_fee_55 ?_))))))))
    · rw [(has_good h.2.1 h4 ht).1] at q
      exact absurd q (by decide)
    · rw [(cw_in h h4 ht).1, if_pos hd] at q
      exact absurd q (by decide)
    · rw [(cw_trait h h4 ht).2.1, ho]
      exact g1
  generalize hc : (fun fe => decide (a2 * nI (re_parts (aL f T).length) ≤ aG f T t 3 o fe)) = c
  have hres : aFee f T t o a2 = pm_first c 10 := by unfold aFee; rw [hc]
  rw [hres]
  refine pm_upto (N := 10) (P := fun i => (∀ j, j < i → c j = false) → ∀ (M1 : pm_M) (g : Nat → Int32), cs_eq M M1 → cw M1 1 g P T → (∀ x, upd g (4 + 5 * t + 3) x = upd f (4 + 5 * t + 3) x) → ∃ M', pm_G mWt_fee 58 [some (pm_r 0 0), some (pm_i (nI t)), some (pm_i a2), some (pm_i (nI o)), some (pm_i (nI i)), none] [] M1 (pm_D (some (pm_i (pm_first c 10))) M') ∧ cs_eq M M') ?_ ?_ 0 (Nat.zero_le _) (fun j hj => absurd hj (Nat.not_lt_zero _)) (gWh_copy 1 0 M) f cs_copy (cw_copy (by decide) h hP4 h4) (fun _ => rfl)
  · intro hall M1 g hcs _ _
    refine ⟨M1, ?_, hcs⟩
    refine bWt_fee_58 (fun _ => bWt_fee_113 ?_) (fun q => absurd (show nI 9 < nI 10 from (pm_lt4 (by omega) (by omega)).mpr (by omega)) q)
    rw [pm_first_no hall]
    exact ⟨rfl, rfl⟩
  · intro i hi ih hall M1 g hcs hw hg
    have hw2 : cw (gWh_setTrait 1 (nI t) 3 (nI i) M1) 1 (upd f (4 + 5 * t + 3) (nI i)) P T := by
      have := cw_set (v := nI i) hw hP4 h4 ht (show 3 < 4 by omega)
      rw [hg] at this
      exact this
    have hv2 : wv (upd f (4 + 5 * t + 3) (nI i)) P T := wv_trait hv ht (Or.inr (Or.inr (Or.inr ⟨rfl, by omega⟩)))
    obtain ⟨m1, m2⟩ := cw_meanSum hw2 hv2 hoP
    have m3 : fRe_meanParts (gRe_meanSum 1 (nI o) (gWh_setTrait 1 (nI t) 3 (nI i) M1)) = nI (re_parts (aL f T).length) := by
      have := cw_wn (x := nI o) hw2 h4
      rw [(aL_upd (f := f) h4 ht (show 3 < 4 by omega)).1] at this
      exact this
    have hcs2 : cs_eq M (gRe_meanSum 1 (nI o) (gWh_setTrait 1 (nI t) 3 (nI i) M1)) := cs_trans hcs (cs_trans cs_trait cs_weigh)
    have go : (∃ M', pm_G mWt_fee 100 [some (pm_r 0 0), some (pm_i (nI t)), some (pm_i a2), some (pm_i (nI o)), some (pm_i (nI i)), some (pm_i (aG f T t 3 o i))] [pm_i (nI (re_parts (aL f T).length)), pm_i a2, pm_i (aG f T t 3 o i)] (gRe_meanSum 1 (nI o) (gWh_setTrait 1 (nI t) 3 (nI i) M1)) (pm_D (some (pm_i (pm_first c 10))) M') ∧ cs_eq M M') → ∃ M', pm_G mWt_fee 58 [some (pm_r 0 0), some (pm_i (nI t)), some (pm_i a2), some (pm_i (nI o)), some (pm_i (nI i)), none] [] M1 (pm_D (some (pm_i (pm_first c 10))) M') ∧ cs_eq M M' := by
      rintro ⟨M', g1, g2⟩
      refine ⟨M', ?_, g2⟩
      refine bWt_fee_58 (fun q => ?_) (fun _ => bWt_fee_65 (eWh_setTrait (re_ix (show t < 4 by omega) (show 3 < 4 by omega)).2) (bWt_fee_76 (eRe_meanSum m1) (bWt_fee_88 eRe_meanParts ?_)))
      · have := (pm_lt4 (a := 9) (b := i) (by omega) (by omega)).mp q
        omega
      · rw [m2, m3]
        exact g1
    apply go
    by_cases hci : c i = true
    · refine ⟨_, bWt_fee_100 (fun q => ?_) (fun _ => bWt_fee_104 ?_), hcs2⟩
      · rw [← hc] at hci
        have := of_decide_eq_true hci
        rw [Int32.lt_iff_toInt_lt] at q
        rw [Int32.le_iff_toInt_le] at this
        omega
      · rw [pm_first_at hi hci hall]
        exact ⟨rfl, rfl⟩
    · have hcf : c i = false := by simpa using hci
      obtain ⟨M', g1, g2⟩ := ih (fun j hj => by
        by_cases e : j = i
        · subst e; exact hcf
        · exact hall j (by omega)) _ (upd f (4 + 5 * t + 3) (nI i)) hcs2 (cw_wk hw2) (fun x => upd_upd ..)
      refine ⟨M', bWt_fee_100 (fun _ => bWt_fee_107 ?_) (fun q => ?_), g2⟩
      · rw [nI_1]
        exact pm_G_le (ls' := [some (pm_r 0 0), some (pm_i (nI t)), some (pm_i a2), some (pm_i (nI o)), some (pm_i (nI (i + 1))), none]) ⟨Or.inr rfl, Or.inr rfl, Or.inr rfl, Or.inr rfl, Or.inr rfl, Or.inl rfl, trivial⟩ g1
      · rw [← hc] at hcf
        have := of_decide_eq_false hcf
        rw [Int32.lt_iff_toInt_lt] at q
        rw [Int32.le_iff_toInt_le] at this
        omega
