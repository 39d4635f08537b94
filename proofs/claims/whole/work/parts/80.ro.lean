/-! the calls that only look: one row each -/
theorem c_mean_bad {M : pm_M} {f : Nat → Int32} {P T : Nat} {a w : Int32} (h : cw M 0 f P T) (hv : wv f P T) (hb : (¬ ∃ t, t < P ∧ a = nI t) ∨ fWt_isPart w M = 0) : pm_Ev mWt_mean [pm_r 0 0, pm_i a, pm_i w] M (some (pm_l (-1))) M := by
  by_cases h1 : fWh_hasPerson 0 a M = 0
  · have hev := eWt_mean (a1 := a) (a2 := w) (M := M) ⟨fun _ => trivial, fun q => absurd h1 q⟩
    unfold fWt_mean gWt_mean at hev
    rw [if_pos h1, if_pos h1] at hev
    exact hev
  · have h2 : fWt_isPart w M = 0 := hb.resolve_left (fun q => h1 (hasP_bad h.1 hv.1 q))
    have hev := eWt_mean (a1 := a) (a2 := w) (M := M) ⟨fun q => absurd q h1, fun _ => ⟨fun _ => trivial, fun q => absurd h2 q⟩⟩
    unfold fWt_mean gWt_mean at hev
    rw [if_neg h1, if_neg h1, if_pos h2, if_pos h2] at hev
    exact hev
theorem c_mean {M : pm_M} {f : Nat → Int32} {P T p : Nat} {w : Int32} (h : cw M 0 f P T) (hv : wv f P T) (hp : p < P) (hw : ¬ fWt_isPart w M = 0) : ∃ M', pm_Ev mWt_mean [pm_r 0 0, pm_i (nI p), pm_i w] M (some (pm_l (aPart (aM f T p) (nI (re_parts (aL f T).length)) w))) M' ∧ cs_eq M M' := by
  have hh : ¬ fWh_hasPerson 0 (nI p) M = 0 := by rw [hasP_good h.1 hv.1 hp]; decide
  obtain ⟨s1, s2⟩ := cw_meanSum h hv hp
  have s3 : fRe_meanParts (gRe_meanSum 0 (nI p) M) = nI (re_parts (aL f T).length) := cw_wn h hv.2.1
  have hz := zM_bd hv hp
  have hn := parts_le (aN hv).1
  refine ⟨gRe_meanSum 0 (nI p) M, ?_, cs_weigh⟩
  have hev := eWt_mean (a1 := nI p) (a2 := w) (M := M) ⟨fun q => absurd q hh, fun _ => ⟨fun q => absurd q hw, fun _ => ⟨s1, by
    rw [s2, s3]
    refine sPart (A := (zM f T p).natAbs) ?_ (by omega) rfl (by omega)
    rw [aM_z]
    exact abs_cl (by omega)⟩⟩⟩
  unfold fWt_mean gWt_mean at hev
  rw [if_neg hh, if_neg hh, if_neg hw, if_neg hw, s2, s3] at hev
  exact hev
theorem ok_mean (a1 a2 : Int32) : OkL mWt_mean mMo_mean [pm_i a1, pm_i a2] := okL_ro (fun M P T f h hv hw _ => by
  by_cases hb : (¬ ∃ t, t < P ∧ a1 = nI t) ∨ fWt_isPart a2 M = 0
  · exact okL_rr (c_mean_bad h hv hb) (m_mean_bad hv hw hb) ms_rfl
  · obtain ⟨hb1, hb2⟩ := not_or.mp hb
    obtain ⟨t, ht, rfl⟩ := Classical.not_not.mp hb1
    obtain ⟨M', k1, k2⟩ := c_mean h hv ht hb2
    exact ⟨_, M', k1, k2, fun _ hw' => m_mean hv hw' ht hb2⟩)
theorem c_luck_bad {M : pm_M} {f : Nat → Int32} {P T : Nat} {a v w : Int32} (h : cw M 0 f P T) (hv : wv f P T) (hb : (¬ ∃ t, t < P ∧ a = nI t) ∨ fWt_isEnd v M = 0 ∨ fWt_isPart w M = 0) : pm_Ev mWt_luck [pm_r 0 0, pm_i a, pm_i v, pm_i w] M (some (pm_l (-1))) M := by
  by_cases h1 : fWh_hasPerson 0 a M = 0
  · have hev := eWt_luck (a1 := a) (a2 := v) (a3 := w) (M := M) ⟨fun _ => trivial, fun q => absurd h1 q⟩
    unfold fWt_luck gWt_luck at hev
    rw [if_pos h1, if_pos h1] at hev
    exact hev
  · have h2 := hb.resolve_left (fun q => h1 (hasP_bad h.1 hv.1 q))
    by_cases h3 : fWt_isEnd v M = 0
    · have hev := eWt_luck (a1 := a) (a2 := v) (a3 := w) (M := M) ⟨fun q => absurd q h1, fun _ => ⟨fun _ => trivial, fun q => absurd h3 q⟩⟩
      unfold fWt_luck gWt_luck at hev
      rw [if_neg h1, if_neg h1, if_pos h3, if_pos h3] at hev
      exact hev
    · have h4 := h2.resolve_left h3
      have hev := eWt_luck (a1 := a) (a2 := v) (a3 := w) (M := M) ⟨fun q => absurd q h1, fun _ => ⟨fun q => absurd q h3, fun _ => ⟨fun _ => trivial, fun q => absurd h4 q⟩⟩⟩
      unfold fWt_luck gWt_luck at hev
      rw [if_neg h1, if_neg h1, if_neg h3, if_neg h3, if_pos h4, if_pos h4] at hev
      exact hev
theorem ok_luck (a1 a2 a3 : Int32) : OkL mWt_luck mMo_luck [pm_i a1, pm_i a2, pm_i a3] := okL_ro (fun M P T f h hv hw _ => by
  by_cases hb : (¬ ∃ t, t < P ∧ a1 = nI t) ∨ fWt_isEnd a2 M = 0 ∨ fWt_isPart a3 M = 0
  · exact okL_rr (c_luck_bad h hv hb) (m_luck_bad hv hw hb) ms_rfl
  · obtain ⟨hb1, hb2⟩ := not_or.mp hb
    obtain ⟨hb2, hb3⟩ := not_or.mp hb2
    obtain ⟨t, ht, rfl⟩ := Classical.not_not.mp hb1
    obtain ⟨M', k1, k2⟩ := c_luck h hv ht hb2 hb3
    exact ⟨_, M', k1, k2, fun _ hw' => m_luck hv hw' ht hb2 hb3⟩)
theorem c_solid_bad {M : pm_M} {w : Int32} (h2 : fWt_isPart w M = 0) : pm_Ev mWt_solid [pm_r 0 0, pm_i w] M (some (pm_l (-1))) M := by
  have hev := eWt_solid (a1 := w) (M := M) ⟨fun _ => trivial, fun q => absurd h2 q⟩
  unfold fWt_solid gWt_solid at hev
  rw [if_pos h2, if_pos h2] at hev
  exact hev
theorem ok_solid (a1 : Int32) : OkL mWt_solid mMo_solid [pm_i a1] := okL_ro (fun M P T f h hv hw _ => by
  by_cases hb : fWt_isPart a1 M = 0
  · exact okL_rr (c_solid_bad hb) (m_solid_bad hb) ms_rfl
  · obtain ⟨M', k1, k2⟩ := c_solid h hv hb
    exact ⟨_, M', k1, k2, fun _ hw' => m_solid hv hw' hb⟩)
theorem ok_ends (a1 a2 : Int32) : OkI mWt_ends mMo_ends [pm_i a1, pm_i a2] := okI_ro (fun M P T f h hv hw _ => by
  by_cases hb : (¬ ∃ t, t < P ∧ a1 = nI t) ∨ fWt_within a2 0 2 M = 0
  · exact okI_rr (c_ends_bad h hv hb) (m_ends_bad hv hw hb) ms_rfl
  · obtain ⟨hb1, hb2⟩ := not_or.mp hb
    obtain ⟨t, ht, rfl⟩ := Classical.not_not.mp hb1
    obtain ⟨M', k1, k2⟩ := c_ends h hv ht hb2
    exact ⟨_, M', k1, k2, fun _ hw' => m_ends hv hw' ht hb2⟩)
theorem ok_fee (a1 a2 : Int32) : OkI mWt_fee mMo_fee [pm_i a1, pm_i a2] := okI_ro (fun M P T f h hv hw _ => by
  by_cases hb : (¬ ∃ t, t < T ∧ a1 = nI t) ∨ fWt_isEnd a2 M = 0
  · exact okI_rr (c_fee_bad h hv hb) (m_fee_bad hv hw hb) ms_rfl
  · obtain ⟨hb1, hb2⟩ := not_or.mp hb
    obtain ⟨t, ht, rfl⟩ := Classical.not_not.mp hb1
    by_cases hd : f (8 + 5 * t) = -4
    · obtain ⟨o, ho, e1, _⟩ := cw_own h hv ht
      obtain ⟨M', k1, k2⟩ := c_fee h hv ht hb2 hd e1 ho
      exact ⟨_, M', k1, k2, fun _ hw' => m_fee hv hw' ht hb2 hd e1 ho⟩
    · exact okI_rr (c_fee_st h hv ht hb2 hd) (m_fee_st hv hw ht hb2 hd) ms_rfl)
theorem ok_kind (a1 : Int32) : OkI mWt_kind mMo_kind [pm_i a1] := okI_ro (fun M P T f h hv hw _ => by
  by_cases hb : ∃ t, t < T ∧ a1 = nI t
  · obtain ⟨t, ht, rfl⟩ := hb
    by_cases hd : f (8 + 5 * t) = -4
    · obtain ⟨o, ho, e1, _⟩ := cw_own h hv ht
      obtain ⟨M', k1, k2⟩ := c_kind h hv ht hd e1 ho
      exact ⟨_, M', k1, k2, fun _ hw' => m_kind hv hw' ht hd e1 ho⟩
    · exact okI_rr (c_kind_st h hv ht hd) (m_kind_st hv hw ht hd) ms_rfl
  · exact okI_rr (c_kind_bad h hv hb) (m_kind_bad hv hw hb) ms_rfl)
theorem ok_buy (a1 : Int32) : OkI mWt_buy mMo_buy [pm_i a1] := okI_ro (fun M P T f h hv hw _ => by
  by_cases hb : ∃ t, t < P ∧ a1 = nI t
  · obtain ⟨t, ht, rfl⟩ := hb
    obtain ⟨M', k1, k2⟩ := c_buy h hv ht
    exact ⟨_, M', k1, k2, fun _ hw' => m_buy hv hw' ht⟩
  · exact okI_rr (c_buy_bad h hv hb) (m_buy_bad hv hw hb) ms_rfl)
theorem ok_cap (a1 a2 a3 : Int32) : OkI mWt_cap mMo_cap [pm_i a1, pm_i a2, pm_i a3] := okI_ro (fun M P T f h hv hw _ => by
  by_cases hb : (¬ ∃ t, t < T ∧ a1 = nI t) ∨ (¬ ∃ t, t < P ∧ a2 = nI t) ∨ fWt_within a3 0 999 M = 0
  · exact okI_rr (c_cap_bad h hv hb) (m_cap_bad hv hw hb) ms_rfl
  · obtain ⟨hb1, hb2⟩ := not_or.mp hb
    obtain ⟨hb2, hb3⟩ := not_or.mp hb2
    obtain ⟨z, hz, rfl⟩ := Classical.not_not.mp hb1
    obtain ⟨p, hp, rfl⟩ := Classical.not_not.mp hb2
    by_cases hd : f (28 + z) = -4
    · obtain ⟨M', k1, k2⟩ := c_cap h hv hz hp hb3 hd
      exact ⟨_, M', k1, k2, fun _ hw' => m_cap hv hw' hz hp hb3 hd⟩
    · exact okI_rr (c_cap_st h hv hz hp hb3 hd) (m_cap_st hv hw hz hp hb3 hd) ms_rfl)
theorem ok_fits (a1 : Int32) : OkI mWt_fits mMo_fits [pm_i a1] := okI_ro (fun M P T f h hv hw _ => by
  by_cases h0 : a1 = 0
  · subst h0
    obtain ⟨M', k1, k2⟩ := c_fits0 h hv
    exact ⟨_, M', k1, k2, fun _ hw' => m_fits0 hv hw'⟩
  · by_cases hb : ∃ t, t < T ∧ a1 = nI (10 + t)
    · obtain ⟨t, ht, rfl⟩ := hb
      by_cases hd : f (8 + 5 * t) = -4
      · obtain ⟨M', k1, k2⟩ := c_fits_t h hv ht hd
        exact ⟨_, M', k1, k2, fun _ hw' => m_fits_t hv hw' ht hd⟩
      · exact okI_rr (c_fits_st h hv ht hd) (m_fits_st hv hw ht hd) ms_rfl
    · exact okI_rr (c_fits_bad h hv h0 hb) (m_fits_bad hv hw h0 hb) ms_rfl)
theorem ok_ask (a1 : Int32) : OkI mWt_ask mMo_ask [pm_i a1] := okI_ro (fun M P T f h hv hw _ => by
  by_cases hb : fWt_within a1 0 1 M = 0
  · exact okI_rr (c_ask_bad hb) (m_ask_bad hb) ms_rfl
  · obtain ⟨M', k1, k2⟩ := c_ask h hv hb
    exact ⟨_, M', k1, k2, fun _ hw' => m_ask hv hw' hb⟩)
