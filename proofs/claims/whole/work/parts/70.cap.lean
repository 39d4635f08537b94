/-! cap -/
theorem sumZ_one {a b : Nat → Int} {i : Nat} : ∀ {n : Nat}, i < n → (∀ k, k < n → k ≠ i → a k = b k) → sumZ a n = sumZ b n - b i + a i
  | n + 1, hi, h => by
    rw [sumZ, sumZ]
    by_cases e : i = n
    · subst e
      rw [sumZ_congr (fun k hk => h k (by omega) (by omega))]
      omega
    · rw [sumZ_one (n := n) (by omega) (fun k hk => h k (by omega)), h n (by omega) (fun q => e q.symm)]
      omega
theorem ro_hit {n i j : Nat} (hn : n ≤ 4) (hi : i < n) (hj : j < n) : ∃ r, r < md_fact n ∧ re_ord r i = j := by
  have : ∀ n : Fin 5, ∀ i : Fin 4, ∀ j : Fin 4, i.val < n.val → j.val < n.val → ∃ r : Fin 24, r.val < md_fact n.val ∧ ro r.val i.val = j.val := by decide +kernel
  obtain ⟨r, h1, h2⟩ := this ⟨n, by omega⟩ ⟨i, by omega⟩ ⟨j, by omega⟩ hi hj
  exact ⟨r.val, h1, by rw [ro_eq r.isLt (by omega)]; exact h2⟩
theorem ro_inj {n r i j : Nat} (hn : n ≤ 4) (hr : r < md_fact n) (hi : i < n) (hj : j < n) (h : re_ord r i = re_ord r j) : i = j := by
  have h24 := (md_fact24 hn).1
  rw [ro_eq (by omega) (by omega), ro_eq (by omega) (by omega)] at h
  exact (by decide +kernel : ∀ n : Fin 5, ∀ r : Fin 24, ∀ i : Fin 4, ∀ j : Fin 4, r.val < md_fact n.val → i.val < n.val → j.val < n.val → ro r.val i.val = ro r.val j.val → i.val = j.val) ⟨n, by omega⟩ ⟨r, by omega⟩ ⟨i, by omega⟩ ⟨j, by omega⟩ hr hi hj h
theorem ro_at {n r j : Nat} (hn : n ≤ 4) (hr : r < md_fact n) (hj : j < n) : ∃ i, i < n ∧ re_ord r i = j := by
  have h24 := (md_fact24 hn).1
  have : ∀ n : Fin 5, ∀ r : Fin 24, ∀ j : Fin 4, r.val < md_fact n.val → j.val < n.val → ∃ i : Fin 4, i.val < n.val ∧ ro r.val i.val = j.val := by decide +kernel
  obtain ⟨i, h1, h2⟩ := this ⟨n, by omega⟩ ⟨r, by omega⟩ ⟨j, by omega⟩ hr hj
  exact ⟨i.val, h1, by rw [ro_eq (by omega) i.isLt]; exact h2⟩
theorem aP_inj {f : Nat → Int32} {T i j : Nat} (hi : i < (aP f T).length) (hj : j < (aP f T).length) (h : (aP f T).getD i 0 = (aP f T).getD j 0) : i = j := by
  have hnd : (aP f T).Nodup := List.Pairwise.filter _ List.nodup_range
  rw [List.getD_eq_getElem?_getD, List.getD_eq_getElem?_getD, List.getElem?_eq_getElem hi, List.getElem?_eq_getElem hj] at h
  exact (List.getElem_inj hnd).mp h
theorem aP_at {f : Nat → Int32} {T z : Nat} (hz : z < T) (hd : f (28 + z) = -4) : ∃ j, j < (aP f T).length ∧ (aP f T).getD j 0 = z := by
  have hm : z ∈ aP f T := List.mem_filter.mpr ⟨List.mem_range.mpr hz, decide_eq_true hd⟩
  obtain ⟨j, hj, e⟩ := List.mem_iff_getElem.mp hm
  exact ⟨j, hj, by rw [List.getD_eq_getElem?_getD, List.getElem?_eq_getElem hj]; exact e⟩
-- the row with another prize
theorem prize_L {f : Nat → Int32} {T z : Nat} {v : Int32} (hT : T ≤ 4) (hz : z < T) : aL (upd f (24 + z) v) T = aL f T ∧ aP (upd f (24 + z) v) T = aP f T := ⟨md_lst_congr (fun i hi => by rw [pk_un (by omega)]), md_lst_congr (fun i hi => by rw [pk_un (by omega)])⟩
theorem prize_wv {f : Nat → Int32} {P T z c : Nat} (hv : wv f P T) (hz : z < T) (hc : c ≤ 99) : wv (upd f (24 + z) (nI c)) P T := by
  obtain ⟨h1, h2, h3, h4, h5, h6, h7, ⟨s, h8, h9, h10⟩, h11⟩ := hv
  obtain ⟨e1, e2⟩ := prize_L (f := f) (v := nI c) h2 hz
  refine ⟨h1, h2, fun t ht => ?_, fun j hj => ?_, fun t ht => ?_, fun j hj => ?_, ?_, ⟨s, h8, ?_, fun i hi => ?_⟩, fun p hp => ?_⟩
  · rw [pk_un (by omega), pk_un (by omega), pk_un (by omega), pk_un (by omega)]
    exact h3 t ht
  · by_cases e : j = z
    · subst e
      rw [pk_us]
      exact ⟨c, hc, rfl⟩
    · rw [pk_un (by omega)]
      exact h4 j hj
  · rw [pk_un (by omega)]
    exact h5 t ht
  · rw [pk_un (by omega)]
    exact h6 j hj
  · rw [e1, e2]
    exact h7
  · rw [pk_un (by omega)]
    exact h9
  · rw [pk_un (by omega)]
    exact h10 i hi
  · rw [pk_un (by omega), e1]
    exact h11 p hp
theorem prize_gn {f : Nat → Int32} {z u : Nat} {v x : Int32} (hu : u < 4) : md_gn (upd f (24 + z) v) u x = md_gn f u x := by
  unfold md_gn
  rw [pk_un (show 5 + 5 * u ≠ 24 + z by omega), pk_un (show 4 + 5 * u ≠ 24 + z by omega), pk_un (show 7 + 5 * u ≠ 24 + z by omega), pk_un (show 6 + 5 * u ≠ 24 + z by omega)]
theorem prize_sh {f : Nat → Int32} {z u : Nat} {v m x : Int32} (hu : u < 4) : md_sh (upd f (24 + z) v) u m x = md_sh f u m x := by
  unfold md_sh
  rw [pk_un (show 5 + 5 * u ≠ 24 + z by omega), pk_un (show 4 + 5 * u ≠ 24 + z by omega), pk_un (show 7 + 5 * u ≠ 24 + z by omega), pk_un (show 6 + 5 * u ≠ 24 + z by omega)]
theorem prize_A {f : Nat → Int32} {P T z p r : Nat} {v : Int32} (hv : wv f P T) (hz : z < T) (hr : r < md_fact (aL f T).length) : aA (upd f (24 + z) v) T (nI p) r = aA f T (nI p) r := by
  have hT := hv.2.1
  unfold aA aF
  rw [(prize_L (f := f) (v := v) hT hz).1]
  refine pm_sumI_congr (fun i hi => ?_)
  have := (aL_lt (re_ord_lt (aN hv).1 hr hi).1).1
  rw [prize_gn (by omega)]
def zC (f : Nat → Int32) (T p i c : Nat) : Int := (md_sh f ((aL f T).getD i 0) (nI c) (nI p)).toInt
theorem zC_bd {f : Nat → Int32} {P T p i c : Nat} (hv : wv f P T) (hi : i < (aL f T).length) (hc : c ≤ 99) : (zC f T p i c).natAbs ≤ 189 := sh_bd hv (aL_lt hi).1 hc _
theorem prize_B {f : Nat → Int32} {P T z p r i c : Nat} (hv : wv f P T) (hz : z < T) (hr : r < md_fact (aL f T).length) (hi : i < (aL f T).length) (h : (aP f T).getD (re_ord r i) 0 = z) : zB (upd f (24 + z) (nI c)) T p r = zB f T p r - zS f T p i (re_ord r i) + zC f T p i c := by
  have hT := hv.2.1
  have hl := hv.2.2.2.2.2.2.1
  have hn := (aN hv).1
  unfold zB
  rw [(prize_L (f := f) (v := nI c) hT hz).1, sumZ_one (b := fun k => zS f T p k (re_ord r k)) hi (fun k hk hne => ?_)]
  · congr 1
    unfold zS zC aS
    rw [(prize_L (f := f) (v := nI c) hT hz).1, (prize_L (f := f) (v := nI c) hT hz).2, h, pk_us, prize_sh (by have := (aL_lt hi).1; omega)]
  · unfold zS aS
    have o1 := (re_ord_lt hn hr hk).1
    have o2 := (re_ord_lt hn hr hi).1
    rw [(prize_L (f := f) (v := nI c) hT hz).1, (prize_L (f := f) (v := nI c) hT hz).2, pk_un, prize_sh (by have := (aL_lt hk).1; omega)]
    intro e
    have e1 : (aP f T).getD (re_ord r k) 0 = (aP f T).getD (re_ord r i) 0 := by rw [h]; omega
    exact hne (ro_inj hn hr hk hi (aP_inj (by omega) (by omega) e1))
theorem max_toInt (x y : Int32) : (fMa_max x y).toInt = if x.toInt < y.toInt then y.toInt else x.toInt := by
  unfold fMa_max
  by_cases h : x < y
  · rw [if_pos h, if_pos (Int32.lt_iff_toInt_lt.mp h)]
  · rw [if_neg h, if_neg (fun q => h (Int32.lt_iff_toInt_lt.mpr q))]
theorem min_t : (-1000000 : Int32).toInt = -1000000 := by decide
theorem sub_toInt {f : Nat → Int32} {P T p r i : Nat} (hv : wv f P T) (hr : r < md_fact (aL f T).length) (hi : i < (aL f T).length) : (aB f T (nI p) r - aS f T (nI p) i (re_ord r i)).toInt = zB f T p r - zS f T p i (re_ord r i) ∧ (zB f T p r - zS f T p i (re_ord r i)).natAbs ≤ 945 := by
  have h1 := zB_bd (p := p) hv hr
  have h2 := zS_bd (p := p) hv hi (re_ord_lt (aN hv).1 hr hi).1
  have e : (aS f T (nI p) i (re_ord r i)).toInt = zS f T p i (re_ord r i) := rfl
  rw [Int32.toInt_sub, aB_toInt hv hr, e, Int.bmod_eq_of_le (by omega) (by omega)]
  exact ⟨rfl, by omega⟩
theorem bs_spec {f : Nat → Int32} {P T p z i : Nat} (hv : wv f P T) (hi : i < (aL f T).length) : ∀ K, K ≤ md_fact (aL f T).length → (∀ r, r < K → (aP f T).getD (re_ord r i) 0 = z → zB f T p r - zS f T p i (re_ord r i) ≤ (aBs f T p z i K).toInt) ∧ (aBs f T p z i K = -1000000 ∨ ∃ r, r < K ∧ (aP f T).getD (re_ord r i) 0 = z ∧ (aBs f T p z i K).toInt = zB f T p r - zS f T p i (re_ord r i))
  | 0, _ => ⟨fun r h => absurd h (Nat.not_lt_zero _), Or.inl rfl⟩
  | K + 1, hK => by
    obtain ⟨h1, h2⟩ := bs_spec (p := p) (z := z) hv hi K (by omega)
    obtain ⟨s1, s2⟩ := sub_toInt (p := p) hv (show K < _ by omega) hi
    rw [aBs]
    by_cases q : (aP f T).getD (re_ord K i) 0 = z
    · rw [if_pos q, max_toInt, s1]
      constructor
      · intro r hr hz
        by_cases e : r = K
        · subst e
          split <;> omega
        · have := h1 r (by omega) hz
          split <;> omega
      · by_cases q2 : (aBs f T p z i K).toInt < zB f T p K - zS f T p i (re_ord K i)
        · exact Or.inr ⟨K, by omega, q, by rw [if_pos q2]⟩
        · rcases h2 with h2 | ⟨r, r1, r2, r3⟩
          · rw [h2, min_t] at q2
            omega
          · exact Or.inr ⟨r, by omega, r2, by rw [if_neg q2]; exact r3⟩
    · rw [if_neg q]
      constructor
      · intro r hr hz
        by_cases e : r = K
        · subst e
          exact absurd hz q
        · exact h1 r (by omega) hz
      · rcases h2 with h2 | ⟨r, r1, r2, r3⟩
        · exact Or.inl h2
        · exact Or.inr ⟨r, by omega, r2, r3⟩
/-- others beside prize z, by the j-th ticket -/
theorem bs_max {f : Nat → Int32} {P T p z i : Nat} (hv : wv f P T) (hi : i < (aL f T).length) (hz : z < T) (hd : f (28 + z) = -4) : (∀ r, r < md_fact (aL f T).length → (aP f T).getD (re_ord r i) 0 = z → zB f T p r - zS f T p i (re_ord r i) ≤ (aBs f T p z i (md_fact (aL f T).length)).toInt) ∧ ∃ r, r < md_fact (aL f T).length ∧ (aP f T).getD (re_ord r i) 0 = z ∧ (aBs f T p z i (md_fact (aL f T).length)).toInt = zB f T p r - zS f T p i (re_ord r i) := by
  obtain ⟨h1, h2⟩ := bs_spec (p := p) (z := z) hv hi _ (Nat.le_refl _)
  refine ⟨h1, ?_⟩
  rcases h2 with h2 | h2
  · obtain ⟨j, hj, ej⟩ := aP_at hz hd
    obtain ⟨r, hr, er⟩ := ro_hit (aN hv).1 hi (show j < (aL f T).length by have := hv.2.2.2.2.2.2.1; omega)
    have k := h1 r hr (by rw [er]; exact ej)
    obtain ⟨s1, s2⟩ := sub_toInt (p := p) hv hr hi
    rw [h2, min_t] at k
    omega
  · exact h2
theorem mw_add {f : Nat → Int32} {P T p z i c : Nat} (hv : wv f P T) (hi : i < (aL f T).length) (hz : z < T) (hd : f (28 + z) = -4) (hc : c ≤ 99) : (aBs f T p z i (md_fact (aL f T).length) + md_sh f ((aL f T).getD i 0) (nI c) (nI p)).toInt = (aBs f T p z i (md_fact (aL f T).length)).toInt + zC f T p i c ∧ ((aBs f T p z i (md_fact (aL f T).length)).toInt + zC f T p i c).natAbs ≤ 1134 := by
  obtain ⟨_, r, h1, h2, h3⟩ := bs_max (p := p) hv hi hz hd
  obtain ⟨s1, s2⟩ := sub_toInt (p := p) hv h1 hi
  have b := zC_bd (p := p) hv hi hc
  have e : (md_sh f ((aL f T).getD i 0) (nI c) (nI p)).toInt = zC f T p i c := rfl
  rw [Int32.toInt_add, e, h3, Int.bmod_eq_of_le (by omega) (by omega)]
  exact ⟨rfl, by omega⟩
theorem mw_spec {f : Nat → Int32} {P T p z c : Nat} (hv : wv f P T) (hz : z < T) (hd : f (28 + z) = -4) (hc : c ≤ 99) : ∀ K, K ≤ (aL f T).length → (∀ i, i < K → (aBs f T p z i (md_fact (aL f T).length)).toInt + zC f T p i c ≤ (aMw f T p z (nI c) K).toInt) ∧ (aMw f T p z (nI c) K = -1000000 ∨ ∃ i, i < K ∧ (aMw f T p z (nI c) K).toInt = (aBs f T p z i (md_fact (aL f T).length)).toInt + zC f T p i c)
  | 0, _ => ⟨fun r h => absurd h (Nat.not_lt_zero _), Or.inl rfl⟩
  | K + 1, hK => by
    obtain ⟨h1, h2⟩ := mw_spec (p := p) hv hz hd hc K (by omega)
    obtain ⟨s1, s2⟩ := mw_add (p := p) hv (show K < _ by omega) hz hd hc
    rw [aMw, max_toInt, s1]
    constructor
    · intro i hi
      by_cases e : i = K
      · subst e
        split <;> omega
      · have := h1 i (by omega)
        split <;> omega
    · by_cases q2 : (aMw f T p z (nI c) K).toInt < (aBs f T p z K (md_fact (aL f T).length)).toInt + zC f T p K c
      · exact Or.inr ⟨K, by omega, by rw [if_pos q2]⟩
      · rcases h2 with h2 | ⟨r, r1, r2⟩
        · rw [h2, min_t] at q2
          omega
        · exact Or.inr ⟨r, by omega, by rw [if_neg q2]; exact r2⟩
theorem cap_eq {f : Nat → Int32} {P T p z c : Nat} (hv : wv f P T) (hp : p < P) (hz : z < T) (hd : f (28 + z) = -4) (hc : c ≤ 99) : f p + aHA f T p + aMw f T p z (nI c) (aL f T).length = upd f (24 + z) (nI c) p + aHi (upd f (24 + z) (nI c)) T p := by
  have hP := hv.1
  have hv' := prize_wv (c := c) hv hz hc
  obtain ⟨eL, eP⟩ := prize_L (f := f) (v := nI c) hv.2.1 hz
  obtain ⟨hn4, hN24, hN1⟩ := aN hv
  obtain ⟨o, q, ho, hq, e1, e2, h1, h2⟩ := hi_pt hv' hp
  rw [eL] at ho hq h1 h2
  have hA : aHA (upd f (24 + z) (nI c)) T p = aHA f T p := by
    unfold aHA
    rw [eL]
    exact (re_min_congr (fun r hr => prize_A hv hz (by omega))).2
  have zAA : ∀ r, r < md_fact (aL f T).length → zA (upd f (24 + z) (nI c)) T p r = zA f T p r := by
    intro r hr
    rw [← aA_toInt hv hr, ← aA_toInt hv' (by rw [eL]; exact hr), prize_A hv hz hr]
  rw [e2]
  apply Int32.toInt_inj.mp
  rw [eW_toInt hv' hp (by rw [eL]; exact ho) (by rw [eL]; exact hq)]
  have hHA : (aHA f T p).toInt = zA f T p o := by rw [← hA, e1, aA_toInt hv' (by rw [eL]; exact ho), zAA o ho]
  obtain ⟨j, hj, ej⟩ := aP_at hz hd
  have hl := hv.2.2.2.2.2.2.1
  obtain ⟨m1, m2⟩ := mw_spec (p := p) hv hz hd hc _ (Nat.le_refl _)
  have hmw : (aMw f T p z (nI c) (aL f T).length).toInt = zB (upd f (24 + z) (nI c)) T p q := by
    obtain ⟨i, hi, ei⟩ := ro_at hn4 hq (show j < (aL f T).length by omega)
    have k1 := m1 i hi
    have k2 := (bs_max (p := p) hv hi hz hd).1 q hq (by rw [ei]; exact ej)
    have k3 := prize_B (p := p) (c := c) hv hz hq hi (by rw [ei]; exact ej)
    rcases m2 with m2 | ⟨i', hi', m2⟩
    · rw [m2, min_t] at k1
      have := (mw_add (p := p) hv hi hz hd hc).2
      omega
    · obtain ⟨_, r, r1, r2, r3⟩ := bs_max (p := p) hv hi' hz hd
      have k4 := prize_B (p := p) (c := c) hv hz r1 hi' r2
      have k5 := h2 r r1
      omega
  have b1 := purse_bd hv hp
  have b2 := zA_bd (p := p) hv ho
  have b3 := zB_bd (p := p) hv' (r := q) (by rw [eL]; exact hq)
  rw [Int32.toInt_add, Int32.toInt_add, hHA, hmw, Int.bmod_eq_of_le (n := (f p).toInt + zA f T p o) (by omega) (by omega), Int.bmod_eq_of_le (by omega) (by omega)]
  unfold zE
  rw [zAA o ho, pk_un (by omega)]
  omega
theorem m_cap_bad {M : pm_M} {f : Nat → Int32} {P T : Nat} {a b v : Int32} (hv : wv f P T) (hw : mw M f P T) (hb : (¬ ∃ t, t < T ∧ a = nI t) ∨ (¬ ∃ t, t < P ∧ b = nI t) ∨ fWt_within v 0 999 M = 0) : pm_Ev mMo_cap [pm_r 29 0, pm_i a, pm_i b, pm_i v] M (some (pm_i (-1))) M := by
  refine pm_Sem_of (ls := [some (pm_r 29 0), some (pm_i a), some (pm_i b), some (pm_i v), none]) ok_mMo_cap (by decide +kernel) rfl (by decide) (Nat.le_of_ble_eq_true rfl) rfl ?_
  refine bMo_cap_0 eMo_isTicket (bMo_cap_5 (fun _ => bMo_cap_28 ⟨rfl, rfl⟩) (fun h1 => bMo_cap_8 eMo_isPerson (bMo_cap_13 (fun _ => bMo_cap_28 ⟨rfl, rfl⟩) (fun h2 => bMo_cap_16 eMo_in (bMo_cap_25 (fun _ => bMo_cap_28 ⟨rfl, rfl⟩) (fun h3 => ?_))))))
  rcases hb with hb | hb | hb
  · exact absurd (moT_bad hw.2.2 hv.2.1 hb) h1
  · exact absurd (moP_bad hw.2.1 hv.1 hb) h2
  · exact absurd ((mo_in v 0 999 M M).trans hb) h3
theorem m_cap_0 {M : pm_M} {f : Nat → Int32} {P T z p : Nat} {v : Int32} {Q : Option pm_V → pm_M → Prop} (hv : wv f P T) (hw : mw M f P T) (hz : z < T) (hp : p < P) (hb : ¬ fWt_within v 0 999 M = 0) (k1 : f (28 + z) = -4 → pm_G mMo_cap 47 [some (pm_r 29 0), some (pm_i (nI z)), some (pm_i (nI p)), some (pm_i v), none] [] M Q) (k2 : ¬ f (28 + z) = -4 → Q (some (pm_i (-2))) M) : pm_Sem mMo_cap [pm_r 29 0, pm_i (nI z), pm_i (nI p), pm_i v] M Q := by
  refine pm_Sem_of (ls := [some (pm_r 29 0), some (pm_i (nI z)), some (pm_i (nI p)), some (pm_i v), none]) ok_mMo_cap (by decide +kernel) rfl (by decide) (Nat.le_of_ble_eq_true rfl) rfl ?_
  have hT := hv.2.1
  have h28 : M.1 30 0 (28 + nI z).toNatClampNeg = f (28 + z) := by rw [md_iB (show z < 4 by omega), hw.1]
  refine bMo_cap_0 eMo_isTicket (bMo_cap_5 (fun q => ?_) (fun _ => bMo_cap_8 eMo_isPerson (bMo_cap_13 (fun q => ?_) (fun _ => bMo_cap_16 eMo_in (bMo_cap_25 (fun q => absurd ((mo_in v 0 999 M M).symm.trans q) hb) (fun _ => bMo_cap_30 (md_v (show z < 4 by omega)).2.2.2.2.2 (fun q => k1 (by rw [← h28]; exact q)) (fun q => bMo_cap_44 (k2 (by rw [← h28]; exact q)))))))))
  · rw [moT_good hw.2.2 hT hz] at q
    exact absurd q (by decide)
  · rw [moP_good hw.2.1 hv.1 hp] at q
    exact absurd q (by decide)
theorem md_iZ {z : Nat} (hz : z < 4) : 24 + nI z = nI (24 + z) := (by decide +kernel : ∀ z : Fin 4, 24 + nI z.val = nI (24 + z.val)) ⟨z, hz⟩
theorem m_cap {M : pm_M} {f : Nat → Int32} {P T z p : Nat} {v : Int32} (hv : wv f P T) (hw : mw M f P T) (hz : z < T) (hp : p < P) (hb : ¬ fWt_within v 0 999 M = 0) (hd : f (28 + z) = -4) : ∃ M', pm_Ev mMo_cap [pm_r 29 0, pm_i (nI z), pm_i (nI p), pm_i v] M (some (pm_i (aCap f T z p v))) M' ∧ ms_eq M M' := by
  have hT := hv.2.1
  unfold aCap
  generalize hc : (fun much => decide (f p + aHA f T p + aMw f T p z (nI much) (aL f T).length ≤ v)) = c
  have key : ∀ i, i ≤ 100 → ∀ M1, ms_eq M M1 → ∃ M', pm_G mMo_cap 51 [some (pm_r 29 0), some (pm_i (nI z)), some (pm_i (nI p)), some (pm_i v), some (pm_i (nI i - 1))] [] M1 (pm_D (some (pm_i (pm_last c i))) M') ∧ ms_eq M M' := by
    intro i
    induction i with
    | zero =>
      intro _ M1 hms
      exact ⟨M1, bMo_cap_51 (fun _ => bMo_cap_88 ⟨rfl, rfl⟩) (fun q => absurd (by decide) q), hms⟩
    | succ i ih =>
      intro hi M1 hms
      rw [nI_pred]
      have hw1 := mw_ms hw hms
      obtain ⟨eL, eP⟩ := prize_L (f := f) (v := nI i) hT hz
      obtain ⟨M2, k1, k2, k3, k4, k5, k6, k7⟩ := m_try (c := some (24 + z, nI i)) (M := gMo_tries (nI (24 + z)) (nI i) M1) hv (mw_ms hw1 ms_tries) hp ⟨by omega, tries_25.1, tries_25.2⟩ (prize_wv hv hz (by omega)) eL eP
      have hms2 := ms_trans hms (ms_trans ms_tries k2)
      have k6 : M2.1 29 0 29 = f p + aHA f T p + aMw f T p z (nI i) (aL f T).length := k6.trans (cap_eq hv hp hz hd (by omega)).symm
      have go : ∀ M', pm_G mMo_cap 71 [some (pm_r 29 0), some (pm_i (nI z)), some (pm_i (nI p)), some (pm_i v), some (pm_i (nI i))] [] M2 (pm_D (some (pm_i (pm_last c (i + 1)))) M') → pm_G mMo_cap 51 [some (pm_r 29 0), some (pm_i (nI z)), some (pm_i (nI p)), some (pm_i v), some (pm_i (nI i))] [] M1 (pm_D (some (pm_i (pm_last c (i + 1)))) M') := by
        intro M' g
        refine bMo_cap_51 (fun q => absurd q (pm_pos4 (by omega))) (fun _ => bMo_cap_56 eMo_tries ?_)
        rw [md_iZ (show z < 4 by omega)]
        exact bMo_cap_66 k1 g
      rw [pm_last] at go ⊢
      by_cases hci : c i = true
      · rw [if_pos hci] at go ⊢
        refine ⟨M2, go M2 (bMo_cap_71 (fun q => ?_) (fun _ => bMo_cap_79 ⟨rfl, rfl⟩)), hms2⟩
        rw [← hc] at hci
        have := of_decide_eq_true hci
        rw [k6] at q
        rw [Int32.lt_iff_toInt_lt] at q
        rw [Int32.le_iff_toInt_le] at this
        omega
      · rw [if_neg hci] at go ⊢
        obtain ⟨M', g1, g2⟩ := ih (by omega) M2 hms2
        refine ⟨M', go M' (bMo_cap_71 (fun _ => bMo_cap_82 ?_) (fun q => ?_)), g2⟩
        · rw [show nI i + (-1) = nI i - 1 from (Int32.sub_eq_add_neg ..).symm]
          exact g1
        · rw [← hc] at hci
          have := of_decide_eq_false (Bool.not_eq_true _ ▸ hci)
          rw [k6] at q
          rw [Int32.lt_iff_toInt_lt] at q
          rw [Int32.le_iff_toInt_le] at this
          omega
  obtain ⟨M', g1, g2⟩ := key 100 (Nat.le_refl _) M ms_rfl
  exact ⟨M', m_cap_0 hv hw hz hp hb (fun _ => bMo_cap_47 g1) (fun q => absurd hd q), g2⟩
theorem m_cap_st {M : pm_M} {f : Nat → Int32} {P T z p : Nat} {v : Int32} (hv : wv f P T) (hw : mw M f P T) (hz : z < T) (hp : p < P) (hb : ¬ fWt_within v 0 999 M = 0) (hd : ¬ f (28 + z) = -4) : pm_Ev mMo_cap [pm_r 29 0, pm_i (nI z), pm_i (nI p), pm_i v] M (some (pm_i (-2))) M := m_cap_0 hv hw hz hp hb (fun q => absurd q hd) (fun _ => ⟨rfl, rfl⟩)
