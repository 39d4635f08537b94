/-! drift -/
def sd (s : Int32) : Int32 := s * 1103515245 + 12345
def sbN (s : Int32) : Nat := s.toBitVec.toNat / 65536 % 32768
theorem sb_c (s : Int32) (M : pm_M) : fWt_seedBits s M = nI (sbN s) := by
  unfold fWt_seedBits sbN
  rw [pk_and _ (m := 32767) 15 (by decide), pk_ushr s 16 16 (by decide)]
theorem sb_m (s : Int32) : (s >>> ((16 : Int32) &&& 31)) &&& 32767 = nI (sbN s) := by
  rw [pk_and _ (m := 32767) 15 (by decide)]
  have h := pk_shr s ((16 : Int32) &&& 31) 16 (by decide)
  generalize s >>> ((16 : Int32) &&& 31) = y at h ⊢
  unfold sbN
  congr 1
  rw [Int.shiftRight_eq_div_pow] at h
  have e1 : y.toInt = y.toBitVec.toInt := rfl
  have e2 : s.toInt = s.toBitVec.toInt := rfl
  rw [e1, e2, BitVec.toInt_eq_toNat_cond, BitVec.toInt_eq_toNat_cond] at h
  have b1 := y.toBitVec.isLt
  have b2 := s.toBitVec.isLt
  generalize y.toBitVec.toNat = a at h b1 ⊢
  generalize s.toBitVec.toNat = b at h b2 ⊢
  split at h <;> split at h <;> omega
theorem sb_rem {s : Int32} {n : Nat} (h0 : 0 < n) (hn : n ≤ 4) : nI (sbN s) - nI (sbN s) / nI n * nI n = nI (sbN s % n) := pk_rem (by unfold sbN; omega) h0 (by omega)
theorem lst_cut {p : Nat → Bool} {T : Nat} : ∀ {N : Nat}, T ≤ N → md_lst (fun i => decide (i < T) && p i) N = md_lst p T
  | 0, h => by
    have : T = 0 := by omega
    subst this
    rfl
  | N + 1, h => by
    by_cases q : T = N + 1
    · subst q
      exact md_lst_congr (fun i hi => by rw [decide_eq_true hi, Bool.true_and])
    · rw [md_lst_succ, if_neg (by rw [decide_eq_false (by omega)]; simp)]
      exact lst_cut (by omega)
theorem order_at {p : Nat → Bool} {T i : Nat} {M : pm_M} (hT : T ≤ 4) (hi : i < 4) : fWt_bitByOrder (nI (pm_bits p T)) (nI i) M = nI ((md_lst p T).getD i 0) ∧ sWt_bitByOrder (nI (pm_bits p T)) (nI i) M := by
  have hb : pm_bits p T < 16 := Nat.lt_of_lt_of_le (pm_bits_lt p T) (Nat.pow_le_pow_right (n := 2) (by omega) hT)
  refine ⟨?_, ⟨_, i, hb, hi, rfl, rfl⟩⟩
  unfold fWt_bitByOrder
  rw [pm_cl4 (by omega), pm_cl4 (by omega)]
  rw [show (fun i => (pm_bits p T).testBit i) = fun i => decide (i < T) && p i from funext fun i => pm_bits_test p T i, lst_cut hT]
def drT (f : Nat → Int32) (T n : Nat) (s : Int32) : Nat := (aL f T).getD (sbN (sd s) % n) 0
def drJ (f : Nat → Int32) (T n : Nat) (s : Int32) : Nat := (aP f T).getD (sbN (sd (sd s)) % n) 0
def dr (T : Nat) : Nat → Int32 → (Nat → Int32) → Nat → Int32
  | 0, _, f => f
  | n + 1, s, f => dr T n (sd (sd s)) (md_draw T (drT f T (n + 1) s) (drJ f T (n + 1) s) f)
theorem dr_in {f : Nat → Int32} {P T n : Nat} {s : Int32} (hv : wv f P T) (hl : (aL f T).length = n + 1) : (drT f T (n + 1) s < T ∧ f (8 + 5 * drT f T (n + 1) s) = -4) ∧ drJ f T (n + 1) s < T ∧ f (28 + drJ f T (n + 1) s) = -4 := by
  have h7 := hv.2.2.2.2.2.2.1
  exact ⟨aL_lt (by rw [hl]; exact Nat.mod_lt _ (by omega)), aP_lt (by rw [← h7, hl]; exact Nat.mod_lt _ (by omega))⟩
theorem dr_len {f : Nat → Int32} {P T n t j : Nat} (hv : wv f P T) (hl : (aL f T).length = n + 1) (ht : t < T) (hj : j < T) (hd : f (8 + 5 * t) = -4) : (aL (md_draw T t j f) T).length = n := by
  have h4 := hv.2.1
  have : (aL (md_draw T t j f) T).length + 1 = (aL f T).length := lst_drop (t := t) (decide_eq_true hd) ht (fun i hi' => by
    by_cases e : i = t
    · subst e
      have : md_draw T i j f (8 + 5 * i) = nI j := by
        unfold md_draw
        rw [if_neg (by omega), if_neg (by omega), if_pos rfl]
      rw [this, decide_eq_false (nI_ne4 (show j < 4 by omega))]
      simp
    · have : md_draw T t j f (8 + 5 * i) = f (8 + 5 * i) := by
        unfold md_draw
        rw [if_neg (by omega), if_neg (by omega), if_neg (by omega)]
      rw [this]
      simp [e])
  omega
theorem c_drift_loop {P T p : Nat} {a1 : Int32} (hp : p < P) : ∀ (n : Nat) (s : Int32) (f : Nat → Int32) (M : pm_M), cw M 1 f P T → wv f P T → (aL f T).length = n → ∃ M', pm_G mWt_drift 38 [some (pm_r 0 0), some (pm_i a1), some (pm_i (nI p)), some (pm_i s), some (pm_i (nI n)), none, none] [] M (pm_D (some (pm_i (10000 + dr T n s f p))) M') ∧ cs_eq M M'
  | 0, s, f, M, h, hv, hl => by
    refine ⟨M, bWt_drift_38 (fun _ => bWt_drift_108 (pm_vin (by have := hv.1; omega) (by omega)) ?_) (fun q => absurd (show nI 0 ≤ 0 by decide) q), cs_rfl⟩
    refine ⟨?_, rfl⟩
    rw [pm_cl4 (by have := hv.1; omega), h.2.2.2.1 p hp]
    rfl
  | n + 1, s, f, M, h, hv, hl => by
    have h4 := hv.2.1
    have hP := hv.1
    have hn : n + 1 ≤ 4 := by rw [← hl]; exact Nat.le_trans aL_len h4
    obtain ⟨⟨t1, t2⟩, j1, j2⟩ := dr_in (s := s) hv hl
    obtain ⟨p1, p2⟩ := cw_pull h hP h4 t1 j1
    obtain ⟨M', k1, k2⟩ := c_drift_loop (a1 := a1) hp n (sd (sd s)) _ _ p1 (wv_draw hv t1 j1 t2 j2) (dr_len hv hl t1 j1 t2)
    have sm := (cw_small h hv).1
    refine ⟨M', ?_, cs_trans ?_ k2⟩
    · have i1 := sb_rem (s := sd s) (show 0 < n + 1 by omega) hn
      have i2 := sb_rem (s := sd (sd s)) (show 0 < n + 1 by omega) hn
      have m1 : sbN (sd s) % (n + 1) < 4 := Nat.lt_of_lt_of_le (Nat.mod_lt _ (by omega)) hn
      have m2 : sbN (sd (sd s)) % (n + 1) < 4 := Nat.lt_of_lt_of_le (Nat.mod_lt _ (by omega)) hn
      have z : ¬ nI (n + 1) = 0 := nI_ne0 (by omega) (by omega)
      refine bWt_drift_38 (fun q => absurd q (nI_nle (by omega) (by omega))) (fun _ => bWt_drift_43 eWt_turnSeed (bWt_drift_47 (eWh_ticketsIn sm) (bWt_drift_55 eWt_seedBits (bWt_drift_59 z ?_ (bWt_drift_65 eWt_turnSeed (bWt_drift_71 (eWh_prizesIn sm) (bWt_drift_79 eWt_seedBits (bWt_drift_83 z ?_ (bWt_drift_89 (eWh_pull p2) (bWt_drift_102 ?_))))))))))
      · rw [cw_tin h h4, show fWt_turnSeed s M = sd s from rfl, sb_c, i1]
        have e := order_at (p := fun t => decide (f (8 + 5 * t) = -4)) (M := M) h4 m1
        have e9 := eWt_bitByOrder (M := M) e.2
        rw [e.1] at e9
        exact e9
      · rw [cw_pinA h h4, show fWt_turnSeed (fWt_turnSeed s M) M = sd (sd s) from rfl, sb_c, i2]
        have e := order_at (p := fun t => decide (f (28 + t) = -4)) (M := M) h4 m2
        have e9 := eWt_bitByOrder (M := M) e.2
        rw [e.1] at e9
        exact e9
      · rw [pk_m1]
        exact pm_G_le (ls' := [some (pm_r 0 0), some (pm_i a1), some (pm_i (nI p)), some (pm_i (sd (sd s))), some (pm_i (nI n)), none, none]) ⟨Or.inr rfl, Or.inr rfl, Or.inr rfl, Or.inr rfl, Or.inr rfl, Or.inl rfl, Or.inl rfl, trivial⟩ k1
    · refine ⟨fun a b q => ?_, rfl⟩
      by_cases hb : b = 1
      · subst hb
        refine tch_pull a 1 ?_
        intro q9
        simp at q9
        unfold cs_x at q
        simp at q
        omega
      · exact pull_nk hb
theorem c_drift {M : pm_M} {f : Nat → Int32} {P T p : Nat} {s : Int32} (h : cw M 0 f P T) (hv : wv f P T) (hp : p < P) : ∃ M', pm_Ev mWt_drift [pm_r 0 0, pm_i s, pm_i (nI p)] M (some (pm_i (10000 + dr T (aL f T).length s f p))) M' ∧ cs_eq M M' := by
  have h4 := hv.2.1
  have hP := hv.1
  have hc := cw_copy (k := 1) (k1 := 0) (by decide) h hP h4
  have h0 : cw (gWh_copy 1 0 M) 0 f P T := cw_same h (fun a _ _ => copy_ne (by omega))
  obtain ⟨M', k1, k2⟩ := c_drift_loop (a1 := s) hp (aL f T).length s f (gWh_copy 1 0 M) hc hv rfl
  refine ⟨M', ?_, cs_trans cs_copy k2⟩
  refine pm_Sem_of (ls := [some (pm_r 0 0), some (pm_i s), some (pm_i (nI p)), none, none, none, none]) ok_mWt_drift (by decide +kernel) rfl (by decide) (Nat.le_of_ble_eq_true rfl) rfl ?_
  refine bWt_drift_0 eWh_hasPerson (bWt_drift_8 (fun q => ?_) (fun _ => bWt_drift_13 eWh_copy (bWt_drift_24 (eWh_ticketsIn (cw_small h0 hv).1) (bWt_drift_33 eIn_bitCount (bWt_drift_36 ?_)))))
  · rw [hasP_good h.1 hP hp] at q
    exact absurd q (by decide)
  · rw [cw_tin h0 h4, aTb, bc_bits h4]
    exact k1
/-! the reference's drift -/
def atP (b : Int32) (g : Nat → Int32) (t : Nat) : Bool := if b = 0 then decide (g (28 + t) = -4) else decide (g (8 + 5 * t) = -4)
theorem ev_atOf {M : pm_M} {T i : Nat} {b : Int32} (hT : T ≤ 4) (h4 : M.1 29 0 4 = nI T) (hi : i < (md_lst (atP b (M.1 31 0)) T).length) : pm_Ev mMo_atOf [pm_r 29 0, pm_i b, pm_i (nI i)] M (some (pm_i (nI ((md_lst (atP b (M.1 31 0)) T).getD i 0)))) M := by
  have hiT : i < T := Nat.lt_of_lt_of_le hi (md_lst_len _ _)
  refine pm_Sem_of (ls := [some (pm_r 29 0), some (pm_i b), some (pm_i (nI i)), none, none, none]) ok_mMo_atOf (by decide +kernel) rfl (by decide) (Nat.le_of_ble_eq_true rfl) rfl ?_
  have key : ∀ m t, T = t + m → (md_lst (atP b (M.1 31 0)) t).length ≤ i → pm_G mMo_atOf 5 [some (pm_r 29 0), some (pm_i b), some (pm_i (nI i)), some (pm_i (nI (md_lst (atP b (M.1 31 0)) t).length)), some (pm_i (nI t)), none] [] M (pm_D (some (pm_i (nI ((md_lst (atP b (M.1 31 0)) T).getD i 0)))) M) := by
    intro m
    induction m with
    | zero =>
      intro t ht hl
      have : T = t := by omega
      subst this
      omega
    | succ m ih =>
      intro t ht hl
      have ht4 : t < 4 := by omega
      have hlt := md_lst_len (atP b (M.1 31 0)) t
      -- behind the test
      have tail : ∀ x : Int32, x = (if atP b (M.1 31 0) t = true then 1 else 0) → pm_G mMo_atOf 47 [some (pm_r 29 0), some (pm_i b), some (pm_i (nI i)), some (pm_i (nI (md_lst (atP b (M.1 31 0)) t).length)), some (pm_i (nI t)), none] [pm_i x] M (pm_D (some (pm_i (nI ((md_lst (atP b (M.1 31 0)) T).getD i 0)))) M) := by
        intro x hx
        have go : ∀ y : Int32, fMo_flag y M = x → ¬ (atP b (M.1 31 0) t = true ∧ (md_lst (atP b (M.1 31 0)) t).length = i) → pm_G mMo_atOf 62 [some (pm_r 29 0), some (pm_i b), some (pm_i (nI i)), some (pm_i (nI (md_lst (atP b (M.1 31 0)) t).length)), some (pm_i (nI t)), some (pm_i y)] [] M (pm_D (some (pm_i (nI ((md_lst (atP b (M.1 31 0)) T).getD i 0)))) M) := by
          intro y hy hno
          refine bMo_atOf_62 eMo_flag (bMo_atOf_68 ?_)
          rw [hy, hx, nI_1]
          have e : nI (md_lst (atP b (M.1 31 0)) t).length + (if atP b (M.1 31 0) t = true then 1 else 0) = nI (md_lst (atP b (M.1 31 0)) (t + 1)).length := by
            rw [md_lst_succ]
            by_cases q : atP b (M.1 31 0) t = true
            · rw [if_pos q, if_pos q, nI_1, List.length_append]
              rfl
            · rw [if_neg q, if_neg q]
              exact nI_add _ 0
          rw [e]
          refine pm_G_le (ls' := [some (pm_r 29 0), some (pm_i b), some (pm_i (nI i)), some (pm_i (nI (md_lst (atP b (M.1 31 0)) (t + 1)).length)), some (pm_i (nI (t + 1))), none]) ⟨Or.inr rfl, Or.inr rfl, Or.inr rfl, Or.inr rfl, Or.inr rfl, Or.inl rfl, trivial⟩ (ih (t + 1) (by omega) ?_)
          rw [md_lst_succ]
          by_cases q : atP b (M.1 31 0) t = true
          · rw [if_pos q, List.length_append, List.length_singleton]
            have : ¬ (md_lst (atP b (M.1 31 0)) t).length = i := fun q2 => hno ⟨q, q2⟩
            omega
          · rw [if_neg q]
            exact hl
        refine bMo_atOf_47 (fun q => go x ?_ ?_) (fun q => bMo_atOf_54 (fun q2 => bMo_atOf_59 ?_) (fun q2 => go x ?_ ?_))
        · unfold fMo_flag
          rw [if_pos q, q]
        · intro q9
          rw [hx, if_pos q9.1] at q
          exact absurd q (by decide)
        · have hp : atP b (M.1 31 0) t = true := Classical.byContradiction (fun q9 => q (by rw [hx, if_neg q9]))
          have e : (md_lst (atP b (M.1 31 0)) t).length = i := (pm_eq4 (by omega) (by omega)).mp q2
          refine ⟨?_, rfl⟩
          have hs : md_lst (atP b (M.1 31 0)) (t + 1) = md_lst (atP b (M.1 31 0)) t ++ [t] := by rw [md_lst_succ, if_pos hp]
          rw [md_lst_pre (show t + 1 ≤ T by omega) (by rw [hs, List.length_append, List.length_singleton]; omega), hs, List.getD_eq_getElem?_getD, List.getElem?_append_right (by omega), e, Nat.sub_self]
          rfl
        · unfold fMo_flag
          rw [if_neg q, hx, if_pos (Classical.byContradiction (fun q9 => q (by rw [hx, if_neg q9])))]
        · intro q9
          exact q2 (by rw [q9.2])
      refine bMo_atOf_5 (fun q => ?_) (fun _ => bMo_atOf_14 (fun q => bMo_atOf_27 (md_v ht4).2.2.1 (fun q2 => bMo_atOf_42 (tail 1 ?_)) (fun q2 => bMo_atOf_46 (tail 0 ?_))) (fun q => bMo_atOf_18 (eMo_isInWheel (md_v ht4).1.2.2.2.2) (bMo_atOf_24 (tail _ ?_))))
      · rw [h4] at q
        have := (pm_le4 (by omega) (by omega)).mp q
        omega
      · rw [md_iB ht4] at q2
        unfold atP
        rw [if_pos q, q2]
        rfl
      · rw [md_iB ht4] at q2
        unfold atP
        rw [if_pos q, decide_eq_false q2]
        rfl
      · unfold atP fMo_isInWheel fMo_of
        rw [if_neg q, md_i4 ht4]
        by_cases q9 : M.1 31 0 (8 + 5 * t) = -4
        · rw [if_pos q9, decide_eq_true q9]
          rfl
        · rw [if_neg q9, decide_eq_false q9]
          rfl
  exact bMo_atOf_0 (key T 0 (by omega) (Nat.zero_le _))
theorem m_drift_loop {P T p : Nat} {a1 : Int32} (hp : p < P) : ∀ (n : Nat) (s : Int32) (f : Nat → Int32) (M : pm_M), ag (M.1 31 0) f → M.1 29 0 4 = nI T → wv f P T → (aL f T).length = n → ∃ M', pm_G mMo_drift 26 [some (pm_r 29 0), some (pm_i a1), some (pm_i (nI p)), some (pm_i s), some (pm_i (nI n)), none, none] [] M (pm_D (some (pm_i (10000 + dr T n s f p))) M') ∧ ms_eq M M'
  | 0, s, f, M, h, h9, hv, hl => by
    refine ⟨M, bMo_drift_26 (fun _ => bMo_drift_105 (pm_vin (by have := hv.1; omega) (by omega)) ?_) (fun q => absurd (show nI 0 ≤ 0 by decide) q), ms_rfl⟩
    refine ⟨?_, rfl⟩
    rw [pm_cl4 (by have := hv.1; omega), h p (by have := hv.1; omega)]
    rfl
  | n + 1, s, f, M, h, h9, hv, hl => by
    have h4 := hv.2.1
    have hn : n + 1 ≤ 4 := by rw [← hl]; exact Nat.le_trans aL_len h4
    obtain ⟨⟨t1, t2⟩, j1, j2⟩ := dr_in (s := s) hv hl
    obtain ⟨M', k1, k2⟩ := m_drift_loop (a1 := a1) hp n (sd (sd s)) (md_draw T (drT f T (n + 1) s) (drJ f T (n + 1) s) f) (pm_set M 31 0 (md_draw T (drT f T (n + 1) s) (drJ f T (n + 1) s) (M.1 31 0))) (by rw [pm_set_at]; exact draw_ag h h4 t1 j1) h9 (wv_draw hv t1 j1 t2 j2) (dr_len hv hl t1 j1 t2)
    refine ⟨M', ?_, ms_trans (ms_set (by decide) (by decide)) k2⟩
    have i1 := sb_rem (s := sd s) (show 0 < n + 1 by omega) hn
    have i2 := sb_rem (s := sd (sd s)) (show 0 < n + 1 by omega) hn
    have z : ¬ nI (n + 1) = 0 := nI_ne0 (by omega) (by omega)
    have e1 : md_lst (atP 1 (M.1 31 0)) T = aL f T := md_lst_congr (fun t ht => by
      unfold atP
      rw [if_neg (by decide), h _ (by omega)])
    have e0 : md_lst (atP 0 (M.1 31 0)) T = aP f T := md_lst_congr (fun t ht => by
      unfold atP
      rw [if_pos rfl, h _ (by omega)])
    have m1 : sbN (sd s) % (n + 1) < (aL f T).length := by rw [hl]; exact Nat.mod_lt _ (by omega)
    have m2 : sbN (sd (sd s)) % (n + 1) < (aP f T).length := by rw [← hv.2.2.2.2.2.2.1, hl]; exact Nat.mod_lt _ (by omega)
    have a1' := ev_atOf (M := M) (T := T) (i := sbN (sd s) % (n + 1)) (b := 1) h4 h9 (by rw [e1]; exact m1)
    have a0' := ev_atOf (M := M) (T := T) (i := sbN (sd (sd s)) % (n + 1)) (b := 0) h4 h9 (by rw [e0]; exact m2)
    rw [e1] at a1'
    rw [e0] at a0'
    have hd := eMo_draws (a1 := nI T) (a2 := nI (drT f T (n + 1) s)) (a3 := nI (drJ f T (n + 1) s)) (M := M) ⟨T, _, _, h4, t1, by omega, rfl, rfl, rfl, tv_ag h h4 (wv_tv hv)⟩
    unfold gMo_draws at hd
    rw [pm_cl4 (by omega), pm_cl4 (by omega), pm_cl4 (by omega)] at hd
    rw [← i1, ← sb_m] at a1'
    rw [← i2, ← sb_m] at a0'
    rw [← h9] at hd
    refine bMo_drift_26 (fun q => absurd q (nI_nle (by omega) (by omega))) (fun _ => bMo_drift_31 z a1' (bMo_drift_57 z a0' (bMo_drift_85 hd (bMo_drift_99 ?_))))
    rw [pk_m1]
    exact pm_G_le (ls' := [some (pm_r 29 0), some (pm_i a1), some (pm_i (nI p)), some (pm_i (sd (sd s))), some (pm_i (nI n)), none, none]) ⟨Or.inr rfl, Or.inr rfl, Or.inr rfl, Or.inr rfl, Or.inr rfl, Or.inl rfl, Or.inl rfl, trivial⟩ k1
theorem m_drift {M : pm_M} {f : Nat → Int32} {P T p : Nat} {s : Int32} (hv : wv f P T) (hw : mw M f P T) (hp : p < P) : ∃ M', pm_Ev mMo_drift [pm_r 29 0, pm_i s, pm_i (nI p)] M (some (pm_i (10000 + dr T (aL f T).length s f p))) M' ∧ ms_eq M M' := by
  have h4 := hv.2.1
  have hP := hv.1
  have hl := mw_ms hw (ms_left (M := M))
  have hs := mw_ms hl (ms_starts (M := gMo_findLeft M))
  have a0 : ag ((gMo_starts (gMo_findLeft M)).1 31 0) f := fun y hy => by
    unfold gMo_starts
    rw [pm_set_at, if_pos hy, hl.1]
  obtain ⟨M', k1, k2⟩ := m_drift_loop (a1 := s) hp (aL f T).length s f (gMo_starts (gMo_findLeft M)) a0 hs.2.2 hv rfl
  refine ⟨M', ?_, ms_trans ms_left (ms_trans ms_starts k2)⟩
  refine pm_Sem_of (ls := [some (pm_r 29 0), some (pm_i s), some (pm_i (nI p)), none, none, none, none]) ok_mMo_drift (by decide +kernel) rfl (by decide) (Nat.le_of_ble_eq_true rfl) rfl ?_
  refine bMo_drift_0 eMo_isPerson (bMo_drift_5 (fun q => ?_) (fun _ => bMo_drift_10 (eMo_findLeft (mw_small hw hv).1) (bMo_drift_16 eMo_starts (bMo_drift_20 ?_))))
  · rw [moP_good hw.2.1 hP hp] at q
    exact absurd q (by decide)
  · rw [show (gMo_starts (gMo_findLeft M)).1 29 0 22 = nI (aL f T).length from left_at hw h4]
    exact k1
theorem ok_drift (a1 a2 : Int32) : OkI mWt_drift mMo_drift [pm_i a1, pm_i a2] := okI_ro (fun M P T f h hv hw _ => by
  by_cases hb : ∃ t, t < P ∧ a2 = nI t
  · obtain ⟨t, ht, rfl⟩ := hb
    obtain ⟨M', k1, k2⟩ := c_drift (s := a1) h hv ht
    exact ⟨_, M', k1, k2, fun _ hw' => m_drift hv hw' ht⟩
  · refine okI_rr (M2 := M) (x := -1) ?_ ?_ ms_rfl
    · refine pm_Sem_of (ls := [some (pm_r 0 0), some (pm_i a1), some (pm_i a2), none, none, none, none]) ok_mWt_drift (by decide +kernel) rfl (by decide) (Nat.le_of_ble_eq_true rfl) rfl ?_
      exact bWt_drift_0 eWh_hasPerson (bWt_drift_8 (fun _ => bWt_drift_11 ⟨rfl, rfl⟩) (fun q => absurd (hasP_bad h.1 hv.1 hb) q))
    · refine pm_Sem_of (ls := [some (pm_r 29 0), some (pm_i a1), some (pm_i a2), none, none, none, none]) ok_mMo_drift (by decide +kernel) rfl (by decide) (Nat.le_of_ble_eq_true rfl) rfl ?_
      exact bMo_drift_0 eMo_isPerson (bMo_drift_5 (fun _ => bMo_drift_8 ⟨rfl, rfl⟩) (fun q => absurd (moP_bad hw.2.1 hv.1 hb) q)))
