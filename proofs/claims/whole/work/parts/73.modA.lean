/-! the reference: ask -/
def dN (f : Nat → Int32) (T x t : Nat) : Nat := (md_go T (wt f T x) (wz f T x) f (aL f T).length (8 + 5 * t)).toNatClampNeg
theorem dN_at {f : Nat → Int32} {P T x i : Nat} (hv : wv f P T) (hx : x < aW f T) (hi : i < (aL f T).length) : dN f T x ((aL f T).getD i 0) = gP f T i x := by
  unfold dN
  rw [(way_drew hv (fun _ _ => rfl) hx).1 i hi, pm_cl4]
  have := gP_lt hv hi hx
  have := hv.2.1
  omega
theorem dN_ok {f G : Nat → Int32} {P T x t : Nat} (hv : wv f P T) (hx : x < aW f T) (s2 : ∀ i, i < (aL f T).length → G (8 + 5 * (aL f T).getD i 0) = nI (gP f T i x)) (s3 : ∀ t, t < T → ¬ f (8 + 5 * t) = -4 → G (8 + 5 * t) = f (8 + 5 * t)) (ht : t < T) : G (8 + 5 * t) = nI (dN f T x t) ∧ dN f T x t < 4 := by
  have hT := hv.2.1
  by_cases hd : f (8 + 5 * t) = -4
  · obtain ⟨i, hi, ei⟩ := aL_at ht hd
    have h1 := s2 i hi
    have h2 := dN_at hv hx hi
    have h3 := gP_lt hv hi hx
    rw [ei] at h1 h2
    rw [h1, h2]
    exact ⟨rfl, by omega⟩
  · rcases hv.2.2.2.2.1 t ht with h | ⟨j, hj, h⟩
    · exact absurd h hd
    · rw [s3 t ht hd]
      unfold dN
      rw [(way_drew hv (fun _ _ => rfl) hx).2 t ht hd, h, pm_cl4 (by omega)]
      exact ⟨rfl, by omega⟩
theorem m_orders2 {M : pm_M} {f : Nat → Int32} {P T : Nat} (hv : wv f P T) (hw : mw M f P T) : ∃ M', pm_Ev mMo_findOrders [pm_r 29 0] M none M' ∧ ms_eq M M' ∧ mf M' f P T ∧ M'.1 39 0 = M.1 39 0 := by
  obtain ⟨h30, h3, h4⟩ := hw
  subst h30
  obtain ⟨M', k1, k2, k3, k4, k5, k6, k7, k8, k9⟩ := m_findOrders (n := (aL (M.1 30 0) T).length) hv.2.1 h4 rfl
  refine ⟨M', k1, ⟨fun t k a b => k7 t k a ?_ ?_ ?_, fun j a => k8 j ?_ ?_⟩, ⟨?_, ?_, k2, k3, k4, k5, ?_, k7 30 0 (by decide) (by decide) (by decide) (by decide)⟩, k7 39 0 (by decide) (by decide) (by decide) (by decide)⟩
  · rintro rfl
    exact absurd b (by decide)
  · rintro rfl
    exact absurd b (by decide)
  · rintro rfl
    exact absurd b (by decide)
  · rintro rfl
    exact absurd a (by decide)
  · rintro rfl
    exact absurd a (by decide)
  · rw [k8 3 (by decide) (by decide)]
    exact h3
  · rw [k8 4 (by decide) (by decide)]
    exact h4
  · intro i hi
    exact k6 i (by rw [← hv.2.2.2.2.2.2.1]; exact hi)
/-- ways that fit by which ticket c / 4 draws prize c % 4 -/
def wn (f : Nat → Int32) (T c x : Nat) : Nat := pm_cnt1 (fun y => wFit f T y && decide (c / 4 < T ∧ dN f T y (c / 4) = c % 4)) x
theorem wn_le (f : Nat → Int32) (T c x : Nat) : wn f T c x ≤ x := pm_cnt1_le _ _
theorem wn_pr {f : Nat → Int32} {P T t k : Nat} (hv : wv f P T) (ht : t < T) (hd : f (8 + 5 * t) = -4) (hk : k < 4) : wn f T (4 * t + k) (aW f T) = aPr f T (4 * t + k) := by
  obtain ⟨i, hi, ei⟩ := aL_at ht hd
  have h := pr_cnt hv hi hk
  rw [ei] at h
  rw [h]
  unfold wn
  refine pm_cnt1_congr (fun y hy => ?_)
  have e1 : (4 * t + k) / 4 = t := by omega
  have e2 : (4 * t + k) % 4 = k := by omega
  have h2 := dN_at hv hy hi
  rw [ei] at h2
  rw [e1, e2, h2]
  congr 1
  exact decide_eq_decide.mpr ⟨fun q => q.2, fun q => ⟨ht, q⟩⟩
theorem pr_hi {f : Nat → Int32} {P T t k : Nat} (hv : wv f P T) (ht : t < T) (hd : f (8 + 5 * t) = -4) (hk : k < 4) (hk2 : T ≤ k) : aPr f T (4 * t + k) = 0 := by
  obtain ⟨i, hi, ei⟩ := aL_at ht hd
  have h := pr_cnt hv hi hk
  rw [ei] at h
  rw [h]
  apply Nat.le_zero.mp
  apply Nat.le_of_not_lt
  intro q
  obtain ⟨w, w1, w2⟩ := cnt_pos.mp q
  rw [Bool.and_eq_true, decide_eq_true_eq] at w2
  have := gP_lt hv hi w1
  omega
theorem mx0_nn {g : Nat → Int32} : ∀ n, ¬ re_mx0 g n < 0
  | 0 => by rw [re_mx0]; decide
  | n + 1 => by
    have ih := mx0_nn (g := g) n
    rw [re_mx0]
    unfold fMa_max
    rw [Int32.lt_iff_toInt_lt] at ih
    by_cases h : re_mx0 g n < g n
    · rw [if_pos h, Int32.lt_iff_toInt_lt]
      rw [Int32.lt_iff_toInt_lt] at h
      omega
    · rw [if_neg h, Int32.lt_iff_toInt_lt]
      exact ih
theorem mx0_more {g : Nat → Int32} {a : Nat} : ∀ {n : Nat}, a ≤ n → (∀ k, a ≤ k → k < n → g k = 0) → re_mx0 g n = re_mx0 g a
  | 0, h, _ => by
    have : a = 0 := by omega
    rw [this]
  | n + 1, h, hz => by
    by_cases e : a = n + 1
    · rw [e]
    · rw [re_mx0, hz n (by omega) (by omega), mx0_more (n := n) (by omega) (fun k h1 h2 => hz k h1 (by omega))]
      unfold fMa_max
      rw [if_neg (mx0_nn a)]
theorem mx0_congr {g h : Nat → Int32} : ∀ {n : Nat}, (∀ i, i < n → g i = h i) → re_mx0 g n = re_mx0 h n
  | 0, _ => rfl
  | n + 1, hh => by rw [re_mx0, re_mx0, mx0_congr (n := n) (fun i hi => hh i (by omega)), hh n (by omega)]
theorem worst_eq {f : Nat → Int32} {P T t : Nat} (hv : wv f P T) (ht : t < T) (hd : f (8 + 5 * t) = -4) : re_mx0 (fun k => nI (wn f T (4 * t + k) (aW f T))) T = aWorst f T t := by
  have hT := hv.2.1
  unfold aWorst
  rw [mx0_more (g := fun k => nI (aPr f T (4 * t + k))) (a := T) hT (fun k h1 h2 => by rw [pr_hi hv ht hd h2 h1]; rfl)]
  exact mx0_congr (fun k hk => by rw [wn_pr hv ht hd (by omega)])
theorem m_ask_bad {M : pm_M} {a : Int32} (hb : fWt_within a 0 1 M = 0) : pm_Ev mMo_ask [pm_r 29 0, pm_i a] M (some (pm_i (-1))) M := by
  refine pm_Sem_of (ls := [some (pm_r 29 0), some (pm_i a), none, none, none, none, none]) ok_mMo_ask (by decide +kernel) rfl (by decide) (Nat.le_of_ble_eq_true rfl) rfl ?_
  refine bMo_ask_0 eMo_isPart (bMo_ask_4 (fun _ => bMo_ask_7 ⟨rfl, rfl⟩) (fun h => ?_))
  rw [mo_isPart a M M] at h
  exact absurd hb h
theorem m_ask {M : pm_M} {f : Nat → Int32} {P T : Nat} {a : Int32} (hv : wv f P T) (hw : mw M f P T) (hb : ¬ fWt_within a 0 1 M = 0) : ∃ M', pm_Ev mMo_ask [pm_r 29 0, pm_i a] M (some (pm_i (if (aAsk f T T).1 = -4 then -4 else if a = 0 then (aAsk f T T).1 else (aAsk f T T).2))) M' ∧ ms_eq M M' := by
  have hT := hv.2.1
  obtain ⟨hW, hW1⟩ := aW_le hv
  generalize hres : (if (aAsk f T T).1 = -4 then -4 else if a = 0 then (aAsk f T T).1 else (aAsk f T T).2) = res
  -- the last part: by tickets
  have last : ∀ M2, mw M2 f P T → (∀ c, c < 16 → M2.1 39 0 c = nI (wn f T c (aW f T))) → pm_G mMo_ask 114 [some (pm_r 29 0), some (pm_i a), some (pm_i (aAsk f T 0).2), some (pm_i (aAsk f T 0).1), some (pm_i (nI 0)), none, none] [] M2 (pm_D (some (pm_i res)) M2) := by
    intro M2 hw2 h39
    refine pm_upto (N := T) (P := fun t => pm_G mMo_ask 114 [some (pm_r 29 0), some (pm_i a), some (pm_i (aAsk f T t).2), some (pm_i (aAsk f T t).1), some (pm_i (nI t)), none, none] [] M2 (pm_D (some (pm_i res)) M2)) ?_ ?_ 0 (Nat.zero_le _)
    · refine bMo_ask_114 (fun _ => bMo_ask_232 (fun q => bMo_ask_238 (bMo_ask_252 ?_)) (fun q => bMo_ask_243 (fun q2 => bMo_ask_247 (bMo_ask_252 ?_)) (fun q2 => bMo_ask_251 (bMo_ask_252 ?_)))) (fun q => absurd (pm_yle hw2.2.2 (by omega)) q)
      · rw [← hres, if_pos q]
        exact ⟨rfl, rfl⟩
      · rw [← hres, if_neg q, if_pos q2]
        exact ⟨rfl, rfl⟩
      · rw [← hres, if_neg q, if_neg q2]
        exact ⟨rfl, rfl⟩
    · intro t ht kt
      have hd' := drawn_at hw2 hT ht
      refine bMo_ask_114 (fun q => absurd q (pm_nle hw2.2.2 ht (by omega))) (fun _ => bMo_ask_123 ?_)
      -- behind the inner loop
      suffices h180 : pm_G mMo_ask 180 [some (pm_r 29 0), some (pm_i a), some (pm_i (aAsk f T t).2), some (pm_i (aAsk f T t).1), some (pm_i (nI t)), some (pm_i (re_mx0 (fun k => nI (wn f T (4 * t + k) (aW f T))) T)), some (pm_i (nI T))] [] M2 (pm_D (some (pm_i res)) M2) by
        refine pm_upto (N := T) (P := fun k => pm_G mMo_ask 129 [some (pm_r 29 0), some (pm_i a), some (pm_i (aAsk f T t).2), some (pm_i (aAsk f T t).1), some (pm_i (nI t)), some (pm_i (re_mx0 (fun k => nI (wn f T (4 * t + k) (aW f T))) k)), some (pm_i (nI k))] [] M2 (pm_D (some (pm_i res)) M2)) ?_ ?_ 0 (Nat.zero_le _)
        · exact bMo_ask_129 (fun _ => h180) (fun q => absurd (pm_yle hw2.2.2 (by omega)) q)
        · intro k hk kk
          have hix := re_ix (show t < 4 by omega) (show k < 4 by omega)
          have h9 := h39 (4 * t + k) (by omega)
          rw [re_mx0, ← nI_1] at kk
          unfold fMa_max at kk
          refine bMo_ask_129 (fun q => absurd q (pm_nle hw2.2.2 hk (by omega))) (fun _ => bMo_ask_138 hix.2 (fun q => bMo_ask_170 (bMo_ask_172 ?_)) (fun q => bMo_ask_155 hix.2 (bMo_ask_172 ?_)))
          · rw [hix.1, h9] at q
            rw [if_neg] at kk
            · exact kk
            · intro q2
              have q2 : re_mx0 (fun k => nI (wn f T (4 * t + k) (aW f T))) k < nI (wn f T (4 * t + k) (aW f T)) := q2
              rw [Int32.lt_iff_toInt_lt] at q2
              rw [Int32.le_iff_toInt_le] at q
              omega
          · rw [hix.1, h9] at q ⊢
            rw [if_pos] at kk
            · exact kk
            · show re_mx0 (fun k => nI (wn f T (4 * t + k) (aW f T))) k < nI (wn f T (4 * t + k) (aW f T))
              exact lt_of_nle q
      generalize hmx : re_mx0 (fun k => nI (wn f T (4 * t + k) (aW f T))) T = mx
      have go0 : ∀ (x6 : Int32), aAsk f T (t + 1) = aAsk f T t → pm_G mMo_ask 200 [some (pm_r 29 0), some (pm_i a), some (pm_i (aAsk f T t).2), some (pm_i (aAsk f T t).1), some (pm_i (nI t)), some (pm_i mx), some (pm_i x6)] [pm_i 0] M2 (pm_D (some (pm_i res)) M2) := by
        intro x6 e
        rw [e, ← nI_1] at kt
        refine bMo_ask_200 (fun _ => bMo_ask_212 (bMo_ask_213 (fun _ => bMo_ask_224 (bMo_ask_225 ?_)) (fun q => absurd rfl q))) (fun q => absurd rfl q)
        exact pm_G_le (ls' := [some (pm_r 29 0), some (pm_i a), some (pm_i (aAsk f T t).2), some (pm_i (aAsk f T t).1), some (pm_i (nI t + 1)), none, none]) ⟨Or.inr rfl, Or.inr rfl, Or.inr rfl, Or.inr rfl, Or.inr rfl, Or.inl rfl, Or.inl rfl, trivial⟩ kt
      refine bMo_ask_180 (eMo_isDrawn hd'.2) ?_
      rw [hd'.1]
      by_cases hd : f (8 + 5 * t) = -4
      · rw [if_pos hd]
        have hwo := worst_eq hv ht hd
        rw [hmx] at hwo
        refine bMo_ask_186 (fun _ => bMo_ask_189 (fun q => bMo_ask_199 (go0 _ ?_)) (fun q => bMo_ask_195 ?_)) (fun q => absurd rfl q)
        · rw [aAsk, if_neg]
          rintro ⟨_, q2⟩
          rw [hwo] at q
          rw [Int32.lt_iff_toInt_lt] at q2
          rw [Int32.le_iff_toInt_le] at q
          omega
        · have e : aAsk f T (t + 1) = (nI t, aWorst f T t) := by
            rw [aAsk, if_pos]
            rw [hwo] at q
            exact ⟨hd, lt_of_nle q⟩
          rw [e, ← nI_1] at kt
          refine bMo_ask_200 (fun q => absurd q (by decide)) (fun _ => bMo_ask_207 (bMo_ask_213 (fun q => absurd q (by decide)) (fun _ => bMo_ask_219 (bMo_ask_225 ?_))))
          rw [hwo]
          exact pm_G_le (ls' := [some (pm_r 29 0), some (pm_i a), some (pm_i (aWorst f T t)), some (pm_i (nI t)), some (pm_i (nI t + 1)), none, none]) ⟨Or.inr rfl, Or.inr rfl, Or.inr rfl, Or.inr rfl, Or.inr rfl, Or.inl rfl, Or.inl rfl, trivial⟩ kt
      · rw [if_neg hd]
        refine bMo_ask_186 (fun q => absurd q (by decide)) (fun _ => bMo_ask_199 (go0 _ ?_))
        rw [aAsk, if_neg (fun q => hd q.1)]
  -- the ways
  have ways : ∀ M1, ms_eq M M1 → mf M1 f P T → (∀ c, c < 16 → M1.1 39 0 c = nI (wn f T c 0)) → ∃ M', pm_G mMo_ask 45 [some (pm_r 29 0), some (pm_i a), some (pm_i (nI (pm_cnt1 (wFit f T) 0))), some (pm_i (-4)), some (pm_i (nI 0)), none, none] [] M1 (pm_D (some (pm_i res)) M') ∧ ms_eq M M' := by
    refine pm_upto (N := aW f T) (P := fun x => ∀ M1, ms_eq M M1 → mf M1 f P T → (∀ c, c < 16 → M1.1 39 0 c = nI (wn f T c x)) → ∃ M', pm_G mMo_ask 45 [some (pm_r 29 0), some (pm_i a), some (pm_i (nI (pm_cnt1 (wFit f T) x))), some (pm_i (-4)), some (pm_i (nI x)), none, none] [] M1 (pm_D (some (pm_i res)) M') ∧ ms_eq M M') ?_ ?_ 0 (Nat.zero_le _)
    · intro M1 hms hm h39
      refine ⟨M1, ?_, hms⟩
      have := last M1 (mw_ms hw hms) h39
      rw [← fit_cnt hv]
      exact bMo_ask_45 eMo_waysMany (bMo_ask_51 (fun _ => bMo_ask_111 this) (fun q => absurd (pm_yle (mf_ways hm) (by omega)) q))
    · intro x hx ih M1 hms hm h39
      obtain ⟨G, s1, s2, s3⟩ := m_isFit hv hm hx
      have hms3 : ms_eq M (pm_set M1 31 0 G) := ms_trans hms (ms_set (by decide) (by decide))
      have hm3 : mf (pm_set M1 31 0 G) f P T := mf_set hm (by decide)
      have h393 : ∀ c, c < 16 → (pm_set M1 31 0 G).1 39 0 c = nI (wn f T c x) := fun c hc => by rw [pm_set_ne _ _ (by decide)]; exact h39 c hc
      have h31 : ∀ t, t < T → fMo_of (nI t) 4 (pm_set M1 31 0 G) = nI (dN f T x t) := fun t ht => by rw [fMo_of4 (show t < 4 by omega)]; exact (dN_ok hv hx s2 s3 ht).1
      by_cases hf : wFit f T x = true
      · -- counts go up
        have inner : ∀ M3, ms_eq M M3 → mf M3 f P T → (M3.1 31 0 = G) → (∀ c, c < 16 → M3.1 39 0 c = nI (wn f T c x + if c / 4 < 0 ∧ dN f T x (c / 4) = c % 4 then 1 else 0)) → ∃ M', pm_G mMo_ask 69 [some (pm_r 29 0), some (pm_i a), some (pm_i (nI (pm_cnt1 (wFit f T) (x + 1)))), some (pm_i (-4)), some (pm_i (nI x)), some (pm_i (nI 0)), none] [] M3 (pm_D (some (pm_i res)) M') ∧ ms_eq M M' := by
          refine pm_upto (N := T) (P := fun t => ∀ M3, ms_eq M M3 → mf M3 f P T → (M3.1 31 0 = G) → (∀ c, c < 16 → M3.1 39 0 c = nI (wn f T c x + if c / 4 < t ∧ dN f T x (c / 4) = c % 4 then 1 else 0)) → ∃ M', pm_G mMo_ask 69 [some (pm_r 29 0), some (pm_i a), some (pm_i (nI (pm_cnt1 (wFit f T) (x + 1)))), some (pm_i (-4)), some (pm_i (nI x)), some (pm_i (nI t)), none] [] M3 (pm_D (some (pm_i res)) M') ∧ ms_eq M M') ?_ ?_ 0 (Nat.zero_le _)
          · intro M3 q1 q2 q3 q4
            obtain ⟨M', g1, g2⟩ := ih M3 q1 q2 (fun c hc => by
              rw [q4 c hc]
              show _ = nI (pm_cnt1 _ (x + 1))
              rw [pm_cnt1, hf, Bool.true_and]
              congr 2
              by_cases e : c / 4 < T ∧ dN f T x (c / 4) = c % 4
              · rw [if_pos e, if_pos (decide_eq_true e)]
              · rw [if_neg e, if_neg (by rw [decide_eq_false e]; decide)])
            refine ⟨M', bMo_ask_69 (fun _ => ?_) (fun q => absurd (pm_yle q2.2.1 (by omega)) q), g2⟩
            refine pm_G_le (ls' := [some (pm_r 29 0), some (pm_i a), some (pm_i (nI (pm_cnt1 (wFit f T) (x + 1)))), some (pm_i (-4)), some (pm_i (nI x)), none, none]) ⟨Or.inr rfl, Or.inr rfl, Or.inr rfl, Or.inr rfl, Or.inr rfl, Or.inl rfl, Or.inl rfl, trivial⟩ (bMo_ask_105 ?_)
            rw [nI_1]
            exact g1
          · intro t ht iht M3 q1 q2 q3 q4
            have hd := (dN_ok hv hx s2 s3 ht).2
            have hix := re_ix (show t < 4 by omega) hd
            have hdt := (dN_ok hv hx s2 s3 ht).1
            obtain ⟨M', g1, g2⟩ := iht (pm_set M3 39 0 (upd (M3.1 39 0) (4 * t + dN f T x t) (M3.1 39 0 (4 * t + dN f T x t) + 1))) (ms_trans q1 (ms_set (by decide) (by decide))) (mf_set q2 (by decide)) (by rw [pm_set_ne _ _ (by decide)]; exact q3) (fun c hc => by
              rw [pm_set_at]
              unfold upd
              by_cases e : c = 4 * t + dN f T x t
              · subst e
                have e1 : (4 * t + dN f T x t) / 4 = t := by omega
                have e2 : (4 * t + dN f T x t) % 4 = dN f T x t := by omega
                rw [if_pos rfl, q4 _ hc, e1, e2, if_neg (by omega), if_pos ⟨by omega, rfl⟩, Nat.add_zero, nI_1]
              · rw [if_neg e, q4 c hc]
                congr 2
                have : (c / 4 < t ∧ dN f T x (c / 4) = c % 4) ↔ (c / 4 < t + 1 ∧ dN f T x (c / 4) = c % 4) := by
                  constructor
                  · rintro ⟨h1, h2⟩
                    exact ⟨by omega, h2⟩
                  · rintro ⟨h1, h2⟩
                    refine ⟨?_, h2⟩
                    by_cases e3 : c / 4 = t
                    · rw [e3] at h2
                      omega
                    · omega
                by_cases e4 : c / 4 < t ∧ dN f T x (c / 4) = c % 4
                · rw [if_pos e4, if_pos (this.mp e4)]
                · rw [if_neg e4, if_neg (fun q => e4 (this.mpr q))])
            have hof : pm_Ev mMo_of [pm_r 29 0, pm_i (nI t), pm_i 4] M3 (some (pm_i (nI (dN f T x t)))) M3 := by
              have e1 : fMo_of (nI t) 4 M3 = nI (dN f T x t) := by
                unfold fMo_of
                rw [md_i4 (show t < 4 by omega), q3, hdt]
              rw [← e1]
              exact eMo_of (md_v (show t < 4 by omega)).1.2.2.2.2
            refine ⟨M', bMo_ask_69 (fun q => absurd q (pm_nle q2.2.1 ht (by omega))) (fun _ => bMo_ask_78 hof (bMo_ask_93 hix.2 hix.2 ?_)), g2⟩
            rw [hix.1, nI_1]
            exact g1
        obtain ⟨M', g1, g2⟩ := inner (pm_set M1 31 0 G) hms3 hm3 (pm_set_at ..) (fun c hc => by rw [h393 c hc, if_neg (by omega), Nat.add_zero])
        refine ⟨M', bMo_ask_45 eMo_waysMany (bMo_ask_51 (fun q => absurd q (pm_nle (mf_ways hm) hx (by omega))) (fun _ => bMo_ask_54 s1 ?_)), g2⟩
        rw [if_pos hf]
        refine bMo_ask_60 (fun q => absurd q (by decide)) (fun _ => bMo_ask_63 ?_)
        rw [pm_cnt1, if_pos hf] at g1
        rw [nI_1]
        exact g1
      · have hf2 : wFit f T x = false := by simpa using hf
        obtain ⟨M', g1, g2⟩ := ih (pm_set M1 31 0 G) hms3 hm3 (fun c hc => by
          rw [h393 c hc]
          show _ = nI (pm_cnt1 _ (x + 1))
          rw [pm_cnt1, hf2, Bool.false_and, if_neg (by decide), Nat.add_zero]
          rfl)
        rw [pm_cnt1, if_neg hf, Nat.add_zero, ← nI_1] at g1
        refine ⟨M', bMo_ask_45 eMo_waysMany (bMo_ask_51 (fun q => absurd q (pm_nle (mf_ways hm) hx (by omega))) (fun _ => bMo_ask_54 s1 ?_)), g2⟩
        rw [if_neg hf]
        exact bMo_ask_60 (fun _ => bMo_ask_105 g1) (fun q => absurd rfl q)
  -- the zeros
  have zeros : ∀ M1, ms_eq M M1 → (∀ c, c < 0 → M1.1 39 0 c = 0) → ∃ M', pm_G mMo_ask 17 [some (pm_r 29 0), some (pm_i a), some (pm_i 0), some (pm_i (-4)), some (pm_i (nI 0)), none, none] [] M1 (pm_D (some (pm_i res)) M') ∧ ms_eq M M' := by
    refine pm_upto (N := 16) (P := fun i => ∀ M1, ms_eq M M1 → (∀ c, c < i → M1.1 39 0 c = 0) → ∃ M', pm_G mMo_ask 17 [some (pm_r 29 0), some (pm_i a), some (pm_i 0), some (pm_i (-4)), some (pm_i (nI i)), none, none] [] M1 (pm_D (some (pm_i res)) M') ∧ ms_eq M M') ?_ ?_ 0 (Nat.zero_le _)
    · intro M1 hms hz
      obtain ⟨M2, k1, k2, k3, k4⟩ := m_orders2 hv (mw_ms hw hms)
      obtain ⟨M', g1, g2⟩ := ways M2 (ms_trans hms k2) k3 (fun c hc => by rw [k4, hz c hc]; rfl)
      refine ⟨M', bMo_ask_17 (fun _ => bMo_ask_38 k1 (bMo_ask_42 g1)) (fun q => absurd (show nI 16 ≤ nI 16 from (pm_le4 (by omega) (by omega)).mpr (by omega)) q), g2⟩
    · intro i hi ih M1 hms hz
      obtain ⟨M', g1, g2⟩ := ih (pm_set M1 39 0 (upd (M1.1 39 0) i 0)) (ms_trans hms (ms_set (by decide) (by decide))) (fun c hc => by
        rw [pm_set_at]
        unfold upd
        by_cases e : c = i
        · rw [if_pos e]
        · rw [if_neg e]
          exact hz c (by omega))
      refine ⟨M', bMo_ask_17 (fun q => ?_) (fun _ => bMo_ask_24 (pm_vin hi (by omega)) ?_), g2⟩
      · have := (pm_le4 (a := 16) (b := i) (by omega) (by omega)).mp q
        omega
      · rw [pm_cl4 (by omega), nI_1]
        exact g1
  obtain ⟨M', g1, g2⟩ := zeros M ms_rfl (fun c hc => absurd hc (Nat.not_lt_zero _))
  refine ⟨M', ?_, g2⟩
  refine pm_Sem_of (ls := [some (pm_r 29 0), some (pm_i a), none, none, none, none, none]) ok_mMo_ask (by decide +kernel) rfl (by decide) (Nat.le_of_ble_eq_true rfl) rfl ?_
  refine bMo_ask_0 eMo_isPart (bMo_ask_4 (fun q => ?_) (fun _ => bMo_ask_9 g1))
  rw [mo_isPart a M M] at q
  exact absurd q hb
