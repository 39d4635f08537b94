/-! what the rows hold behind a spread, in the row's own numbers -/
theorem aN {f : Nat → Int32} {P T : Nat} (hv : wv f P T) : (aL f T).length ≤ 4 ∧ md_fact (aL f T).length ≤ 24 ∧ 1 ≤ md_fact (aL f T).length := by
  have h1 := aL_len (f := f) (T := T)
  have h2 := hv.2.1
  have h3 := md_fact24 (n := (aL f T).length) (by omega)
  exact ⟨by omega, h3.1, h3.2⟩
def sp_f (M' : pm_M) (f : Nat → Int32) (T : Nat) : Prop := M'.1 12 0 0 = nI (aL f T).length ∧ M'.1 12 0 1 = nI (md_fact (aL f T).length) ∧ (∀ i, i < (aL f T).length → M'.1 13 0 i = nI ((aL f T).getD i 0)) ∧ ∀ i, i < (aL f T).length → M'.1 14 0 i = nI ((aP f T).getD i 0)
def sp_r (M' : pm_M) (f : Nat → Int32) (T p : Nat) : Prop := ∀ row, row < md_fact (aL f T).length → M'.1 17 0 (24 * p + row) = aA f T (nI p) row ∧ M'.1 18 0 (24 * p + row) = aB f T (nI p) row
theorem sp_lok {M' : pm_M} {f : Nat → Int32} {P T : Nat} (hv : wv f P T) (h : sp_f M' f T) : re_lok M' := by
  have hT := hv.2.1
  refine ⟨_, (aN hv).1, h.1, h.2.1, fun i hi => ⟨_, ?_, h.2.2.1 i hi⟩, fun i hi => ⟨_, ?_, h.2.2.2 i hi⟩⟩
  · have := (aL_lt hi).1
    omega
  · have := (aP_lt (show i < (aP f T).length by rw [← hv.2.2.2.2.2.2.1]; exact hi)).1
    omega
theorem sp_some {M' : pm_M} {f : Nat → Int32} {P T : Nat} (hv : wv f P T) (h : sp_f M' f T) : re_some M' ∧ re_N M' = md_fact (aL f T).length ∧ re_n M' = (aL f T).length := by
  have hn := aN hv
  refine ⟨⟨_, hn.2.1, h.2.1⟩, ?_, ?_⟩
  · unfold re_N
    rw [h.2.1, pm_cl4 (by omega)]
  · unfold re_n
    rw [h.1, pm_cl4 (by omega)]
theorem sp_rows {M' : pm_M} {f : Nat → Int32} {P T p : Nat} (hv : wv f P T) (h : sp_f M' f T) (hp : p < P) : sRe_rows (nI p) M' := ⟨⟨p, by have := hv.1; omega, rfl⟩, _, (aN hv).2.1, (aN hv).2.2, h.2.1⟩
theorem sp_one {M : pm_M} {f : Nat → Int32} {P T p : Nat} (h : cw M 0 f P T) (hv : wv f P T) (hp : p < P) : sRe_spread 0 (nI p) M ∧ sp_f (gRe_spread 0 (nI p) M) f T ∧ sp_r (gRe_spread 0 (nI p) M) f T p ∧ ∀ i j, i < (aL f T).length → j < (aL f T).length → (gRe_spread 0 (nI p) M).1 16 0 (4 * i + j) = aS f T (nI p) i j := by
  have h4 := hv.2.1
  have hP := hv.1
  have hl := hv.2.2.2.2.2.2.1
  have eL := cw_L h h4
  have eP := cw_P h h4
  refine ⟨⟨cw_weigh h hv _, p, by omega, rfl⟩, ⟨?_, ?_, fun i hi => ?_, fun i hi => ?_⟩, fun row hr => ⟨?_, ?_⟩, fun i j hi hj => ?_⟩
  · rw [spread_look (by decide), look_n, eL]
  · rw [spread_look (by decide), look_o, eL]
  · rw [spread_look (by decide), look_t (by rw [eL]; exact hi), eL]
  · rw [spread_look (by decide), look_p (by rw [eP, ← hl]; exact hi), eP]
  · rw [spread_A (by omega) (by rw [eL]; exact hr), cw_A h h4 hr]
  · rw [spread_B (by omega) (by rw [eL]; exact hr), cw_B h h4 hl hr]
  · rw [spread_lo (by decide), weigh_s (by rw [eL]; exact hi) (by rw [eL]; exact hj) (by rw [eL]; exact (aN hv).1), cw_S h h4 hi (by omega)]
theorem sp_all {M : pm_M} {f : Nat → Int32} {P T : Nat} (h : cw M 0 f P T) (hv : wv f P T) : sRe_spreadAll 0 M ∧ sp_f (gRe_spreadAll 0 M) f T ∧ (∀ p, p < P → sp_r (gRe_spreadAll 0 M) f T p) ∧ cs_eq M (gRe_spreadAll 0 M) := by
  have h4 := hv.2.1
  have hP := hv.1
  have hl := hv.2.2.2.2.2.2.1
  have eL := cw_L h h4
  have eP := cw_P h h4
  have eM : gRe_spreadAll 0 M = re_spa 0 M P := by
    unfold gRe_spreadAll
    rw [h.1, pm_cl4 (by omega)]
  rw [eM]
  refine ⟨⟨cw_weigh h hv _, P, hP, h.1⟩, ⟨?_, ?_, fun i hi => ?_, fun i hi => ?_⟩, fun p hp row hr => ?_, cs_spa P⟩
  · rw [(spa_n P).1, eL]
  · rw [(spa_n P).2, eL]
  · rw [spa_t (by rw [eL]; exact hi), eL]
  · rw [spa_z (by rw [eP, ← hl]; exact hi), eP]
  · have := spa_AB (k1 := 0) (M := M) (row := row) (by rw [eL]; exact (aN hv).2.1) (by rw [eL]; exact hr) hP hp
    rw [this.1, this.2, cw_A h h4 hr, cw_B h h4 hl hr]
    exact ⟨rfl, rfl⟩
theorem re_min_congr {g h : Nat → Int32} : ∀ {n : Nat}, (∀ i, i ≤ n → g i = h i) → re_min g n = re_min h n ∧ re_max g n = re_max h n
  | 0, hh => ⟨hh 0 (by omega), hh 0 (by omega)⟩
  | n + 1, hh => by
    rw [re_min, re_min, re_max, re_max, (re_min_congr (n := n) (fun i hi => hh i (by omega))).1, (re_min_congr (n := n) (fun i hi => hh i (by omega))).2, hh (n + 1) (by omega)]
    exact ⟨rfl, rfl⟩
theorem re_or_congr {c c' : Nat → Bool} {g g' : Nat → Nat} : ∀ {n : Nat}, (∀ i, i < n → c i = c' i ∧ g i = g' i) → re_or c g n = re_or c' g' n
  | 0, _ => rfl
  | n + 1, hh => by
    rw [re_or, re_or, re_or_congr (n := n) (fun i hi => hh i (by omega)), (hh n (by omega)).1, (hh n (by omega)).2]
theorem pm_cnt1_congr {c c' : Nat → Bool} : ∀ {n : Nat}, (∀ i, i < n → c i = c' i) → pm_cnt1 c n = pm_cnt1 c' n
  | 0, _ => rfl
  | n + 1, hh => by
    rw [pm_cnt1, pm_cnt1, pm_cnt1_congr (n := n) (fun i hi => hh i (by omega)), hh n (by omega)]
theorem pm_sumN_congr {g h : Nat → Nat} : ∀ {n : Nat}, (∀ i, i < n → g i = h i) → pm_sumN g n = pm_sumN h n
  | 0, _ => rfl
  | n + 1, hh => by
    rw [pm_sumN, pm_sumN, pm_sumN_congr (n := n) (fun i hi => hh i (by omega)), hh n (by omega)]
theorem pm_alln_congr {c c' : Nat → Bool} : ∀ {n : Nat}, (∀ i, i < n → c i = c' i) → pm_alln c n = pm_alln c' n
  | 0, _ => rfl
  | n + 1, hh => by
    rw [pm_alln, pm_alln, pm_alln_congr (n := n) (fun i hi => hh i (by omega)), hh n (by omega)]
/-- ways that do, by row and row -/
def aCnt (c : Nat → Nat → Bool) (N : Nat) : Nat := pm_sumN (fun o => pm_cnt1 (c o) N) N
def aPart (num den what : Int32) : Int64 := fWt_part num den what (fun _ _ _ => 0, 0)
theorem aPart_eq {num den what : Int32} {M : pm_M} : fWt_part num den what M = aPart num den what := rfl
theorem sPart {A B : Nat} {what : Int32} {M : pm_M} {num den : Int32} (ha : fMa_abs num = nI A) (hA : A < 2 ^ 31) (hb : den = nI B) (hB : B < 65536) : sWt_part num den what M := ⟨⟨A, B, hA, hB, ha, hb⟩, fun _ => trivial, fun h => ⟨fun _ => h, fun _ => h⟩⟩
theorem abs_nI {A : Nat} (hA : A < 2 ^ 31) : fMa_abs (nI A) = nI A := by
  unfold fMa_abs
  rw [if_pos]
  rw [Int32.le_iff_toInt_le, nI_toInt hA]
  have : (0 : Int32).toInt = 0 := by decide
  omega
theorem pm_cnt1_le (c : Nat → Bool) : ∀ n, pm_cnt1 c n ≤ n
  | 0 => Nat.le_refl _
  | n + 1 => by
    rw [pm_cnt1]
    have := pm_cnt1_le c n
    split <;> omega
theorem pm_sumN_le {g : Nat → Nat} {K : Nat} (h : ∀ i, g i ≤ K) : ∀ n, pm_sumN g n ≤ n * K
  | 0 => by simp [pm_sumN]
  | n + 1 => by
    rw [pm_sumN, Nat.succ_mul]
    have := pm_sumN_le h n
    have := h n
    omega
theorem aCnt_le (c : Nat → Nat → Bool) (N : Nat) : aCnt c N ≤ N * N := pm_sumN_le (fun o => pm_cnt1_le (c o) N) N
theorem sq_le {N : Nat} (h : N ≤ 24) : N * N ≤ 576 := Nat.le_trans (Nat.mul_le_mul h h) (by decide)
/-- luck -/
theorem c_luck {M : pm_M} {f : Nat → Int32} {P T p : Nat} {v w : Int32} (h : cw M 0 f P T) (hv : wv f P T) (hp : p < P) (he : ¬ fWt_isEnd v M = 0) (hw : ¬ fWt_isPart w M = 0) : ∃ M', pm_Ev mWt_luck [pm_r 0 0, pm_i (nI p), pm_i v, pm_i w] M (some (pm_l (aPart (nI (aCnt (fun o q => decide (v - f p ≤ aA f T (nI p) o + aB f T (nI p) q)) (md_fact (aL f T).length))) (nI (md_fact (aL f T).length * md_fact (aL f T).length)) w))) M' ∧ cs_eq M M' := by
  have h4 := hv.2.1
  have hP := hv.1
  obtain ⟨s1, s2, s3, s4⟩ := sp_one h hv hp
  obtain ⟨hN1, hN2, hN3⟩ := aN hv
  obtain ⟨t1, t2, t3⟩ := sp_some hv s2
  refine ⟨gRe_spread 0 (nI p) M, ?_, cs_spread⟩
  have hh : ¬ fWh_hasPerson 0 (nI p) M = 0 := by rw [hasP_good h.1 hP hp]; decide
  have hpu : (gRe_spread 0 (nI p) M).1 5 0 (nI p).toNatClampNeg = f p := by rw [pm_cl4 (by omega), spread_ne (by decide), h.2.2.2.1 p hp]
  have e1 : fRe_waysNoLess (nI p) (v - f p) (gRe_spread 0 (nI p) M) = nI (aCnt (fun o q => decide (v - f p ≤ aA f T (nI p) o + aB f T (nI p) q)) (md_fact (aL f T).length)) := by
    unfold fRe_waysNoLess aCnt
    rw [t2]
    congr 1
    refine pm_sumN_congr (fun o ho => pm_cnt1_congr (fun q hq => ?_))
    rw [fRe_gain_at (by omega) (by omega) (by omega), (s3 o ho).1, (s3 q hq).2]
  have e2 : fRe_allWays (gRe_spread 0 (nI p) M) = nI (md_fact (aL f T).length * md_fact (aL f T).length) := by
    unfold fRe_allWays
    rw [s2.2.1, pk_mul]
  have hle := aCnt_le (fun o q => decide (v - f p ≤ aA f T (nI p) o + aB f T (nI p) q)) (md_fact (aL f T).length)
  have hsq := sq_le hN2
  have hev := eWt_luck (a1 := nI p) (a2 := v) (a3 := w) (M := M) ⟨fun q => absurd q hh, fun _ => ⟨fun q => absurd q he, fun _ => ⟨fun q => absurd q hw, fun _ => ⟨s1, pm_vin (by omega) (by omega), ⟨⟨p, by omega, rfl⟩, t1⟩, by
    rw [hpu, e1, e2]
    exact sPart (abs_nI (by omega)) (by omega) rfl (by omega)⟩⟩⟩⟩
  unfold fWt_luck gWt_luck at hev
  rw [if_neg hh, if_neg hh, if_neg he, if_neg he, if_neg hw, if_neg hw, hpu, e1, e2] at hev
  exact hev
def aSol (f : Nat → Int32) (P T : Nat) (o q : Nat) : Bool := pm_alln (fun p => decide (0 ≤ f p + (aA f T (nI p) o + aB f T (nI p) q))) P
theorem c_solid {M : pm_M} {f : Nat → Int32} {P T : Nat} {w : Int32} (h : cw M 0 f P T) (hv : wv f P T) (hw : ¬ fWt_isPart w M = 0) : ∃ M', pm_Ev mWt_solid [pm_r 0 0, pm_i w] M (some (pm_l (aPart (nI (aCnt (aSol f P T) (md_fact (aL f T).length))) (nI (md_fact (aL f T).length * md_fact (aL f T).length)) w))) M' ∧ cs_eq M M' := by
  have h4 := hv.2.1
  have hP := hv.1
  obtain ⟨s1, s2, s3, s4⟩ := sp_all h hv
  obtain ⟨hN1, hN2, hN3⟩ := aN hv
  obtain ⟨t1, t2, t3⟩ := sp_some hv s2
  have hcw := cw_cs (by decide) h s4
  refine ⟨gRe_spreadAll 0 M, ?_, s4⟩
  have e1 : fRe_waysSolid 0 (gRe_spreadAll 0 M) = nI (aCnt (aSol f P T) (md_fact (aL f T).length)) := by
    unfold fRe_waysSolid aCnt
    rw [t2, hcw.1, pm_cl4 (by omega)]
    congr 1
    refine pm_sumN_congr (fun o ho => pm_cnt1_congr (fun q hq => ?_))
    unfold aSol
    refine pm_alln_congr (fun p hp => ?_)
    unfold re_sol
    rw [fRe_gain_at (by omega) (by omega) (by omega), (s3 p hp o ho).1, (s3 p hp q hq).2, hcw.2.2.2.1 p hp]
  have e2 : fRe_allWays (gRe_spreadAll 0 M) = nI (md_fact (aL f T).length * md_fact (aL f T).length) := by
    unfold fRe_allWays
    rw [s2.2.1, pk_mul]
  have hle := aCnt_le (aSol f P T) (md_fact (aL f T).length)
  have hsq := sq_le hN2
  have hev := eWt_solid (a1 := w) (M := M) ⟨fun q => absurd q hw, fun _ => ⟨s1, ⟨⟨P, hP, hcw.1⟩, t1⟩, by
    rw [e1, e2]
    exact sPart (abs_nI (by omega)) (by omega) rfl (by omega)⟩⟩
  unfold fWt_solid gWt_solid at hev
  rw [if_neg hw, if_neg hw, e1, e2] at hev
  exact hev
