/-! what is seen: which ways fit it -/
def re_seen (k : Nat) (o q : Nat) (M : pm_M) (i : Nat) : Bool := decide (M.1 5 k (M.1 10 k i).toNatClampNeg + fRe_gain (M.1 10 k i) (nI o) (nI q) M = M.1 11 k i)
def re_sn (k : Nat) (M : pm_M) : Nat := (M.1 4 k 2).toNatClampNeg
def re_sok (k : Nat) (M : pm_M) : Prop := ∃ s, s ≤ 6 ∧ M.1 4 k 2 = nI s ∧ ∀ i, i < s → ∃ p, p < 4 ∧ M.1 10 k i = nI p
def fRe_isAsSeen (k1 : Nat) (a2 a3 : Int32) (M : pm_M) : Int32 := if pm_alln (re_seen k1 a2.toNatClampNeg a3.toNatClampNeg M) (re_sn k1 M) = true then 1 else 0
def sRe_isAsSeen (k1 : Nat) (a2 a3 : Int32) (M : pm_M) : Prop := re_sok k1 M ∧ (∃ o, o < 24 ∧ a2 = nI o) ∧ ∃ q, q < 24 ∧ a3 = nI q
theorem zRe_isAsSeen (k1 : Nat) (a2 a3 : Int32) (M : pm_M) : narrow .boolean (.int (fRe_isAsSeen k1 a2 a3 M)) = .int (fRe_isAsSeen k1 a2 a3 M) := by
  unfold fRe_isAsSeen
  split <;> rfl
theorem eRe_isAsSeen {k1 : Nat} {a2 a3 : Int32} {M : pm_M} (hs : sRe_isAsSeen k1 a2 a3 M) : pm_Ev mRe_isAsSeen [pm_r 12 0, pm_r 4 k1, pm_i a2, pm_i a3] M (some (pm_i (fRe_isAsSeen k1 a2 a3 M))) M := by
  refine pm_Sem_of (ls := [some (pm_r 12 0), some (pm_r 4 k1), some (pm_i a2), some (pm_i a3), none, none]) ok_mRe_isAsSeen (by decide +kernel) rfl (by decide) (Nat.le_of_ble_eq_true rfl) rfl ?_
  obtain ⟨⟨P, hP, hM, hp⟩, ⟨o, ho, rfl⟩, ⟨q, hq, rfl⟩⟩ := hs
  unfold fRe_isAsSeen re_sn
  rw [hM, pm_cl4 (show P ≤ 1000 by omega), pm_cl4 (show o ≤ 1000 by omega), pm_cl4 (show q ≤ 1000 by omega)]
  refine bRe_isAsSeen_0 ?_
  refine pm_upto (N := P) (P := fun i => pm_alln (re_seen k1 o q M) i = true → pm_G mRe_isAsSeen 3 [some (pm_r 12 0), some (pm_r 4 k1), some (pm_i (nI o)), some (pm_i (nI q)), some (pm_i (nI i)), none] [] M (pm_D (some (pm_i (if pm_alln (re_seen k1 o q M) P = true then 1 else 0))) M)) ?_ ?_ 0 (Nat.zero_le _) rfl
  · intro hall
    refine bRe_isAsSeen_3 (fun _ => bRe_isAsSeen_55 rfl ?_) (fun h => absurd (pm_yle hM (by omega)) h)
    rw [if_pos hall]
    exact ⟨rfl, rfl⟩
  · intro i hi k2 hall
    obtain ⟨p, hp4, hpi⟩ := hp i hi
    have hc : re_seen k1 o q M i = decide (M.1 5 k1 p + fRe_gain (nI p) (nI o) (nI q) M = M.1 11 k1 i) := by
      unfold re_seen
      rw [hpi, pm_cl4 (by omega)]
    have ci : (nI i).toNatClampNeg = i := pm_cl4 (by omega)
    refine bRe_isAsSeen_3 (fun h => absurd h (pm_nle hM hi (by omega))) (fun _ => bRe_isAsSeen_12 (r := fRe_gain (nI p) (nI o) (nI q) M) (M1 := M) (pm_vin (by omega) (by omega)) ?_ ?_ ?_)
    · rw [ci, hpi]
      exact pm_vin (by omega) (by omega)
    · rw [ci, hpi]
      exact eRe_gain (sRe_gain_ok (by omega) ho hq)
    · rw [ci, hpi, pm_cl4 (show p ≤ 1000 by omega)]
      refine bRe_isAsSeen_36 (pm_vin (by omega) (by omega)) (fun h => ?_) (fun h => ?_)
      · rw [ci] at h
        refine bRe_isAsSeen_49 ?_
        rw [nI_1]
        refine pm_G_le (ls' := [some (pm_r 12 0), some (pm_r 4 k1), some (pm_i (nI o)), some (pm_i (nI q)), some (pm_i (nI (i + 1))), none]) ⟨Or.inr rfl, Or.inr rfl, Or.inr rfl, Or.inr rfl, Or.inr rfl, Or.inl rfl, trivial⟩ (k2 ?_)
        rw [pm_alln, hall, Bool.true_and, hc]
        exact decide_eq_true h
      · rw [ci] at h
        refine bRe_isAsSeen_47 rfl ?_
        rw [if_neg (by rw [pm_alln_pre hi (hc.trans (decide_eq_false h))]; decide)]
        exact ⟨rfl, rfl⟩
/-- how many orders fit with a pairing -/
def re_C (k : Nat) (M : pm_M) (q : Nat) : Nat := pm_cnt1 (fun o => pm_alln (re_seen k o q M) (re_sn k M)) (re_N M)
def fRe_ordersThatFit (k1 : Nat) (a2 : Int32) (M : pm_M) : Int32 := nI (re_C k1 M a2.toNatClampNeg)
def sRe_ordersThatFit (k1 : Nat) (a2 : Int32) (M : pm_M) : Prop := re_sok k1 M ∧ re_some M ∧ ∃ q, q < 24 ∧ a2 = nI q
theorem eRe_ordersThatFit {k1 : Nat} {a2 : Int32} {M : pm_M} (hs : sRe_ordersThatFit k1 a2 M) : pm_Ev mRe_ordersThatFit [pm_r 12 0, pm_r 4 k1, pm_i a2] M (some (pm_i (fRe_ordersThatFit k1 a2 M))) M := by
  refine pm_Sem_of (ls := [some (pm_r 12 0), some (pm_r 4 k1), some (pm_i a2), none, none]) ok_mRe_ordersThatFit (by decide +kernel) rfl (by decide) (Nat.le_of_ble_eq_true rfl) rfl ?_
  obtain ⟨hP, hn, q, hq, rfl⟩ := hs
  obtain ⟨hN, hM⟩ := re_some_N hn
  unfold fRe_ordersThatFit re_C
  rw [pm_cl4 (show q ≤ 1000 by omega)]
  generalize re_N M = N at hN hM ⊢
  generalize hc : (fun o => pm_alln (re_seen k1 o q M) (re_sn k1 M)) = c
  refine bRe_ordersThatFit_0 ?_
  refine pm_upto (N := N) (P := fun o => pm_G mRe_ordersThatFit 5 [some (pm_r 12 0), some (pm_r 4 k1), some (pm_i (nI q)), some (pm_i (nI (pm_cnt1 c o))), some (pm_i (nI o))] [] M (pm_D (some (pm_i (nI (pm_cnt1 c N)))) M)) ?_ ?_ 0 (Nat.zero_le _)
  · exact bRe_ordersThatFit_5 (fun _ => bRe_ordersThatFit_34 ⟨rfl, rfl⟩) (fun h => absurd (pm_yle hM (by omega)) h)
  · intro o ho k2
    refine bRe_ordersThatFit_5 (fun h => absurd h (pm_nle hM ho (by omega))) (fun _ => bRe_ordersThatFit_14 (eRe_isAsSeen ⟨hP, ⟨o, by omega, rfl⟩, ⟨q, by omega, rfl⟩⟩) ?_)
    have hv : fRe_isAsSeen k1 (nI o) (nI q) M = if c o = true then 1 else 0 := by
      unfold fRe_isAsSeen
      rw [← hc, pm_cl4 (show o ≤ 1000 by omega), pm_cl4 (show q ≤ 1000 by omega)]
    rw [hv]
    rw [pm_cnt1, ← nI_1] at k2
    by_cases h : c o = true
    · rw [if_pos h]
      rw [if_pos h, ← nI_1] at k2
      exact bRe_ordersThatFit_22 (fun h => absurd h (by decide)) (fun _ => bRe_ordersThatFit_25 (bRe_ordersThatFit_28 k2))
    · rw [if_neg h]
      rw [if_neg h] at k2
      exact bRe_ordersThatFit_22 (fun _ => bRe_ordersThatFit_28 k2) (fun h => absurd rfl h)
/-- the memory while the tally goes on -/
def re_ta (M : pm_M) (ft : Int32) (g : Nat → Int32) : pm_M := pm_set (pm_set M 12 0 (upd (M.1 12 0) 10 ft)) 20 0 g
theorem re_ta_ne {M : pm_M} {ft : Int32} {g : Nat → Int32} {t k : Nat} (h : t ≠ 12 ∧ t ≠ 20) : (re_ta M ft g).1 t k = M.1 t k := by
  unfold re_ta
  rw [pm_set_ne _ _ (Ne.symm h.2), pm_set_ne _ _ (Ne.symm h.1)]
theorem re_ta_12 {M : pm_M} {ft : Int32} {g : Nat → Int32} : (re_ta M ft g).1 12 0 = upd (M.1 12 0) 10 ft := by
  unfold re_ta
  rw [pm_set_ne _ _ (by decide), pm_set_at]
theorem re_ta_n {M : pm_M} {ft : Int32} {g : Nat → Int32} {j : Nat} (h : j ≠ 10) : (re_ta M ft g).1 12 0 j = M.1 12 0 j := by
  rw [re_ta_12]
  unfold upd
  rw [if_neg h]
theorem re_ta_20 {M : pm_M} {ft : Int32} {g : Nat → Int32} : (re_ta M ft g).1 20 0 = g := by
  unfold re_ta
  rw [pm_set_at]
theorem re_C_ta {k : Nat} {M : pm_M} {ft : Int32} {g : Nat → Int32} : re_C k (re_ta M ft g) = re_C k M := by
  have h1 : re_N (re_ta M ft g) = re_N M := by unfold re_N; rw [re_ta_n (by decide)]
  have h2 : re_sn k (re_ta M ft g) = re_sn k M := by unfold re_sn; rw [re_ta_ne (by decide)]
  have h3 : ∀ o q, re_seen k o q (re_ta M ft g) = re_seen k o q M := by
    intro o q
    funext i
    unfold re_seen fRe_gain
    rw [re_ta_ne (t := 5) (by decide), re_ta_ne (t := 10) (by decide), re_ta_ne (t := 11) (by decide), re_ta_ne (t := 17) (by decide), re_ta_ne (t := 18) (by decide)]
  funext q
  unfold re_C
  rw [h1, h2]
  simp only [h3]
/-- the cell of the i-th ticket's prize by a pairing -/
def re_cell (M : pm_M) (q i : Nat) : Nat := 4 * (M.1 13 0 i).toNatClampNeg + (M.1 14 0 (re_ord q i)).toNatClampNeg
def re_pr (k : Nat) (M : pm_M) (n N : Nat) (c : Nat) : Nat := pm_sumN (fun q => pm_sumN (fun i => if re_cell M q i = c then re_C k M q else 0) n) N
def re_n (M : pm_M) : Nat := (M.1 12 0 0).toNatClampNeg
def gRe_tally (k1 : Nat) (M : pm_M) : pm_M := re_ta M (nI (pm_sumN (re_C k1 M) (re_N M))) (fun c => if c < 16 then nI (re_pr k1 M (re_n M) (re_N M) c) else M.1 20 0 c)
/-- the lists of what is left are in order -/
def re_lok (M : pm_M) : Prop := ∃ n, n ≤ 4 ∧ M.1 12 0 0 = nI n ∧ M.1 12 0 1 = nI (md_fact n) ∧ (∀ i, i < n → ∃ t, t < 4 ∧ M.1 13 0 i = nI t) ∧ ∀ i, i < n → ∃ t, t < 4 ∧ M.1 14 0 i = nI t
def sRe_tally (k1 : Nat) (M : pm_M) : Prop := re_sok k1 M ∧ re_lok M
theorem md_fact24 {n : Nat} (hn : n ≤ 4) : md_fact n ≤ 24 ∧ 1 ≤ md_fact n := (by decide : ∀ n : Fin 5, md_fact n.val ≤ 24 ∧ 1 ≤ md_fact n.val) ⟨n, by omega⟩
theorem re_ix4 {q i : Nat} (hq : q < 24) (hi : i < 4) : Int32.toNatClampNeg ((4 * nI q) + nI i) = 4 * q + i ∧ vp_in ((4 * nI q) + nI i) 96 := by
  have : ∀ q : Fin 24, ∀ i : Fin 4, Int32.toNatClampNeg ((4 * nI q.val) + nI i.val) = 4 * q.val + i.val ∧ vp_in ((4 * nI q.val) + nI i.val) 96 := by
    unfold vp_in
    decide +kernel
  exact this ⟨q, hq⟩ ⟨i, hi⟩
set_option maxHeartbeats 1000000 in
theorem eRe_tally {k1 : Nat} {M : pm_M} (hs : sRe_tally k1 M) : pm_Ev mRe_tally [pm_r 12 0, pm_r 4 k1] M none (gRe_tally k1 M) := by
  refine pm_Sem_of (ls := [some (pm_r 12 0), some (pm_r 4 k1), none, none, none]) ok_mRe_tally (by decide +kernel) rfl (by decide) (Nat.le_of_ble_eq_true rfl) rfl ?_
  obtain ⟨⟨s, hs6, hs, hsp⟩, n, hn, h0, h1, ht, hz⟩ := hs
  have hf := md_fact24 hn
  have hNn : re_N M = md_fact n := by unfold re_N; rw [h1, pm_cl4 (by omega)]
  have hnn : re_n M = n := by unfold re_n; rw [h0, pm_cl4 (by omega)]
  unfold gRe_tally
  rw [hNn, hnn]
  generalize hN : md_fact n = N at hf h1 ⊢
  generalize hC : re_C k1 M = C
  generalize hfin : re_ta M (nI (pm_sumN C N)) (fun c => if c < 16 then nI (re_pr k1 M n N c) else M.1 20 0 c) = Mf
  refine bRe_tally_0 (M1 := re_ta M 0 (fun c => if c < 16 then nI 0 else M.1 20 0 c)) ?_ (bRe_tally_13 ?_)
  · have h9 := eAr_fill20 (a1 := 0) (M := pm_set M 12 0 (upd (M.1 12 0) 10 0))
    unfold gAr_fill20 at h9
    rw [pm_set_ne _ _ (show (12 : Nat) ≠ 20 by decide)] at h9
    exact h9
  have hk : ∀ ft g, (re_ta M ft g).1 12 0 1 = nI N := fun ft g => by rw [re_ta_n (by decide), h1]
  have hk0 : ∀ ft g, (re_ta M ft g).1 12 0 0 = nI n := fun ft g => by rw [re_ta_n (by decide), h0]
  refine pm_upto (N := N) (P := fun q => pm_G mRe_tally 15 [some (pm_r 12 0), some (pm_r 4 k1), some (pm_i (nI q)), none, none] [] (re_ta M (nI (pm_sumN C q)) (fun c => if c < 16 then nI (re_pr k1 M n q c) else M.1 20 0 c)) (pm_D none Mf)) ?_ ?_ 0 (Nat.zero_le _)
  · rw [hfin]
    refine bRe_tally_15 (fun _ => bRe_tally_98 ⟨rfl, rfl⟩) (fun h => absurd (pm_yle (by rw [← hfin]; exact hk _ _) (by omega)) h)
  · intro q hq kk
    refine bRe_tally_15 (fun h => absurd h (pm_nle (hk _ _) hq (by omega))) (fun _ => ?_)
    refine bRe_tally_23 (eRe_ordersThatFit ⟨⟨s, hs6, by rw [re_ta_ne (by decide)]; exact hs, fun i hi => by rw [re_ta_ne (by decide)]; exact hsp i hi⟩, ⟨N, hf.1, hk _ _⟩, q, by omega, rfl⟩) (bRe_tally_29 ?_)
    have hv : ∀ ft g, fRe_ordersThatFit k1 (nI q) (re_ta M ft g) = nI (C q) := by
      intro ft g
      unfold fRe_ordersThatFit
      rw [re_C_ta, hC, pm_cl4 (by omega)]
    rw [hv]
    have hm : ∀ g, pm_set (re_ta M (nI (pm_sumN C q)) g) 12 0 (upd ((re_ta M (nI (pm_sumN C q)) g).1 12 0) 10 ((re_ta M (nI (pm_sumN C q)) g).1 12 0 10 + nI (C q))) = re_ta M (nI (pm_sumN C (q + 1))) g := by
      intro g
      rw [re_ta_12]
      unfold re_ta
      rw [pm_set_comm (t := 20) (t' := 12) (by decide), pm_set_set, upd_upd]
      congr 2
      unfold upd
      rw [if_pos rfl, nI_add, pm_sumN]
    rw [hm]
    have e0 : ∀ j, re_pr k1 M n (q + 1) j = re_pr k1 M n q j + pm_sumN (fun i => if re_cell M q i = j then C q else 0) n := by
      intro j
      unfold re_pr
      rw [pm_sumN, hC]
    refine pm_upto (N := n) (P := fun i => pm_G mRe_tally 43 [some (pm_r 12 0), some (pm_r 4 k1), some (pm_i (nI q)), some (pm_i (nI (C q))), some (pm_i (nI i))] [] (re_ta M (nI (pm_sumN C (q + 1))) (fun c => if c < 16 then nI (re_pr k1 M n q c + pm_sumN (fun i => if re_cell M q i = c then C q else 0) i) else M.1 20 0 c)) (pm_D none Mf)) ?_ ?_ 0 (Nat.zero_le _)
    · refine bRe_tally_43 (fun _ => bRe_tally_92 ?_) (fun h => absurd (pm_yle (hk0 _ _) (by omega)) h)
      rw [nI_1]
      simp only [e0] at kk
      exact pm_G_le (ls' := [some (pm_r 12 0), some (pm_r 4 k1), some (pm_i (nI (q + 1))), none, none]) ⟨Or.inr rfl, Or.inr rfl, Or.inr rfl, Or.inl rfl, Or.inl rfl, trivial⟩ kk
    · intro i hi k2
      have ho := re_ord_lt hn (show q < md_fact n by omega) hi
      obtain ⟨t, ht4, hti⟩ := ht i hi
      obtain ⟨z, hz4, hzi⟩ := hz _ ho.1
      have hcell : re_cell M q i = 4 * t + z := by
        unfold re_cell
        rw [hti, hzi, pm_cl4 (by omega), pm_cl4 (by omega)]
      refine bRe_tally_43 (fun h => absurd h (pm_nle (hk0 _ _) hi (by omega))) (fun _ => ?_)
      have ci : (nI i).toNatClampNeg = i := pm_cl4 (by omega)
      have cq := re_ix4 (show q < 24 by omega) (show i < 4 by omega)
      have co : (nI (re_ord q i)).toNatClampNeg = re_ord q i := pm_cl4 (by omega)
      have e13 : ∀ ft g, (re_ta M ft g).1 13 0 i = nI t := fun ft g => by rw [re_ta_ne (by decide), hti]
      have e14 : ∀ ft g, (re_ta M ft g).1 14 0 (re_ord q i) = nI z := fun ft g => by rw [re_ta_ne (by decide), hzi]
      refine bRe_tally_52 (pm_vin (by omega) (by omega)) cq.2 ?_ ?_ ?_ ?_
      · rw [cq.1, ho.2]
        exact pm_vin (by omega) (by omega)
      · rw [cq.1, ho.2, co, ci, e13, e14]
        exact (re_ix ht4 hz4).2
      · rw [cq.1, ho.2, co, ci, e13, e14]
        exact (re_ix ht4 hz4).2
      · rw [cq.1, ho.2, co, ci, e13, e14, (re_ix ht4 hz4).1, nI_1, re_ta_20]
        have e1 : ∀ g' : Nat → Int32, pm_set (re_ta M (nI (pm_sumN C (q + 1))) (fun c => if c < 16 then nI (re_pr k1 M n q c + pm_sumN (fun i => if re_cell M q i = c then C q else 0) i) else M.1 20 0 c)) 20 0 g' = re_ta M (nI (pm_sumN C (q + 1))) g' := by
          intro g'
          unfold re_ta
          rw [pm_set_set]
        rw [e1]
        have e2 : upd (fun c => if c < 16 then nI (re_pr k1 M n q c + pm_sumN (fun i => if re_cell M q i = c then C q else 0) i) else M.1 20 0 c) (4 * t + z) ((if 4 * t + z < 16 then nI (re_pr k1 M n q (4 * t + z) + pm_sumN (fun i => if re_cell M q i = 4 * t + z then C q else 0) i) else M.1 20 0 (4 * t + z)) + nI (C q)) = (fun c => if c < 16 then nI (re_pr k1 M n q c + pm_sumN (fun i => if re_cell M q i = c then C q else 0) (i + 1)) else M.1 20 0 c) := by
          funext c
          unfold upd
          dsimp only
          rw [pm_sumN, hcell]
          by_cases h : c = 4 * t + z
          · subst h
            rw [if_pos rfl, if_pos (by omega), if_pos (by omega), if_pos rfl, nI_add, Nat.add_assoc]
          · rw [if_neg h, if_neg (Ne.symm h), Nat.add_zero]
        rw [e2]
        exact k2
def fRe_prizesOf (a1 : Int32) (M : pm_M) : Int32 := nI (pm_bits (fun k => decide (0 < M.1 20 0 (4 * a1.toNatClampNeg + k))) 4)
def sRe_prizesOf (a1 : Int32) (_M : pm_M) : Prop := ∃ t, t < 4 ∧ a1 = nI t
theorem eRe_prizesOf {a1 : Int32} {M : pm_M} (hs : sRe_prizesOf a1 M) : pm_Ev mRe_prizesOf [pm_r 12 0, pm_i a1] M (some (pm_i (fRe_prizesOf a1 M))) M := by
  refine pm_Sem_of (ls := [some (pm_r 12 0), some (pm_i a1), none, none]) ok_mRe_prizesOf (by decide +kernel) rfl (by decide) (Nat.le_of_ble_eq_true rfl) rfl ?_
  obtain ⟨t, ht, rfl⟩ := hs
  unfold fRe_prizesOf
  rw [pm_cl4 (by omega)]
  generalize hc : (fun k => decide (0 < M.1 20 0 (4 * t + k))) = c
  refine bRe_prizesOf_0 ?_
  refine pm_upto (N := 4) (P := fun i => pm_G mRe_prizesOf 4 [some (pm_r 12 0), some (pm_i (nI t)), some (pm_i (nI (pm_bits c i))), some (pm_i (nI i))] [] M (pm_D (some (pm_i (nI (pm_bits c 4)))) M)) ?_ ?_ 0 (Nat.zero_le _)
  · exact bRe_prizesOf_4 (fun _ => bRe_prizesOf_34 ⟨rfl, rfl⟩) (fun h => absurd (pm_yle (N := 4) rfl (by omega)) h)
  · intro i hi k2
    refine bRe_prizesOf_4 (fun h => absurd h (pm_nle (N := 4) rfl hi (by omega))) (fun _ => ?_)
    rw [pm_bits, ← nI_1] at k2
    refine bRe_prizesOf_9 (re_ix ht hi).2 (fun h => ?_) (fun h => ?_)
    · rw [(re_ix ht hi).1] at h
      have hci : ¬ c i = true := by
        rw [← hc]
        intro q
        have := of_decide_eq_true q
        rw [Int32.lt_iff_toInt_lt] at this
        rw [Int32.le_iff_toInt_le] at h
        omega
      rw [if_neg hci] at k2
      exact bRe_prizesOf_28 k2
    · rw [(re_ix ht hi).1] at h
      have hci : c i = true := by
        rw [← hc]
        apply decide_eq_true
        rw [Int32.lt_iff_toInt_lt]
        rw [Int32.le_iff_toInt_le] at h
        omega
      rw [if_pos hci, ← pm_or1 hi (pm_bits_lt _ i)] at k2
      exact bRe_prizesOf_22 (bRe_prizesOf_28 k2)
def re_mx0 (g : Nat → Int32) : Nat → Int32
  | 0 => 0
  | n + 1 => fMa_max (re_mx0 g n) (g n)
def fRe_worstOf (a1 : Int32) (M : pm_M) : Int32 := re_mx0 (fun k => M.1 20 0 (4 * a1.toNatClampNeg + k)) 4
def sRe_worstOf (a1 : Int32) (_M : pm_M) : Prop := ∃ t, t < 4 ∧ a1 = nI t
theorem eRe_worstOf {a1 : Int32} {M : pm_M} (hs : sRe_worstOf a1 M) : pm_Ev mRe_worstOf [pm_r 12 0, pm_i a1] M (some (pm_i (fRe_worstOf a1 M))) M := by
  refine pm_Sem_of (ls := [some (pm_r 12 0), some (pm_i a1), none, none]) ok_mRe_worstOf (by decide +kernel) rfl (by decide) (Nat.le_of_ble_eq_true rfl) rfl ?_
  obtain ⟨t, ht, rfl⟩ := hs
  unfold fRe_worstOf
  rw [pm_cl4 (by omega)]
  refine bRe_worstOf_0 ?_
  refine pm_upto (N := 4) (P := fun i => pm_G mRe_worstOf 4 [some (pm_r 12 0), some (pm_i (nI t)), some (pm_i (re_mx0 (fun k => M.1 20 0 (4 * t + k)) i)), some (pm_i (nI i))] [] M (pm_D (some (pm_i (re_mx0 (fun k => M.1 20 0 (4 * t + k)) 4))) M)) ?_ ?_ 0 (Nat.zero_le _)
  · exact bRe_worstOf_4 (fun _ => bRe_worstOf_30 ⟨rfl, rfl⟩) (fun h => absurd (pm_yle (N := 4) rfl (by omega)) h)
  · intro i hi k2
    refine bRe_worstOf_4 (fun h => absurd h (pm_nle (N := 4) rfl hi (by omega))) (fun _ => bRe_worstOf_9 (re_ix ht hi).2 (bRe_worstOf_23 ?_))
    rw [(re_ix ht hi).1, nI_1]
    exact k2
