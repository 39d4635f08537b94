theorem ok_ticket (a1 a2 : Int32) : OkI mWt_ticket mMo_ticket [pm_i a1, pm_i a2] := okI_ro (fun M P T f h hv hw _ => by
  have h4 := hv.2.1
  by_cases hb : ∃ t, t < T ∧ a1 = nI t
  · obtain ⟨t, ht, rfl⟩ := hb
    have c1 : ¬ fWh_hasTicket 0 (nI t) M = 0 := by rw [(has_good h.2.1 h4 ht).1]; decide
    have c2 : ¬ fMo_isTicket (nI t) M = 0 := by rw [moT_good hw.2.2 h4 ht]; decide
    have ei : fMo_in a2.toInt64 0 4 M = fWt_within a2 0 4 M := mo_in a2 0 4 M M
    by_cases hw4 : fWt_within a2 0 4 M = 0
    · have c3 := ei.trans hw4
      have e1 := eWt_ticket (a1 := nI t) (a2 := a2) (M := M) ⟨fun _ => trivial, fun _ => ⟨fun _ => trivial, fun q => absurd hw4 q⟩⟩
      have e2 := eMo_ticket (a1 := nI t) (a2 := a2) (M := M) ⟨fun _ => trivial, fun _ => ⟨fun _ => trivial, fun q => absurd c3 q⟩⟩
      unfold fWt_ticket at e1
      unfold fMo_ticket at e2
      rw [if_neg c1, if_pos hw4] at e1
      rw [if_neg c2, if_pos c3] at e2
      exact okI_rr e1 e2 ms_rfl
    · have c3 : ¬ fMo_in a2.toInt64 0 4 M = 0 := by rw [ei]; exact hw4
      obtain ⟨w, hw9, rfl⟩ := within_of (n := 4) (by omega) hw4
      have hix : Int32.toNatClampNeg ((4 + (5 * nI t)) + nI w) = 4 + 5 * t + w ∧ vp_in ((4 + (5 * nI t)) + nI w) 135 := by
        have e : (4 + (5 * nI t)) + nI w = nI (4 + 5 * t + w) := (by decide +kernel : ∀ t : Fin 4, ∀ w : Fin 5, (4 + 5 * nI t.val) + nI w.val = nI (4 + 5 * t.val + w.val)) ⟨t, by omega⟩ ⟨w, by omega⟩
        rw [e]
        exact ⟨pm_cl4 (by omega), pm_vin (by omega) (by omega)⟩
      have e2 := eMo_ticket (a1 := nI t) (a2 := nI w) (M := M) ⟨fun _ => trivial, fun _ => ⟨fun _ => trivial, fun _ => hix.2⟩⟩
      unfold fMo_ticket at e2
      rw [if_neg c2, if_neg c3, hix.1, hw.1] at e2
      by_cases q : w = 4
      · subst q
        have e1 := eWt_ticket (a1 := nI t) (a2 := nI 4) (M := M) ⟨fun _ => trivial, fun _ => ⟨fun _ => trivial, fun _ => ⟨fun _ => pm_vin (by omega) (by omega), fun q9 => absurd (show (4 : Int32) ≤ nI 4 by decide) q9⟩⟩⟩
        unfold fWt_ticket at e1
        rw [if_neg c1, if_neg hw4, if_pos (show (4 : Int32) ≤ nI 4 by decide), pm_cl4 (by omega), h.2.2.2.2.2.1 t ht, show 8 + 5 * t = 4 + 5 * t + 4 by omega] at e1
        exact okI_rr e1 e2 ms_rfl
      · have q4 : ¬ (4 : Int32) ≤ nI w := fun q9 => by have := (pm_le4 (a := 4) (b := w) (by omega) (by omega)).mp q9; omega
        have e1 := eWt_ticket (a1 := nI t) (a2 := nI w) (M := M) ⟨fun _ => trivial, fun _ => ⟨fun _ => trivial, fun _ => ⟨fun q9 => absurd q9 q4, fun _ => sWh_all (by omega) (by rcases (show w = 0 ∨ w = 1 ∨ w = 2 ∨ w = 3 by omega) with rfl | rfl | rfl | rfl <;> decide)⟩⟩⟩
        unfold fWt_ticket at e1
        rw [if_neg c1, if_neg hw4, if_neg q4, fWh_trait_at (by omega) (by omega), h.2.2.2.2.1 t w ht (by omega)] at e1
        exact okI_rr e1 e2 ms_rfl
  · have c1 := (has_bad h.2.1 h4 hb).1
    have c2 := moT_bad hw.2.2 h4 hb
    have e1 := eWt_ticket (a1 := a1) (a2 := a2) (M := M) ⟨fun _ => trivial, fun q => absurd c1 q⟩
    have e2 := eMo_ticket (a1 := a1) (a2 := a2) (M := M) ⟨fun _ => trivial, fun q => absurd c2 q⟩
    unfold fWt_ticket at e1
    unfold fMo_ticket at e2
    rw [if_pos c1] at e1
    rw [if_pos c2] at e2
    exact okI_rr e1 e2 ms_rfl)
theorem ok_prize (a1 a2 : Int32) : OkI mWt_prize mMo_prize [pm_i a1, pm_i a2] := okI_ro (fun M P T f h hv hw _ => by
  have h4 := hv.2.1
  by_cases hb : ∃ t, t < T ∧ a1 = nI t
  · obtain ⟨t, ht, rfl⟩ := hb
    have c1 : ¬ fWh_hasPrize 0 (nI t) M = 0 := by rw [(has_good h.2.1 h4 ht).2]; decide
    have c2 : ¬ fMo_isTicket (nI t) M = 0 := by rw [moT_good hw.2.2 h4 ht]; decide
    have ei : fMo_isPart a2 M = fWt_within a2 0 1 M := mo_in a2 0 1 M M
    have e1 := eWt_prize (a1 := nI t) (a2 := a2) (M := M) ⟨fun _ => trivial, fun _ => ⟨fun _ => trivial, fun _ => ⟨fun _ => pm_vin (by omega) (by omega), fun _ => pm_vin (by omega) (by omega)⟩⟩⟩
    have e2 := eMo_prize (a1 := nI t) (a2 := a2) (M := M) ⟨fun _ => trivial, fun _ => ⟨fun _ => trivial, fun _ => ⟨fun _ => (md_v (show t < 4 by omega)).2.2.2.2.1, fun _ => (md_v (show t < 4 by omega)).2.2.2.2.2⟩⟩⟩
    have ef : fMo_prize (nI t) a2 M = fWt_prize (nI t) a2 M := by
      unfold fMo_prize fWt_prize
      rw [if_neg c1, if_neg c2, ei, md_iP (by omega), md_iB (by omega), hw.1, pm_cl4 (by omega), h.2.2.2.2.2.2.1 t ht, h.2.2.2.2.2.2.2.1 t ht]
    rw [ef] at e2
    exact okI_rr e1 e2 ms_rfl
  · have c1 := (has_bad h.2.1 h4 hb).2
    have c2 := moT_bad hw.2.2 h4 hb
    have e1 := eWt_prize (a1 := a1) (a2 := a2) (M := M) ⟨fun _ => trivial, fun q => absurd c1 q⟩
    have e2 := eMo_prize (a1 := a1) (a2 := a2) (M := M) ⟨fun _ => trivial, fun q => absurd c2 q⟩
    unfold fWt_prize at e1
    unfold fMo_prize at e2
    rw [if_pos c1] at e1
    rw [if_pos c2] at e2
    exact okI_rr e1 e2 ms_rfl)
theorem ok_count (a1 : Int32) : OkI mWt_count mMo_count [pm_i a1] := okI_ro (fun M P T f h hv hw hI => by
  have hP := hv.1
  have s1 := (cw_small h hv).2
  have v0 : vp_in 0 2 ∧ vp_in 1 2 ∧ vp_in 0 4 ∧ vp_in 32 135 := ⟨pm_vin (a := 0) (by decide) (by decide), pm_vin (a := 1) (by decide) (by decide), pm_vin (a := 0) (by decide) (by decide), pm_vin (a := 32) (by decide) (by decide)⟩
  have e1 := eWt_count (a1 := a1) (M := M) ⟨fun _ => s1, fun _ => ⟨fun _ => trivial, fun _ => ⟨fun _ => ⟨v0.1, v0.2.1⟩, fun _ => ⟨fun _ => trivial, fun _ => ⟨fun _ => v0.2.2.1, fun _ => trivial⟩⟩⟩⟩⟩
  have e2 := eMo_count (a1 := a1) (M := M) ⟨(mw_small hw hv).2, fun _ => trivial, fun _ => ⟨fun _ => v0.2.2.2, fun _ => ⟨fun _ => ⟨v0.1, v0.2.1⟩, fun _ => ⟨fun _ => trivial, fun _ => ⟨fun _ => ⟨v0.2.2.1, fun _ => trivial, fun _ => v0.2.2.1⟩, fun _ => trivial⟩⟩⟩⟩⟩
  have k0 : ∀ k, k < 2 → fMo_flag (M.1 32 0 k) M = M.1 2 0 k := by
    intro k hk
    obtain ⟨P9, T9, w9⟩ := hI.1
    rcases w9.2.2.2.2 k hk with ⟨q1, q2⟩ | ⟨q1, q2, _⟩
    · rw [q1, q2]
      rfl
    · rw [q1, q2]
      rfl
  have s4 : (if M.1 40 0 0 = -4 then -4 else M.1 41 0 0) = M.1 27 0 0 := by
    rcases hI.2.2.2.1 0 (by decide) with ⟨q1, q2⟩ | ⟨l, n, q1, q2, q3, q4, q5, q6, _⟩
    · rw [if_pos q2, q1]
    · rw [q5, if_neg (nI_ne4 (show l < 4 by omega)), q6, q3]
  obtain ⟨n, n1, n2, n3, _⟩ := hI.2.1
  have z : Int32.toNatClampNeg 0 = 0 ∧ Int32.toNatClampNeg 1 = 1 ∧ Int32.toNatClampNeg 32 = 32 := by decide
  have ef : fMo_count a1 M = fWt_count a1 M := by
    unfold fMo_count fWt_count fWh_allPurses
    rw [z.1, z.2.1, z.2.2, k0 0 (by decide), k0 1 (by decide), s4, n2, n3, h.1, hw.2.1, pm_cl4 (by omega), h.2.2.1, hw.1]
    rw [pm_sumI_congr (g := fun j => M.1 5 0 j) (h := fun j => f j) (fun i hi => h.2.2.2.1 i hi)]
  rw [ef] at e2
  exact okI_rr e1 e2 ms_rfl)
theorem sum_bd {g : Nat → Int32} {K : Nat} (hK : K ≤ 1000) : ∀ {n : Nat}, n ≤ 4 → (∀ i, i < n → bd (g i) K) → bd (pm_sumI g n) (K * n)
  | 0, _, _ => bd_0 _
  | n + 1, hn, h => by
    rw [pm_sumI]
    have h1 := Nat.mul_le_mul hK (show n + 1 ≤ 4 by omega)
    have h2 : K * (n + 1) = K * n + K := Nat.mul_succ K n
    rw [h2]
    exact (bd_add (sum_bd hK (n := n) (by omega) (fun i hi => h i (by omega))) (h n (by omega)) (by omega)).1
theorem aAm_bd {f : Nat → Int32} {P T : Nat} (hv : wv f P T) : bd (aAm f T) 396 := by
  refine bd_mono (sum_bd (K := 99) (by omega) hv.2.1 (fun i hi => bd_ite _ ?_)) (by have := hv.2.1; omega)
  obtain ⟨am, q1, q2⟩ := hv.2.2.2.1 i hi
  rw [q2]
  exact bd_nI q1 (by omega)
/-- a sum and a number of parts, in lowest terms, by the class and by the reference -/
theorem told_same {x : Int32} {B : Nat} {w : Int32} {M : pm_M} (hx : bd x 396) (h0 : 0 < B) (hB : B ≤ 16) : sWt_part x (nI B) w M ∧ fWt_part x (nI B) w M = fMo_told x.toInt64 (nI B).toInt64 w M ∧ sMo_told x.toInt64 (nI B).toInt64 w M := by
  have hb : x.toInt.natAbs ≤ 396 := hx
  have e1 : x.toInt64 = Int64.ofInt x.toInt := i64_of x
  have e2 : (nI B).toInt64 = lN B := nI_l (by omega)
  have ht := told_val (w := w) (M := M) (C := x.toInt) (D := B) (by omega) (by omega) (by omega)
  refine ⟨?_, ?_, ?_⟩
  · refine sPart (A := x.toInt.natAbs) ?_ (by omega) rfl (by omega)
    have := abs_cl (A := x.toInt) (by omega)
    rw [← oI] at this
    exact this
  · rw [e1, e2, ← part_told (w := w) (M := M) (A := x.toInt) (C := x.toInt) (B := B) (D := B) (by omega) h0 (by omega) (by omega) h0 (by omega) rfl, ← oI]
    rfl
  · rw [e1, e2]
    exact ht.2
theorem ok_worth (a1 : Int32) : OkL mWt_worth mMo_worth [pm_i a1] := okL_ro (fun M P T f h hv hw _ => by
  have h4 := hv.2.1
  have s1 := (cw_small h hv).1
  by_cases hp : fWt_isPart a1 M = 0
  · have e1 := eWt_worth (a1 := a1) (M := M) ⟨fun _ => trivial, fun q => absurd hp q⟩
    unfold fWt_worth at e1
    rw [if_pos hp] at e1
    refine okL_rr e1 (M2 := M) ?_ ms_rfl
    refine pm_Sem_of (ls := [some (pm_r 29 0), some (pm_i a1)]) ok_mMo_worth (by decide +kernel) rfl (by decide) (Nat.le_of_ble_eq_true rfl) rfl ?_
    exact bMo_worth_0 eMo_isPart (bMo_worth_4 (fun _ => bMo_worth_7 ⟨rfl, rfl⟩) (fun q => absurd ((mo_isPart a1 M M).trans hp) q))
  · have hl := mw_ms hw (ms_left (M := M))
    have eP : fIn_bitCount (fWh_prizesIn 0 M) M = nI (aL f T).length := by
      rw [cw_pinA h h4, aPb, bc_bits h4, hv.2.2.2.2.2.2.1]
      rfl
    have hmp : ¬ fMo_isPart a1 M = 0 := by rw [mo_isPart a1 M M]; exact hp
    have hL := aL_len (f := f) (T := T)
    by_cases h0 : (aL f T).length = 0
    · have z : fIn_bitCount (fWh_prizesIn 0 M) M = 0 := by rw [eP, h0]; rfl
      have e1 := eWt_worth (a1 := a1) (M := M) ⟨fun _ => trivial, fun _ => ⟨s1, fun _ => trivial, fun q => absurd z q⟩⟩
      unfold fWt_worth at e1
      rw [if_neg hp, if_pos z] at e1
      refine okL_rr e1 (M2 := gMo_findLeft M) ?_ ms_left
      refine pm_Sem_of (ls := [some (pm_r 29 0), some (pm_i a1)]) ok_mMo_worth (by decide +kernel) rfl (by decide) (Nat.le_of_ble_eq_true rfl) rfl ?_
      refine bMo_worth_0 eMo_isPart (bMo_worth_4 (fun q => absurd q hmp) (fun _ => bMo_worth_11 (eMo_findLeft (mw_small hw hv).1) (bMo_worth_15 (fun _ => bMo_worth_22 (bMo_worth_42 ⟨rfl, rfl⟩)) (fun q => absurd ?_ q))))
      rw [left_at hw h4, h0]
      rfl
    · have z : ¬ fIn_bitCount (fWh_prizesIn 0 M) M = 0 := by rw [eP]; exact nI_ne0 (by omega) (by omega)
      obtain ⟨t1, t2, t3⟩ := told_same (x := aAm f T) (B := (aL f T).length) (w := a1) (M := gMo_findLeft M) (aAm_bd hv) (by omega) (by omega)
      have e1 := eWt_worth (a1 := a1) (M := M) ⟨fun _ => trivial, fun _ => ⟨s1, fun _ => trivial, fun _ => ⟨s1, by rw [cw_amt h h4, eP]; exact t1⟩⟩⟩
      unfold fWt_worth at e1
      rw [if_neg hp, if_neg z, cw_amt h h4, eP, show fWt_part (aAm f T) (nI (aL f T).length) a1 M = fWt_part (aAm f T) (nI (aL f T).length) a1 (gMo_findLeft M) from rfl, t2] at e1
      refine okL_rr e1 (M2 := gMo_findLeft M) ?_ ms_left
      refine pm_Sem_of (ls := [some (pm_r 29 0), some (pm_i a1)]) ok_mMo_worth (by decide +kernel) rfl (by decide) (Nat.le_of_ble_eq_true rfl) rfl ?_
      refine bMo_worth_0 eMo_isPart (bMo_worth_4 (fun q => absurd q hmp) (fun _ => bMo_worth_11 (eMo_findLeft (mw_small hw hv).1) (bMo_worth_15 (fun q => absurd q ?_) (fun _ => bMo_worth_28 (eMo_sumInWheel (mw_small hl hv).1) ?_))))
      · rw [left_at hw h4]
        exact nI_ne0 (by omega) (by omega)
      · rw [(mw_wheel hl h4).2.2]
        refine bMo_worth_32 ?_ (bMo_worth_42 ⟨rfl, rfl⟩)
        rw [left_at hw h4]
        exact eMo_told t3)
theorem ok_day (a1 a2 : Int32) : OkL mWt_day mMo_day [pm_i a1, pm_i a2] := okL_ro (fun M P T f h hv hw _ => by
  have h4 := hv.2.1
  have s1 := (cw_small h hv).1
  by_cases hb : (¬ ∃ t, t < T ∧ a1 = nI t) ∨ fWt_isPart a2 M = 0
  · have e1 : pm_Ev mWt_day [pm_r 0 0, pm_i a1, pm_i a2] M (some (pm_l (-1))) M := by
      by_cases h1 : fWh_hasTicket 0 a1 M = 0
      · have hev := eWt_day (a1 := a1) (a2 := a2) (M := M) ⟨fun _ => trivial, fun q => absurd h1 q⟩
        unfold fWt_day at hev
        rw [if_pos h1] at hev
        exact hev
      · have h2 := hb.resolve_left (fun q => h1 (has_bad h.2.1 h4 q).1)
        have hev := eWt_day (a1 := a1) (a2 := a2) (M := M) ⟨fun _ => trivial, fun _ => ⟨fun _ => trivial, fun q => absurd h2 q⟩⟩
        unfold fWt_day at hev
        rw [if_neg h1, if_pos h2] at hev
        exact hev
    refine okL_rr e1 (M2 := M) ?_ ms_rfl
    refine pm_Sem_of (ls := [some (pm_r 29 0), some (pm_i a1), some (pm_i a2)]) ok_mMo_day (by decide +kernel) rfl (by decide) (Nat.le_of_ble_eq_true rfl) rfl ?_
    refine bMo_day_0 eMo_isTicket (bMo_day_5 (fun _ => bMo_day_15 ⟨rfl, rfl⟩) (fun q1 => bMo_day_8 eMo_isPart (bMo_day_12 (fun _ => bMo_day_15 ⟨rfl, rfl⟩) (fun q2 => ?_))))
    rcases hb with hb | hb
    · exact absurd (moT_bad hw.2.2 h4 hb) q1
    · exact absurd ((mo_isPart a2 M M).trans hb) q2
  · obtain ⟨hb1, hb2⟩ := not_or.mp hb
    obtain ⟨t, ht, rfl⟩ := Classical.not_not.mp hb1
    have c1 : ¬ fWh_hasTicket 0 (nI t) M = 0 := by rw [(has_good h.2.1 h4 ht).1]; decide
    have c2 : ¬ fMo_isTicket (nI t) M = 0 := by rw [moT_good hw.2.2 h4 ht]; decide
    have c3 : ¬ fMo_isPart a2 M = 0 := by rw [mo_isPart a2 M M]; exact hb2
    have i1 : fWh_isTicketIn 0 (nI t) M = if f (8 + 5 * t) = -4 then 1 else 0 := by rw [fWh_isTicketIn_at h.2.1 h4 ht, h.2.2.2.2.2.1 t ht]
    have i2 : fMo_isDrawn (nI t) M = if f (8 + 5 * t) = -4 then 0 else 1 := by unfold fMo_isDrawn; rw [md_i4 (by omega), hw.1]
    have sd : sMo_isDrawn (nI t) M := (md_v (show t < 4 by omega)).2.2.2.1
    have si : sWh_isTicketIn 0 (nI t) M := ⟨fun _ => trivial, fun _ => pm_vin (by omega) (by omega)⟩
    by_cases hd : f (8 + 5 * t) = -4
    · have hl := mw_ms hw (ms_left (M := M))
      rw [if_pos hd] at i1 i2
      have eT : fIn_bitCount (fWh_ticketsIn 0 M) M = nI (aL f T).length := by
        rw [cw_tin h h4, aTb, bc_bits h4]
        rfl
      have hL := aL_len (f := f) (T := T)
      have hL0 : 0 < (aL f T).length := List.length_pos_of_mem (List.mem_filter.mpr ⟨List.mem_range.mpr ht, decide_eq_true hd⟩)
      have hB : (aL f T).length * (aL f T).length ≤ 16 := Nat.le_trans (Nat.mul_le_mul (show (aL f T).length ≤ 4 by omega) (show (aL f T).length ≤ 4 by omega)) (by decide)
      obtain ⟨t1, t2, t3⟩ := told_same (x := aAm f T) (B := (aL f T).length * (aL f T).length) (w := a2) (M := gMo_findLeft M) (aAm_bd hv) (Nat.mul_pos hL0 hL0) hB
      have e1 := eWt_day (a1 := nI t) (a2 := a2) (M := M) ⟨fun _ => trivial, fun _ => ⟨fun _ => trivial, fun _ => ⟨si, fun _ => trivial, fun _ => ⟨s1, s1, by rw [cw_amt h h4, eT, pk_mul]; exact t1⟩⟩⟩⟩
      unfold fWt_day at e1
      rw [if_neg c1, if_neg hb2, if_neg (by rw [i1]; decide), cw_amt h h4, eT, pk_mul, show fWt_part (aAm f T) (nI ((aL f T).length * (aL f T).length)) a2 M = fWt_part (aAm f T) (nI ((aL f T).length * (aL f T).length)) a2 (gMo_findLeft M) from rfl, t2] at e1
      refine okL_rr e1 (M2 := gMo_findLeft M) ?_ ms_left
      refine pm_Sem_of (ls := [some (pm_r 29 0), some (pm_i (nI t)), some (pm_i a2)]) ok_mMo_day (by decide +kernel) rfl (by decide) (Nat.le_of_ble_eq_true rfl) rfl ?_
      refine bMo_day_0 eMo_isTicket (bMo_day_5 (fun q => absurd q c2) (fun _ => bMo_day_8 eMo_isPart (bMo_day_12 (fun q => absurd q c3) (fun _ => bMo_day_19 (eMo_isDrawn sd) (bMo_day_24 (fun _ => bMo_day_31 (eMo_findLeft (mw_small hw hv).1) (bMo_day_35 (eMo_sumInWheel (mw_small hl hv).1) ?_)) (fun q => absurd i2 q))))))
      rw [(mw_wheel hl h4).2.2]
      refine bMo_day_39 ?_ (bMo_day_54 ⟨rfl, rfl⟩)
      rw [left_at hw h4, pk_mul]
      exact eMo_told t3
    · rw [if_neg hd] at i1 i2
      have e1 := eWt_day (a1 := nI t) (a2 := a2) (M := M) ⟨fun _ => trivial, fun _ => ⟨fun _ => trivial, fun _ => ⟨si, fun _ => trivial, fun q => absurd i1 q⟩⟩⟩
      unfold fWt_day at e1
      rw [if_neg c1, if_neg hb2, if_pos i1] at e1
      refine okL_rr e1 (M2 := M) ?_ ms_rfl
      refine pm_Sem_of (ls := [some (pm_r 29 0), some (pm_i (nI t)), some (pm_i a2)]) ok_mMo_day (by decide +kernel) rfl (by decide) (Nat.le_of_ble_eq_true rfl) rfl ?_
      exact bMo_day_0 eMo_isTicket (bMo_day_5 (fun q => absurd q c2) (fun _ => bMo_day_8 eMo_isPart (bMo_day_12 (fun q => absurd q c3) (fun _ => bMo_day_19 (eMo_isDrawn sd) (bMo_day_24 (fun q => absurd (q.symm.trans i2) (by decide)) (fun _ => bMo_day_27 ⟨rfl, rfl⟩))))))
    )
