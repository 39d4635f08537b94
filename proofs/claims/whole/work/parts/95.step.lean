/-! a step of the class -/
theorem tkS_le {n p : Nat} {b : Nat → Nat} (hp : p ≤ n) : tkS n b p ≤ n := run_le hp
theorem tkS_ge {n p : Nat} {b : Nat → Nat} : p ≤ tkS n b p := run_ge
theorem tx_va1 {d : Nat} (h : d ≤ 9) : (0 : Int32) * 10 + nI (48 + d) - 48 = nI d := (by decide +kernel : ∀ d : Fin 10, (0 : Int32) * 10 + nI (48 + d.val) - 48 = nI d.val) ⟨d, by omega⟩
theorem tx_va2 {d e : Nat} (h : d ≤ 9) (he : e ≤ 9) : nI d * 10 + nI (48 + e) - 48 = nI (d * 10 + e) := (by decide +kernel : ∀ d e : Fin 10, nI d.val * 10 + nI (48 + e.val) - 48 = nI (d.val * 10 + e.val)) ⟨d, by omega⟩ ⟨e, by omega⟩
/-- the digits of a number -/
theorem tkV_dig {n p : Nat} {b : Nat → Nat} (hk : tkK n b p = 2) : tx_run (tx_dg b) n (tkS n b p) = tkE n b p ∧ (tkE n b p = tkS n b p + 1 ∨ tkE n b p = tkS n b p + 2) ∧ (48 ≤ b (tkS n b p) ∧ b (tkS n b p) ≤ 57) ∧ (tkE n b p = tkS n b p + 2 → 48 ≤ b (tkS n b p + 1) ∧ b (tkS n b p + 1) ≤ 57) ∧ tkS n b p < n := by
  unfold tkK at hk
  by_cases q1 : n ≤ tkS n b p
  · rw [if_pos q1] at hk
    omega
  · rw [if_neg q1] at hk
    by_cases q2 : b (tkS n b p) = 59
    · rw [if_pos q2] at hk
      omega
    · rw [if_neg q2] at hk
      by_cases q3 : tx_lt b (tkS n b p) = true
      · rw [if_pos q3] at hk
        omega
      · rw [if_neg q3] at hk
        by_cases q4 : tx_run (tx_dg b) n (tkS n b p) - tkS n b p = 1 ∨ tx_run (tx_dg b) n (tkS n b p) - tkS n b p = 2
        · have e : tkE n b p = tx_run (tx_dg b) n (tkS n b p) := by
            unfold tkE
            rw [if_neg q1, if_neg q2, if_neg q3]
          have i0 := run_in (c := tx_dg b) (n := n) (p := tkS n b p) (i := tkS n b p) (by omega) (by omega)
          refine ⟨e.symm, by omega, by simpa [tx_dg] using i0, fun e2 => ?_, by omega⟩
          have i1 := run_in (c := tx_dg b) (n := n) (p := tkS n b p) (i := tkS n b p + 1) (by omega) (by omega)
          simpa [tx_dg] using i1
        · rw [if_neg q4] at hk
          omega
theorem tkV_c {n p : Nat} {b : Nat → Nat} (hk : tkK n b p = 2) : tx_va b (tkS n b p) (tx_run (tx_dg b) n (tkS n b p) - tkS n b p) = nI (tkV n b p) := by
  obtain ⟨e, h12, h1, h2, _⟩ := tkV_dig hk
  unfold tkV
  rw [e]
  have d0 : nI (b (tkS n b p + 0)) = nI (48 + (b (tkS n b p) - 48)) := congrArg nI (by rw [Nat.add_zero]; omega)
  have v1 : tx_va b (tkS n b p) 1 = nI (b (tkS n b p) - 48) := by
    rw [tx_va, tx_va, d0, tx_va1 (by omega)]
  rcases h12 with q | q
  · rw [q, show tkS n b p + 1 - tkS n b p = 1 by omega, if_pos rfl]
    exact v1
  · rw [q, show tkS n b p + 2 - tkS n b p = 2 by omega, if_neg (by omega)]
    have h3 := h2 q
    rw [tx_va, v1, show nI (b (tkS n b p + 1)) = nI (48 + (b (tkS n b p + 1) - 48)) from congrArg nI (by omega), tx_va2 (by omega) (by omega)]
theorem tkV_le {n p : Nat} {b : Nat → Nat} (hk : tkK n b p = 2) : tkV n b p ≤ 99 := by
  obtain ⟨e, h12, h1, h2, _⟩ := tkV_dig hk
  unfold tkV
  rw [e]
  split
  · omega
  · have := h2 (by omega)
    omega
theorem c_step {M : pm_M} {n p : Nat} {b : Nat → Nat} (h : tp M n b) (hp : p ≤ n) (h2 : M.1 21 0 2 = nI p) : ∃ M', pm_Ev mTa_step [pm_r 21 0] M none M' ∧ tch [21] M M' ∧ M'.1 21 0 1 = nI n ∧ M'.1 21 0 2 = nI (tkE n b p) ∧ M'.1 21 0 3 = nI (tkK n b p) ∧ M'.1 21 0 4 = nI (tkS n b p) ∧ (tkK n b p = 2 → M'.1 21 0 5 = nI (tkV n b p)) := by
  have hn := h.1
  have hs := tkS_le (b := b) hp
  have e0 := c_blanks h hp h2
  generalize hM4 : pm_set (tsp M (tkS n b p)) 21 0 (upd ((tsp M (tkS n b p)).1 21 0) 4 ((tsp M (tkS n b p)).1 21 0 2)) = M4
  have t4 : tch [21] M M4 := by
    rw [← hM4]
    unfold tsp
    exact tch_set (tch_set tch_rfl (by decide)) (by decide)
  have g1 : M4.1 21 0 1 = nI n := by
    rw [← hM4, pm_set_at, pk_un (by decide), tsp_1]
    exact h.2.1
  have g2 : M4.1 21 0 2 = nI (tkS n b p) := by rw [← hM4, pm_set_at, pk_un (by decide), tsp_2]
  have g4 : M4.1 21 0 4 = nI (tkS n b p) := by rw [← hM4, pm_set_at, pk_us, tsp_2]
  have tp4 : tp M4 n b := ⟨hn, g1, fun i hi => by rw [t4 22 0 (by decide)]; exact h.2.2 i hi⟩
  have start : ∀ M', pm_G mTa_step (if nI (tkS n b p) < nI n then 31 else 23) [some (pm_r 21 0)] [] M4 (pm_D none M') → pm_Ev mTa_step [pm_r 21 0] M none M' := by
    intro M' kk
    refine pm_Sem_of (ls := [some (pm_r 21 0)]) ok_mTa_step (by decide +kernel) rfl (by decide) (Nat.le_of_ble_eq_true rfl) rfl ?_
    refine bTa_step_0 e0 (bTa_step_4 (fun c => ?_) (fun c => ?_))
    · rw [hM4] at c ⊢
      rw [g1, g2] at c
      rw [if_pos c] at kk
      exact kk
    · rw [hM4] at c ⊢
      rw [g1, g2] at c
      rw [if_neg c] at kk
      exact kk
  by_cases q1 : n ≤ tkS n b p
  · have hk : tkK n b p = 0 := by unfold tkK; rw [if_pos q1]
    have he : tkE n b p = tkS n b p := by unfold tkE; rw [if_pos q1]
    rw [hk, he]
    refine ⟨pm_set M4 21 0 (upd (M4.1 21 0) 3 0), start _ ?_, tch_set t4 (by decide), ?_, ?_, ?_, ?_, fun x => absurd x (by decide)⟩
    · rw [if_neg (fun c => by have := (pm_lt4 (by omega) (by omega)).mp c; omega)]
      exact bTa_step_23 (bTa_step_90 ⟨rfl, rfl⟩)
    · rw [pm_set_at, pk_un (by decide)]
      exact g1
    · rw [pm_set_at, pk_un (by decide)]
      exact g2
    · rw [pm_set_at, pk_us]
      rfl
    · rw [pm_set_at, pk_un (by decide)]
      exact g4
  · have lt : nI (tkS n b p) < nI n := (pm_lt4 (by omega) (by omega)).mpr (by omega)
    rw [if_pos lt] at start
    have hb := h.2.2 (tkS n b p) (by omega)
    have vq : vp_in (M4.1 21 0 2) 160 := by rw [g2]; exact pm_vin (by omega) (by omega)
    have eb : M4.1 22 0 (M4.1 21 0 2).toNatClampNeg = nI (b (tkS n b p)) := by rw [g2, pm_cl4 (by omega), t4 22 0 (by decide), hb.2]
    by_cases q2 : b (tkS n b p) = 59
    · have hk : tkK n b p = 3 := by unfold tkK; rw [if_neg q1, if_pos q2]
      have he : tkE n b p = tkS n b p + 1 := by unfold tkE; rw [if_neg q1, if_pos q2]
      rw [hk, he]
      refine ⟨_, start _ (bTa_step_31 vq (fun _ => bTa_step_45 (bTa_step_90 ⟨rfl, rfl⟩)) (fun c => absurd (by rw [eb, q2]; rfl) c)), tch_set (tch_set t4 (by decide)) (by decide), ?_, ?_, ?_, ?_, fun x => absurd x (by decide)⟩
      · rw [pm_set_at, pk_un (by decide), pm_set_at, pk_un (by decide)]
        exact g1
      · rw [pm_set_at, pk_us, pm_set_at, pk_un (by decide), g2, nI_1]
      · rw [pm_set_at, pk_un (by decide), pm_set_at, pk_us]
        rfl
      · rw [pm_set_at, pk_un (by decide), pm_set_at, pk_un (by decide)]
        exact g4
    · have el := c_letters tp4 hs g2
      have nb : ¬ M4.1 22 0 (M4.1 21 0 2).toNatClampNeg = 59 := by
        rw [eb]
        exact fun c => q2 ((pm_eq4 (a := b (tkS n b p)) (b := 59) (by omega) (by omega)).mp c)
      have f1 : ∀ e, (tsp M4 e).1 21 0 4 = nI (tkS n b p) := fun e => by
        unfold tsp
        rw [pm_set_at, pk_un (by decide)]
        exact g4
      by_cases q3 : tx_lt b (tkS n b p) = true
      · have hk : tkK n b p = 1 := by unfold tkK; rw [if_neg q1, if_neg q2, if_pos q3]
        have he : tkE n b p = tx_run (tx_lt b) n (tkS n b p) := by unfold tkE; rw [if_neg q1, if_neg q2, if_pos q3]
        have hgt : tkS n b p + 1 ≤ tkE n b p := by
          rw [he, run_yes (by omega) q3]
          exact run_ge
        have hle : tkE n b p ≤ n := by rw [he]; exact run_le hs
        rw [← he] at el
        rw [hk]
        refine ⟨_, start _ (bTa_step_31 vq (fun c => absurd c nb) (fun _ => bTa_step_63 el (bTa_step_67 (fun c => ?_) (fun _ => bTa_step_79 (bTa_step_87 (bTa_step_90 ⟨rfl, rfl⟩)))))), tch_set (tch_set t4 (by decide)) (by decide), ?_, ?_, ?_, ?_, fun x => absurd x (by decide)⟩
        · rw [tsp_2, f1] at c
          have := (pm_le4 (by omega) (by omega)).mp c
          omega
        · rw [pm_set_at, pk_un (by decide), tsp_1]
          exact g1
        · rw [pm_set_at, pk_un (by decide), tsp_2]
        · rw [pm_set_at, pk_us]
          rfl
        · rw [pm_set_at, pk_un (by decide)]
          exact f1 _
      · have hr : tx_run (tx_lt b) n (tkS n b p) = tkS n b p := run_no q3
        rw [hr, tsp_self g2] at el
        have he : tkE n b p = tx_run (tx_dg b) n (tkS n b p) := by unfold tkE; rw [if_neg q1, if_neg q2, if_neg q3]
        have hk : nI (tkK n b p) = if tx_run (tx_dg b) n (tkS n b p) - tkS n b p = 1 ∨ tx_run (tx_dg b) n (tkS n b p) - tkS n b p = 2 then 2 else 4 := by
          unfold tkK
          rw [if_neg q1, if_neg q2, if_neg q3]
          split <;> rfl
        have ed := c_number tp4 hs g2 g4
        rw [← hk] at ed
        refine ⟨_, start _ (bTa_step_31 vq (fun c => absurd c nb) (fun _ => bTa_step_63 el (bTa_step_67 (fun _ => bTa_step_83 ed (bTa_step_87 (bTa_step_90 ⟨rfl, rfl⟩))) (fun c => ?_)))), tch_set (tch_set t4 (by decide)) (by decide), ?_, ?_, ?_, ?_, fun x => ?_⟩
        · rw [g2, g4] at c
          exact absurd ((pm_le4 (by omega) (by omega)).mpr (by omega)) c
        · rw [pm_set_at, pk_un (by decide), tvp_1]
          exact g1
        · rw [pm_set_at, pk_un (by decide), tvp_2, he]
        · rw [pm_set_at, pk_us]
        · rw [pm_set_at, pk_un (by decide), tvp_4]
          exact g4
        · rw [pm_set_at, pk_un (by decide), tvp_5]
          exact tkV_c x
