/-! THE REST: what is left, its fees and shares -/
def md_fact : Nat → Nat
  | 0 => 1
  | n + 1 => (n + 1) * md_fact n
def re_L (k : Nat) (M : pm_M) : List Nat := md_lst (fun t => decide (M.1 7 k t = -4)) (M.1 4 k 1).toNatClampNeg
def re_P (k : Nat) (M : pm_M) : List Nat := md_lst (fun t => decide (M.1 9 k t = -4)) (M.1 4 k 1).toNatClampNeg
def re_fl (M : pm_M) (l lp : List Nat) : pm_M := pm_set (pm_set (pm_set M 13 0 (md_arr l (M.1 13 0))) 14 0 (md_arr lp (M.1 14 0))) 12 0 (upd (M.1 12 0) 0 (nI l.length))
def re_flo (M : pm_M) (l lp : List Nat) (o : Int32) : pm_M := pm_set (pm_set (pm_set M 13 0 (md_arr l (M.1 13 0))) 14 0 (md_arr lp (M.1 14 0))) 12 0 (upd (upd (M.1 12 0) 0 (nI l.length)) 1 o)
def gRe_look (k1 : Nat) (M : pm_M) : pm_M := re_flo M (re_L k1 M) (re_P k1 M) (nI (md_fact (re_L k1 M).length))
def sRe_look (k1 : Nat) (M : pm_M) : Prop := pm_small (M.1 4 k1 1)
theorem re_fl_nil (M : pm_M) : re_fl M [] [] = pm_set M 12 0 (upd (M.1 12 0) 0 0) := by
  unfold re_fl
  have e1 : md_arr [] (M.1 13 0) = M.1 13 0 := by funext a; simp [md_arr]
  have e2 : md_arr [] (M.1 14 0) = M.1 14 0 := by funext a; simp [md_arr]
  rw [e1, e2, pm_set_self, pm_set_self]
  rfl
theorem fWh_isTicketIn_any {k : Nat} {M : pm_M} {T i : Nat} (hT : M.1 4 k 1 = nI T) (h4 : T ≤ 4) (hi : i < 4) : fWh_isTicketIn k (nI i) M = if decide (i < T) && decide (M.1 7 k i = -4) then 1 else 0 := by
  by_cases h : i < T
  · rw [fWh_isTicketIn_at hT h4 h]
    simp [h]
  · unfold fWh_isTicketIn
    rw [fWh_hasTicket_at hT h4 (by omega), if_neg h]
    simp [h]
theorem fWh_isPrizeIn_any {k : Nat} {M : pm_M} {T i : Nat} (hT : M.1 4 k 1 = nI T) (h4 : T ≤ 4) (hi : i < 4) : fWh_isPrizeIn k (nI i) M = if decide (i < T) && decide (M.1 9 k i = -4) then 1 else 0 := by
  by_cases h : i < T
  · rw [fWh_isPrizeIn_at hT h4 h]
    simp [h]
  · unfold fWh_isPrizeIn
    rw [fWh_hasPrize_at hT h4 (by omega), if_neg h]
    simp [h]
theorem md_lst_cut (p : Nat → Bool) (T : Nat) : ∀ n, T ≤ n → md_lst (fun i => decide (i < T) && p i) n = md_lst p T := by
  intro n hn
  induction n with
  | zero =>
    have : T = 0 := by omega
    subst this
    rfl
  | succ n ih =>
    by_cases h : T = n + 1
    · subst h
      unfold md_lst
      apply List.filter_congr
      intro x hx
      have := List.mem_range.mp hx
      simp [this]
    · rw [md_lst_succ, ih (by omega), if_neg]
      have : ¬ n < T := by omega
      simp [this]
def sRe_look_14 (k1 : Nat) (a2 : Int32) (a3 : Int32) (M : pm_M) : Prop := (sWh_isTicketIn k1 a3 M ∧ ((((fWh_isTicketIn k1 a3 M) = 0 → True) ∧ (¬ ((fWh_isTicketIn k1 a3 M) = 0) → (vp_in (M.1 12 0 0) 4)))))
theorem tRe_look_14 {k1 : Nat} {a2 : Int32} {a3 : Int32} {M : pm_M} {Q : Option pm_V → pm_M → Prop} (hs : sRe_look_14 k1 a2 a3 M) (kk : pm_G mRe_look 42 [some (pm_r 12 0), some (pm_r 4 k1), some (pm_i a2), some (pm_i a3)] [] (if (fWh_isTicketIn k1 a3 M) = 0 then M else (pm_set (pm_set M 13 0 (upd (M.1 13 0) (Int32.toNatClampNeg (M.1 12 0 0)) a3)) 12 0 (upd (M.1 12 0) 0 ((M.1 12 0 0) + 1)))) Q) : pm_G mRe_look 14 [some (pm_r 12 0), some (pm_r 4 k1), some (pm_i a2), some (pm_i a3)] [] M Q := by
  unfold sRe_look_14 at hs
  refine bRe_look_14 (eWh_isTicketIn (hs.1)) ?_
  refine bRe_look_19 (fun h1 => ?_) (fun h1 => ?_)
  · try simp only [if_pos h1] at kk
    exact kk
  · try simp only [if_neg h1] at kk
    refine bRe_look_22 ((hs.2.2 h1)) ?_
    exact kk

def sRe_look_42 (k1 : Nat) (a2 : Int32) (a3 : Int32) (M : pm_M) : Prop := (sWh_isPrizeIn k1 a3 M ∧ ((((fWh_isPrizeIn k1 a3 M) = 0 → True) ∧ (¬ ((fWh_isPrizeIn k1 a3 M) = 0) → (vp_in a2 4)))))
theorem tRe_look_42 {k1 : Nat} {a2 : Int32} {a3 : Int32} {M : pm_M} {Q : Option pm_V → pm_M → Prop} (hs : sRe_look_42 k1 a2 a3 M) (kk : pm_G mRe_look 9 [some (pm_r 12 0), some (pm_r 4 k1), some (pm_i (if (fWh_isPrizeIn k1 a3 M) = 0 then a2 else (a2 + 1))), some (pm_i (a3 + 1))] [] (if (fWh_isPrizeIn k1 a3 M) = 0 then M else (pm_set M 14 0 (upd (M.1 14 0) (Int32.toNatClampNeg a2) a3))) Q) : pm_G mRe_look 42 [some (pm_r 12 0), some (pm_r 4 k1), some (pm_i a2), some (pm_i a3)] [] M Q := by
  unfold sRe_look_42 at hs
  refine bRe_look_42 (eWh_isPrizeIn (hs.1)) ?_
  refine bRe_look_47 (fun h1 => ?_) (fun h1 => ?_)
  · try simp only [if_pos h1] at kk
    refine bRe_look_60 ?_
    exact kk
  · try simp only [if_neg h1] at kk
    refine bRe_look_50 ((hs.2.2 h1)) ?_
    refine bRe_look_60 ?_
    exact kk

theorem md_fact4 {n : Nat} (h : n ≤ 4) : md_fact n ≤ 24 := by
  have : ∀ n : Fin 5, md_fact n.val ≤ 24 := by decide +kernel
  exact this ⟨n, by omega⟩
set_option maxHeartbeats 1000000 in
theorem eRe_look {k1 : Nat} {M : pm_M} (hs : sRe_look k1 M) : pm_Ev mRe_look [pm_r 12 0, pm_r 4 k1] M none (gRe_look k1 M) := by
  refine pm_Sem_of (ls := [some (pm_r 12 0), some (pm_r 4 k1), none, none]) ok_mRe_look (by decide +kernel) rfl (by decide) (Nat.le_of_ble_eq_true rfl) rfl ?_
  obtain ⟨T, h4, hT⟩ := hs
  have eL : re_L k1 M = md_lst (fun i => decide (i < T) && decide (M.1 7 k1 i = -4)) 4 := by
    unfold re_L
    rw [hT, pm_cl4 (by omega), ← md_lst_cut _ T 4 h4]
  have eP : re_P k1 M = md_lst (fun i => decide (i < T) && decide (M.1 9 k1 i = -4)) 4 := by
    unfold re_P
    rw [hT, pm_cl4 (by omega), ← md_lst_cut _ T 4 h4]
  unfold gRe_look
  rw [eL, eP]
  generalize hpt : (fun i => decide (i < T) && decide (M.1 7 k1 i = -4)) = pt
  generalize hpp : (fun i => decide (i < T) && decide (M.1 9 k1 i = -4)) = pp
  refine bRe_look_0 ?_
  rw [← re_fl_nil]
  have rT : ∀ l lp, (re_fl M l lp).1 4 k1 1 = nI T := fun l lp => by unfold re_fl; rw [pm_set_ne _ _ (by decide), pm_set_ne _ _ (by decide), pm_set_ne _ _ (by decide), hT]
  have r7 : ∀ l lp, (re_fl M l lp).1 7 k1 = M.1 7 k1 := fun l lp => by unfold re_fl; rw [pm_set_ne _ _ (by decide), pm_set_ne _ _ (by decide), pm_set_ne _ _ (by decide)]
  have r9 : ∀ l lp, (re_fl M l lp).1 9 k1 = M.1 9 k1 := fun l lp => by unfold re_fl; rw [pm_set_ne _ _ (by decide), pm_set_ne _ _ (by decide), pm_set_ne _ _ (by decide)]
  have rn : ∀ l lp, (re_fl M l lp).1 12 0 0 = nI l.length := fun l lp => by unfold re_fl; rw [pm_set_at]; unfold upd; rw [if_pos rfl]
  have r13 : ∀ l lp, (re_fl M l lp).1 13 0 = md_arr l (M.1 13 0) := fun l lp => by unfold re_fl; rw [pm_set_ne _ _ (by decide), pm_set_ne _ _ (by decide), pm_set_at]
  have r14 : ∀ l lp, (re_fl M l lp).1 14 0 = md_arr lp (M.1 14 0) := fun l lp => by unfold re_fl; rw [pm_set_ne _ _ (by decide), pm_set_at]
  have r12 : ∀ l lp, (re_fl M l lp).1 12 0 = upd (M.1 12 0) 0 (nI l.length) := fun l lp => by unfold re_fl; rw [pm_set_at]
  have p13 : ∀ (l lp : List Nat) (n : Nat), pm_set (pm_set (re_fl M l lp) 13 0 (upd ((re_fl M l lp).1 13 0) l.length (nI n))) 12 0 (upd ((re_fl M l lp).1 12 0) 0 (nI (l.length + 1))) = re_fl M (l ++ [n]) lp := by
    intro l lp n
    rw [r13, r12, md_arr_put, upd_upd]
    unfold re_fl
    rw [pm_set_comm (t := 12) (t' := 13) (by decide), pm_set_set, pm_set_comm (t := 14) (t' := 13) (by decide), pm_set_set]
    simp
  have p14 : ∀ (l lp : List Nat) (n : Nat), pm_set (re_fl M l lp) 14 0 (upd ((re_fl M l lp).1 14 0) lp.length (nI n)) = re_fl M l (lp ++ [n]) := by
    intro l lp n
    rw [r14, md_arr_put]
    unfold re_fl
    rw [pm_set_comm (t := 12) (t' := 14) (by decide), pm_set_set]
  refine pm_upto (N := 4) (P := fun i => pm_G mRe_look 9 [some (pm_r 12 0), some (pm_r 4 k1), some (pm_i (nI (md_lst pp i).length)), some (pm_i (nI i))] [] (re_fl M (md_lst pt i) (md_lst pp i)) (pm_D none (re_flo M (md_lst pt 4) (md_lst pp 4) (nI (md_fact (md_lst pt 4).length))))) ?_ ?_ 0 (Nat.zero_le _)
  · refine bRe_look_9 (fun _ => ?_) (fun h => absurd (show nI 4 ≤ nI 4 from (pm_le4 (by omega) (by omega)).mpr (Nat.le_refl _)) h)
    have hl := md_lst_len pt 4
    generalize md_lst pt 4 = l at hl ⊢
    generalize md_lst pp 4 = lp
    refine bRe_look_66 ?_
    have e0 : ∀ o, pm_set (re_fl M l lp) 12 0 (upd ((re_fl M l lp).1 12 0) 1 o) = re_flo M l lp o := fun o => by rw [r12]; unfold re_fl re_flo; rw [pm_set_set]
    have en : ∀ o, (re_flo M l lp o).1 12 0 0 = nI l.length := fun o => by unfold re_flo; rw [pm_set_at]; unfold upd; rw [if_neg (by decide), if_pos rfl]
    have eo : ∀ o, (re_flo M l lp o).1 12 0 1 = o := fun o => by unfold re_flo; rw [pm_set_at]; unfold upd; rw [if_pos rfl]
    have ep : ∀ o o', pm_set (re_flo M l lp o) 12 0 (upd ((re_flo M l lp o).1 12 0) 1 o') = re_flo M l lp o' := fun o o' => by unfold re_flo; rw [pm_set_set, pm_set_at, upd_upd]
    rw [e0]
    -- the factorial, up from 2
    have fin : ∀ i, l.length < i → i ≤ 6 → ∀ o, o = nI (md_fact l.length) → pm_G mRe_look 73 [some (pm_r 12 0), some (pm_r 4 k1), some (pm_i (nI lp.length)), some (pm_i (nI i))] [] (re_flo M l lp o) (pm_D none (re_flo M l lp (nI (md_fact l.length)))) := by
      intro i hi h6 o ho
      subst ho
      refine bRe_look_73 (fun _ => bRe_look_97 ⟨rfl, rfl⟩) (fun h => absurd ?_ h)
      rw [en]
      exact (pm_lt4 (by omega) (by omega)).mpr hi
    have go : ∀ i, 2 ≤ i → i ≤ l.length → pm_G mRe_look 73 [some (pm_r 12 0), some (pm_r 4 k1), some (pm_i (nI lp.length)), some (pm_i (nI (i + 1)))] [] (re_flo M l lp (nI (md_fact i))) (pm_D none (re_flo M l lp (nI (md_fact l.length)))) → pm_G mRe_look 73 [some (pm_r 12 0), some (pm_r 4 k1), some (pm_i (nI lp.length)), some (pm_i (nI i))] [] (re_flo M l lp (nI (md_fact (i - 1)))) (pm_D none (re_flo M l lp (nI (md_fact l.length)))) := by
      intro i h2 hi kk
      refine bRe_look_73 (fun h => ?_) (fun _ => ?_)
      · rw [en] at h
        have := (pm_lt4 (by omega) (by omega)).mp h
        omega
      · refine bRe_look_81 ?_
        rw [eo, ep, pk_mul, nI_1]
        have e : md_fact (i - 1) * i = md_fact i := by
          obtain ⟨j, rfl⟩ : ∃ j, i = j + 1 := ⟨i - 1, by omega⟩
          rw [md_fact, Nat.mul_comm]
          rfl
        rw [e]
        exact kk
    show pm_G mRe_look 73 [some (pm_r 12 0), some (pm_r 4 k1), some (pm_i (nI lp.length)), some (pm_i (nI 2))] [] (re_flo M l lp (nI 1)) (pm_D none (re_flo M l lp (nI (md_fact l.length))))
    by_cases h2 : l.length < 2
    · refine fin 2 h2 (by omega) _ ?_
      have : ∀ n : Fin 2, nI 1 = nI (md_fact n.val) := by decide +kernel
      exact this ⟨l.length, h2⟩
    · refine go 2 (by omega) (by omega) ?_
      by_cases h3 : l.length < 3
      · exact fin 3 h3 (by omega) _ (by rw [show l.length = 2 by omega])
      · refine go 3 (by omega) (by omega) ?_
        by_cases h4 : l.length < 4
        · exact fin 4 h4 (by omega) _ (by rw [show l.length = 3 by omega])
        · refine go 4 (by omega) (by omega) ?_
          exact fin 5 (by omega) (by omega) _ (by rw [show l.length = 4 by omega])
  · intro i hi k2
    have hl := md_lst_len pt i
    have hlp := md_lst_len pp i
    rw [md_lst_succ, md_lst_succ, ← nI_1] at k2
    refine bRe_look_9 (fun h => ?_) (fun _ => ?_)
    · have := (pm_le4 (a := 4) (b := i) (by omega) (by omega)).mp h
      omega
    · refine tRe_look_14 ⟨⟨fun _ => trivial, fun _ => pm_vin (by omega) (by omega)⟩, fun _ => trivial, fun _ => by rw [rn]; exact pm_vin (by omega) (by omega)⟩ ?_
      have q1 : fWh_isTicketIn k1 (nI i) (re_fl M (md_lst pt i) (md_lst pp i)) = if pt i = true then 1 else 0 := by
        rw [fWh_isTicketIn_any (rT _ _) h4 hi, r7, ← hpt]
      rw [q1, rn, pm_cl4 (show (md_lst pt i).length ≤ 1000 by omega), nI_1, p13]
      have m1 : (if (if pt i = true then (1 : Int32) else 0) = 0 then re_fl M (md_lst pt i) (md_lst pp i) else re_fl M (md_lst pt i ++ [i]) (md_lst pp i)) = re_fl M (if pt i = true then md_lst pt i ++ [i] else md_lst pt i) (md_lst pp i) := by
        by_cases h : pt i = true
        · simp [h]
        · simp [h]
      rw [m1]
      generalize (if pt i = true then md_lst pt i ++ [i] else md_lst pt i) = l at k2 ⊢
      refine tRe_look_42 ⟨⟨fun _ => trivial, fun _ => pm_vin (by omega) (by omega)⟩, fun _ => trivial, fun _ => pm_vin (by omega) (by omega)⟩ ?_
      have q2 : fWh_isPrizeIn k1 (nI i) (re_fl M l (md_lst pp i)) = if pp i = true then 1 else 0 := by
        rw [fWh_isPrizeIn_any (rT _ _) h4 hi, r9, ← hpp]
      rw [q2, pm_cl4 (show (md_lst pp i).length ≤ 1000 by omega), p14]
      by_cases h : pp i = true
      · simp only [h, if_true] at k2 ⊢
        rw [if_neg (by decide), if_neg (by decide), nI_1]
        rw [List.length_append] at k2
        exact k2
      · simp only [h, if_false] at k2 ⊢
        try simp only [if_true]
        exact k2
