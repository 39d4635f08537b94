/-! the reference's orders: numbers of n digits -/
def dg (n N i : Nat) : Nat := N / n ^ (n - 1 - i) % n
def md_or (n N : Nat) : Nat → Nat
  | 0 => 0
  | c + 1 => md_or n N c ||| 2 ^ (N / n ^ c % n)
def isP (n N : Nat) : Bool := md_or n N n == 2 ^ n - 1
theorem md_or_lt {n N : Nat} (hn : n ≤ 4) (h0 : 0 < n) : ∀ c, md_or n N c < 16
  | 0 => by show 0 < 16; decide
  | c + 1 => by
    rw [md_or]
    have h1 := md_or_lt (N := N) hn h0 c
    have h2 : N / n ^ c % n < n := Nat.mod_lt _ h0
    have h3 := Nat.pow_le_pow_right (show 0 < 2 by omega) (show N / n ^ c % n ≤ 3 by omega)
    exact Nat.or_lt_two_pow (n := 4) h1 (by omega)
theorem md_all {n : Nat} (hn : n ≤ 4) : (1 <<< (nI n &&& 31)) - 1 = nI (2 ^ n - 1) ∧ 2 ^ n - 1 ≤ 1000 := (by decide +kernel : ∀ n : Fin 5, ((1 : Int32) <<< (nI n.val &&& 31)) - 1 = nI (2 ^ n.val - 1) ∧ 2 ^ n.val - 1 ≤ 1000) ⟨n, by omega⟩
theorem md_ix {o i : Nat} (ho : o ≤ 24) (hi : i < 4) : Int32.toNatClampNeg ((4 * nI o) + nI i) = 4 * o + i ∧ vp_in ((4 * nI o) + nI i) 100 := by
  have : ∀ o : Fin 25, ∀ i : Fin 4, Int32.toNatClampNeg ((4 * nI o.val) + nI i.val) = 4 * o.val + i.val ∧ vp_in ((4 * nI o.val) + nI i.val) 100 := by
    unfold vp_in
    decide +kernel
  exact this ⟨o, by omega⟩ ⟨i, hi⟩
theorem ev_adds {M : pm_M} {n N om : Nat} (hn : n ≤ 4) (hN : N < 2 ^ 31) (hom : om ≤ 24) (h22 : M.1 29 0 22 = nI n) (h21 : M.1 29 0 21 = nI om) : pm_Ev mMo_addsOrder [pm_r 29 0, pm_i (nI N)] M none (pm_set (pm_set M 36 0 (fun j => if 4 * om ≤ j ∧ j < 4 * om + n then nI (dg n N (j - 4 * om)) else M.1 36 0 j)) 29 0 (upd (M.1 29 0) 21 (nI (om + if isP n N = true then 1 else 0)))) := by
  refine pm_Sem_of (ls := [some (pm_r 29 0), some (pm_i (nI N)), none, none, none, none]) ok_mMo_addsOrder (by decide +kernel) rfl (by decide) (Nat.le_of_ble_eq_true rfl) rfl ?_
  refine bMo_addsOrder_0 ?_
  rw [h22]
  have r22 : ∀ g, (pm_set M 36 0 g).1 29 0 22 = nI n := fun g => by rw [pm_set_ne _ _ (by decide), h22]
  have r21 : ∀ g, (pm_set M 36 0 g).1 29 0 21 = nI om := fun g => by rw [pm_set_ne _ _ (by decide), h21]
  have key := pm_upto (N := n) (P := fun c => pm_G mMo_addsOrder 12 [some (pm_r 29 0), some (pm_i (nI N)), some (pm_i (nI (N / n ^ c))), some (pm_i (nI (md_or n N c))), some (pm_i (nI (n - c) - 1)), none] [] (pm_set M 36 0 (fun j => if 4 * om + (n - c) ≤ j ∧ j < 4 * om + n then nI (dg n N (j - 4 * om)) else M.1 36 0 j)) (pm_D none (pm_set (pm_set M 36 0 (fun j => if 4 * om ≤ j ∧ j < 4 * om + n then nI (dg n N (j - 4 * om)) else M.1 36 0 j)) 29 0 (upd (M.1 29 0) 21 (nI (om + if isP n N = true then 1 else 0)))))) ?_ ?_ 0 (Nat.zero_le _)
  · rw [Nat.pow_zero, Nat.div_one, pm_set_id (M := M) (t := 36) (k := 0) (fun j => by rw [if_neg (by omega)])] at key
    exact key
  · rw [Nat.sub_self, Nat.add_zero]
    refine bMo_addsOrder_12 (fun _ => ?_) (fun q => absurd (by decide) q)
    have fin : ∀ b : Int32, b = (if isP n N = true then 1 else 0) → pm_G mMo_addsOrder 83 [some (pm_r 29 0), some (pm_i (nI N)), some (pm_i (nI (N / n ^ n))), some (pm_i (nI (md_or n N n))), some (pm_i (nI 0 - 1)), none] [pm_i b, pm_i (nI om), pm_r 29 0] (pm_set M 36 0 (fun j => if 4 * om ≤ j ∧ j < 4 * om + n then nI (dg n N (j - 4 * om)) else M.1 36 0 j)) (pm_D none (pm_set (pm_set M 36 0 (fun j => if 4 * om ≤ j ∧ j < 4 * om + n then nI (dg n N (j - 4 * om)) else M.1 36 0 j)) 29 0 (upd (M.1 29 0) 21 (nI (om + if isP n N = true then 1 else 0))))) := by
      intro b hb
      refine bMo_addsOrder_83 eMo_flag (bMo_addsOrder_86 ⟨rfl, ?_⟩)
      have e : ∀ M', nI om + fMo_flag b M' = nI (om + if isP n N = true then 1 else 0) := by
        intro M'
        rw [hb]
        unfold fMo_flag
        by_cases q : isP n N = true
        · rw [if_pos q, if_pos q, if_neg (by decide)]
          exact nI_1 om
        · rw [if_neg q, if_neg q, if_pos rfl, Nat.add_zero]
          exact Int32.add_zero _
      rw [e, pm_set_ne _ _ (by decide)]
    refine bMo_addsOrder_61 (fun q => ?_) (fun q => ?_)
    · rw [r21]
      rw [r22, (md_all hn).1] at q
      refine bMo_addsOrder_78 (fin _ ?_)
      rw [if_pos]
      unfold isP
      rw [beq_iff_eq]
      rcases Nat.eq_zero_or_pos n with h0 | h0
      · subst h0; rfl
      · exact (pm_eq4 (by have := md_or_lt (N := N) hn h0 n; omega) (md_all hn).2).mp q
    · rw [r21]
      rw [r22, (md_all hn).1] at q
      refine bMo_addsOrder_82 (fin _ ?_)
      rw [if_neg]
      unfold isP
      rw [beq_iff_eq]
      intro e
      exact q (by rw [e])
  · intro c hc k2
    have h0 : 0 < n := by omega
    have e1 : nI (n - c) - 1 = nI (n - c - 1) := by
      have := nI_pred (n - c - 1)
      rw [show n - c - 1 + 1 = n - c by omega] at this
      exact this
    rw [show n - (c + 1) = n - c - 1 by omega] at k2
    refine bMo_addsOrder_12 (fun q => ?_) (fun _ => ?_)
    · rw [e1] at q
      exact absurd q (pm_pos4 (by omega))
    · have hb : N / n ^ c < 2 ^ 31 := Nat.lt_of_le_of_lt (Nat.div_le_self _ _) hN
      have hm : N / n ^ c % n < n := Nat.mod_lt _ h0
      rw [e1]
      refine bMo_addsOrder_17 (by rw [r22]; exact nI_ne0 h0 (by omega)) (by rw [r22]; exact nI_ne0 h0 (by omega)) (by rw [r21]; exact (md_ix hom (by omega)).2) ?_
      rw [r22, r21, pk_div hb h0 (by omega), (md_ix hom (show n - c - 1 < 4 by omega)).1, pm_set_set, pm_set_at]
      rw [show nI (N / n ^ c) - nI (N / n ^ c / n) * nI n = nI (N / n ^ c % n) by rw [← pk_div hb h0 (by omega)]; exact pk_rem hb h0 (by omega)]
      rw [re_or_I (md_or_lt hn h0 c) (show N / n ^ c % n < 4 by omega)]
      have e2 : nI (n - c - 1) + -1 = nI (n - c - 1) - 1 := (Int32.sub_eq_add_neg ..).symm
      rw [e2]
      have e3 : N / n ^ c / n = N / n ^ (c + 1) := by rw [Nat.div_div_eq_div_mul, Nat.pow_succ]
      rw [e3]
      have e4 : upd (fun j => if 4 * om + (n - c) ≤ j ∧ j < 4 * om + n then nI (dg n N (j - 4 * om)) else M.1 36 0 j) (4 * om + (n - c - 1)) (nI (N / n ^ c % n)) = (fun j => if 4 * om + (n - c - 1) ≤ j ∧ j < 4 * om + n then nI (dg n N (j - 4 * om)) else M.1 36 0 j) := by
        funext j
        unfold upd
        dsimp only
        by_cases h2 : j = 4 * om + (n - c - 1)
        · subst h2
          rw [if_pos rfl, if_pos (by omega)]
          unfold dg
          rw [show n - 1 - (4 * om + (n - c - 1) - 4 * om) = c by omega]
        · rw [if_neg h2]
          by_cases h1 : 4 * om + (n - c) ≤ j ∧ j < 4 * om + n
          · rw [if_pos h1, if_pos (by omega)]
          · rw [if_neg h1, if_neg (by omega)]
      rw [e4]
      exact pm_G_le (ls' := [some (pm_r 29 0), some (pm_i (nI N)), some (pm_i (nI (N / n ^ (c + 1)))), some (pm_i (nI (md_or n N (c + 1)))), some (pm_i (nI (n - c - 1) - 1)), none]) ⟨Or.inr rfl, Or.inr rfl, Or.inr rfl, Or.inr rfl, Or.inr rfl, Or.inl rfl, trivial⟩ k2
def fMo_power (a1 : Int32) (_M : pm_M) : Int32 := nI (a1.toNatClampNeg ^ a1.toNatClampNeg)
def sMo_power (a1 : Int32) (_M : pm_M) : Prop := ∃ n, n ≤ 4 ∧ a1 = nI n
theorem eMo_power {a1 : Int32} {M : pm_M} (hs : sMo_power a1 M) : pm_Ev mMo_power [pm_r 29 0, pm_i a1] M (some (pm_i (fMo_power a1 M))) M := by
  refine pm_Sem_of (ls := [some (pm_r 29 0), some (pm_i a1), none, none]) ok_mMo_power (by decide +kernel) rfl (by decide) (Nat.le_of_ble_eq_true rfl) rfl ?_
  obtain ⟨n, hn, rfl⟩ := hs
  unfold fMo_power
  rw [pm_cl4 (by omega)]
  refine bMo_power_0 ?_
  refine pm_upto (N := n) (P := fun k => pm_G mMo_power 4 [some (pm_r 29 0), some (pm_i (nI n)), some (pm_i (nI (n ^ k))), some (pm_i (nI k))] [] M (pm_D (some (pm_i (nI (n ^ n)))) M)) ?_ ?_ 0 (Nat.zero_le _)
  · exact bMo_power_4 (fun _ => bMo_power_19 ⟨rfl, rfl⟩) (fun q => absurd (pm_yle rfl (by omega)) q)
  · intro k hk k2
    refine bMo_power_4 (fun q => absurd q (pm_nle rfl hk (by omega))) (fun _ => bMo_power_9 ?_)
    rw [pk_mul, nI_1, ← Nat.pow_succ]
    exact k2
/-- the numbers that are orders -/
def OL (n N : Nat) : List Nat := md_lst (isP n) N
theorem OL_mono {n : Nat} : ∀ {N K : Nat}, N ≤ K → (OL n N).length ≤ (OL n K).length
  | N, 0, h => by
    have : N = 0 := by omega
    rw [this]
    exact Nat.le_refl _
  | N, K + 1, h => by
    by_cases e : N = K + 1
    · rw [e]
      exact Nat.le_refl _
    · have := OL_mono (n := n) (N := N) (K := K) (by omega)
      unfold OL at this ⊢
      rw [md_lst_succ]
      split
      · rw [List.length_append]
        omega
      · exact this
theorem OL_len {n : Nat} (hn : n ≤ 4) : (OL n (n ^ n)).length = md_fact n := (by decide +kernel : ∀ n : Fin 5, (OL n.val (n.val ^ n.val)).length = md_fact n.val) ⟨n, by omega⟩
def OR (n r i : Nat) : Nat := dg n ((OL n (n ^ n)).getD r 0) i
def OP (n : Nat) (g : Nat → Int32) (N : Nat) : Prop := ∀ r i, r < (OL n N).length → i < n → g (4 * r + i) = nI (dg n ((OL n N).getD r 0) i)
def mo_o (M : pm_M) (n : Nat) (g : Nat → Int32) (N : Nat) : pm_M := pm_set (pm_set M 36 0 g) 29 0 (upd (M.1 29 0) 21 (nI (OL n N).length))
theorem OP_step {n N : Nat} {g : Nat → Int32} (hn : n ≤ 4) (h : OP n g N) : OP n (fun j => if 4 * (OL n N).length ≤ j ∧ j < 4 * (OL n N).length + n then nI (dg n N (j - 4 * (OL n N).length)) else g j) (N + 1) := by
  intro r i hr hi
  have h' : ∀ r i, r < (md_lst (isP n) N).length → i < n → g (4 * r + i) = nI (dg n ((md_lst (isP n) N).getD r 0) i) := h
  unfold OL at hr ⊢
  rw [md_lst_succ] at hr ⊢
  by_cases hp : isP n N = true
  · rw [if_pos hp] at hr ⊢
    rw [List.length_append, List.length_singleton] at hr
    dsimp only
    by_cases e : r = (md_lst (isP n) N).length
    · subst e
      rw [if_pos (by omega), List.getD_eq_getElem?_getD, List.getElem?_append_right (Nat.le_refl _), Nat.sub_self, Nat.add_sub_cancel_left]
      rfl
    · rw [if_neg (by omega), h' r i (by omega) hi, List.getD_eq_getElem?_getD, List.getD_eq_getElem?_getD, List.getElem?_append_left (by omega)]
  · rw [if_neg hp] at hr ⊢
    dsimp only
    rw [if_neg (by omega)]
    exact h' r i hr hi
theorem m_findOrders {M : pm_M} {T n : Nat} (h4 : T ≤ 4) (hT : M.1 29 0 4 = nI T) (hn : (aL (M.1 30 0) T).length = n) : ∃ M', pm_Ev mMo_findOrders [pm_r 29 0] M none M' ∧ M'.1 29 0 21 = nI (md_fact n) ∧ M'.1 29 0 22 = nI n ∧ (∀ r i, r < md_fact n → i < n → M'.1 36 0 (4 * r + i) = nI (OR n r i)) ∧ (∀ i, i < n → M'.1 37 0 i = nI ((aL (M.1 30 0) T).getD i 0)) ∧ (∀ i, i < (aP (M.1 30 0) T).length → M'.1 38 0 i = nI ((aP (M.1 30 0) T).getD i 0)) ∧ (∀ t k, t ≠ 29 → t ≠ 36 → t ≠ 37 → t ≠ 38 → M'.1 t k = M.1 t k) ∧ (∀ j, j ≠ 21 → j ≠ 22 → M'.1 29 0 j = M.1 29 0 j) ∧ M'.2 = M.2 := by
  have hn4 : n ≤ 4 := by have := aL_len (f := M.1 30 0) (T := T); omega
  have eg : gMo_findLeft M = md_fl M (aL (M.1 30 0) T) (aP (M.1 30 0) T) := by
    unfold gMo_findLeft aL aP
    rw [hT, pm_cl4 (by omega)]
  generalize hM1 : md_fl M (aL (M.1 30 0) T) (aP (M.1 30 0) T) = M1
  have r22 : M1.1 29 0 22 = nI n := by
    rw [← hM1]
    unfold md_fl upd
    rw [pm_set_at, if_pos rfl, hn]
  have hpow : n ^ n ≤ 256 := (by decide : ∀ n : Fin 5, n.val ^ n.val ≤ 256) ⟨n, by omega⟩
  have s22 : ∀ g N, (mo_o M1 n g N).1 29 0 22 = nI n := fun g N => by unfold mo_o upd; rw [pm_set_at, if_neg (by decide), r22]
  have s21 : ∀ g N, (mo_o M1 n g N).1 29 0 21 = nI (OL n N).length := fun g N => by unfold mo_o upd; rw [pm_set_at, if_pos rfl]
  have loop : ∀ g, ∃ g', pm_G mMo_findOrders 11 [some (pm_r 29 0), some (pm_i (nI 0))] [] (mo_o M1 n g 0) (pm_D none (mo_o M1 n g' (n ^ n))) ∧ OP n g' (n ^ n) := by
    intro g
    refine pm_upto (N := n ^ n) (P := fun N => ∀ g, OP n g N → ∃ g', pm_G mMo_findOrders 11 [some (pm_r 29 0), some (pm_i (nI N))] [] (mo_o M1 n g N) (pm_D none (mo_o M1 n g' (n ^ n))) ∧ OP n g' (n ^ n)) ?_ ?_ 0 (Nat.zero_le _) g (fun r i hr => absurd hr (Nat.not_lt_zero _))
    · intro g hg
      refine ⟨g, ?_, hg⟩
      refine bMo_findOrders_11 (eMo_power ⟨n, hn4, s22 _ _⟩) (bMo_findOrders_20 (fun _ => bMo_findOrders_34 ⟨rfl, rfl⟩) (fun q => absurd (pm_yle (N := n ^ n) ?_ (by omega)) q))
      unfold fMo_power
      rw [s22, pm_cl4 (by omega)]
    · intro N hN ih g hg
      obtain ⟨g', k1, k2⟩ := ih _ (OP_step hn4 hg)
      refine ⟨g', ?_, k2⟩
      have hlen : (OL n N).length ≤ 24 := by
        have := OL_mono (n := n) (show N ≤ n ^ n by omega)
        rw [OL_len hn4] at this
        have := (md_fact24 hn4).1
        omega
      refine bMo_findOrders_11 (eMo_power ⟨n, hn4, s22 _ _⟩) (bMo_findOrders_20 (fun q => absurd q (pm_nle (N := n ^ n) ?_ hN (by omega))) (fun _ => bMo_findOrders_23 (ev_adds hn4 (by omega) hlen (s22 _ _) (s21 _ _)) (bMo_findOrders_28 ?_)))
      · unfold fMo_power
        rw [s22, pm_cl4 (by omega)]
      · rw [nI_1]
        have e : pm_set (pm_set (mo_o M1 n g N) 36 0 (fun j => if 4 * (OL n N).length ≤ j ∧ j < 4 * (OL n N).length + n then nI (dg n N (j - 4 * (OL n N).length)) else (mo_o M1 n g N).1 36 0 j)) 29 0 (upd ((mo_o M1 n g N).1 29 0) 21 (nI ((OL n N).length + if isP n N = true then 1 else 0))) = mo_o M1 n (fun j => if 4 * (OL n N).length ≤ j ∧ j < 4 * (OL n N).length + n then nI (dg n N (j - 4 * (OL n N).length)) else g j) (N + 1) := by
          have el : (OL n (N + 1)).length = (OL n N).length + if isP n N = true then 1 else 0 := by
            unfold OL
            rw [md_lst_succ]
            split
            · rw [List.length_append]
              rfl
            · rfl
          unfold mo_o
          rw [pm_set_at, upd_upd, pm_set_comm (t := 29) (t' := 36) (by decide), pm_set_set, pm_set_set, el, pm_set_ne _ _ (show (29 : Nat) ≠ 36 by decide), pm_set_at]
        rw [e]
        exact k1
  have e0 : ∀ g, g = M1.1 36 0 → pm_set M1 29 0 (upd (M1.1 29 0) 21 0) = mo_o M1 n g 0 := by
    intro g hg
    unfold mo_o
    rw [hg, pm_set_self]
    rfl
  obtain ⟨g', k1, k2⟩ := loop (M1.1 36 0)
  refine ⟨mo_o M1 n g' (n ^ n), ?_, ?_, s22 _ _, fun r i hr hi => ?_, fun i hi => ?_, fun i hi => ?_, fun t k a1 a2 a3 a4 => ?_, fun j a1 a2 => ?_, ?_⟩
  · refine pm_Sem_of (ls := [some (pm_r 29 0), none]) ok_mMo_findOrders (by decide +kernel) rfl (by decide) (Nat.le_of_ble_eq_true rfl) rfl ?_
    refine bMo_findOrders_0 (eMo_findLeft ⟨T, h4, hT⟩) (bMo_findOrders_4 ?_)
    rw [eg, hM1, e0 _ rfl]
    exact k1
  · rw [s21, OL_len hn4]
  · unfold mo_o
    rw [pm_set_ne _ _ (by decide), pm_set_at]
    exact k2 r i (by rw [OL_len hn4]; exact hr) hi
  · unfold mo_o
    rw [pm_set_ne _ _ (by decide), pm_set_ne _ _ (by decide), ← hM1]
    unfold md_fl md_arr
    rw [pm_set_ne _ _ (by decide), pm_set_ne _ _ (by decide), pm_set_at, if_pos (by omega)]
  · unfold mo_o
    rw [pm_set_ne _ _ (by decide), pm_set_ne _ _ (by decide), ← hM1]
    unfold md_fl md_arr
    rw [pm_set_ne _ _ (by decide), pm_set_at, if_pos hi]
  · unfold mo_o
    rw [pm_set_ne _ _ (Ne.symm a1), pm_set_ne _ _ (Ne.symm a2), ← hM1]
    unfold md_fl
    rw [pm_set_ne _ _ (Ne.symm a1), pm_set_ne _ _ (Ne.symm a4), pm_set_ne _ _ (Ne.symm a3)]
  · unfold mo_o upd
    rw [pm_set_at, if_neg a1, ← hM1]
    unfold md_fl upd
    rw [pm_set_at, if_neg a2]
  · rw [← hM1]
    rfl
