theorem pm_ext {M M' : pm_M} (h1 : ∀ t k, M.1 t k = M'.1 t k) (h2 : M.2 = M'.2) : M = M' := Prod.ext (funext fun t => funext fun k => h1 t k) h2
theorem pm_set_comm {M : pm_M} {t k t' k' : Nat} {f g : Nat → Int32} (h : t ≠ t') : pm_set (pm_set M t k f) t' k' g = pm_set (pm_set M t' k' g) t k f := by
  refine pm_ext (fun a b => ?_) rfl
  simp only [pm_set]
  by_cases h1 : a = t ∧ b = k
  · have h2 : ¬ (a = t' ∧ b = k') := fun q => h (h1.1.symm.trans q.1)
    simp [h1, h2]
    intro q
    exact absurd q h
  · simp [h1]
theorem pm_or2 {i b : Nat} (hi : i < 4) (hb : b < 2 ^ i) : nI b ||| ((0 : Int32) <<< (nI i &&& 31)) = nI b := by
  have h8 : b < 8 := by
    have : 2 ^ i ≤ 2 ^ 3 := Nat.pow_le_pow_right (by omega) (by omega)
    omega
  exact (by decide +kernel : ∀ i : Fin 4, ∀ b : Fin 8, nI b.val ||| ((0 : Int32) <<< (nI i.val &&& 31)) = nI b.val) ⟨i, hi⟩ ⟨b, h8⟩
def sMo_wheel_12 (a1 : Int32) (a2 : Int32) (M : pm_M) : Prop := (vp_in ((4 + (5 * a2)) + 4) 135)
theorem tMo_wheel_12 {a1 : Int32} {a2 : Int32} {M : pm_M} {Q : Option pm_V → pm_M → Prop} (hs : sMo_wheel_12 a1 a2 M) (kk : pm_G mMo_wheel 4 [some (pm_r 29 0), some (pm_i (if (M.1 30 0 (Int32.toNatClampNeg ((4 + (5 * a2)) + 4))) = (-4) then (a1 ||| ((fMo_flag 1 M) <<< (a2 &&& 31))) else (a1 ||| ((fMo_flag 0 M) <<< (a2 &&& 31))))), some (pm_i (a2 + 1))] [] M Q) : pm_G mMo_wheel 12 [some (pm_r 29 0), some (pm_i a1), some (pm_i a2)] [] M Q := by
  unfold sMo_wheel_12 at hs
  refine bMo_wheel_12 (hs) (fun h1 => ?_) (fun h1 => ?_)
  · try simp only [if_pos h1] at kk
    refine bMo_wheel_30 ?_
    refine bMo_wheel_35 (eMo_flag) ?_
    refine bMo_wheel_38 ?_
    exact kk
  · try simp only [if_neg h1] at kk
    refine bMo_wheel_34 ?_
    refine bMo_wheel_35 (eMo_flag) ?_
    refine bMo_wheel_38 ?_
    exact kk

def sMo_wheelPrizes_12 (a1 : Int32) (a2 : Int32) (M : pm_M) : Prop := (vp_in (28 + a2) 135)
theorem tMo_wheelPrizes_12 {a1 : Int32} {a2 : Int32} {M : pm_M} {Q : Option pm_V → pm_M → Prop} (hs : sMo_wheelPrizes_12 a1 a2 M) (kk : pm_G mMo_wheelPrizes 4 [some (pm_r 29 0), some (pm_i (if (M.1 30 0 (Int32.toNatClampNeg (28 + a2))) = (-4) then (a1 ||| ((fMo_flag 1 M) <<< (a2 &&& 31))) else (a1 ||| ((fMo_flag 0 M) <<< (a2 &&& 31))))), some (pm_i (a2 + 1))] [] M Q) : pm_G mMo_wheelPrizes 12 [some (pm_r 29 0), some (pm_i a1), some (pm_i a2)] [] M Q := by
  unfold sMo_wheelPrizes_12 at hs
  refine bMo_wheelPrizes_12 (hs) (fun h1 => ?_) (fun h1 => ?_)
  · try simp only [if_pos h1] at kk
    refine bMo_wheelPrizes_27 ?_
    refine bMo_wheelPrizes_32 (eMo_flag) ?_
    refine bMo_wheelPrizes_35 ?_
    exact kk
  · try simp only [if_neg h1] at kk
    refine bMo_wheelPrizes_31 ?_
    refine bMo_wheelPrizes_32 (eMo_flag) ?_
    refine bMo_wheelPrizes_35 ?_
    exact kk

def sMo_sumInWheel_12 (a1 : Int32) (a2 : Int32) (M : pm_M) : Prop := (vp_in (28 + a2) 135) ∧ (((M.1 30 0 (Int32.toNatClampNeg (28 + a2))) = (-4) → (vp_in (24 + a2) 135)) ∧ (¬ ((M.1 30 0 (Int32.toNatClampNeg (28 + a2))) = (-4)) → True))
theorem tMo_sumInWheel_12 {a1 : Int32} {a2 : Int32} {M : pm_M} {Q : Option pm_V → pm_M → Prop} (hs : sMo_sumInWheel_12 a1 a2 M) (kk : pm_G mMo_sumInWheel 4 [some (pm_r 29 0), some (pm_i (if (M.1 30 0 (Int32.toNatClampNeg (28 + a2))) = (-4) then (a1 + (M.1 30 0 (Int32.toNatClampNeg (24 + a2)))) else (a1 + 0))), some (pm_i (a2 + 1))] [] M Q) : pm_G mMo_sumInWheel 12 [some (pm_r 29 0), some (pm_i a1), some (pm_i a2)] [] M Q := by
  unfold sMo_sumInWheel_12 at hs
  refine bMo_sumInWheel_12 (hs.1) (fun h1 => ?_) (fun h1 => ?_)
  · try simp only [if_pos h1] at kk
    refine bMo_sumInWheel_27 ((hs.2.1 h1)) ?_
    refine bMo_sumInWheel_40 ?_
    exact kk
  · try simp only [if_neg h1] at kk
    refine bMo_sumInWheel_39 ?_
    refine bMo_sumInWheel_40 ?_
    exact kk

theorem wMo_wheel_4 {M : pm_M} {Q : Option pm_V → pm_M → Prop} (hs : pm_small (M.1 29 0 4)) (kk : pm_G mMo_wheel 48 [some (pm_r 29 0), some (pm_i (nI (pm_bits (fun t => decide (M.1 30 0 (8 + 5 * t) = -4)) (M.1 29 0 4).toNatClampNeg))), some (pm_i (M.1 29 0 4))] [] M Q) : pm_G mMo_wheel 4 [some (pm_r 29 0), some (pm_i 0), some (pm_i 0)] [] M Q := by
  obtain ⟨T, h4, hT⟩ := hs
  rw [hT, pm_cl4 (by omega)] at kk
  refine pm_upto (N := T) (P := fun i => pm_G mMo_wheel 4 [some (pm_r 29 0), some (pm_i (nI (pm_bits (fun t => decide (M.1 30 0 (8 + 5 * t) = -4)) i))), some (pm_i (nI i))] [] M Q) ?_ ?_ 0 (Nat.zero_le _)
  · exact bMo_wheel_4 (fun _ => kk) (fun h => absurd (by rw [hT]; exact (pm_le4 (by omega) (by omega)).mpr (Nat.le_refl _)) h)
  · intro i hi k2
    have hi4 : i < 4 := by omega
    refine bMo_wheel_4 (fun h => ?_) (fun _ => ?_)
    · rw [hT] at h
      have := (pm_le4 (by omega) (by omega)).mp h
      omega
    · refine tMo_wheel_12 (md_v hi4).2.2.2.1 ?_
      have f1 : fMo_flag 1 M = 1 := by unfold fMo_flag; decide
      have f0 : fMo_flag 0 M = 0 := by unfold fMo_flag; decide
      rw [md_i4 hi4, nI_1, f1, f0, pm_or1 hi4 (pm_bits_lt _ i), pm_or2 hi4 (pm_bits_lt _ i)]
      rw [pm_bits] at k2
      by_cases h : M.1 30 0 (8 + 5 * i) = -4
      · rw [if_pos h]
        rw [if_pos (decide_eq_true h)] at k2
        exact k2
      · rw [if_neg h]
        rw [if_neg (fun q => h (of_decide_eq_true q))] at k2
        exact k2
theorem wMo_wheelPrizes_4 {M : pm_M} {Q : Option pm_V → pm_M → Prop} (hs : pm_small (M.1 29 0 4)) (kk : pm_G mMo_wheelPrizes 45 [some (pm_r 29 0), some (pm_i (nI (pm_bits (fun t => decide (M.1 30 0 (28 + t) = -4)) (M.1 29 0 4).toNatClampNeg))), some (pm_i (M.1 29 0 4))] [] M Q) : pm_G mMo_wheelPrizes 4 [some (pm_r 29 0), some (pm_i 0), some (pm_i 0)] [] M Q := by
  obtain ⟨T, h4, hT⟩ := hs
  rw [hT, pm_cl4 (by omega)] at kk
  refine pm_upto (N := T) (P := fun i => pm_G mMo_wheelPrizes 4 [some (pm_r 29 0), some (pm_i (nI (pm_bits (fun t => decide (M.1 30 0 (28 + t) = -4)) i))), some (pm_i (nI i))] [] M Q) ?_ ?_ 0 (Nat.zero_le _)
  · exact bMo_wheelPrizes_4 (fun _ => kk) (fun h => absurd (by rw [hT]; exact (pm_le4 (by omega) (by omega)).mpr (Nat.le_refl _)) h)
  · intro i hi k2
    have hi4 : i < 4 := by omega
    refine bMo_wheelPrizes_4 (fun h => ?_) (fun _ => ?_)
    · rw [hT] at h
      have := (pm_le4 (by omega) (by omega)).mp h
      omega
    · refine tMo_wheelPrizes_12 (md_v hi4).2.2.2.2.2 ?_
      have f1 : fMo_flag 1 M = 1 := by unfold fMo_flag; decide
      have f0 : fMo_flag 0 M = 0 := by unfold fMo_flag; decide
      rw [md_iB hi4, nI_1, f1, f0, pm_or1 hi4 (pm_bits_lt _ i), pm_or2 hi4 (pm_bits_lt _ i)]
      rw [pm_bits] at k2
      by_cases h : M.1 30 0 (28 + i) = -4
      · rw [if_pos h]
        rw [if_pos (decide_eq_true h)] at k2
        exact k2
      · rw [if_neg h]
        rw [if_neg (fun q => h (of_decide_eq_true q))] at k2
        exact k2
theorem wMo_sumInWheel_4 {M : pm_M} {Q : Option pm_V → pm_M → Prop} (hs : pm_small (M.1 29 0 4)) (kk : pm_G mMo_sumInWheel 48 [some (pm_r 29 0), some (pm_i (pm_sumI (fun j => if M.1 30 0 (28 + j) = -4 then M.1 30 0 (24 + j) else 0) (M.1 29 0 4).toNatClampNeg)), some (pm_i (M.1 29 0 4))] [] M Q) : pm_G mMo_sumInWheel 4 [some (pm_r 29 0), some (pm_i 0), some (pm_i 0)] [] M Q := by
  obtain ⟨T, h4, hT⟩ := hs
  rw [hT, pm_cl4 (by omega)] at kk
  refine pm_upto (N := T) (P := fun i => pm_G mMo_sumInWheel 4 [some (pm_r 29 0), some (pm_i (pm_sumI (fun j => if M.1 30 0 (28 + j) = -4 then M.1 30 0 (24 + j) else 0) i)), some (pm_i (nI i))] [] M Q) ?_ ?_ 0 (Nat.zero_le _)
  · exact bMo_sumInWheel_4 (fun _ => kk) (fun h => absurd (by rw [hT]; exact (pm_le4 (by omega) (by omega)).mpr (Nat.le_refl _)) h)
  · intro i hi k2
    have hi4 : i < 4 := by omega
    refine bMo_sumInWheel_4 (fun h => ?_) (fun _ => ?_)
    · rw [hT] at h
      have := (pm_le4 (by omega) (by omega)).mp h
      omega
    · refine tMo_sumInWheel_12 ⟨(md_v hi4).2.2.2.2.2, fun _ => (md_v hi4).2.2.2.2.1, fun _ => trivial⟩ ?_
      rw [md_iB hi4, md_iP hi4, nI_1]
      have e : (if M.1 30 0 (28 + i) = -4 then pm_sumI (fun j => if M.1 30 0 (28 + j) = -4 then M.1 30 0 (24 + j) else 0) i + M.1 30 0 (24 + i) else pm_sumI (fun j => if M.1 30 0 (28 + j) = -4 then M.1 30 0 (24 + j) else 0) i + 0) = pm_sumI (fun j => if M.1 30 0 (28 + j) = -4 then M.1 30 0 (24 + j) else 0) (i + 1) := by
        rw [pm_sumI]
        by_cases h : M.1 30 0 (28 + i) = -4
        · simp [h]
        · simp [h]
      rw [e]
      exact k2
theorem wMo_count_4 {a1 : Int32} {M : pm_M} {Q : Option pm_V → pm_M → Prop} (hs : pm_small (M.1 29 0 3)) (kk : pm_G mMo_count 27 [some (pm_r 29 0), some (pm_i a1), some (pm_i (pm_sumI (fun j => M.1 30 0 j) (M.1 29 0 3).toNatClampNeg)), some (pm_i (M.1 29 0 3))] [] M Q) : pm_G mMo_count 4 [some (pm_r 29 0), some (pm_i a1), some (pm_i 0), some (pm_i 0)] [] M Q := by
  obtain ⟨T, h4, hT⟩ := hs
  rw [hT, pm_cl4 (by omega)] at kk
  refine pm_upto (N := T) (P := fun i => pm_G mMo_count 4 [some (pm_r 29 0), some (pm_i a1), some (pm_i (pm_sumI (fun j => M.1 30 0 j) i)), some (pm_i (nI i))] [] M Q) ?_ ?_ 0 (Nat.zero_le _)
  · exact bMo_count_4 (fun _ => kk) (fun h => absurd (by rw [hT]; exact (pm_le4 (by omega) (by omega)).mpr (Nat.le_refl _)) h)
  · intro i hi k2
    refine bMo_count_4 (fun h => ?_) (fun _ => ?_)
    · rw [hT] at h
      have := (pm_le4 (by omega) (by omega)).mp h
      omega
    · refine bMo_count_12 (pm_vin (by omega) (by omega)) ?_
      rw [nI_1, pm_cl4 (by omega)]
      exact k2
theorem md_ic {k i : Nat} (hk : k < 4) (hi : i < 40) : Int32.toNatClampNeg ((40 * nI k) + nI i) = 40 * k + i ∧ vp_in ((40 * nI k) + nI i) 160 := by
  have : ∀ k : Fin 4, ∀ i : Fin 40, Int32.toNatClampNeg ((40 * nI k.val) + nI i.val) = 40 * k.val + i.val ∧ vp_in ((40 * nI k.val) + nI i.val) 160 := by
    unfold vp_in
    decide +kernel
  exact this ⟨k, hk⟩ ⟨i, hi⟩
theorem wMo_sheet_40 {a1 a2 a3 : Int32} {M : pm_M} {Q : Option pm_V → pm_M → Prop} (hs : ∃ k, k < 4 ∧ a1 = nI k) (kk : pm_G mMo_sheet 66 [some (pm_r 29 0), some (pm_i a1), some (pm_i a2), some (pm_i a3), some (pm_i 40)] [] (pm_set M 42 0 (fun j => if 40 * a1.toNatClampNeg ≤ j ∧ j < 40 * a1.toNatClampNeg + 40 then 0 else M.1 42 0 j)) Q) : pm_G mMo_sheet 40 [some (pm_r 29 0), some (pm_i a1), some (pm_i a2), some (pm_i a3), some (pm_i 0)] [] M Q := by
  obtain ⟨k, hk, rfl⟩ := hs
  rw [pm_cl4 (by omega)] at kk
  have key := pm_upto (N := 40) (P := fun i => pm_G mMo_sheet 40 [some (pm_r 29 0), some (pm_i (nI k)), some (pm_i a2), some (pm_i a3), some (pm_i (nI i))] [] (pm_set M 42 0 (fun j => if 40 * k ≤ j ∧ j < 40 * k + i then 0 else M.1 42 0 j)) Q) ?_ ?_ 0 (Nat.zero_le _)
  · rw [pm_set_id (M := M) (t := 42) (k := 0) (fun j => by rw [if_neg (by omega)])] at key
    exact key
  · exact bMo_sheet_40 (fun _ => kk) (fun h => absurd (show nI 40 ≤ nI 40 from (pm_le4 (by omega) (by omega)).mpr (Nat.le_refl _)) h)
  · intro i hi k2
    refine bMo_sheet_40 (fun h => ?_) (fun _ => ?_)
    · have := (pm_le4 (a := 40) (b := i) (by omega) (by omega)).mp h
      omega
    · refine bMo_sheet_47 (md_ic hk hi).2 ?_
      rw [(md_ic hk hi).1, pm_set_set, pm_set_at, nI_1]
      have e : upd (fun j => if 40 * k ≤ j ∧ j < 40 * k + i then 0 else M.1 42 0 j) (40 * k + i) 0 = (fun j => if 40 * k ≤ j ∧ j < 40 * k + (i + 1) then 0 else M.1 42 0 j) := by
        funext j
        unfold upd
        dsimp only
        by_cases h2 : j = 40 * k + i
        · rw [if_pos h2, if_pos (by omega)]
        · rw [if_neg h2]
          by_cases h1 : 40 * k ≤ j ∧ j < 40 * k + i
          · rw [if_pos h1, if_pos (by omega)]
          · rw [if_neg h1, if_neg (by omega)]
      rw [e]
      exact k2
/-- a stretch of 45 cells to another place -/
theorem wMo_copies_2 {a b : Nat} {M : pm_M} {Q : Option pm_V → pm_M → Prop} (ha : a + 45 ≤ 135) (hb : b + 45 ≤ 135) (hab : a + 45 ≤ b ∨ b + 45 ≤ a) (kk : pm_G mMo_copies 30 [some (pm_r 29 0), some (pm_i (nI a)), some (pm_i (nI b)), some (pm_i 45)] [] (pm_set M 30 0 (fun j => if a ≤ j ∧ j < a + 45 then M.1 30 0 (j - a + b) else M.1 30 0 j)) Q) : pm_G mMo_copies 2 [some (pm_r 29 0), some (pm_i (nI a)), some (pm_i (nI b)), some (pm_i 0)] [] M Q := by
  have key := pm_upto (N := 45) (P := fun i => pm_G mMo_copies 2 [some (pm_r 29 0), some (pm_i (nI a)), some (pm_i (nI b)), some (pm_i (nI i))] [] (pm_set M 30 0 (fun j => if a ≤ j ∧ j < a + i then M.1 30 0 (j - a + b) else M.1 30 0 j)) Q) ?_ ?_ 0 (Nat.zero_le _)
  · rw [pm_set_id (M := M) (t := 30) (k := 0) (fun j => by rw [if_neg (by omega)])] at key
    exact key
  · exact bMo_copies_2 (fun _ => kk) (fun h => absurd (show nI 45 ≤ nI 45 from (pm_le4 (by omega) (by omega)).mpr (Nat.le_refl _)) h)
  · intro i hi k2
    refine bMo_copies_2 (fun h => ?_) (fun _ => ?_)
    · have := (pm_le4 (a := 45) (b := i) (by omega) (by omega)).mp h
      omega
    · refine bMo_copies_8 (by rw [nI_add]; exact pm_vin (by omega) (by omega)) (by rw [nI_add]; exact pm_vin (by omega) (by omega)) ?_
      rw [nI_add, nI_add, pm_cl4 (show a + i ≤ 1000 by omega), pm_cl4 (show b + i ≤ 1000 by omega), pm_set_set, pm_set_at, nI_1]
      have e : upd (fun j => if a ≤ j ∧ j < a + i then M.1 30 0 (j - a + b) else M.1 30 0 j) (a + i) ((fun j => if a ≤ j ∧ j < a + i then M.1 30 0 (j - a + b) else M.1 30 0 j) (b + i)) = (fun j => if a ≤ j ∧ j < a + (i + 1) then M.1 30 0 (j - a + b) else M.1 30 0 j) := by
        funext j
        unfold upd
        dsimp only
        by_cases h2 : j = a + i
        · subst h2
          rw [if_pos rfl, if_neg (show ¬ (a ≤ b + i ∧ b + i < a + i) by omega), if_pos (show a ≤ a + i ∧ a + i < a + (i + 1) by omega), show a + i - a + b = b + i by omega]
        · rw [if_neg h2]
          by_cases h1 : a ≤ j ∧ j < a + i
          · rw [if_pos h1, if_pos (by omega)]
          · rw [if_neg h1, if_neg (by omega)]
      rw [e]
      exact k2
def gMo_copies (a1 a2 : Int32) (M : pm_M) : pm_M := pm_set M 30 0 (fun j => if a1.toNatClampNeg ≤ j ∧ j < a1.toNatClampNeg + 45 then M.1 30 0 (j - a1.toNatClampNeg + a2.toNatClampNeg) else M.1 30 0 j)
def sMo_copies (a1 a2 : Int32) (_M : pm_M) : Prop := ∃ a b, a + 45 ≤ 135 ∧ b + 45 ≤ 135 ∧ (a + 45 ≤ b ∨ b + 45 ≤ a) ∧ a1 = nI a ∧ a2 = nI b
theorem eMo_copies {a1 a2 : Int32} {M : pm_M} (hs : sMo_copies a1 a2 M) : pm_Ev mMo_copies [pm_r 29 0, pm_i a1, pm_i a2] M none (gMo_copies a1 a2 M) := by
  refine pm_Sem_of (ls := [some (pm_r 29 0), some (pm_i a1), some (pm_i a2), none]) ok_mMo_copies (by decide +kernel) rfl (by decide) (Nat.le_of_ble_eq_true rfl) rfl ?_
  obtain ⟨a, b, ha, hb, hab, rfl, rfl⟩ := hs
  unfold gMo_copies
  rw [pm_cl4 (show a ≤ 1000 by omega), pm_cl4 (show b ≤ 1000 by omega)]
  exact bMo_copies_0 (wMo_copies_2 ha hb hab (bMo_copies_30 ⟨rfl, rfl⟩))
/-! what is left in the wheel -/
def md_lst (p : Nat → Bool) (n : Nat) : List Nat := (List.range n).filter p
def md_arr (l : List Nat) (old : Nat → Int32) : Nat → Int32 := fun a => if a < l.length then nI (l.getD a 0) else old a
theorem md_lst_succ (p : Nat → Bool) (n : Nat) : md_lst p (n + 1) = if p n = true then md_lst p n ++ [n] else md_lst p n := by
  unfold md_lst
  rw [List.range_succ, List.filter_append]
  by_cases h : p n = true
  · simp [h]
  · simp [h]
theorem md_lst_len (p : Nat → Bool) (n : Nat) : (md_lst p n).length ≤ n := by
  have := List.length_filter_le p (List.range n)
  simpa [md_lst] using this
theorem md_arr_put (l : List Nat) (old : Nat → Int32) (n : Nat) : upd (md_arr l old) l.length (nI n) = md_arr (l ++ [n]) old := by
  funext a
  unfold upd md_arr
  by_cases h2 : a = l.length
  · subst h2
    simp
  · by_cases h1 : a < l.length
    · have h3 : a < (l ++ [n]).length := by simp; omega
      rw [if_neg h2, if_pos h1, if_pos h3]
      congr 1
      simp [List.getD_eq_getElem?_getD, List.getElem?_append, h1]
    · have h3 : ¬ a < (l ++ [n]).length := by simp; omega
      rw [if_neg h2, if_neg h1, if_neg h3]
def md_fl (M : pm_M) (l lp : List Nat) : pm_M := pm_set (pm_set (pm_set M 37 0 (md_arr l (M.1 37 0))) 38 0 (md_arr lp (M.1 38 0))) 29 0 (upd (M.1 29 0) 22 (nI l.length))
def gMo_findLeft (M : pm_M) : pm_M := md_fl M (md_lst (fun t => decide (M.1 30 0 (8 + 5 * t) = -4)) (M.1 29 0 4).toNatClampNeg) (md_lst (fun t => decide (M.1 30 0 (28 + t) = -4)) (M.1 29 0 4).toNatClampNeg)
def sMo_findLeft (M : pm_M) : Prop := pm_small (M.1 29 0 4)
theorem md_fl_nil (M : pm_M) : md_fl M [] [] = pm_set M 29 0 (upd (M.1 29 0) 22 0) := by
  unfold md_fl
  have e1 : md_arr [] (M.1 37 0) = M.1 37 0 := by funext a; simp [md_arr]
  have e2 : md_arr [] (M.1 38 0) = M.1 38 0 := by funext a; simp [md_arr]
  rw [e1, e2, pm_set_self, pm_set_self]
  rfl
theorem upd_upd (f : Nat → Int32) (k : Nat) (x y : Int32) : upd (upd f k x) k y = upd f k y := by
  funext j
  unfold upd
  by_cases h : j = k <;> simp [h]
theorem eMo_findLeft {M : pm_M} (hs : sMo_findLeft M) : pm_Ev mMo_findLeft [pm_r 29 0] M none (gMo_findLeft M) := by
  refine pm_Sem_of (ls := [some (pm_r 29 0), none, none]) ok_mMo_findLeft (by decide +kernel) rfl (by decide) (Nat.le_of_ble_eq_true rfl) rfl ?_
  obtain ⟨T, h4, hT⟩ := hs
  unfold gMo_findLeft
  rw [hT, pm_cl4 (by omega)]
  refine bMo_findLeft_0 ?_
  rw [← md_fl_nil]
  have rT : ∀ l lp, (md_fl M l lp).1 29 0 4 = nI T := fun l lp => by unfold md_fl; rw [pm_set_at]; unfold upd; rw [if_neg (by decide), hT]
  have r30 : ∀ l lp, (md_fl M l lp).1 30 0 = M.1 30 0 := fun l lp => by unfold md_fl; rw [pm_set_ne _ _ (by decide), pm_set_ne _ _ (by decide), pm_set_ne _ _ (by decide)]
  have rn : ∀ l lp, (md_fl M l lp).1 29 0 22 = nI l.length := fun l lp => by unfold md_fl; rw [pm_set_at]; unfold upd; rw [if_pos rfl]
  have r37 : ∀ l lp, (md_fl M l lp).1 37 0 = md_arr l (M.1 37 0) := fun l lp => by unfold md_fl; rw [pm_set_ne _ _ (by decide), pm_set_ne _ _ (by decide), pm_set_at]
  have r38 : ∀ l lp, (md_fl M l lp).1 38 0 = md_arr lp (M.1 38 0) := fun l lp => by unfold md_fl; rw [pm_set_ne _ _ (by decide), pm_set_at]
  have r29 : ∀ l lp, (md_fl M l lp).1 29 0 = upd (M.1 29 0) 22 (nI l.length) := fun l lp => by unfold md_fl; rw [pm_set_at]
  have p37 : ∀ (l lp : List Nat) (n : Nat), pm_set (pm_set (md_fl M l lp) 37 0 (upd ((md_fl M l lp).1 37 0) l.length (nI n))) 29 0 (upd ((md_fl M l lp).1 29 0) 22 (nI (l.length + 1))) = md_fl M (l ++ [n]) lp := by
    intro l lp n
    rw [r37, r29, md_arr_put, upd_upd]
    unfold md_fl
    rw [pm_set_comm (t := 29) (t' := 37) (by decide), pm_set_set, pm_set_comm (t := 38) (t' := 37) (by decide), pm_set_set]
    simp
  have p38 : ∀ (l lp : List Nat) (n : Nat), pm_set (md_fl M l lp) 38 0 (upd ((md_fl M l lp).1 38 0) lp.length (nI n)) = md_fl M l (lp ++ [n]) := by
    intro l lp n
    rw [r38, md_arr_put]
    unfold md_fl
    rw [pm_set_comm (t := 29) (t' := 38) (by decide), pm_set_set]
  refine pm_upto (N := T) (P := fun i => pm_G mMo_findLeft 9 [some (pm_r 29 0), some (pm_i (nI (md_lst (fun t => decide (M.1 30 0 (28 + t) = -4)) i).length)), some (pm_i (nI i))] [] (md_fl M (md_lst (fun t => decide (M.1 30 0 (8 + 5 * t) = -4)) i) (md_lst (fun t => decide (M.1 30 0 (28 + t) = -4)) i)) _) ?_ ?_ 0 (Nat.zero_le _)
  · refine bMo_findLeft_9 (fun _ => bMo_findLeft_84 ⟨rfl, rfl⟩) (fun h => absurd ?_ h)
    rw [rT]
    exact (pm_le4 (by omega) (by omega)).mpr (Nat.le_refl _)
  · intro i hi k2
    have hi4 : i < 4 := by omega
    have hl := md_lst_len (fun t => decide (M.1 30 0 (8 + 5 * t) = -4)) i
    have hlp := md_lst_len (fun t => decide (M.1 30 0 (28 + t) = -4)) i
    rw [md_lst_succ, md_lst_succ, ← nI_1] at k2
    refine bMo_findLeft_9 (fun h => ?_) (fun _ => ?_)
    · rw [rT] at h
      have := (pm_le4 (by omega) (by omega)).mp h
      omega
    · have next : ∀ l, l = (if decide (M.1 30 0 (8 + 5 * i) = -4) = true then md_lst (fun t => decide (M.1 30 0 (8 + 5 * t) = -4)) i ++ [i] else md_lst (fun t => decide (M.1 30 0 (8 + 5 * t) = -4)) i) → pm_G mMo_findLeft 54 [some (pm_r 29 0), some (pm_i (nI (md_lst (fun t => decide (M.1 30 0 (28 + t) = -4)) i).length)), some (pm_i (nI i))] [] (md_fl M l (md_lst (fun t => decide (M.1 30 0 (28 + t) = -4)) i)) (pm_D none (md_fl M (md_lst (fun t => decide (M.1 30 0 (8 + 5 * t) = -4)) T) (md_lst (fun t => decide (M.1 30 0 (28 + t) = -4)) T))) := by
        intro l e
        subst e
        refine bMo_findLeft_54 (md_v hi4).2.2.2.2.2 (fun h => ?_) (fun h => ?_)
        · rw [r30, md_iB hi4] at h
          refine bMo_findLeft_68 (pm_vin (by omega) (by omega)) ?_
          rw [pm_cl4 (show (md_lst (fun t => decide (M.1 30 0 (28 + t) = -4)) i).length ≤ 1000 by omega), p38]
          refine bMo_findLeft_78 ?_
          rw [if_pos (show decide (M.1 30 0 (28 + i) = -4) = true from decide_eq_true h)] at k2
          rw [nI_1]
          rw [List.length_append] at k2
          exact k2
        · rw [r30, md_iB hi4] at h
          refine bMo_findLeft_78 ?_
          rw [if_neg (show ¬ decide (M.1 30 0 (28 + i) = -4) = true from fun q => h (of_decide_eq_true q))] at k2
          exact k2
      refine bMo_findLeft_17 (md_v hi4).2.2.2.1 (fun h => ?_) (fun h => ?_)
      · rw [r30, md_i4 hi4] at h
        refine bMo_findLeft_34 (by rw [rn]; exact pm_vin (by omega) (by omega)) ?_
        rw [rn, pm_cl4 (show (md_lst (fun t => decide (M.1 30 0 (8 + 5 * t) = -4)) i).length ≤ 1000 by omega), nI_1, p37]
        exact next _ (by rw [if_pos (decide_eq_true h)])
      · rw [r30, md_i4 hi4] at h
        exact next _ (by rw [if_neg (fun q => h (of_decide_eq_true q))])
