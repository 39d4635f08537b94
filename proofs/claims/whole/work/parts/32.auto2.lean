def gWh_clear (k : Nat) (M : pm_M) : pm_M := (gAr_fill9 k (-4) (gAr_fill7 k (-4) (gAr_fill8 k 0 (pm_set (pm_set (pm_set M 4 k (upd (M.1 4 k) 0 0)) 4 k (upd ((pm_set M 4 k (upd (M.1 4 k) 0 0)).1 4 k) 1 0)) 4 k (upd ((pm_set (pm_set M 4 k (upd (M.1 4 k) 0 0)) 4 k (upd ((pm_set M 4 k (upd (M.1 4 k) 0 0)).1 4 k) 1 0)).1 4 k) 2 0)))))
theorem eWh_clear {k : Nat} {M : pm_M}  : pm_Ev mWh_clear [pm_r 4 k] M none (gWh_clear k M) := by
  refine pm_Sem_of (ls := [some (pm_r 4 k)]) ok_mWh_clear (by decide +kernel) rfl (by decide) (Nat.le_of_ble_eq_true rfl) rfl ?_
  unfold gWh_clear
  refine bWh_clear_0 (eAr_fill8) ?_
  refine bWh_clear_23 (eAr_fill7) ?_
  refine bWh_clear_32 (eAr_fill9) ?_
  exact bWh_clear_41 ⟨rfl, rfl⟩

def fWh_daysGone (k : Nat) (M : pm_M) : Int32 := ((M.1 4 k 1) - (fIn_bitCount (fWh_ticketsIn k M) M))
def sWh_daysGone (k : Nat) (M : pm_M) : Prop := (sWh_ticketsIn k M)
theorem eWh_daysGone {k : Nat} {M : pm_M} (hs : sWh_daysGone k M) : pm_Ev mWh_daysGone [pm_r 4 k] M (some (pm_i (fWh_daysGone k M))) M := by
  refine pm_Sem_of (ls := [some (pm_r 4 k)]) ok_mWh_daysGone (by decide +kernel) rfl (by decide) (Nat.le_of_ble_eq_true rfl) rfl ?_
  unfold fWh_daysGone
  unfold sWh_daysGone at hs
  refine bWh_daysGone_0 (eWh_ticketsIn (hs)) ?_
  refine bWh_daysGone_8 (eIn_bitCount) ?_
  exact bWh_daysGone_11 ⟨rfl, rfl⟩

def fWt_rule (a1 : Int32) (M : pm_M) : Int32 := (if a1 = 0 then (M.1 4 0 0) else (if a1 = 1 then (M.1 4 0 1) else (if a1 = 2 then (fWh_daysGone 0 M) else (if a1 = 3 then (fWh_ticketsIn 0 M) else (if a1 = 4 then (fWh_prizesIn 0 M) else (if a1 = 5 then (fWh_amountIn 0 M) else (-1)))))))
def sWt_rule (a1 : Int32) (M : pm_M) : Prop := ((a1 = 0 → True) ∧ (¬ a1 = 0 → ((a1 = 1 → True) ∧ (¬ a1 = 1 → ((a1 = 2 → (sWh_daysGone 0 M)) ∧ (¬ a1 = 2 → ((a1 = 3 → (sWh_ticketsIn 0 M)) ∧ (¬ a1 = 3 → ((a1 = 4 → (sWh_prizesIn 0 M)) ∧ (¬ a1 = 4 → ((a1 = 5 → (sWh_amountIn 0 M)) ∧ (¬ a1 = 5 → (True)))))))))))))
theorem eWt_rule {a1 : Int32} {M : pm_M} (hs : sWt_rule a1 M) : pm_Ev mWt_rule [pm_r 0 0, pm_i a1] M (some (pm_i (fWt_rule a1 M))) M := by
  refine pm_Sem_of (ls := [some (pm_r 0 0), some (pm_i a1)]) ok_mWt_rule (by decide +kernel) rfl (by decide) (Nat.le_of_ble_eq_true rfl) rfl ?_
  unfold fWt_rule
  unfold sWt_rule at hs
  refine bWt_rule_0 ?_
  by_cases h1 : a1 = 0
  · simp only [if_pos h1]
    rw [show pm_tsw 1 87 0 5 #[39, 47, 55, 63, 71, 79] a1 = 40 from by rw [h1]; decide +kernel]
    exact bWt_rule_40 ⟨rfl, rfl⟩
  · simp only [if_neg h1]
    by_cases h2 : a1 = 1
    · simp only [if_pos h2]
      rw [show pm_tsw 1 87 0 5 #[39, 47, 55, 63, 71, 79] a1 = 48 from by rw [h2]; decide +kernel]
      exact bWt_rule_48 ⟨rfl, rfl⟩
    · simp only [if_neg h2]
      by_cases h3 : a1 = 2
      · simp only [if_pos h3]
        rw [show pm_tsw 1 87 0 5 #[39, 47, 55, 63, 71, 79] a1 = 56 from by rw [h3]; decide +kernel]
        refine bWt_rule_56 (eWh_daysGone ((((hs.2 h1).2 h2).1 h3))) ?_
        exact bWt_rule_63 ⟨rfl, rfl⟩
      · simp only [if_neg h3]
        by_cases h4 : a1 = 3
        · simp only [if_pos h4]
          rw [show pm_tsw 1 87 0 5 #[39, 47, 55, 63, 71, 79] a1 = 64 from by rw [h4]; decide +kernel]
          refine bWt_rule_64 (eWh_ticketsIn (((((hs.2 h1).2 h2).2 h3).1 h4))) ?_
          exact bWt_rule_71 ⟨rfl, rfl⟩
        · simp only [if_neg h4]
          by_cases h5 : a1 = 4
          · simp only [if_pos h5]
            rw [show pm_tsw 1 87 0 5 #[39, 47, 55, 63, 71, 79] a1 = 72 from by rw [h5]; decide +kernel]
            refine bWt_rule_72 (eWh_prizesIn ((((((hs.2 h1).2 h2).2 h3).2 h4).1 h5))) ?_
            exact bWt_rule_79 ⟨rfl, rfl⟩
          · simp only [if_neg h5]
            by_cases h6 : a1 = 5
            · simp only [if_pos h6]
              rw [show pm_tsw 1 87 0 5 #[39, 47, 55, 63, 71, 79] a1 = 80 from by rw [h6]; decide +kernel]
              refine bWt_rule_80 (eWh_amountIn (((((((hs.2 h1).2 h2).2 h3).2 h4).2 h5).1 h6))) ?_
              exact bWt_rule_87 ⟨rfl, rfl⟩
            · simp only [if_neg h6]
              rw [show pm_tsw 1 87 0 5 #[39, 47, 55, 63, 71, 79] a1 = 88 from by
                refine pm_tsw_out (by decide +kernel) (fun z g1 g2 g3 => ?_)
                rcases (show z = 0 ∨ z = 1 ∨ z = 2 ∨ z = 3 ∨ z = 4 ∨ z = 5 from by omega) with rfl | rfl | rfl | rfl | rfl | rfl
                · exact absurd (Int32.toInt_inj.mp (g3.trans (by decide : (0 : Int) = (0 : Int32).toInt))) h1
                · exact absurd (Int32.toInt_inj.mp (g3.trans (by decide : (1 : Int) = (1 : Int32).toInt))) h2
                · exact absurd (Int32.toInt_inj.mp (g3.trans (by decide : (2 : Int) = (2 : Int32).toInt))) h3
                · exact absurd (Int32.toInt_inj.mp (g3.trans (by decide : (3 : Int) = (3 : Int32).toInt))) h4
                · exact absurd (Int32.toInt_inj.mp (g3.trans (by decide : (4 : Int) = (4 : Int32).toInt))) h5
                · exact absurd (Int32.toInt_inj.mp (g3.trans (by decide : (5 : Int) = (5 : Int32).toInt))) h6
                ]
              exact bWt_rule_88 ⟨rfl, rfl⟩

def fWt_person (a1 : Int32) (a2 : Int32) (M : pm_M) : Int32 := (if (fWh_hasPerson 0 a1 M) = 0 then (-1) else (if a2 = 0 then (10000 + (M.1 5 0 (Int32.toNatClampNeg a1))) else (if a2 = 1 then (fWh_ticketsWith 0 1 a1 M) else (if a2 = 2 then (fWh_ticketsWith 0 2 a1 M) else (-1)))))
def sWt_person (a1 : Int32) (a2 : Int32) (M : pm_M) : Prop := ((((fWh_hasPerson 0 a1 M) = 0 → True) ∧ (¬ ((fWh_hasPerson 0 a1 M) = 0) → ((a2 = 0 → (vp_in a1 4)) ∧ (¬ a2 = 0 → ((a2 = 1 → (sWh_ticketsWith 0 1 a1 M)) ∧ (¬ a2 = 1 → ((a2 = 2 → (sWh_ticketsWith 0 2 a1 M)) ∧ (¬ a2 = 2 → (True))))))))))
theorem eWt_person {a1 : Int32} {a2 : Int32} {M : pm_M} (hs : sWt_person a1 a2 M) : pm_Ev mWt_person [pm_r 0 0, pm_i a1, pm_i a2] M (some (pm_i (fWt_person a1 a2 M))) M := by
  refine pm_Sem_of (ls := [some (pm_r 0 0), some (pm_i a1), some (pm_i a2)]) ok_mWt_person (by decide +kernel) rfl (by decide) (Nat.le_of_ble_eq_true rfl) rfl ?_
  unfold fWt_person
  unfold sWt_person at hs
  refine bWt_person_0 (eWh_hasPerson) ?_
  refine bWt_person_8 (fun h1 => ?_) (fun h1 => ?_)
  · simp only [if_pos h1]
    exact bWt_person_11 ⟨rfl, rfl⟩
  · simp only [if_neg h1]
    refine bWt_person_13 ?_
    by_cases h2 : a2 = 0
    · simp only [if_pos h2]
      rw [show pm_tsw 14 60 0 2 #[26, 40, 50] a2 = 40 from by rw [h2]; decide +kernel]
      exact bWt_person_40 (((hs.2 h1).1 h2)) ⟨rfl, rfl⟩
    · simp only [if_neg h2]
      by_cases h3 : a2 = 1
      · simp only [if_pos h3]
        rw [show pm_tsw 14 60 0 2 #[26, 40, 50] a2 = 54 from by rw [h3]; decide +kernel]
        refine bWt_person_54 (eWh_ticketsWith ((((hs.2 h1).2 h2).1 h3))) ?_
        exact bWt_person_63 ⟨rfl, rfl⟩
      · simp only [if_neg h3]
        by_cases h4 : a2 = 2
        · simp only [if_pos h4]
          rw [show pm_tsw 14 60 0 2 #[26, 40, 50] a2 = 64 from by rw [h4]; decide +kernel]
          refine bWt_person_64 (eWh_ticketsWith (((((hs.2 h1).2 h2).2 h3).1 h4))) ?_
          exact bWt_person_73 ⟨rfl, rfl⟩
        · simp only [if_neg h4]
          rw [show pm_tsw 14 60 0 2 #[26, 40, 50] a2 = 74 from by
            refine pm_tsw_out (by decide +kernel) (fun z g1 g2 g3 => ?_)
            rcases (show z = 0 ∨ z = 1 ∨ z = 2 from by omega) with rfl | rfl | rfl
            · exact absurd (Int32.toInt_inj.mp (g3.trans (by decide : (0 : Int) = (0 : Int32).toInt))) h2
            · exact absurd (Int32.toInt_inj.mp (g3.trans (by decide : (1 : Int) = (1 : Int32).toInt))) h3
            · exact absurd (Int32.toInt_inj.mp (g3.trans (by decide : (2 : Int) = (2 : Int32).toInt))) h4
            ]
          exact bWt_person_74 ⟨rfl, rfl⟩

def fWt_draw (a1 : Int32) (a2 : Int32) (M : pm_M) : Int32 := (if (fWh_refusal 0 a1 a2 M) = 0 then ((gWh_pull 0 a1 a2 M).1 8 0 (Int32.toNatClampNeg a2)) else (fWh_refusal 0 a1 a2 M))
def gWt_draw (a1 : Int32) (a2 : Int32) (M : pm_M) : pm_M := (if (fWh_refusal 0 a1 a2 M) = 0 then (gWh_pull 0 a1 a2 M) else M)
def sWt_draw (a1 : Int32) (a2 : Int32) (M : pm_M) : Prop := (sWh_refusal 0 a1 a2 M ∧ ((((fWh_refusal 0 a1 a2 M) = 0 → (sWh_pull 0 a1 a2 M ∧ ((vp_in a2 4)))) ∧ (¬ ((fWh_refusal 0 a1 a2 M) = 0) → True))))
theorem eWt_draw {a1 : Int32} {a2 : Int32} {M : pm_M} (hs : sWt_draw a1 a2 M) : pm_Ev mWt_draw [pm_r 0 0, pm_i a1, pm_i a2] M (some (pm_i (fWt_draw a1 a2 M))) (gWt_draw a1 a2 M) := by
  refine pm_Sem_of (ls := [some (pm_r 0 0), some (pm_i a1), some (pm_i a2), none]) ok_mWt_draw (by decide +kernel) rfl (by decide) (Nat.le_of_ble_eq_true rfl) rfl ?_
  unfold fWt_draw gWt_draw
  unfold sWt_draw at hs
  refine bWt_draw_0 (eWh_refusal (hs.1)) ?_
  refine bWt_draw_9 (fun h1 => ?_) (fun h1 => ?_)
  · simp only [if_pos h1]
    refine bWt_draw_16 (eWh_pull (((hs.2.1 h1)).1)) ?_
    exact bWt_draw_25 (((hs.2.1 h1)).2) ⟨rfl, rfl⟩
  · simp only [if_neg h1]
    exact bWt_draw_14 ⟨rfl, rfl⟩

def gSh_renew (k : Nat) (a1 : Int32) (a2 : Int32) (M : pm_M) : pm_M := (gAr_fill28 k 0 (pm_set (pm_set M 27 k (upd (M.1 27 k) 1 a1)) 27 k (upd ((pm_set M 27 k (upd (M.1 27 k) 1 a1)).1 27 k) 0 a2)))
theorem eSh_renew {k : Nat} {a1 : Int32} {a2 : Int32} {M : pm_M}  : pm_Ev mSh_renew [pm_r 27 k, pm_i a1, pm_i a2] M none (gSh_renew k a1 a2 M) := by
  refine pm_Sem_of (ls := [some (pm_r 27 k), some (pm_i a1), some (pm_i a2)]) ok_mSh_renew (by decide +kernel) rfl (by decide) (Nat.le_of_ble_eq_true rfl) rfl ?_
  unfold gSh_renew
  refine bSh_renew_0 (eAr_fill28) ?_
  exact bSh_renew_18 ⟨rfl, rfl⟩

def fWt_sheet (a1 : Int32) (a2 : Int32) (a3 : Int32) (M : pm_M) : Int32 := (if (fWt_isSheet a1 M) = 0 then (-1) else (if (fSh_isLane a2 M) = 0 then (-1) else (if a3 ≤ 40 then (if (0 : Int32) ≤ a3 then 1 else (-14)) else (-1))))
def gWt_sheet (a1 : Int32) (a2 : Int32) (a3 : Int32) (M : pm_M) : pm_M := (if (fWt_isSheet a1 M) = 0 then M else (if (fSh_isLane a2 M) = 0 then M else (if a3 ≤ 40 then (if (0 : Int32) ≤ a3 then (gSh_renew (Int32.toNatClampNeg a1) a2 a3 M) else M) else M)))
def sWt_sheet (a1 : Int32) (a2 : Int32) (a3 : Int32) (M : pm_M) : Prop := ((((fWt_isSheet a1 M) = 0 → True) ∧ (¬ ((fWt_isSheet a1 M) = 0) → ((((fSh_isLane a2 M) = 0 → True) ∧ (¬ ((fSh_isLane a2 M) = 0) → ((a3 ≤ 40 → (((0 : Int32) ≤ a3 → (vp_in a1 4)) ∧ (¬ ((0 : Int32) ≤ a3) → True))) ∧ (¬ (a3 ≤ 40) → True))))))))
theorem eWt_sheet {a1 : Int32} {a2 : Int32} {a3 : Int32} {M : pm_M} (hs : sWt_sheet a1 a2 a3 M) : pm_Ev mWt_sheet [pm_r 0 0, pm_i a1, pm_i a2, pm_i a3] M (some (pm_i (fWt_sheet a1 a2 a3 M))) (gWt_sheet a1 a2 a3 M) := by
  refine pm_Sem_of (ls := [some (pm_r 0 0), some (pm_i a1), some (pm_i a2), some (pm_i a3)]) ok_mWt_sheet (by decide +kernel) rfl (by decide) (Nat.le_of_ble_eq_true rfl) rfl ?_
  unfold fWt_sheet gWt_sheet
  unfold sWt_sheet at hs
  refine bWt_sheet_0 (eWt_isSheet) ?_
  refine bWt_sheet_4 (fun h1 => ?_) (fun h1 => ?_)
  · simp only [if_pos h1]
    exact bWt_sheet_20 ⟨rfl, rfl⟩
  · simp only [if_neg h1]
    refine bWt_sheet_7 (eSh_isLane) ?_
    refine bWt_sheet_11 (fun h2 => ?_) (fun h2 => ?_)
    · simp only [if_pos h2]
      exact bWt_sheet_20 ⟨rfl, rfl⟩
    · simp only [if_neg h2]
      refine bWt_sheet_14 (fun h3 => ?_) (fun h3 => ?_)
      · simp only [if_pos h3]
        refine bWt_sheet_22 (fun h4 => ?_) (fun h4 => ?_)
        · simp only [if_pos h4]
          refine bWt_sheet_29 ((((((((hs.2 h1)).2 h2)).1 h3)).1 h4)) (eSh_renew) ?_
          exact bWt_sheet_40 ⟨rfl, rfl⟩
        · simp only [if_neg h4]
          exact bWt_sheet_26 ⟨rfl, rfl⟩
      · simp only [if_neg h3]
        exact bWt_sheet_20 ⟨rfl, rfl⟩

def fWt_back (a1 : Int32) (M : pm_M) : Int32 := (if (fWt_within a1 0 1 M) = 0 then (-1) else (if (M.1 2 0 (Int32.toNatClampNeg a1)) = 0 then (-2) else (fWh_daysGone 0 (gWh_copy 0 (Int32.toNatClampNeg a1 + 2) M))))
def gWt_back (a1 : Int32) (M : pm_M) : pm_M := (if (fWt_within a1 0 1 M) = 0 then M else (if (M.1 2 0 (Int32.toNatClampNeg a1)) = 0 then M else (gWh_copy 0 (Int32.toNatClampNeg a1 + 2) M)))
def sWt_back (a1 : Int32) (M : pm_M) : Prop := ((((fWt_within a1 0 1 M) = 0 → True) ∧ (¬ ((fWt_within a1 0 1 M) = 0) → (vp_in a1 2) ∧ (((M.1 2 0 (Int32.toNatClampNeg a1)) = 0 → True) ∧ (¬ ((M.1 2 0 (Int32.toNatClampNeg a1)) = 0) → (vp_in a1 2) ∧ ((sWh_daysGone 0 (gWh_copy 0 (Int32.toNatClampNeg a1 + 2) M))))))))
theorem eWt_back {a1 : Int32} {M : pm_M} (hs : sWt_back a1 M) : pm_Ev mWt_back [pm_r 0 0, pm_i a1] M (some (pm_i (fWt_back a1 M))) (gWt_back a1 M) := by
  refine pm_Sem_of (ls := [some (pm_r 0 0), some (pm_i a1)]) ok_mWt_back (by decide +kernel) rfl (by decide) (Nat.le_of_ble_eq_true rfl) rfl ?_
  unfold fWt_back gWt_back
  unfold sWt_back at hs
  refine bWt_back_0 (eWt_within) ?_
  refine bWt_back_6 (fun h1 => ?_) (fun h1 => ?_)
  · simp only [if_pos h1]
    exact bWt_back_9 ⟨rfl, rfl⟩
  · simp only [if_neg h1]
    refine bWt_back_11 (((hs.2 h1)).1) (fun h2 => ?_) (fun h2 => ?_)
    · simp only [if_pos h2]
      exact bWt_back_20 ⟨rfl, rfl⟩
    · simp only [if_neg h2]
      refine bWt_back_23 ((((((hs.2 h1)).2).2 h2)).1) (eWh_copy) ?_
      refine bWt_back_36 (eWh_daysGone ((((((hs.2 h1)).2).2 h2)).2)) ?_
      exact bWt_back_43 ⟨rfl, rfl⟩

def fWt_count (a1 : Int32) (M : pm_M) : Int32 := (if a1 = 0 then (10000 + (fWh_allPurses 0 M)) else (if a1 = 1 then (M.1 4 0 2) else (if a1 = 2 then ((M.1 2 0 (Int32.toNatClampNeg 0)) + (M.1 2 0 (Int32.toNatClampNeg 1))) else (if a1 = 3 then (M.1 21 0 1) else (if a1 = 4 then (M.1 27 (Int32.toNatClampNeg 0) 0) else (-1))))))
def sWt_count (a1 : Int32) (M : pm_M) : Prop := ((a1 = 0 → (sWh_allPurses 0 M)) ∧ (¬ a1 = 0 → ((a1 = 1 → True) ∧ (¬ a1 = 1 → ((a1 = 2 → (vp_in 0 2) ∧ (vp_in 1 2)) ∧ (¬ a1 = 2 → ((a1 = 3 → True) ∧ (¬ a1 = 3 → ((a1 = 4 → (vp_in 0 4)) ∧ (¬ a1 = 4 → (True)))))))))))
theorem eWt_count {a1 : Int32} {M : pm_M} (hs : sWt_count a1 M) : pm_Ev mWt_count [pm_r 0 0, pm_i a1] M (some (pm_i (fWt_count a1 M))) M := by
  refine pm_Sem_of (ls := [some (pm_r 0 0), some (pm_i a1)]) ok_mWt_count (by decide +kernel) rfl (by decide) (Nat.le_of_ble_eq_true rfl) rfl ?_
  unfold fWt_count
  unfold sWt_count at hs
  refine bWt_count_0 ?_
  by_cases h1 : a1 = 0
  · simp only [if_pos h1]
    rw [show pm_tsw 1 87 0 4 #[35, 47, 55, 69, 77] a1 = 36 from by rw [h1]; decide +kernel]
    refine bWt_count_36 (eWh_allPurses ((hs.1 h1))) ?_
    exact bWt_count_46 ⟨rfl, rfl⟩
  · simp only [if_neg h1]
    by_cases h2 : a1 = 1
    · simp only [if_pos h2]
      rw [show pm_tsw 1 87 0 4 #[35, 47, 55, 69, 77] a1 = 48 from by rw [h2]; decide +kernel]
      exact bWt_count_48 ⟨rfl, rfl⟩
    · simp only [if_neg h2]
      by_cases h3 : a1 = 2
      · simp only [if_pos h3]
        rw [show pm_tsw 1 87 0 4 #[35, 47, 55, 69, 77] a1 = 56 from by rw [h3]; decide +kernel]
        exact bWt_count_56 (((((hs.2 h1).2 h2).1 h3)).1) (((((hs.2 h1).2 h2).1 h3)).2) ⟨rfl, rfl⟩
      · simp only [if_neg h3]
        by_cases h4 : a1 = 3
        · simp only [if_pos h4]
          rw [show pm_tsw 1 87 0 4 #[35, 47, 55, 69, 77] a1 = 70 from by rw [h4]; decide +kernel]
          exact bWt_count_70 ⟨rfl, rfl⟩
        · simp only [if_neg h4]
          by_cases h5 : a1 = 4
          · simp only [if_pos h5]
            rw [show pm_tsw 1 87 0 4 #[35, 47, 55, 69, 77] a1 = 78 from by rw [h5]; decide +kernel]
            exact bWt_count_78 ((((((hs.2 h1).2 h2).2 h3).2 h4).1 h5)) ⟨rfl, rfl⟩
          · simp only [if_neg h5]
            rw [show pm_tsw 1 87 0 4 #[35, 47, 55, 69, 77] a1 = 88 from by
              refine pm_tsw_out (by decide +kernel) (fun z g1 g2 g3 => ?_)
              rcases (show z = 0 ∨ z = 1 ∨ z = 2 ∨ z = 3 ∨ z = 4 from by omega) with rfl | rfl | rfl | rfl | rfl
              · exact absurd (Int32.toInt_inj.mp (g3.trans (by decide : (0 : Int) = (0 : Int32).toInt))) h1
              · exact absurd (Int32.toInt_inj.mp (g3.trans (by decide : (1 : Int) = (1 : Int32).toInt))) h2
              · exact absurd (Int32.toInt_inj.mp (g3.trans (by decide : (2 : Int) = (2 : Int32).toInt))) h3
              · exact absurd (Int32.toInt_inj.mp (g3.trans (by decide : (3 : Int) = (3 : Int32).toInt))) h4
              · exact absurd (Int32.toInt_inj.mp (g3.trans (by decide : (4 : Int) = (4 : Int32).toInt))) h5
              ]
            exact bWt_count_88 ⟨rfl, rfl⟩

