def sMo_person_40 (a1 : Int32) (a2 : Int32) (a3 : Int32) (a4 : Int32) (M : pm_M) : Prop := ((a2 = 1 → ((sMo_of a4 1 M))) ∧ (¬ (a2 = 1) → ((sMo_of a4 2 M))))
theorem tMo_person_40 {a1 : Int32} {a2 : Int32} {a3 : Int32} {a4 : Int32} {M : pm_M} {Q : Option pm_V → pm_M → Prop} (hs : sMo_person_40 a1 a2 a3 a4 M) (kk : pm_G mMo_person 31 [some (pm_r 29 0), some (pm_i a1), some (pm_i a2), some (pm_i (if a2 = 1 then (if (fMo_of a4 1 M) = a1 then (a3 ||| ((fMo_flag 1 M) <<< (a4 &&& 31))) else (a3 ||| ((fMo_flag 0 M) <<< (a4 &&& 31)))) else (if (fMo_of a4 2 M) = a1 then (a3 ||| ((fMo_flag 1 M) <<< (a4 &&& 31))) else (a3 ||| ((fMo_flag 0 M) <<< (a4 &&& 31)))))), some (pm_i (a4 + 1))] [] M Q) : pm_G mMo_person 40 [some (pm_r 29 0), some (pm_i a1), some (pm_i a2), some (pm_i a3), some (pm_i a4)] [] M Q := by
  unfold sMo_person_40 at hs
  refine bMo_person_40 (fun h1 => ?_) (fun h1 => ?_)
  · try simp only [if_pos h1] at kk
    refine bMo_person_49 ?_
    refine bMo_person_54 (eMo_of ((hs.1 h1))) ?_
    refine bMo_person_57 (fun h2 => ?_) (fun h2 => ?_)
    · try simp only [if_pos h2] at kk
      refine bMo_person_61 ?_
      refine bMo_person_66 (eMo_flag) ?_
      refine bMo_person_69 ?_
      exact kk
    · try simp only [if_neg h2] at kk
      refine bMo_person_65 ?_
      refine bMo_person_66 (eMo_flag) ?_
      refine bMo_person_69 ?_
      exact kk
  · try simp only [if_neg h1] at kk
    refine bMo_person_53 ?_
    refine bMo_person_54 (eMo_of ((hs.2 h1))) ?_
    refine bMo_person_57 (fun h2 => ?_) (fun h2 => ?_)
    · try simp only [if_pos h2] at kk
      refine bMo_person_61 ?_
      refine bMo_person_66 (eMo_flag) ?_
      refine bMo_person_69 ?_
      exact kk
    · try simp only [if_neg h2] at kk
      refine bMo_person_65 ?_
      refine bMo_person_66 (eMo_flag) ?_
      refine bMo_person_69 ?_
      exact kk

theorem wMo_person_31 {a1 a2 : Int32} {M : pm_M} {Q : Option pm_V → pm_M → Prop} (hs : pm_small (M.1 29 0 4)) (kk : pm_G mMo_person 80 [some (pm_r 29 0), some (pm_i a1), some (pm_i a2), some (pm_i (nI (pm_bits (fun t => decide (M.1 31 0 ((if a2 = 1 then 5 else 6) + 5 * t) = a1)) (M.1 29 0 4).toNatClampNeg))), some (pm_i (M.1 29 0 4))] [] M Q) : pm_G mMo_person 31 [some (pm_r 29 0), some (pm_i a1), some (pm_i a2), some (pm_i 0), some (pm_i 0)] [] M Q := by
  obtain ⟨T, h4, hT⟩ := hs
  rw [hT, pm_cl4 (by omega)] at kk
  refine pm_upto (N := T) (P := fun i => pm_G mMo_person 31 [some (pm_r 29 0), some (pm_i a1), some (pm_i a2), some (pm_i (nI (pm_bits (fun t => decide (M.1 31 0 ((if a2 = 1 then 5 else 6) + 5 * t) = a1)) i))), some (pm_i (nI i))] [] M Q) ?_ ?_ 0 (Nat.zero_le _)
  · exact bMo_person_31 (fun _ => kk) (fun h => absurd (by rw [hT]; exact (pm_le4 (by omega) (by omega)).mpr (Nat.le_refl _)) h)
  · intro i hi k2
    have hi4 : i < 4 := by omega
    refine bMo_person_31 (fun h => ?_) (fun _ => ?_)
    · rw [hT] at h
      have := (pm_le4 (by omega) (by omega)).mp h
      omega
    · refine tMo_person_40 ⟨fun _ => (md_v hi4).1.2.1, fun _ => (md_v hi4).1.2.2.1⟩ ?_
      have f1 : fMo_flag 1 M = 1 := by unfold fMo_flag; decide
      have f0 : fMo_flag 0 M = 0 := by unfold fMo_flag; decide
      have o1 : fMo_of (nI i) 1 M = M.1 31 0 (5 + 5 * i) := by unfold fMo_of; rw [md_i1 hi4]
      have o2 : fMo_of (nI i) 2 M = M.1 31 0 (6 + 5 * i) := by unfold fMo_of; rw [md_i2 hi4]
      rw [o1, o2, nI_1, f1, f0, pm_or1 hi4 (pm_bits_lt _ i), pm_or2 hi4 (pm_bits_lt _ i)]
      rw [pm_bits] at k2
      by_cases h2 : a2 = 1
      · simp only [if_pos h2] at k2 ⊢
        by_cases h : M.1 31 0 (5 + 5 * i) = a1
        · rw [if_pos h]
          rw [if_pos (decide_eq_true h)] at k2
          exact k2
        · rw [if_neg h]
          rw [if_neg (fun q => h (of_decide_eq_true q))] at k2
          exact k2
      · simp only [if_neg h2] at k2 ⊢
        by_cases h : M.1 31 0 (6 + 5 * i) = a1
        · rw [if_pos h]
          rw [if_pos (decide_eq_true h)] at k2
          exact k2
        · rw [if_neg h]
          rw [if_neg (fun q => h (of_decide_eq_true q))] at k2
          exact k2
def fMo_wheel  (M : pm_M) : Int32 := (nI (pm_bits (fun t => decide (M.1 30 0 (8 + 5 * t) = -4)) (M.1 29 0 4).toNatClampNeg))
def sMo_wheel  (M : pm_M) : Prop := ((pm_small (M.1 29 0 4)))
theorem eMo_wheel  {M : pm_M} (hs : sMo_wheel  M) : pm_Ev mMo_wheel [pm_r 29 0] M (some (pm_i (fMo_wheel  M))) M := by
  refine pm_Sem_of (ls := [some (pm_r 29 0), none, none]) ok_mMo_wheel (by decide +kernel) rfl (by decide) (Nat.le_of_ble_eq_true rfl) rfl ?_
  unfold fMo_wheel
  unfold sMo_wheel at hs
  refine bMo_wheel_0 ?_
  refine wMo_wheel_4 (hs) ?_
  exact bMo_wheel_48 ⟨rfl, rfl⟩

def fMo_wheelPrizes  (M : pm_M) : Int32 := (nI (pm_bits (fun t => decide (M.1 30 0 (28 + t) = -4)) (M.1 29 0 4).toNatClampNeg))
def sMo_wheelPrizes  (M : pm_M) : Prop := ((pm_small (M.1 29 0 4)))
theorem eMo_wheelPrizes  {M : pm_M} (hs : sMo_wheelPrizes  M) : pm_Ev mMo_wheelPrizes [pm_r 29 0] M (some (pm_i (fMo_wheelPrizes  M))) M := by
  refine pm_Sem_of (ls := [some (pm_r 29 0), none, none]) ok_mMo_wheelPrizes (by decide +kernel) rfl (by decide) (Nat.le_of_ble_eq_true rfl) rfl ?_
  unfold fMo_wheelPrizes
  unfold sMo_wheelPrizes at hs
  refine bMo_wheelPrizes_0 ?_
  refine wMo_wheelPrizes_4 (hs) ?_
  exact bMo_wheelPrizes_45 ⟨rfl, rfl⟩

def fMo_sumInWheel  (M : pm_M) : Int32 := (pm_sumI (fun j => if M.1 30 0 (28 + j) = -4 then M.1 30 0 (24 + j) else 0) (M.1 29 0 4).toNatClampNeg)
def sMo_sumInWheel  (M : pm_M) : Prop := ((pm_small (M.1 29 0 4)))
theorem eMo_sumInWheel  {M : pm_M} (hs : sMo_sumInWheel  M) : pm_Ev mMo_sumInWheel [pm_r 29 0] M (some (pm_i (fMo_sumInWheel  M))) M := by
  refine pm_Sem_of (ls := [some (pm_r 29 0), none, none]) ok_mMo_sumInWheel (by decide +kernel) rfl (by decide) (Nat.le_of_ble_eq_true rfl) rfl ?_
  unfold fMo_sumInWheel
  unfold sMo_sumInWheel at hs
  refine bMo_sumInWheel_0 ?_
  refine wMo_sumInWheel_4 (hs) ?_
  exact bMo_sumInWheel_48 ⟨rfl, rfl⟩

def fMo_rule (a1 : Int32) (M : pm_M) : Int32 := (if a1 = 0 then ((gMo_findLeft M).1 29 0 3) else (if a1 = 1 then ((gMo_findLeft M).1 29 0 4) else (if a1 = 2 then (((gMo_findLeft M).1 29 0 4) - ((gMo_findLeft M).1 29 0 22)) else (if a1 = 3 then (fMo_wheel (gMo_findLeft M)) else (if a1 = 4 then (fMo_wheelPrizes (gMo_findLeft M)) else (if a1 = 5 then (fMo_sumInWheel (gMo_findLeft M)) else (-1)))))))
def gMo_rule (a1 : Int32) (M : pm_M) : pm_M := (if a1 = 0 then (gMo_findLeft M) else (if a1 = 1 then (gMo_findLeft M) else (if a1 = 2 then (gMo_findLeft M) else (if a1 = 3 then (gMo_findLeft M) else (if a1 = 4 then (gMo_findLeft M) else (if a1 = 5 then (gMo_findLeft M) else (gMo_findLeft M)))))))
def sMo_rule (a1 : Int32) (M : pm_M) : Prop := (sMo_findLeft  M ∧ (((a1 = 0 → True) ∧ (¬ a1 = 0 → ((a1 = 1 → True) ∧ (¬ a1 = 1 → ((a1 = 2 → True) ∧ (¬ a1 = 2 → ((a1 = 3 → (sMo_wheel  (gMo_findLeft M))) ∧ (¬ a1 = 3 → ((a1 = 4 → (sMo_wheelPrizes  (gMo_findLeft M))) ∧ (¬ a1 = 4 → ((a1 = 5 → (sMo_sumInWheel  (gMo_findLeft M))) ∧ (¬ a1 = 5 → (True)))))))))))))))
theorem eMo_rule {a1 : Int32} {M : pm_M} (hs : sMo_rule a1 M) : pm_Ev mMo_rule [pm_r 29 0, pm_i a1] M (some (pm_i (fMo_rule a1 M))) (gMo_rule a1 M) := by
  refine pm_Sem_of (ls := [some (pm_r 29 0), some (pm_i a1)]) ok_mMo_rule (by decide +kernel) rfl (by decide) (Nat.le_of_ble_eq_true rfl) rfl ?_
  unfold fMo_rule gMo_rule
  unfold sMo_rule at hs
  refine bMo_rule_0 (eMo_findLeft (hs.1)) ?_
  refine bMo_rule_4 ?_
  by_cases h1 : a1 = 0
  · simp only [if_pos h1]
    rw [show pm_tsw 5 74 0 5 #[39, 44, 49, 59, 64, 69] a1 = 44 from by rw [h1]; decide +kernel]
    exact bMo_rule_44 ⟨rfl, rfl⟩
  · simp only [if_neg h1]
    by_cases h2 : a1 = 1
    · simp only [if_pos h2]
      rw [show pm_tsw 5 74 0 5 #[39, 44, 49, 59, 64, 69] a1 = 49 from by rw [h2]; decide +kernel]
      exact bMo_rule_49 ⟨rfl, rfl⟩
    · simp only [if_neg h2]
      by_cases h3 : a1 = 2
      · simp only [if_pos h3]
        rw [show pm_tsw 5 74 0 5 #[39, 44, 49, 59, 64, 69] a1 = 54 from by rw [h3]; decide +kernel]
        exact bMo_rule_54 ⟨rfl, rfl⟩
      · simp only [if_neg h3]
        by_cases h4 : a1 = 3
        · simp only [if_pos h4]
          rw [show pm_tsw 5 74 0 5 #[39, 44, 49, 59, 64, 69] a1 = 64 from by rw [h4]; decide +kernel]
          refine bMo_rule_64 (eMo_wheel (((((hs.2.2 h1).2 h2).2 h3).1 h4))) ?_
          exact bMo_rule_68 ⟨rfl, rfl⟩
        · simp only [if_neg h4]
          by_cases h5 : a1 = 4
          · simp only [if_pos h5]
            rw [show pm_tsw 5 74 0 5 #[39, 44, 49, 59, 64, 69] a1 = 69 from by rw [h5]; decide +kernel]
            refine bMo_rule_69 (eMo_wheelPrizes ((((((hs.2.2 h1).2 h2).2 h3).2 h4).1 h5))) ?_
            exact bMo_rule_73 ⟨rfl, rfl⟩
          · simp only [if_neg h5]
            by_cases h6 : a1 = 5
            · simp only [if_pos h6]
              rw [show pm_tsw 5 74 0 5 #[39, 44, 49, 59, 64, 69] a1 = 74 from by rw [h6]; decide +kernel]
              refine bMo_rule_74 (eMo_sumInWheel (((((((hs.2.2 h1).2 h2).2 h3).2 h4).2 h5).1 h6))) ?_
              exact bMo_rule_78 ⟨rfl, rfl⟩
            · simp only [if_neg h6]
              rw [show pm_tsw 5 74 0 5 #[39, 44, 49, 59, 64, 69] a1 = 79 from by
                refine pm_tsw_out (by decide +kernel) (fun z g1 g2 g3 => ?_)
                rcases (show z = 0 ∨ z = 1 ∨ z = 2 ∨ z = 3 ∨ z = 4 ∨ z = 5 from by omega) with rfl | rfl | rfl | rfl | rfl | rfl
                · exact absurd (Int32.toInt_inj.mp (g3.trans (by decide : (0 : Int) = (0 : Int32).toInt))) h1
                · exact absurd (Int32.toInt_inj.mp (g3.trans (by decide : (1 : Int) = (1 : Int32).toInt))) h2
                · exact absurd (Int32.toInt_inj.mp (g3.trans (by decide : (2 : Int) = (2 : Int32).toInt))) h3
                · exact absurd (Int32.toInt_inj.mp (g3.trans (by decide : (3 : Int) = (3 : Int32).toInt))) h4
                · exact absurd (Int32.toInt_inj.mp (g3.trans (by decide : (4 : Int) = (4 : Int32).toInt))) h5
                · exact absurd (Int32.toInt_inj.mp (g3.trans (by decide : (5 : Int) = (5 : Int32).toInt))) h6
                ]
              exact bMo_rule_79 ⟨rfl, rfl⟩

def fMo_person (a1 : Int32) (a2 : Int32) (M : pm_M) : Int32 := (if (fMo_isPerson a1 M) = 0 then (-1) else (if (fMo_in (Int32.toInt64 a2) 0 2 M) = 0 then (-1) else (if a2 = 0 then (10000 + ((gMo_starts M).1 30 0 (Int32.toNatClampNeg a1))) else (nI (pm_bits (fun t => decide ((gMo_starts M).1 31 0 ((if a2 = 1 then 5 else 6) + 5 * t) = a1)) ((gMo_starts M).1 29 0 4).toNatClampNeg)))))
def gMo_person (a1 : Int32) (a2 : Int32) (M : pm_M) : pm_M := (if (fMo_isPerson a1 M) = 0 then M else (if (fMo_in (Int32.toInt64 a2) 0 2 M) = 0 then M else (if a2 = 0 then (gMo_starts M) else (gMo_starts M))))
def sMo_person (a1 : Int32) (a2 : Int32) (M : pm_M) : Prop := ((((fMo_isPerson a1 M) = 0 → True) ∧ (¬ ((fMo_isPerson a1 M) = 0) → ((((fMo_in (Int32.toInt64 a2) 0 2 M) = 0 → True) ∧ (¬ ((fMo_in (Int32.toInt64 a2) 0 2 M) = 0) → (((pm_small ((gMo_starts M).1 29 0 4)) ∧ (((a2 = 0 → (vp_in a1 135)) ∧ (¬ (a2 = 0) → True)))))))))))
theorem eMo_person {a1 : Int32} {a2 : Int32} {M : pm_M} (hs : sMo_person a1 a2 M) : pm_Ev mMo_person [pm_r 29 0, pm_i a1, pm_i a2] M (some (pm_i (fMo_person a1 a2 M))) (gMo_person a1 a2 M) := by
  refine pm_Sem_of (ls := [some (pm_r 29 0), some (pm_i a1), some (pm_i a2), none, none]) ok_mMo_person (by decide +kernel) rfl (by decide) (Nat.le_of_ble_eq_true rfl) rfl ?_
  unfold fMo_person gMo_person
  unfold sMo_person at hs
  refine bMo_person_0 (eMo_isPerson) ?_
  refine bMo_person_5 (fun h1 => ?_) (fun h1 => ?_)
  · simp only [if_pos h1]
    exact bMo_person_20 ⟨rfl, rfl⟩
  · simp only [if_neg h1]
    refine bMo_person_8 (eMo_in) ?_
    refine bMo_person_17 (fun h2 => ?_) (fun h2 => ?_)
    · simp only [if_pos h2]
      exact bMo_person_20 ⟨rfl, rfl⟩
    · simp only [if_neg h2]
      refine bMo_person_22 (eMo_starts) ?_
      refine bMo_person_26 ?_
      refine wMo_person_31 (((((hs.2 h1)).2 h2)).1) ?_
      refine bMo_person_80 (fun h3 => ?_) (fun h3 => ?_)
      · simp only [if_pos h3]
        refine bMo_person_84 (((((((hs.2 h1)).2 h2)).2).1 h3)) ?_
        exact bMo_person_98 ⟨rfl, rfl⟩
      · simp only [if_neg h3]
        refine bMo_person_97 ?_
        exact bMo_person_98 ⟨rfl, rfl⟩

def fMo_count (a1 : Int32) (M : pm_M) : Int32 := (if a1 = 0 then (10000 + (pm_sumI (fun j => M.1 30 0 j) (M.1 29 0 3).toNatClampNeg)) else (if a1 = 1 then (M.1 30 0 (Int32.toNatClampNeg 32)) else (if a1 = 2 then ((fMo_flag (M.1 32 0 (Int32.toNatClampNeg 0)) M) + (fMo_flag (M.1 32 0 (Int32.toNatClampNeg 1)) M)) else (if a1 = 3 then (M.1 29 0 13) else (if a1 = 4 then (if (M.1 40 0 (Int32.toNatClampNeg 0)) = (-4) then (-4) else (M.1 41 0 (Int32.toNatClampNeg 0))) else (-1))))))
def sMo_count (a1 : Int32) (M : pm_M) : Prop := ((pm_small (M.1 29 0 3)) ∧ (((a1 = 0 → True) ∧ (¬ a1 = 0 → ((a1 = 1 → (vp_in 32 135)) ∧ (¬ a1 = 1 → ((a1 = 2 → (vp_in 0 2) ∧ ((vp_in 1 2))) ∧ (¬ a1 = 2 → ((a1 = 3 → True) ∧ (¬ a1 = 3 → ((a1 = 4 → (vp_in 0 4) ∧ (((M.1 40 0 (Int32.toNatClampNeg 0)) = (-4) → True) ∧ (¬ ((M.1 40 0 (Int32.toNatClampNeg 0)) = (-4)) → (vp_in 0 4)))) ∧ (¬ a1 = 4 → (True)))))))))))))
theorem eMo_count {a1 : Int32} {M : pm_M} (hs : sMo_count a1 M) : pm_Ev mMo_count [pm_r 29 0, pm_i a1] M (some (pm_i (fMo_count a1 M))) M := by
  refine pm_Sem_of (ls := [some (pm_r 29 0), some (pm_i a1), none, none]) ok_mMo_count (by decide +kernel) rfl (by decide) (Nat.le_of_ble_eq_true rfl) rfl ?_
  unfold fMo_count
  unfold sMo_count at hs
  refine bMo_count_0 ?_
  refine wMo_count_4 (hs.1) ?_
  refine bMo_count_27 ?_
  by_cases h1 : a1 = 0
  · simp only [if_pos h1]
    rw [show pm_tsw 28 98 0 4 #[36, 42, 50, 70, 75] a1 = 64 from by rw [h1]; decide +kernel]
    exact bMo_count_64 ⟨rfl, rfl⟩
  · simp only [if_neg h1]
    by_cases h2 : a1 = 1
    · simp only [if_pos h2]
      rw [show pm_tsw 28 98 0 4 #[36, 42, 50, 70, 75] a1 = 70 from by rw [h2]; decide +kernel]
      exact bMo_count_70 (((hs.2.2 h1).1 h2)) ⟨rfl, rfl⟩
    · simp only [if_neg h2]
      by_cases h3 : a1 = 2
      · simp only [if_pos h3]
        rw [show pm_tsw 28 98 0 4 #[36, 42, 50, 70, 75] a1 = 78 from by rw [h3]; decide +kernel]
        refine bMo_count_78 (((((hs.2.2 h1).2 h2).1 h3)).1) (eMo_flag) ?_
        refine bMo_count_87 (((((hs.2.2 h1).2 h2).1 h3)).2) (eMo_flag) ?_
        exact bMo_count_96 ⟨rfl, rfl⟩
      · simp only [if_neg h3]
        by_cases h4 : a1 = 3
        · simp only [if_pos h4]
          rw [show pm_tsw 28 98 0 4 #[36, 42, 50, 70, 75] a1 = 98 from by rw [h4]; decide +kernel]
          exact bMo_count_98 ⟨rfl, rfl⟩
        · simp only [if_neg h4]
          by_cases h5 : a1 = 4
          · simp only [if_pos h5]
            rw [show pm_tsw 28 98 0 4 #[36, 42, 50, 70, 75] a1 = 103 from by rw [h5]; decide +kernel]
            refine bMo_count_103 (((((((hs.2.2 h1).2 h2).2 h3).2 h4).1 h5)).1) (fun h6 => ?_) (fun h6 => ?_)
            · simp only [if_pos h6]
              refine bMo_count_114 ?_
              exact bMo_count_125 ⟨rfl, rfl⟩
            · simp only [if_neg h6]
              refine bMo_count_119 (((((((((hs.2.2 h1).2 h2).2 h3).2 h4).1 h5)).2).2 h6)) ?_
              exact bMo_count_125 ⟨rfl, rfl⟩
          · simp only [if_neg h5]
            rw [show pm_tsw 28 98 0 4 #[36, 42, 50, 70, 75] a1 = 126 from by
              refine pm_tsw_out (by decide +kernel) (fun z g1 g2 g3 => ?_)
              rcases (show z = 0 ∨ z = 1 ∨ z = 2 ∨ z = 3 ∨ z = 4 from by omega) with rfl | rfl | rfl | rfl | rfl
              · exact absurd (Int32.toInt_inj.mp (g3.trans (by decide : (0 : Int) = (0 : Int32).toInt))) h1
              · exact absurd (Int32.toInt_inj.mp (g3.trans (by decide : (1 : Int) = (1 : Int32).toInt))) h2
              · exact absurd (Int32.toInt_inj.mp (g3.trans (by decide : (2 : Int) = (2 : Int32).toInt))) h3
              · exact absurd (Int32.toInt_inj.mp (g3.trans (by decide : (3 : Int) = (3 : Int32).toInt))) h4
              · exact absurd (Int32.toInt_inj.mp (g3.trans (by decide : (4 : Int) = (4 : Int32).toInt))) h5
              ]
            exact bMo_count_126 ⟨rfl, rfl⟩

def fMo_sheet (a1 : Int32) (a2 : Int32) (a3 : Int32) (M : pm_M) : Int32 := (if (fMo_isSheet a1 a2 M) = 0 then (-1) else (if a3 ≤ 40 then (if (0 : Int32) ≤ a3 then 1 else (-14)) else (-1)))
def gMo_sheet (a1 : Int32) (a2 : Int32) (a3 : Int32) (M : pm_M) : pm_M := (if (fMo_isSheet a1 a2 M) = 0 then M else (if a3 ≤ 40 then (if (0 : Int32) ≤ a3 then (pm_set (pm_set (pm_set M 40 0 (upd (M.1 40 0) (Int32.toNatClampNeg a1) a2)) 41 0 (upd (M.1 41 0) (Int32.toNatClampNeg a1) a3)) 42 0 (fun j => if 40 * (Int32.toNatClampNeg a1) ≤ j ∧ j < 40 * (Int32.toNatClampNeg a1) + 40 then 0 else (pm_set (pm_set M 40 0 (upd (M.1 40 0) (Int32.toNatClampNeg a1) a2)) 41 0 (upd (M.1 41 0) (Int32.toNatClampNeg a1) a3)).1 42 0 j)) else M) else M))
def sMo_sheet (a1 : Int32) (a2 : Int32) (a3 : Int32) (M : pm_M) : Prop := ((((fMo_isSheet a1 a2 M) = 0 → True) ∧ (¬ ((fMo_isSheet a1 a2 M) = 0) → ((a3 ≤ 40 → (((0 : Int32) ≤ a3 → (vp_in a1 4) ∧ (vp_in a1 4) ∧ ((∃ k, k < 4 ∧ a1 = nI k))) ∧ (¬ ((0 : Int32) ≤ a3) → True))) ∧ (¬ (a3 ≤ 40) → True)))))
theorem eMo_sheet {a1 : Int32} {a2 : Int32} {a3 : Int32} {M : pm_M} (hs : sMo_sheet a1 a2 a3 M) : pm_Ev mMo_sheet [pm_r 29 0, pm_i a1, pm_i a2, pm_i a3] M (some (pm_i (fMo_sheet a1 a2 a3 M))) (gMo_sheet a1 a2 a3 M) := by
  refine pm_Sem_of (ls := [some (pm_r 29 0), some (pm_i a1), some (pm_i a2), some (pm_i a3), none]) ok_mMo_sheet (by decide +kernel) rfl (by decide) (Nat.le_of_ble_eq_true rfl) rfl ?_
  unfold fMo_sheet gMo_sheet
  unfold sMo_sheet at hs
  refine bMo_sheet_0 (eMo_isSheet) ?_
  refine bMo_sheet_5 (fun h1 => ?_) (fun h1 => ?_)
  · simp only [if_pos h1]
    exact bMo_sheet_14 ⟨rfl, rfl⟩
  · simp only [if_neg h1]
    refine bMo_sheet_8 (fun h2 => ?_) (fun h2 => ?_)
    · simp only [if_pos h2]
      refine bMo_sheet_16 (fun h3 => ?_) (fun h3 => ?_)
      · simp only [if_pos h3]
        refine bMo_sheet_23 (((((((hs.2 h1)).1 h2)).1 h3)).1) ((((((((hs.2 h1)).1 h2)).1 h3)).2).1) ?_
        refine wMo_sheet_40 ((((((((hs.2 h1)).1 h2)).1 h3)).2).2) ?_
        exact bMo_sheet_66 ⟨rfl, rfl⟩
      · simp only [if_neg h3]
        exact bMo_sheet_20 ⟨rfl, rfl⟩
    · simp only [if_neg h2]
      exact bMo_sheet_14 ⟨rfl, rfl⟩

def fMo_keep (a1 : Int32) (M : pm_M) : Int32 := (if (fMo_in (Int32.toInt64 a1) 0 1 M) = 0 then (-1) else (fMo_flag (M.1 32 0 (Int32.toNatClampNeg a1)) M))
def gMo_keep (a1 : Int32) (M : pm_M) : pm_M := (if (fMo_in (Int32.toInt64 a1) 0 1 M) = 0 then M else (gMo_copies (45 * (a1 + 1)) 0 (pm_set M 32 0 (upd (M.1 32 0) (Int32.toNatClampNeg a1) (vp_nar .boolean 1)))))
def sMo_keep (a1 : Int32) (M : pm_M) : Prop := ((((fMo_in (Int32.toInt64 a1) 0 1 M) = 0 → True) ∧ (¬ ((fMo_in (Int32.toInt64 a1) 0 1 M) = 0) → (vp_in a1 2) ∧ ((vp_in a1 2) ∧ (sMo_copies (45 * (a1 + 1)) 0 (pm_set M 32 0 (upd (M.1 32 0) (Int32.toNatClampNeg a1) (vp_nar .boolean 1))))))))
theorem eMo_keep {a1 : Int32} {M : pm_M} (hs : sMo_keep a1 M) : pm_Ev mMo_keep [pm_r 29 0, pm_i a1] M (some (pm_i (fMo_keep a1 M))) (gMo_keep a1 M) := by
  refine pm_Sem_of (ls := [some (pm_r 29 0), some (pm_i a1), none]) ok_mMo_keep (by decide +kernel) rfl (by decide) (Nat.le_of_ble_eq_true rfl) rfl ?_
  unfold fMo_keep gMo_keep
  unfold sMo_keep at hs
  refine bMo_keep_0 (eMo_in) ?_
  refine bMo_keep_7 (fun h1 => ?_) (fun h1 => ?_)
  · simp only [if_pos h1]
    exact bMo_keep_10 ⟨rfl, rfl⟩
  · simp only [if_neg h1]
    refine bMo_keep_12 (((hs.2 h1)).1) (eMo_flag) ?_
    refine bMo_keep_21 ((((hs.2 h1)).2).1) (eMo_copies ((((hs.2 h1)).2).2)) ?_
    exact bMo_keep_40 ⟨rfl, rfl⟩

def fMo_back (a1 : Int32) (M : pm_M) : Int32 := (if (fMo_in (Int32.toInt64 a1) 0 1 M) = 0 then (-1) else (if (M.1 32 0 (Int32.toNatClampNeg a1)) = 0 then (-2) else (((gMo_findLeft (gMo_copies 0 (45 * (a1 + 1)) M)).1 29 0 4) - ((gMo_findLeft (gMo_copies 0 (45 * (a1 + 1)) M)).1 29 0 22))))
def gMo_back (a1 : Int32) (M : pm_M) : pm_M := (if (fMo_in (Int32.toInt64 a1) 0 1 M) = 0 then M else (if (M.1 32 0 (Int32.toNatClampNeg a1)) = 0 then M else (gMo_findLeft (gMo_copies 0 (45 * (a1 + 1)) M))))
def sMo_back (a1 : Int32) (M : pm_M) : Prop := ((((fMo_in (Int32.toInt64 a1) 0 1 M) = 0 → True) ∧ (¬ ((fMo_in (Int32.toInt64 a1) 0 1 M) = 0) → (vp_in a1 2) ∧ (((M.1 32 0 (Int32.toNatClampNeg a1)) = 0 → True) ∧ (¬ ((M.1 32 0 (Int32.toNatClampNeg a1)) = 0) → (sMo_copies 0 (45 * (a1 + 1)) M ∧ ((sMo_findLeft  (gMo_copies 0 (45 * (a1 + 1)) M)))))))))
theorem eMo_back {a1 : Int32} {M : pm_M} (hs : sMo_back a1 M) : pm_Ev mMo_back [pm_r 29 0, pm_i a1] M (some (pm_i (fMo_back a1 M))) (gMo_back a1 M) := by
  refine pm_Sem_of (ls := [some (pm_r 29 0), some (pm_i a1)]) ok_mMo_back (by decide +kernel) rfl (by decide) (Nat.le_of_ble_eq_true rfl) rfl ?_
  unfold fMo_back gMo_back
  unfold sMo_back at hs
  refine bMo_back_0 (eMo_in) ?_
  refine bMo_back_7 (fun h1 => ?_) (fun h1 => ?_)
  · simp only [if_pos h1]
    exact bMo_back_10 ⟨rfl, rfl⟩
  · simp only [if_neg h1]
    refine bMo_back_12 (((hs.2 h1)).1) (fun h2 => ?_) (fun h2 => ?_)
    · simp only [if_pos h2]
      exact bMo_back_21 ⟨rfl, rfl⟩
    · simp only [if_neg h2]
      refine bMo_back_24 (eMo_copies ((((((hs.2 h1)).2).2 h2)).1)) ?_
      refine bMo_back_35 (eMo_findLeft ((((((hs.2 h1)).2).2 h2)).2)) ?_
      exact bMo_back_39 ⟨rfl, rfl⟩

def fMo_draw (a1 : Int32) (a2 : Int32) (M : pm_M) : Int32 := (if (fMo_isTicket a1 M) = 0 then (-1) else (if (fMo_isTicket a2 M) = 0 then (-1) else (if (fMo_isDrawn a1 M) = 0 then (if (M.1 30 0 (Int32.toNatClampNeg (28 + a2))) = (-4) then ((gMo_settles (gMo_draws ((gMo_starts M).1 29 0 4) a1 a2 (gMo_starts M))).1 30 0 (Int32.toNatClampNeg (24 + a2))) else (-2)) else (-2))))
def gMo_draw (a1 : Int32) (a2 : Int32) (M : pm_M) : pm_M := (if (fMo_isTicket a1 M) = 0 then M else (if (fMo_isTicket a2 M) = 0 then M else (if (fMo_isDrawn a1 M) = 0 then (if (M.1 30 0 (Int32.toNatClampNeg (28 + a2))) = (-4) then (gMo_settles (gMo_draws ((gMo_starts M).1 29 0 4) a1 a2 (gMo_starts M))) else M) else M)))
def sMo_draw (a1 : Int32) (a2 : Int32) (M : pm_M) : Prop := ((((fMo_isTicket a1 M) = 0 → True) ∧ (¬ ((fMo_isTicket a1 M) = 0) → ((((fMo_isTicket a2 M) = 0 → True) ∧ (¬ ((fMo_isTicket a2 M) = 0) → (sMo_isDrawn a1 M ∧ ((((fMo_isDrawn a1 M) = 0 → (vp_in (28 + a2) 135) ∧ (((M.1 30 0 (Int32.toNatClampNeg (28 + a2))) = (-4) → ((sMo_draws ((gMo_starts M).1 29 0 4) a1 a2 (gMo_starts M) ∧ (((vp_in (24 + a2) 135)))))) ∧ (¬ ((M.1 30 0 (Int32.toNatClampNeg (28 + a2))) = (-4)) → True))) ∧ (¬ ((fMo_isDrawn a1 M) = 0) → True))))))))))
theorem eMo_draw {a1 : Int32} {a2 : Int32} {M : pm_M} (hs : sMo_draw a1 a2 M) : pm_Ev mMo_draw [pm_r 29 0, pm_i a1, pm_i a2] M (some (pm_i (fMo_draw a1 a2 M))) (gMo_draw a1 a2 M) := by
  refine pm_Sem_of (ls := [some (pm_r 29 0), some (pm_i a1), some (pm_i a2)]) ok_mMo_draw (by decide +kernel) rfl (by decide) (Nat.le_of_ble_eq_true rfl) rfl ?_
  unfold fMo_draw gMo_draw
  unfold sMo_draw at hs
  refine bMo_draw_0 (eMo_isTicket) ?_
  refine bMo_draw_5 (fun h1 => ?_) (fun h1 => ?_)
  · simp only [if_pos h1]
    exact bMo_draw_16 ⟨rfl, rfl⟩
  · simp only [if_neg h1]
    refine bMo_draw_8 (eMo_isTicket) ?_
    refine bMo_draw_13 (fun h2 => ?_) (fun h2 => ?_)
    · simp only [if_pos h2]
      exact bMo_draw_16 ⟨rfl, rfl⟩
    · simp only [if_neg h2]
      refine bMo_draw_18 (eMo_isDrawn (((((hs.2 h1)).2 h2)).1)) ?_
      refine bMo_draw_23 (fun h3 => ?_) (fun h3 => ?_)
      · simp only [if_pos h3]
        refine bMo_draw_26 ((((((((hs.2 h1)).2 h2)).2).1 h3)).1) (fun h4 => ?_) (fun h4 => ?_)
        · simp only [if_pos h4]
          refine bMo_draw_43 (eMo_starts) ?_
          refine bMo_draw_47 (eMo_draws (((((((((((hs.2 h1)).2 h2)).2).1 h3)).2).1 h4)).1)) ?_
          refine bMo_draw_57 (eMo_settles) ?_
          exact bMo_draw_61 (((((((((((hs.2 h1)).2 h2)).2).1 h3)).2).1 h4)).2) ⟨rfl, rfl⟩
        · simp only [if_neg h4]
          exact bMo_draw_40 ⟨rfl, rfl⟩
      · simp only [if_neg h3]
        exact bMo_draw_40 ⟨rfl, rfl⟩

def gMo_keepDraft  (M : pm_M) : pm_M := (pm_set (pm_set (pm_set (pm_set (pm_set M 30 0 (fun j => if j < 45 then M.1 33 0 j else M.1 30 0 j)) 29 0 (upd (M.1 29 0) 3 (M.1 29 0 6))) 29 0 (upd ((pm_set (pm_set M 30 0 (fun j => if j < 45 then M.1 33 0 j else M.1 30 0 j)) 29 0 (upd (M.1 29 0) 3 (M.1 29 0 6))).1 29 0) 4 ((pm_set (pm_set M 30 0 (fun j => if j < 45 then M.1 33 0 j else M.1 30 0 j)) 29 0 (upd (M.1 29 0) 3 (M.1 29 0 6))).1 29 0 7))) 32 0 (upd (M.1 32 0) (Int32.toNatClampNeg 0) (vp_nar .boolean 0))) 32 0 (upd ((pm_set (pm_set (pm_set (pm_set M 30 0 (fun j => if j < 45 then M.1 33 0 j else M.1 30 0 j)) 29 0 (upd (M.1 29 0) 3 (M.1 29 0 6))) 29 0 (upd ((pm_set (pm_set M 30 0 (fun j => if j < 45 then M.1 33 0 j else M.1 30 0 j)) 29 0 (upd (M.1 29 0) 3 (M.1 29 0 6))).1 29 0) 4 ((pm_set (pm_set M 30 0 (fun j => if j < 45 then M.1 33 0 j else M.1 30 0 j)) 29 0 (upd (M.1 29 0) 3 (M.1 29 0 6))).1 29 0 7))) 32 0 (upd (M.1 32 0) (Int32.toNatClampNeg 0) (vp_nar .boolean 0))).1 32 0) (Int32.toNatClampNeg 1) (vp_nar .boolean 0)))
def sMo_keepDraft  (M : pm_M) : Prop := (((vp_in 0 2) ∧ (vp_in 1 2)))
theorem eMo_keepDraft  {M : pm_M} (hs : sMo_keepDraft  M) : pm_Ev mMo_keepDraft [pm_r 29 0] M none (gMo_keepDraft  M) := by
  refine pm_Sem_of (ls := [some (pm_r 29 0), none]) ok_mMo_keepDraft (by decide +kernel) rfl (by decide) (Nat.le_of_ble_eq_true rfl) rfl ?_
  unfold gMo_keepDraft
  unfold sMo_keepDraft at hs
  refine bMo_keepDraft_0 ?_
  refine wMo_keepDraft_2 ?_
  exact bMo_keepDraft_26 (hs.1) (hs.2) ⟨rfl, rfl⟩

