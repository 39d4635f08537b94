def fMo_in (b0 : Int64) (b2 : Int64) (b4 : Int64) (M : pm_M) : Int32 := (if (lg_cmp b0 b2) < 0 then 0 else (if (0 : Int32) < (lg_cmp b0 b4) then 0 else 1))
theorem zMo_in (b0 : Int64) (b2 : Int64) (b4 : Int64) (M : pm_M) : narrow .boolean (.int (fMo_in b0 b2 b4 M)) = .int (fMo_in b0 b2 b4 M) := by
  unfold fMo_in
  repeat' split
  all_goals first | rfl | skip
theorem eMo_in {b0 : Int64} {b2 : Int64} {b4 : Int64} {M : pm_M}  : pm_Ev mMo_in [pm_l b0, pm_l b2, pm_l b4] M (some (pm_i (fMo_in b0 b2 b4 M))) M := by
  refine pm_Sem_of (ls := [some (pm_l b0), none, some (pm_l b2), none, some (pm_l b4), none]) ok_mMo_in (by decide +kernel) rfl (by decide) (Nat.le_of_ble_eq_true rfl) rfl ?_
  unfold fMo_in
  refine bMo_in_0 (fun h1 => ?_) (fun h1 => ?_)
  · simp only [if_pos h1]
    refine bMo_in_17 ?_
    exact bMo_in_18 rfl ⟨rfl, rfl⟩
  · simp only [if_neg h1]
    refine bMo_in_6 (fun h2 => ?_) (fun h2 => ?_)
    · simp only [if_pos h2]
      refine bMo_in_17 ?_
      exact bMo_in_18 rfl ⟨rfl, rfl⟩
    · simp only [if_neg h2]
      refine bMo_in_13 ?_
      exact bMo_in_18 rfl ⟨rfl, rfl⟩

def fMo_flag (a0 : Int32) (M : pm_M) : Int32 := (if a0 = 0 then 0 else 1)
theorem eMo_flag {a0 : Int32} {M : pm_M}  : pm_Ev mMo_flag [pm_i a0] M (some (pm_i (fMo_flag a0 M))) M := by
  refine pm_Sem_of (ls := [some (pm_i a0)]) ok_mMo_flag (by decide +kernel) rfl (by decide) (Nat.le_of_ble_eq_true rfl) rfl ?_
  unfold fMo_flag
  refine bMo_flag_0 (fun h1 => ?_) (fun h1 => ?_)
  · simp only [if_pos h1]
    refine bMo_flag_8 ?_
    exact bMo_flag_9 ⟨rfl, rfl⟩
  · simp only [if_neg h1]
    refine bMo_flag_4 ?_
    exact bMo_flag_9 ⟨rfl, rfl⟩

def fMo_feed (a1 : Int32) (M : pm_M) : Int32 := (if (fMo_in (Int32.toInt64 a1) 0 127 M) = 0 then (-1) else (if (M.1 29 0 13) = 160 then (-3) else ((pm_set (pm_set M 35 0 (upd (M.1 35 0) (Int32.toNatClampNeg (M.1 29 0 13)) a1)) 29 0 (upd (M.1 29 0) 13 ((M.1 29 0 13) + 1))).1 29 0 13)))
def gMo_feed (a1 : Int32) (M : pm_M) : pm_M := (if (fMo_in (Int32.toInt64 a1) 0 127 M) = 0 then M else (if (M.1 29 0 13) = 160 then M else (pm_set (pm_set M 35 0 (upd (M.1 35 0) (Int32.toNatClampNeg (M.1 29 0 13)) a1)) 29 0 (upd (M.1 29 0) 13 ((M.1 29 0 13) + 1)))))
def sMo_feed (a1 : Int32) (M : pm_M) : Prop := ((((fMo_in (Int32.toInt64 a1) 0 127 M) = 0 → True) ∧ (¬ ((fMo_in (Int32.toInt64 a1) 0 127 M) = 0) → (((M.1 29 0 13) = 160 → True) ∧ (¬ ((M.1 29 0 13) = 160) → (vp_in (M.1 29 0 13) 160))))))
theorem eMo_feed {a1 : Int32} {M : pm_M} (hs : sMo_feed a1 M) : pm_Ev mMo_feed [pm_r 29 0, pm_i a1] M (some (pm_i (fMo_feed a1 M))) (gMo_feed a1 M) := by
  refine pm_Sem_of (ls := [some (pm_r 29 0), some (pm_i a1)]) ok_mMo_feed (by decide +kernel) rfl (by decide) (Nat.le_of_ble_eq_true rfl) rfl ?_
  unfold fMo_feed gMo_feed
  unfold sMo_feed at hs
  refine bMo_feed_0 (eMo_in) ?_
  refine bMo_feed_9 (fun h1 => ?_) (fun h1 => ?_)
  · simp only [if_pos h1]
    exact bMo_feed_12 ⟨rfl, rfl⟩
  · simp only [if_neg h1]
    refine bMo_feed_14 (fun h2 => ?_) (fun h2 => ?_)
    · simp only [if_pos h2]
      exact bMo_feed_24 ⟨rfl, rfl⟩
    · simp only [if_neg h2]
      exact bMo_feed_27 ((((hs.2 h1)).2 h2)) ⟨rfl, rfl⟩

def fMo_end (a1 : Int32) (M : pm_M) : Int32 := (if (fMo_in (Int32.toInt64 a1) 0 (Int32.toInt64 (M.1 29 0 13)) M) = 0 then (-1) else (M.1 29 0 13))
def gMo_end (a1 : Int32) (M : pm_M) : pm_M := (if (fMo_in (Int32.toInt64 a1) 0 (Int32.toInt64 (M.1 29 0 13)) M) = 0 then M else (pm_set M 29 0 (upd (M.1 29 0) 13 a1)))
theorem eMo_end {a1 : Int32} {M : pm_M}  : pm_Ev mMo_end [pm_r 29 0, pm_i a1] M (some (pm_i (fMo_end a1 M))) (gMo_end a1 M) := by
  refine pm_Sem_of (ls := [some (pm_r 29 0), some (pm_i a1), none]) ok_mMo_end (by decide +kernel) rfl (by decide) (Nat.le_of_ble_eq_true rfl) rfl ?_
  unfold fMo_end gMo_end
  refine bMo_end_0 (eMo_in) ?_
  refine bMo_end_11 (fun h1 => ?_) (fun h1 => ?_)
  · simp only [if_pos h1]
    exact bMo_end_14 ⟨rfl, rfl⟩
  · simp only [if_neg h1]
    exact bMo_end_16 ⟨rfl, rfl⟩

def fMo_byteAt (a1 : Int32) (M : pm_M) : Int32 := (if (M.1 29 0 13) ≤ a1 then (-1) else (M.1 35 0 (Int32.toNatClampNeg a1)))
def sMo_byteAt (a1 : Int32) (M : pm_M) : Prop := (((M.1 29 0 13) ≤ a1 → True) ∧ (¬ ((M.1 29 0 13) ≤ a1) → (vp_in a1 160)))
theorem eMo_byteAt {a1 : Int32} {M : pm_M} (hs : sMo_byteAt a1 M) : pm_Ev mMo_byteAt [pm_r 29 0, pm_i a1] M (some (pm_i (fMo_byteAt a1 M))) M := by
  refine pm_Sem_of (ls := [some (pm_r 29 0), some (pm_i a1)]) ok_mMo_byteAt (by decide +kernel) rfl (by decide) (Nat.le_of_ble_eq_true rfl) rfl ?_
  unfold fMo_byteAt
  unfold sMo_byteAt at hs
  refine bMo_byteAt_0 (fun h1 => ?_) (fun h1 => ?_)
  · simp only [if_pos h1]
    refine bMo_byteAt_17 ?_
    exact bMo_byteAt_18 ⟨rfl, rfl⟩
  · simp only [if_neg h1]
    refine bMo_byteAt_8 ((hs.2 h1)) ?_
    exact bMo_byteAt_18 ⟨rfl, rfl⟩

def gMo_needs (a1 : Int32) (a2 : Int32) (M : pm_M) : pm_M := (if a1 = 0 then (if (M.1 29 0 18) = 0 then (pm_set (pm_set M 29 0 (upd (M.1 29 0) 18 a2)) 29 0 (upd ((pm_set M 29 0 (upd (M.1 29 0) 18 a2)).1 29 0) 19 ((pm_set M 29 0 (upd (M.1 29 0) 18 a2)).1 29 0 15))) else M) else M)
theorem eMo_needs {a1 : Int32} {a2 : Int32} {M : pm_M}  : pm_Ev mMo_needs [pm_r 29 0, pm_i a1, pm_i a2] M none (gMo_needs a1 a2 M) := by
  refine pm_Sem_of (ls := [some (pm_r 29 0), some (pm_i a1), some (pm_i a2)]) ok_mMo_needs (by decide +kernel) rfl (by decide) (Nat.le_of_ble_eq_true rfl) rfl ?_
  unfold gMo_needs
  refine bMo_needs_0 (fun h1 => ?_) (fun h1 => ?_)
  · simp only [if_pos h1]
    refine bMo_needs_4 (fun h2 => ?_) (fun h2 => ?_)
    · simp only [if_pos h2]
      refine bMo_needs_11 ?_
      exact bMo_needs_24 ⟨rfl, rfl⟩
    · simp only [if_neg h2]
      exact bMo_needs_24 ⟨rfl, rfl⟩
  · simp only [if_neg h1]
    exact bMo_needs_24 ⟨rfl, rfl⟩

def fMo_is (a1 : Int32) (a2 : Int32) (a3 : Int32) (a4 : Int32) (M : pm_M) : Int32 := (if ((M.1 29 0 14) - (M.1 29 0 15)) = a1 then (if (fMo_byteAt (M.1 29 0 15) M) = a2 then (if (fMo_byteAt ((M.1 29 0 15) + 1) M) = a3 then (if (fMo_byteAt ((M.1 29 0 15) + 2) M) = a4 then 1 else 0) else 0) else 0) else 0)
def sMo_is (a1 : Int32) (a2 : Int32) (a3 : Int32) (a4 : Int32) (M : pm_M) : Prop := ((((M.1 29 0 14) - (M.1 29 0 15)) = a1 → (sMo_byteAt (M.1 29 0 15) M ∧ ((((fMo_byteAt (M.1 29 0 15) M) = a2 → (sMo_byteAt ((M.1 29 0 15) + 1) M ∧ ((((fMo_byteAt ((M.1 29 0 15) + 1) M) = a3 → (sMo_byteAt ((M.1 29 0 15) + 2) M)) ∧ (¬ ((fMo_byteAt ((M.1 29 0 15) + 1) M) = a3) → True))))) ∧ (¬ ((fMo_byteAt (M.1 29 0 15) M) = a2) → True))))) ∧ (¬ (((M.1 29 0 14) - (M.1 29 0 15)) = a1) → True))
theorem zMo_is (a1 : Int32) (a2 : Int32) (a3 : Int32) (a4 : Int32) (M : pm_M) : narrow .boolean (.int (fMo_is a1 a2 a3 a4 M)) = .int (fMo_is a1 a2 a3 a4 M) := by
  unfold fMo_is
  repeat' split
  all_goals first | rfl | skip
theorem eMo_is {a1 : Int32} {a2 : Int32} {a3 : Int32} {a4 : Int32} {M : pm_M} (hs : sMo_is a1 a2 a3 a4 M) : pm_Ev mMo_is [pm_r 29 0, pm_i a1, pm_i a2, pm_i a3, pm_i a4] M (some (pm_i (fMo_is a1 a2 a3 a4 M))) M := by
  refine pm_Sem_of (ls := [some (pm_r 29 0), some (pm_i a1), some (pm_i a2), some (pm_i a3), some (pm_i a4)]) ok_mMo_is (by decide +kernel) rfl (by decide) (Nat.le_of_ble_eq_true rfl) rfl ?_
  unfold fMo_is
  unfold sMo_is at hs
  refine bMo_is_0 (fun h1 => ?_) (fun h1 => ?_)
  · simp only [if_pos h1]
    refine bMo_is_13 (eMo_byteAt (((hs.1 h1)).1)) ?_
    refine bMo_is_21 (fun h2 => ?_) (fun h2 => ?_)
    · simp only [if_pos h2]
      refine bMo_is_25 (eMo_byteAt ((((((hs.1 h1)).2).1 h2)).1)) ?_
      refine bMo_is_35 (fun h3 => ?_) (fun h3 => ?_)
      · simp only [if_pos h3]
        refine bMo_is_39 (eMo_byteAt ((((((((hs.1 h1)).2).1 h2)).2).1 h3))) ?_
        refine bMo_is_49 (fun h4 => ?_) (fun h4 => ?_)
        · simp only [if_pos h4]
          refine bMo_is_54 ?_
          exact bMo_is_59 rfl ⟨rfl, rfl⟩
        · simp only [if_neg h4]
          refine bMo_is_58 ?_
          exact bMo_is_59 rfl ⟨rfl, rfl⟩
      · simp only [if_neg h3]
        refine bMo_is_58 ?_
        exact bMo_is_59 rfl ⟨rfl, rfl⟩
    · simp only [if_neg h2]
      refine bMo_is_58 ?_
      exact bMo_is_59 rfl ⟨rfl, rfl⟩
  · simp only [if_neg h1]
    refine bMo_is_58 ?_
    exact bMo_is_59 rfl ⟨rfl, rfl⟩

def fMo_hasEnd_50 (a1 : Int32) (a2 : Int32) (a3 : Int32) (a4 : Int32) (M : pm_M) : Int32 := (if a4 = 0 then 1 else (if (fMo_byteAt ((M.1 29 0 15) + 6) M) = a4 then 1 else 0))
def sMo_hasEnd_50 (a1 : Int32) (a2 : Int32) (a3 : Int32) (a4 : Int32) (M : pm_M) : Prop := ((a4 = 0 → True) ∧ (¬ (a4 = 0) → (sMo_byteAt ((M.1 29 0 15) + 6) M)))
theorem zMo_hasEnd_50 (a1 : Int32) (a2 : Int32) (a3 : Int32) (a4 : Int32) (M : pm_M) : narrow .boolean (.int (fMo_hasEnd_50 a1 a2 a3 a4 M)) = .int (fMo_hasEnd_50 a1 a2 a3 a4 M) := by
  unfold fMo_hasEnd_50
  repeat' split
  all_goals first | rfl | skip
theorem qMo_hasEnd_50 {a1 : Int32} {a2 : Int32} {a3 : Int32} {a4 : Int32} {M : pm_M} (hs : sMo_hasEnd_50 a1 a2 a3 a4 M) : pm_G mMo_hasEnd 50 [some (pm_r 29 0), some (pm_i a1), some (pm_i a2), some (pm_i a3), some (pm_i a4)] [] M (pm_D (some (pm_i (fMo_hasEnd_50 a1 a2 a3 a4 M))) M) := by
  unfold fMo_hasEnd_50
  unfold sMo_hasEnd_50 at hs
  refine bMo_hasEnd_50 (fun h1 => ?_) (fun h1 => ?_)
  · simp only [if_pos h1]
    refine bMo_hasEnd_71 ?_
    exact bMo_hasEnd_76 rfl ⟨rfl, rfl⟩
  · simp only [if_neg h1]
    refine bMo_hasEnd_55 (eMo_byteAt ((hs.2 h1))) ?_
    refine bMo_hasEnd_66 (fun h2 => ?_) (fun h2 => ?_)
    · simp only [if_pos h2]
      refine bMo_hasEnd_71 ?_
      exact bMo_hasEnd_76 rfl ⟨rfl, rfl⟩
    · simp only [if_neg h2]
      refine bMo_hasEnd_75 ?_
      exact bMo_hasEnd_76 rfl ⟨rfl, rfl⟩

def fMo_hasEnd_32 (a1 : Int32) (a2 : Int32) (a3 : Int32) (a4 : Int32) (M : pm_M) : Int32 := (if a3 = 0 then fMo_hasEnd_50 a1 a2 a3 a4 M else (if (fMo_byteAt ((M.1 29 0 15) + 5) M) = a3 then fMo_hasEnd_50 a1 a2 a3 a4 M else 0))
def sMo_hasEnd_32 (a1 : Int32) (a2 : Int32) (a3 : Int32) (a4 : Int32) (M : pm_M) : Prop := ((a3 = 0 → sMo_hasEnd_50 a1 a2 a3 a4 M) ∧ (¬ (a3 = 0) → (sMo_byteAt ((M.1 29 0 15) + 5) M ∧ ((((fMo_byteAt ((M.1 29 0 15) + 5) M) = a3 → sMo_hasEnd_50 a1 a2 a3 a4 M) ∧ (¬ ((fMo_byteAt ((M.1 29 0 15) + 5) M) = a3) → True))))))
theorem zMo_hasEnd_32 (a1 : Int32) (a2 : Int32) (a3 : Int32) (a4 : Int32) (M : pm_M) : narrow .boolean (.int (fMo_hasEnd_32 a1 a2 a3 a4 M)) = .int (fMo_hasEnd_32 a1 a2 a3 a4 M) := by
  unfold fMo_hasEnd_32
  repeat' split
  all_goals first | rfl | exact zMo_hasEnd_50 a1 a2 a3 a4 M | exact zMo_hasEnd_50 a1 a2 a3 a4 M | skip
theorem qMo_hasEnd_32 {a1 : Int32} {a2 : Int32} {a3 : Int32} {a4 : Int32} {M : pm_M} (hs : sMo_hasEnd_32 a1 a2 a3 a4 M) : pm_G mMo_hasEnd 32 [some (pm_r 29 0), some (pm_i a1), some (pm_i a2), some (pm_i a3), some (pm_i a4)] [] M (pm_D (some (pm_i (fMo_hasEnd_32 a1 a2 a3 a4 M))) M) := by
  unfold fMo_hasEnd_32
  unfold sMo_hasEnd_32 at hs
  refine bMo_hasEnd_32 (fun h1 => ?_) (fun h1 => ?_)
  · simp only [if_pos h1]
    exact qMo_hasEnd_50 (hs.1 h1)
  · simp only [if_neg h1]
    refine bMo_hasEnd_36 (eMo_byteAt (((hs.2 h1)).1)) ?_
    refine bMo_hasEnd_46 (fun h2 => ?_) (fun h2 => ?_)
    · simp only [if_pos h2]
      exact qMo_hasEnd_50 ((((hs.2 h1)).2).1 h2)
    · simp only [if_neg h2]
      refine bMo_hasEnd_75 ?_
      exact bMo_hasEnd_76 rfl ⟨rfl, rfl⟩

def fMo_hasEnd (a1 : Int32) (a2 : Int32) (a3 : Int32) (a4 : Int32) (M : pm_M) : Int32 := (if (fMo_byteAt ((M.1 29 0 15) + 3) M) = a1 then (if a2 = 0 then fMo_hasEnd_32 a1 a2 a3 a4 M else (if (fMo_byteAt ((M.1 29 0 15) + 4) M) = a2 then fMo_hasEnd_32 a1 a2 a3 a4 M else 0)) else 0)
def sMo_hasEnd (a1 : Int32) (a2 : Int32) (a3 : Int32) (a4 : Int32) (M : pm_M) : Prop := (sMo_byteAt ((M.1 29 0 15) + 3) M ∧ ((((fMo_byteAt ((M.1 29 0 15) + 3) M) = a1 → ((a2 = 0 → sMo_hasEnd_32 a1 a2 a3 a4 M) ∧ (¬ (a2 = 0) → (sMo_byteAt ((M.1 29 0 15) + 4) M ∧ ((((fMo_byteAt ((M.1 29 0 15) + 4) M) = a2 → sMo_hasEnd_32 a1 a2 a3 a4 M) ∧ (¬ ((fMo_byteAt ((M.1 29 0 15) + 4) M) = a2) → True))))))) ∧ (¬ ((fMo_byteAt ((M.1 29 0 15) + 3) M) = a1) → True))))
theorem zMo_hasEnd (a1 : Int32) (a2 : Int32) (a3 : Int32) (a4 : Int32) (M : pm_M) : narrow .boolean (.int (fMo_hasEnd a1 a2 a3 a4 M)) = .int (fMo_hasEnd a1 a2 a3 a4 M) := by
  unfold fMo_hasEnd
  repeat' split
  all_goals first | rfl | exact zMo_hasEnd_32 a1 a2 a3 a4 M | exact zMo_hasEnd_32 a1 a2 a3 a4 M | skip
theorem eMo_hasEnd {a1 : Int32} {a2 : Int32} {a3 : Int32} {a4 : Int32} {M : pm_M} (hs : sMo_hasEnd a1 a2 a3 a4 M) : pm_Ev mMo_hasEnd [pm_r 29 0, pm_i a1, pm_i a2, pm_i a3, pm_i a4] M (some (pm_i (fMo_hasEnd a1 a2 a3 a4 M))) M := by
  refine pm_Sem_of (ls := [some (pm_r 29 0), some (pm_i a1), some (pm_i a2), some (pm_i a3), some (pm_i a4)]) ok_mMo_hasEnd (by decide +kernel) rfl (by decide) (Nat.le_of_ble_eq_true rfl) rfl ?_
  unfold fMo_hasEnd
  unfold sMo_hasEnd at hs
  refine bMo_hasEnd_0 (eMo_byteAt (hs.1)) ?_
  refine bMo_hasEnd_10 (fun h1 => ?_) (fun h1 => ?_)
  · simp only [if_pos h1]
    refine bMo_hasEnd_14 (fun h2 => ?_) (fun h2 => ?_)
    · simp only [if_pos h2]
      exact qMo_hasEnd_32 (((hs.2.1 h1)).1 h2)
    · simp only [if_neg h2]
      refine bMo_hasEnd_18 (eMo_byteAt (((((hs.2.1 h1)).2 h2)).1)) ?_
      refine bMo_hasEnd_28 (fun h3 => ?_) (fun h3 => ?_)
      · simp only [if_pos h3]
        exact qMo_hasEnd_32 ((((((hs.2.1 h1)).2 h2)).2).1 h3)
      · simp only [if_neg h3]
        refine bMo_hasEnd_75 ?_
        exact bMo_hasEnd_76 rfl ⟨rfl, rfl⟩
  · simp only [if_neg h1]
    refine bMo_hasEnd_75 ?_
    exact bMo_hasEnd_76 rfl ⟨rfl, rfl⟩

def fMo_lineNow_181  (M : pm_M) : Int32 := (if (fMo_is 4 100 114 97 M) = 0 then (-4) else (if (fMo_hasEnd 119 0 0 0 M) = 0 then (-4) else 6))
def sMo_lineNow_181  (M : pm_M) : Prop := (sMo_is 4 100 114 97 M ∧ ((((fMo_is 4 100 114 97 M) = 0 → True) ∧ (¬ ((fMo_is 4 100 114 97 M) = 0) → (sMo_hasEnd 119 0 0 0 M)))))
theorem qMo_lineNow_181  {M : pm_M} (hs : sMo_lineNow_181  M) : pm_G mMo_lineNow 181 [some (pm_r 29 0)] [] M (pm_D (some (pm_i (fMo_lineNow_181  M))) M) := by
  unfold fMo_lineNow_181
  unfold sMo_lineNow_181 at hs
  refine bMo_lineNow_181 (eMo_is (hs.1)) ?_
  refine bMo_lineNow_192 (fun h1 => ?_) (fun h1 => ?_)
  · simp only [if_pos h1]
    refine bMo_lineNow_212 ?_
    exact bMo_lineNow_214 ⟨rfl, rfl⟩
  · simp only [if_neg h1]
    refine bMo_lineNow_195 (eMo_hasEnd ((hs.2.2 h1))) ?_
    refine bMo_lineNow_204 (fun h2 => ?_) (fun h2 => ?_)
    · simp only [if_pos h2]
      refine bMo_lineNow_212 ?_
      exact bMo_lineNow_214 ⟨rfl, rfl⟩
    · simp only [if_neg h2]
      refine bMo_lineNow_207 ?_
      exact bMo_lineNow_214 ⟨rfl, rfl⟩

def fMo_lineNow_150  (M : pm_M) : Int32 := (if (fMo_is 5 112 114 105 M) = 0 then fMo_lineNow_181  M else (if (fMo_hasEnd 122 101 0 0 M) = 0 then fMo_lineNow_181  M else 5))
def sMo_lineNow_150  (M : pm_M) : Prop := (sMo_is 5 112 114 105 M ∧ ((((fMo_is 5 112 114 105 M) = 0 → sMo_lineNow_181  M) ∧ (¬ ((fMo_is 5 112 114 105 M) = 0) → (sMo_hasEnd 122 101 0 0 M ∧ ((((fMo_hasEnd 122 101 0 0 M) = 0 → sMo_lineNow_181  M) ∧ (¬ ((fMo_hasEnd 122 101 0 0 M) = 0) → True))))))))
theorem qMo_lineNow_150  {M : pm_M} (hs : sMo_lineNow_150  M) : pm_G mMo_lineNow 150 [some (pm_r 29 0)] [] M (pm_D (some (pm_i (fMo_lineNow_150  M))) M) := by
  unfold fMo_lineNow_150
  unfold sMo_lineNow_150 at hs
  refine bMo_lineNow_150 (eMo_is (hs.1)) ?_
  refine bMo_lineNow_161 (fun h1 => ?_) (fun h1 => ?_)
  · simp only [if_pos h1]
    exact qMo_lineNow_181 (hs.2.1 h1)
  · simp only [if_neg h1]
    refine bMo_lineNow_164 (eMo_hasEnd (((hs.2.2 h1)).1)) ?_
    refine bMo_lineNow_174 (fun h2 => ?_) (fun h2 => ?_)
    · simp only [if_pos h2]
      exact qMo_lineNow_181 ((((hs.2.2 h1)).2).1 h2)
    · simp only [if_neg h2]
      refine bMo_lineNow_177 ?_
      exact bMo_lineNow_214 ⟨rfl, rfl⟩

def fMo_lineNow_119  (M : pm_M) : Int32 := (if (fMo_is 6 112 101 114 M) = 0 then fMo_lineNow_150  M else (if (fMo_hasEnd 115 111 110 0 M) = 0 then fMo_lineNow_150  M else 4))
def sMo_lineNow_119  (M : pm_M) : Prop := (sMo_is 6 112 101 114 M ∧ ((((fMo_is 6 112 101 114 M) = 0 → sMo_lineNow_150  M) ∧ (¬ ((fMo_is 6 112 101 114 M) = 0) → (sMo_hasEnd 115 111 110 0 M ∧ ((((fMo_hasEnd 115 111 110 0 M) = 0 → sMo_lineNow_150  M) ∧ (¬ ((fMo_hasEnd 115 111 110 0 M) = 0) → True))))))))
theorem qMo_lineNow_119  {M : pm_M} (hs : sMo_lineNow_119  M) : pm_G mMo_lineNow 119 [some (pm_r 29 0)] [] M (pm_D (some (pm_i (fMo_lineNow_119  M))) M) := by
  unfold fMo_lineNow_119
  unfold sMo_lineNow_119 at hs
  refine bMo_lineNow_119 (eMo_is (hs.1)) ?_
  refine bMo_lineNow_131 (fun h1 => ?_) (fun h1 => ?_)
  · simp only [if_pos h1]
    exact qMo_lineNow_150 (hs.2.1 h1)
  · simp only [if_neg h1]
    refine bMo_lineNow_134 (eMo_hasEnd (((hs.2.2 h1)).1)) ?_
    refine bMo_lineNow_145 (fun h2 => ?_) (fun h2 => ?_)
    · simp only [if_pos h2]
      exact qMo_lineNow_150 ((((hs.2.2 h1)).2).1 h2)
    · simp only [if_neg h2]
      exact bMo_lineNow_148 ⟨rfl, rfl⟩

def fMo_lineNow_87  (M : pm_M) : Int32 := (if (fMo_is 7 105 110 115 M) = 0 then fMo_lineNow_119  M else (if (fMo_hasEnd 117 114 101 100 M) = 0 then fMo_lineNow_119  M else 3))
def sMo_lineNow_87  (M : pm_M) : Prop := (sMo_is 7 105 110 115 M ∧ ((((fMo_is 7 105 110 115 M) = 0 → sMo_lineNow_119  M) ∧ (¬ ((fMo_is 7 105 110 115 M) = 0) → (sMo_hasEnd 117 114 101 100 M ∧ ((((fMo_hasEnd 117 114 101 100 M) = 0 → sMo_lineNow_119  M) ∧ (¬ ((fMo_hasEnd 117 114 101 100 M) = 0) → True))))))))
theorem qMo_lineNow_87  {M : pm_M} (hs : sMo_lineNow_87  M) : pm_G mMo_lineNow 87 [some (pm_r 29 0)] [] M (pm_D (some (pm_i (fMo_lineNow_87  M))) M) := by
  unfold fMo_lineNow_87
  unfold sMo_lineNow_87 at hs
  refine bMo_lineNow_87 (eMo_is (hs.1)) ?_
  refine bMo_lineNow_99 (fun h1 => ?_) (fun h1 => ?_)
  · simp only [if_pos h1]
    exact qMo_lineNow_119 (hs.2.1 h1)
  · simp only [if_neg h1]
    refine bMo_lineNow_102 (eMo_hasEnd (((hs.2.2 h1)).1)) ?_
    refine bMo_lineNow_114 (fun h2 => ?_) (fun h2 => ?_)
    · simp only [if_pos h2]
      exact qMo_lineNow_119 ((((hs.2.2 h1)).2).1 h2)
    · simp only [if_neg h2]
      exact bMo_lineNow_117 ⟨rfl, rfl⟩

def fMo_lineNow_58  (M : pm_M) : Int32 := (if (fMo_is 5 115 112 108 M) = 0 then fMo_lineNow_87  M else (if (fMo_hasEnd 105 116 0 0 M) = 0 then fMo_lineNow_87  M else 2))
def sMo_lineNow_58  (M : pm_M) : Prop := (sMo_is 5 115 112 108 M ∧ ((((fMo_is 5 115 112 108 M) = 0 → sMo_lineNow_87  M) ∧ (¬ ((fMo_is 5 115 112 108 M) = 0) → (sMo_hasEnd 105 116 0 0 M ∧ ((((fMo_hasEnd 105 116 0 0 M) = 0 → sMo_lineNow_87  M) ∧ (¬ ((fMo_hasEnd 105 116 0 0 M) = 0) → True))))))))
theorem qMo_lineNow_58  {M : pm_M} (hs : sMo_lineNow_58  M) : pm_G mMo_lineNow 58 [some (pm_r 29 0)] [] M (pm_D (some (pm_i (fMo_lineNow_58  M))) M) := by
  unfold fMo_lineNow_58
  unfold sMo_lineNow_58 at hs
  refine bMo_lineNow_58 (eMo_is (hs.1)) ?_
  refine bMo_lineNow_69 (fun h1 => ?_) (fun h1 => ?_)
  · simp only [if_pos h1]
    exact qMo_lineNow_87 (hs.2.1 h1)
  · simp only [if_neg h1]
    refine bMo_lineNow_72 (eMo_hasEnd (((hs.2.2 h1)).1)) ?_
    refine bMo_lineNow_82 (fun h2 => ?_) (fun h2 => ?_)
    · simp only [if_pos h2]
      exact qMo_lineNow_87 ((((hs.2.2 h1)).2).1 h2)
    · simp only [if_neg h2]
      exact bMo_lineNow_85 ⟨rfl, rfl⟩

def fMo_lineNow_29  (M : pm_M) : Int32 := (if (fMo_is 5 104 105 114 M) = 0 then fMo_lineNow_58  M else (if (fMo_hasEnd 101 100 0 0 M) = 0 then fMo_lineNow_58  M else 1))
def sMo_lineNow_29  (M : pm_M) : Prop := (sMo_is 5 104 105 114 M ∧ ((((fMo_is 5 104 105 114 M) = 0 → sMo_lineNow_58  M) ∧ (¬ ((fMo_is 5 104 105 114 M) = 0) → (sMo_hasEnd 101 100 0 0 M ∧ ((((fMo_hasEnd 101 100 0 0 M) = 0 → sMo_lineNow_58  M) ∧ (¬ ((fMo_hasEnd 101 100 0 0 M) = 0) → True))))))))
theorem qMo_lineNow_29  {M : pm_M} (hs : sMo_lineNow_29  M) : pm_G mMo_lineNow 29 [some (pm_r 29 0)] [] M (pm_D (some (pm_i (fMo_lineNow_29  M))) M) := by
  unfold fMo_lineNow_29
  unfold sMo_lineNow_29 at hs
  refine bMo_lineNow_29 (eMo_is (hs.1)) ?_
  refine bMo_lineNow_40 (fun h1 => ?_) (fun h1 => ?_)
  · simp only [if_pos h1]
    exact qMo_lineNow_58 (hs.2.1 h1)
  · simp only [if_neg h1]
    refine bMo_lineNow_43 (eMo_hasEnd (((hs.2.2 h1)).1)) ?_
    refine bMo_lineNow_53 (fun h2 => ?_) (fun h2 => ?_)
    · simp only [if_pos h2]
      exact qMo_lineNow_58 ((((hs.2.2 h1)).2).1 h2)
    · simp only [if_neg h2]
      exact bMo_lineNow_56 ⟨rfl, rfl⟩

def fMo_lineNow  (M : pm_M) : Int32 := (if (fMo_is 5 119 104 111 M) = 0 then fMo_lineNow_29  M else (if (fMo_hasEnd 108 101 0 0 M) = 0 then fMo_lineNow_29  M else 0))
def sMo_lineNow  (M : pm_M) : Prop := (sMo_is 5 119 104 111 M ∧ ((((fMo_is 5 119 104 111 M) = 0 → sMo_lineNow_29  M) ∧ (¬ ((fMo_is 5 119 104 111 M) = 0) → (sMo_hasEnd 108 101 0 0 M ∧ ((((fMo_hasEnd 108 101 0 0 M) = 0 → sMo_lineNow_29  M) ∧ (¬ ((fMo_hasEnd 108 101 0 0 M) = 0) → True))))))))
theorem eMo_lineNow  {M : pm_M} (hs : sMo_lineNow  M) : pm_Ev mMo_lineNow [pm_r 29 0] M (some (pm_i (fMo_lineNow  M))) M := by
  refine pm_Sem_of (ls := [some (pm_r 29 0)]) ok_mMo_lineNow (by decide +kernel) rfl (by decide) (Nat.le_of_ble_eq_true rfl) rfl ?_
  unfold fMo_lineNow
  unfold sMo_lineNow at hs
  refine bMo_lineNow_0 (eMo_is (hs.1)) ?_
  refine bMo_lineNow_11 (fun h1 => ?_) (fun h1 => ?_)
  · simp only [if_pos h1]
    exact qMo_lineNow_29 (hs.2.1 h1)
  · simp only [if_neg h1]
    refine bMo_lineNow_14 (eMo_hasEnd (((hs.2.2 h1)).1)) ?_
    refine bMo_lineNow_24 (fun h2 => ?_) (fun h2 => ?_)
    · simp only [if_pos h2]
      exact qMo_lineNow_29 ((((hs.2.2 h1)).2).1 h2)
    · simp only [if_neg h2]
      exact bMo_lineNow_27 ⟨rfl, rfl⟩

def fMo_hasRoom (a1 : Int32) (M : pm_M) : Int32 := (if a1 = 4 then (if (4 : Int32) ≤ (M.1 29 0 6) then 0 else 1) else (if a1 = 5 then (if (4 : Int32) ≤ (M.1 29 0 8) then 0 else 1) else (if a1 = 6 then (if (4 : Int32) ≤ (M.1 29 0 9) then 0 else 1) else (if (4 : Int32) ≤ (M.1 29 0 7) then 0 else 1))))
theorem zMo_hasRoom (a1 : Int32) (M : pm_M) : narrow .boolean (.int (fMo_hasRoom a1 M)) = .int (fMo_hasRoom a1 M) := by
  unfold fMo_hasRoom
  repeat' split
  all_goals first | rfl | skip
theorem eMo_hasRoom {a1 : Int32} {M : pm_M}  : pm_Ev mMo_hasRoom [pm_r 29 0, pm_i a1] M (some (pm_i (fMo_hasRoom a1 M))) M := by
  refine pm_Sem_of (ls := [some (pm_r 29 0), some (pm_i a1)]) ok_mMo_hasRoom (by decide +kernel) rfl (by decide) (Nat.le_of_ble_eq_true rfl) rfl ?_
  unfold fMo_hasRoom
  refine bMo_hasRoom_0 (fun h1 => ?_) (fun h1 => ?_)
  · simp only [if_pos h1]
    refine bMo_hasRoom_5 (fun h2 => ?_) (fun h2 => ?_)
    · simp only [if_pos h2]
      refine bMo_hasRoom_17 ?_
      exact bMo_hasRoom_77 rfl ⟨rfl, rfl⟩
    · simp only [if_neg h2]
      refine bMo_hasRoom_13 ?_
      exact bMo_hasRoom_77 rfl ⟨rfl, rfl⟩
  · simp only [if_neg h1]
    refine bMo_hasRoom_21 (fun h2 => ?_) (fun h2 => ?_)
    · simp only [if_pos h2]
      refine bMo_hasRoom_26 (fun h3 => ?_) (fun h3 => ?_)
      · simp only [if_pos h3]
        refine bMo_hasRoom_38 ?_
        exact bMo_hasRoom_77 rfl ⟨rfl, rfl⟩
      · simp only [if_neg h3]
        refine bMo_hasRoom_34 ?_
        exact bMo_hasRoom_77 rfl ⟨rfl, rfl⟩
    · simp only [if_neg h2]
      refine bMo_hasRoom_42 (fun h3 => ?_) (fun h3 => ?_)
      · simp only [if_pos h3]
        refine bMo_hasRoom_48 (fun h4 => ?_) (fun h4 => ?_)
        · simp only [if_pos h4]
          refine bMo_hasRoom_60 ?_
          exact bMo_hasRoom_77 rfl ⟨rfl, rfl⟩
        · simp only [if_neg h4]
          refine bMo_hasRoom_56 ?_
          exact bMo_hasRoom_77 rfl ⟨rfl, rfl⟩
      · simp only [if_neg h3]
        refine bMo_hasRoom_64 (fun h4 => ?_) (fun h4 => ?_)
        · simp only [if_pos h4]
          refine bMo_hasRoom_76 ?_
          exact bMo_hasRoom_77 rfl ⟨rfl, rfl⟩
        · simp only [if_neg h4]
          refine bMo_hasRoom_72 ?_
          exact bMo_hasRoom_77 rfl ⟨rfl, rfl⟩

def fMo_of (a1 : Int32) (a2 : Int32) (M : pm_M) : Int32 := (M.1 31 0 (Int32.toNatClampNeg ((4 + (5 * a1)) + a2)))
def sMo_of (a1 : Int32) (a2 : Int32) (M : pm_M) : Prop := (vp_in ((4 + (5 * a1)) + a2) 45)
theorem eMo_of {a1 : Int32} {a2 : Int32} {M : pm_M} (hs : sMo_of a1 a2 M) : pm_Ev mMo_of [pm_r 29 0, pm_i a1, pm_i a2] M (some (pm_i (fMo_of a1 a2 M))) M := by
  refine pm_Sem_of (ls := [some (pm_r 29 0), some (pm_i a1), some (pm_i a2)]) ok_mMo_of (by decide +kernel) rfl (by decide) (Nat.le_of_ble_eq_true rfl) rfl ?_
  unfold fMo_of
  unfold sMo_of at hs
  exact bMo_of_0 (hs) ⟨rfl, rfl⟩

def fMo_isInWheel (a1 : Int32) (M : pm_M) : Int32 := (if (fMo_of a1 4 M) = (-4) then 1 else 0)
def sMo_isInWheel (a1 : Int32) (M : pm_M) : Prop := (sMo_of a1 4 M)
theorem zMo_isInWheel (a1 : Int32) (M : pm_M) : narrow .boolean (.int (fMo_isInWheel a1 M)) = .int (fMo_isInWheel a1 M) := by
  unfold fMo_isInWheel
  repeat' split
  all_goals first | rfl | skip
theorem eMo_isInWheel {a1 : Int32} {M : pm_M} (hs : sMo_isInWheel a1 M) : pm_Ev mMo_isInWheel [pm_r 29 0, pm_i a1] M (some (pm_i (fMo_isInWheel a1 M))) M := by
  refine pm_Sem_of (ls := [some (pm_r 29 0), some (pm_i a1)]) ok_mMo_isInWheel (by decide +kernel) rfl (by decide) (Nat.le_of_ble_eq_true rfl) rfl ?_
  unfold fMo_isInWheel
  unfold sMo_isInWheel at hs
  refine bMo_isInWheel_0 (eMo_of (hs)) ?_
  refine bMo_isInWheel_6 (fun h1 => ?_) (fun h1 => ?_)
  · simp only [if_pos h1]
    refine bMo_isInWheel_11 ?_
    exact bMo_isInWheel_16 rfl ⟨rfl, rfl⟩
  · simp only [if_neg h1]
    refine bMo_isInWheel_15 ?_
    exact bMo_isInWheel_16 rfl ⟨rfl, rfl⟩

def gMo_pays (a1 : Int32) (a2 : Int32) (a3 : Int32) (M : pm_M) : pm_M := (pm_set (pm_set M 31 0 (upd (M.1 31 0) (Int32.toNatClampNeg a1) ((M.1 31 0 (Int32.toNatClampNeg a1)) - a3))) 31 0 (upd ((pm_set M 31 0 (upd (M.1 31 0) (Int32.toNatClampNeg a1) ((M.1 31 0 (Int32.toNatClampNeg a1)) - a3))).1 31 0) (Int32.toNatClampNeg a2) (((pm_set M 31 0 (upd (M.1 31 0) (Int32.toNatClampNeg a1) ((M.1 31 0 (Int32.toNatClampNeg a1)) - a3))).1 31 0 (Int32.toNatClampNeg a2)) + a3)))
def sMo_pays (a1 : Int32) (a2 : Int32) (a3 : Int32) (M : pm_M) : Prop := (vp_in a1 45) ∧ (vp_in a1 45) ∧ (vp_in a2 45) ∧ (vp_in a2 45)
theorem eMo_pays {a1 : Int32} {a2 : Int32} {a3 : Int32} {M : pm_M} (hs : sMo_pays a1 a2 a3 M) : pm_Ev mMo_pays [pm_r 29 0, pm_i a1, pm_i a2, pm_i a3] M none (gMo_pays a1 a2 a3 M) := by
  refine pm_Sem_of (ls := [some (pm_r 29 0), some (pm_i a1), some (pm_i a2), some (pm_i a3)]) ok_mMo_pays (by decide +kernel) rfl (by decide) (Nat.le_of_ble_eq_true rfl) rfl ?_
  unfold gMo_pays
  unfold sMo_pays at hs
  exact bMo_pays_0 (hs.1) (hs.2.1) (hs.2.2.1) (hs.2.2.2) ⟨rfl, rfl⟩

def fMo_fault  (M : pm_M) : Int32 := (M.1 29 0 18)
theorem eMo_fault  {M : pm_M}  : pm_Ev mMo_fault [pm_r 29 0] M (some (pm_i (fMo_fault  M))) M := by
  refine pm_Sem_of (ls := [some (pm_r 29 0)]) ok_mMo_fault (by decide +kernel) rfl (by decide) (Nat.le_of_ble_eq_true rfl) rfl ?_
  unfold fMo_fault
  exact bMo_fault_0 ⟨rfl, rfl⟩

def fMo_isPerson (a1 : Int32) (M : pm_M) : Int32 := (fMo_in (Int32.toInt64 a1) 0 (Int32.toInt64 ((M.1 29 0 3) - 1)) M)
theorem zMo_isPerson (a1 : Int32) (M : pm_M) : narrow .boolean (.int (fMo_isPerson a1 M)) = .int (fMo_isPerson a1 M) := by
  unfold fMo_isPerson
  repeat' split
  all_goals first | rfl | exact zMo_in (Int32.toInt64 a1) 0 (Int32.toInt64 ((M.1 29 0 3) - 1)) M | skip
theorem eMo_isPerson {a1 : Int32} {M : pm_M}  : pm_Ev mMo_isPerson [pm_r 29 0, pm_i a1] M (some (pm_i (fMo_isPerson a1 M))) M := by
  refine pm_Sem_of (ls := [some (pm_r 29 0), some (pm_i a1)]) ok_mMo_isPerson (by decide +kernel) rfl (by decide) (Nat.le_of_ble_eq_true rfl) rfl ?_
  unfold fMo_isPerson
  refine bMo_isPerson_0 (eMo_in) ?_
  exact bMo_isPerson_13 (zMo_in (Int32.toInt64 a1) 0 (Int32.toInt64 ((M.1 29 0 3) - 1)) M) ⟨rfl, rfl⟩

def fMo_isTicket (a1 : Int32) (M : pm_M) : Int32 := (fMo_in (Int32.toInt64 a1) 0 (Int32.toInt64 ((M.1 29 0 4) - 1)) M)
theorem zMo_isTicket (a1 : Int32) (M : pm_M) : narrow .boolean (.int (fMo_isTicket a1 M)) = .int (fMo_isTicket a1 M) := by
  unfold fMo_isTicket
  repeat' split
  all_goals first | rfl | exact zMo_in (Int32.toInt64 a1) 0 (Int32.toInt64 ((M.1 29 0 4) - 1)) M | skip
theorem eMo_isTicket {a1 : Int32} {M : pm_M}  : pm_Ev mMo_isTicket [pm_r 29 0, pm_i a1] M (some (pm_i (fMo_isTicket a1 M))) M := by
  refine pm_Sem_of (ls := [some (pm_r 29 0), some (pm_i a1)]) ok_mMo_isTicket (by decide +kernel) rfl (by decide) (Nat.le_of_ble_eq_true rfl) rfl ?_
  unfold fMo_isTicket
  refine bMo_isTicket_0 (eMo_in) ?_
  exact bMo_isTicket_13 (zMo_in (Int32.toInt64 a1) 0 (Int32.toInt64 ((M.1 29 0 4) - 1)) M) ⟨rfl, rfl⟩

def fMo_ticket (a1 : Int32) (a2 : Int32) (M : pm_M) : Int32 := (if (fMo_isTicket a1 M) = 0 then (-1) else (if (fMo_in (Int32.toInt64 a2) 0 4 M) = 0 then (-1) else (M.1 30 0 (Int32.toNatClampNeg ((4 + (5 * a1)) + a2)))))
def sMo_ticket (a1 : Int32) (a2 : Int32) (M : pm_M) : Prop := ((((fMo_isTicket a1 M) = 0 → True) ∧ (¬ ((fMo_isTicket a1 M) = 0) → ((((fMo_in (Int32.toInt64 a2) 0 4 M) = 0 → True) ∧ (¬ ((fMo_in (Int32.toInt64 a2) 0 4 M) = 0) → (vp_in ((4 + (5 * a1)) + a2) 135)))))))
theorem eMo_ticket {a1 : Int32} {a2 : Int32} {M : pm_M} (hs : sMo_ticket a1 a2 M) : pm_Ev mMo_ticket [pm_r 29 0, pm_i a1, pm_i a2] M (some (pm_i (fMo_ticket a1 a2 M))) M := by
  refine pm_Sem_of (ls := [some (pm_r 29 0), some (pm_i a1), some (pm_i a2)]) ok_mMo_ticket (by decide +kernel) rfl (by decide) (Nat.le_of_ble_eq_true rfl) rfl ?_
  unfold fMo_ticket
  unfold sMo_ticket at hs
  refine bMo_ticket_0 (eMo_isTicket) ?_
  refine bMo_ticket_5 (fun h1 => ?_) (fun h1 => ?_)
  · simp only [if_pos h1]
    refine bMo_ticket_35 ?_
    exact bMo_ticket_36 ⟨rfl, rfl⟩
  · simp only [if_neg h1]
    refine bMo_ticket_8 (eMo_in) ?_
    refine bMo_ticket_17 (fun h2 => ?_) (fun h2 => ?_)
    · simp only [if_pos h2]
      refine bMo_ticket_35 ?_
      exact bMo_ticket_36 ⟨rfl, rfl⟩
    · simp only [if_neg h2]
      refine bMo_ticket_20 ((((hs.2 h1)).2 h2)) ?_
      exact bMo_ticket_36 ⟨rfl, rfl⟩

def fMo_isPart (a0 : Int32) (M : pm_M) : Int32 := (fMo_in (Int32.toInt64 a0) 0 1 M)
theorem zMo_isPart (a0 : Int32) (M : pm_M) : narrow .boolean (.int (fMo_isPart a0 M)) = .int (fMo_isPart a0 M) := by
  unfold fMo_isPart
  repeat' split
  all_goals first | rfl | exact zMo_in (Int32.toInt64 a0) 0 1 M | skip
theorem eMo_isPart {a0 : Int32} {M : pm_M}  : pm_Ev mMo_isPart [pm_i a0] M (some (pm_i (fMo_isPart a0 M))) M := by
  refine pm_Sem_of (ls := [some (pm_i a0)]) ok_mMo_isPart (by decide +kernel) rfl (by decide) (Nat.le_of_ble_eq_true rfl) rfl ?_
  unfold fMo_isPart
  refine bMo_isPart_0 (eMo_in) ?_
  exact bMo_isPart_7 (zMo_in (Int32.toInt64 a0) 0 1 M) ⟨rfl, rfl⟩

def fMo_prize (a1 : Int32) (a2 : Int32) (M : pm_M) : Int32 := (if (fMo_isTicket a1 M) = 0 then (-1) else (if (fMo_isPart a2 M) = 0 then (-1) else (if a2 = 0 then (M.1 30 0 (Int32.toNatClampNeg (24 + a1))) else (M.1 30 0 (Int32.toNatClampNeg (28 + a1))))))
def sMo_prize (a1 : Int32) (a2 : Int32) (M : pm_M) : Prop := ((((fMo_isTicket a1 M) = 0 → True) ∧ (¬ ((fMo_isTicket a1 M) = 0) → ((((fMo_isPart a2 M) = 0 → True) ∧ (¬ ((fMo_isPart a2 M) = 0) → ((a2 = 0 → ((vp_in (24 + a1) 135))) ∧ (¬ (a2 = 0) → ((vp_in (28 + a1) 135))))))))))
theorem eMo_prize {a1 : Int32} {a2 : Int32} {M : pm_M} (hs : sMo_prize a1 a2 M) : pm_Ev mMo_prize [pm_r 29 0, pm_i a1, pm_i a2] M (some (pm_i (fMo_prize a1 a2 M))) M := by
  refine pm_Sem_of (ls := [some (pm_r 29 0), some (pm_i a1), some (pm_i a2)]) ok_mMo_prize (by decide +kernel) rfl (by decide) (Nat.le_of_ble_eq_true rfl) rfl ?_
  unfold fMo_prize
  unfold sMo_prize at hs
  refine bMo_prize_0 (eMo_isTicket) ?_
  refine bMo_prize_5 (fun h1 => ?_) (fun h1 => ?_)
  · simp only [if_pos h1]
    refine bMo_prize_36 ?_
    exact bMo_prize_37 ⟨rfl, rfl⟩
  · simp only [if_neg h1]
    refine bMo_prize_8 (eMo_isPart) ?_
    refine bMo_prize_12 (fun h2 => ?_) (fun h2 => ?_)
    · simp only [if_pos h2]
      refine bMo_prize_36 ?_
      exact bMo_prize_37 ⟨rfl, rfl⟩
    · simp only [if_neg h2]
      refine bMo_prize_15 (fun h3 => ?_) (fun h3 => ?_)
      · simp only [if_pos h3]
        refine bMo_prize_23 ?_
        refine bMo_prize_30 ((((((hs.2 h1)).2 h2)).1 h3)) ?_
        exact bMo_prize_37 ⟨rfl, rfl⟩
      · simp only [if_neg h3]
        refine bMo_prize_28 ?_
        refine bMo_prize_30 ((((((hs.2 h1)).2 h2)).2 h3)) ?_
        exact bMo_prize_37 ⟨rfl, rfl⟩

def fMo_isDrawn (a1 : Int32) (M : pm_M) : Int32 := (if (M.1 30 0 (Int32.toNatClampNeg ((4 + (5 * a1)) + 4))) = (-4) then 0 else 1)
def sMo_isDrawn (a1 : Int32) (M : pm_M) : Prop := (vp_in ((4 + (5 * a1)) + 4) 135)
theorem zMo_isDrawn (a1 : Int32) (M : pm_M) : narrow .boolean (.int (fMo_isDrawn a1 M)) = .int (fMo_isDrawn a1 M) := by
  unfold fMo_isDrawn
  repeat' split
  all_goals first | rfl | skip
theorem eMo_isDrawn {a1 : Int32} {M : pm_M} (hs : sMo_isDrawn a1 M) : pm_Ev mMo_isDrawn [pm_r 29 0, pm_i a1] M (some (pm_i (fMo_isDrawn a1 M))) M := by
  refine pm_Sem_of (ls := [some (pm_r 29 0), some (pm_i a1)]) ok_mMo_isDrawn (by decide +kernel) rfl (by decide) (Nat.le_of_ble_eq_true rfl) rfl ?_
  unfold fMo_isDrawn
  unfold sMo_isDrawn at hs
  refine bMo_isDrawn_0 (hs) (fun h1 => ?_) (fun h1 => ?_)
  · simp only [if_pos h1]
    refine bMo_isDrawn_21 ?_
    exact bMo_isDrawn_22 rfl ⟨rfl, rfl⟩
  · simp only [if_neg h1]
    refine bMo_isDrawn_17 ?_
    exact bMo_isDrawn_22 rfl ⟨rfl, rfl⟩

def fMo_becomes (a1 : Int32) (a2 : Int32) (M : pm_M) : Int32 := (M.1 30 0 (Int32.toNatClampNeg a1))
def gMo_becomes (a1 : Int32) (a2 : Int32) (M : pm_M) : pm_M := (pm_set M 30 0 (upd (M.1 30 0) (Int32.toNatClampNeg a1) a2))
def sMo_becomes (a1 : Int32) (a2 : Int32) (M : pm_M) : Prop := (vp_in a1 135) ∧ (vp_in a1 135)
theorem eMo_becomes {a1 : Int32} {a2 : Int32} {M : pm_M} (hs : sMo_becomes a1 a2 M) : pm_Ev mMo_becomes [pm_r 29 0, pm_i a1, pm_i a2] M (some (pm_i (fMo_becomes a1 a2 M))) (gMo_becomes a1 a2 M) := by
  refine pm_Sem_of (ls := [some (pm_r 29 0), some (pm_i a1), some (pm_i a2), none]) ok_mMo_becomes (by decide +kernel) rfl (by decide) (Nat.le_of_ble_eq_true rfl) rfl ?_
  unfold fMo_becomes gMo_becomes
  unfold sMo_becomes at hs
  exact bMo_becomes_0 (hs.1) (hs.2) ⟨rfl, rfl⟩

def fMo_sign_60 (a1 : Int32) (a2 : Int32) (a3 : Int32) (x0 : Int32) (M : pm_M) : Int32 := (if x0 = 0 then (-1) else (if (fMo_isDrawn a1 M) = 0 then (fMo_becomes ((4 + (5 * a1)) + a2) a3 M) else (-2)))
def gMo_sign_60 (a1 : Int32) (a2 : Int32) (a3 : Int32) (x0 : Int32) (M : pm_M) : pm_M := (if x0 = 0 then M else (if (fMo_isDrawn a1 M) = 0 then (gMo_becomes ((4 + (5 * a1)) + a2) a3 M) else M))
def sMo_sign_60 (a1 : Int32) (a2 : Int32) (a3 : Int32) (x0 : Int32) (M : pm_M) : Prop := ((x0 = 0 → True) ∧ (¬ (x0 = 0) → (sMo_isDrawn a1 M ∧ ((((fMo_isDrawn a1 M) = 0 → (sMo_becomes ((4 + (5 * a1)) + a2) a3 M)) ∧ (¬ ((fMo_isDrawn a1 M) = 0) → True))))))
theorem qMo_sign_60 {a1 : Int32} {a2 : Int32} {a3 : Int32} {x0 : Int32} {M : pm_M} (hs : sMo_sign_60 a1 a2 a3 x0 M) : pm_G mMo_sign 60 [some (pm_r 29 0), some (pm_i a1), some (pm_i a2), some (pm_i a3), none] [pm_i x0] M (pm_D (some (pm_i (fMo_sign_60 a1 a2 a3 x0 M))) (gMo_sign_60 a1 a2 a3 x0 M)) := by
  unfold fMo_sign_60 gMo_sign_60
  unfold sMo_sign_60 at hs
  refine bMo_sign_60 (fun h1 => ?_) (fun h1 => ?_)
  · simp only [if_pos h1]
    exact bMo_sign_67 ⟨rfl, rfl⟩
  · simp only [if_neg h1]
    refine bMo_sign_69 (eMo_isDrawn (((hs.2 h1)).1)) ?_
    refine bMo_sign_74 (fun h2 => ?_) (fun h2 => ?_)
    · simp only [if_pos h2]
      refine bMo_sign_82 (eMo_becomes (((((hs.2 h1)).2).1 h2))) ?_
      exact bMo_sign_94 ⟨rfl, rfl⟩
    · simp only [if_neg h2]
      refine bMo_sign_77 ?_
      exact bMo_sign_94 ⟨rfl, rfl⟩

def fMo_sign (a1 : Int32) (a2 : Int32) (a3 : Int32) (M : pm_M) : Int32 := (if (fMo_isTicket a1 M) = 0 then (-1) else (if (fMo_in (Int32.toInt64 a2) 0 3 M) = 0 then (-1) else (if a2 = 0 then fMo_sign_60 a1 a2 a3 (fMo_in (Int32.toInt64 a3) 0 3 M) M else (if a2 = 3 then fMo_sign_60 a1 a2 a3 (fMo_in (Int32.toInt64 a3) 0 9 M) M else fMo_sign_60 a1 a2 a3 (fMo_isPerson a3 M) M))))
def gMo_sign (a1 : Int32) (a2 : Int32) (a3 : Int32) (M : pm_M) : pm_M := (if (fMo_isTicket a1 M) = 0 then M else (if (fMo_in (Int32.toInt64 a2) 0 3 M) = 0 then M else (if a2 = 0 then gMo_sign_60 a1 a2 a3 (fMo_in (Int32.toInt64 a3) 0 3 M) M else (if a2 = 3 then gMo_sign_60 a1 a2 a3 (fMo_in (Int32.toInt64 a3) 0 9 M) M else gMo_sign_60 a1 a2 a3 (fMo_isPerson a3 M) M))))
def sMo_sign (a1 : Int32) (a2 : Int32) (a3 : Int32) (M : pm_M) : Prop := ((((fMo_isTicket a1 M) = 0 → True) ∧ (¬ ((fMo_isTicket a1 M) = 0) → ((((fMo_in (Int32.toInt64 a2) 0 3 M) = 0 → True) ∧ (¬ ((fMo_in (Int32.toInt64 a2) 0 3 M) = 0) → ((a2 = 0 → ((sMo_sign_60 a1 a2 a3 (fMo_in (Int32.toInt64 a3) 0 3 M) M))) ∧ (¬ (a2 = 0) → ((a2 = 3 → ((sMo_sign_60 a1 a2 a3 (fMo_in (Int32.toInt64 a3) 0 9 M) M))) ∧ (¬ (a2 = 3) → (sMo_sign_60 a1 a2 a3 (fMo_isPerson a3 M) M)))))))))))
theorem eMo_sign {a1 : Int32} {a2 : Int32} {a3 : Int32} {M : pm_M} (hs : sMo_sign a1 a2 a3 M) : pm_Ev mMo_sign [pm_r 29 0, pm_i a1, pm_i a2, pm_i a3] M (some (pm_i (fMo_sign a1 a2 a3 M))) (gMo_sign a1 a2 a3 M) := by
  refine pm_Sem_of (ls := [some (pm_r 29 0), some (pm_i a1), some (pm_i a2), some (pm_i a3), none]) ok_mMo_sign (by decide +kernel) rfl (by decide) (Nat.le_of_ble_eq_true rfl) rfl ?_
  unfold fMo_sign gMo_sign
  unfold sMo_sign at hs
  refine bMo_sign_0 (eMo_isTicket) ?_
  refine bMo_sign_5 (fun h1 => ?_) (fun h1 => ?_)
  · simp only [if_pos h1]
    exact bMo_sign_20 ⟨rfl, rfl⟩
  · simp only [if_neg h1]
    refine bMo_sign_8 (eMo_in) ?_
    refine bMo_sign_17 (fun h2 => ?_) (fun h2 => ?_)
    · simp only [if_pos h2]
      exact bMo_sign_20 ⟨rfl, rfl⟩
    · simp only [if_neg h2]
      refine bMo_sign_22 (fun h3 => ?_) (fun h3 => ?_)
      · simp only [if_pos h3]
        refine bMo_sign_26 (eMo_in) ?_
        refine bMo_sign_35 ?_
        exact qMo_sign_60 (((((hs.2 h1)).2 h2)).1 h3)
      · simp only [if_neg h3]
        refine bMo_sign_38 (fun h4 => ?_) (fun h4 => ?_)
        · simp only [if_pos h4]
          refine bMo_sign_43 (eMo_in) ?_
          refine bMo_sign_52 ?_
          exact qMo_sign_60 (((((((hs.2 h1)).2 h2)).2 h3)).1 h4)
        · simp only [if_neg h4]
          refine bMo_sign_55 (eMo_isPerson) ?_
          exact qMo_sign_60 (((((((hs.2 h1)).2 h2)).2 h3)).2 h4)

def fMo_fill (a1 : Int32) (a2 : Int32) (M : pm_M) : Int32 := (if (fMo_isPerson a1 M) = 0 then (-1) else (if (fMo_in (Int32.toInt64 a2) 0 99 M) = 0 then (-1) else (10000 + (fMo_becomes a1 a2 M))))
def gMo_fill (a1 : Int32) (a2 : Int32) (M : pm_M) : pm_M := (if (fMo_isPerson a1 M) = 0 then M else (if (fMo_in (Int32.toInt64 a2) 0 99 M) = 0 then M else (gMo_becomes a1 a2 M)))
def sMo_fill (a1 : Int32) (a2 : Int32) (M : pm_M) : Prop := ((((fMo_isPerson a1 M) = 0 → True) ∧ (¬ ((fMo_isPerson a1 M) = 0) → ((((fMo_in (Int32.toInt64 a2) 0 99 M) = 0 → True) ∧ (¬ ((fMo_in (Int32.toInt64 a2) 0 99 M) = 0) → (sMo_becomes a1 a2 M)))))))
theorem eMo_fill {a1 : Int32} {a2 : Int32} {M : pm_M} (hs : sMo_fill a1 a2 M) : pm_Ev mMo_fill [pm_r 29 0, pm_i a1, pm_i a2] M (some (pm_i (fMo_fill a1 a2 M))) (gMo_fill a1 a2 M) := by
  refine pm_Sem_of (ls := [some (pm_r 29 0), some (pm_i a1), some (pm_i a2)]) ok_mMo_fill (by decide +kernel) rfl (by decide) (Nat.le_of_ble_eq_true rfl) rfl ?_
  unfold fMo_fill gMo_fill
  unfold sMo_fill at hs
  refine bMo_fill_0 (eMo_isPerson) ?_
  refine bMo_fill_5 (fun h1 => ?_) (fun h1 => ?_)
  · simp only [if_pos h1]
    refine bMo_fill_33 ?_
    exact bMo_fill_34 ⟨rfl, rfl⟩
  · simp only [if_neg h1]
    refine bMo_fill_8 (eMo_in) ?_
    refine bMo_fill_17 (fun h2 => ?_) (fun h2 => ?_)
    · simp only [if_pos h2]
      refine bMo_fill_33 ?_
      exact bMo_fill_34 ⟨rfl, rfl⟩
    · simp only [if_neg h2]
      refine bMo_fill_20 (eMo_becomes ((((hs.2 h1)).2 h2))) ?_
      refine bMo_fill_29 ?_
      exact bMo_fill_34 ⟨rfl, rfl⟩

def fMo_promise (a1 : Int32) (a2 : Int32) (M : pm_M) : Int32 := (if (fMo_isTicket a1 M) = 0 then (-1) else (if (fMo_in (Int32.toInt64 a2) 0 99 M) = 0 then (-1) else (if (M.1 30 0 (Int32.toNatClampNeg (28 + a1))) = (-4) then (fMo_becomes (24 + a1) a2 M) else (-2))))
def gMo_promise (a1 : Int32) (a2 : Int32) (M : pm_M) : pm_M := (if (fMo_isTicket a1 M) = 0 then M else (if (fMo_in (Int32.toInt64 a2) 0 99 M) = 0 then M else (if (M.1 30 0 (Int32.toNatClampNeg (28 + a1))) = (-4) then (gMo_becomes (24 + a1) a2 M) else M)))
def sMo_promise (a1 : Int32) (a2 : Int32) (M : pm_M) : Prop := ((((fMo_isTicket a1 M) = 0 → True) ∧ (¬ ((fMo_isTicket a1 M) = 0) → ((((fMo_in (Int32.toInt64 a2) 0 99 M) = 0 → True) ∧ (¬ ((fMo_in (Int32.toInt64 a2) 0 99 M) = 0) → (vp_in (28 + a1) 135) ∧ (((M.1 30 0 (Int32.toNatClampNeg (28 + a1))) = (-4) → (sMo_becomes (24 + a1) a2 M)) ∧ (¬ ((M.1 30 0 (Int32.toNatClampNeg (28 + a1))) = (-4)) → True))))))))
theorem eMo_promise {a1 : Int32} {a2 : Int32} {M : pm_M} (hs : sMo_promise a1 a2 M) : pm_Ev mMo_promise [pm_r 29 0, pm_i a1, pm_i a2] M (some (pm_i (fMo_promise a1 a2 M))) (gMo_promise a1 a2 M) := by
  refine pm_Sem_of (ls := [some (pm_r 29 0), some (pm_i a1), some (pm_i a2)]) ok_mMo_promise (by decide +kernel) rfl (by decide) (Nat.le_of_ble_eq_true rfl) rfl ?_
  unfold fMo_promise gMo_promise
  unfold sMo_promise at hs
  refine bMo_promise_0 (eMo_isTicket) ?_
  refine bMo_promise_5 (fun h1 => ?_) (fun h1 => ?_)
  · simp only [if_pos h1]
    exact bMo_promise_20 ⟨rfl, rfl⟩
  · simp only [if_neg h1]
    refine bMo_promise_8 (eMo_in) ?_
    refine bMo_promise_17 (fun h2 => ?_) (fun h2 => ?_)
    · simp only [if_pos h2]
      exact bMo_promise_20 ⟨rfl, rfl⟩
    · simp only [if_neg h2]
      refine bMo_promise_22 (((((hs.2 h1)).2 h2)).1) (fun h3 => ?_) (fun h3 => ?_)
      · simp only [if_pos h3]
        refine bMo_promise_41 (eMo_becomes (((((((hs.2 h1)).2 h2)).2).1 h3))) ?_
        exact bMo_promise_50 ⟨rfl, rfl⟩
      · simp only [if_neg h3]
        refine bMo_promise_36 ?_
        exact bMo_promise_50 ⟨rfl, rfl⟩

def gMo_tries (a1 : Int32) (a2 : Int32) (M : pm_M) : pm_M := (pm_set (pm_set M 29 0 (upd (M.1 29 0) 25 a1)) 29 0 (upd ((pm_set M 29 0 (upd (M.1 29 0) 25 a1)).1 29 0) 26 a2))
theorem eMo_tries {a1 : Int32} {a2 : Int32} {M : pm_M}  : pm_Ev mMo_tries [pm_r 29 0, pm_i a1, pm_i a2] M none (gMo_tries a1 a2 M) := by
  refine pm_Sem_of (ls := [some (pm_r 29 0), some (pm_i a1), some (pm_i a2)]) ok_mMo_tries (by decide +kernel) rfl (by decide) (Nat.le_of_ble_eq_true rfl) rfl ?_
  unfold gMo_tries
  exact bMo_tries_0 ⟨rfl, rfl⟩

def fMo_waysMany  (M : pm_M) : Int32 := ((M.1 29 0 21) * (M.1 29 0 21))
theorem eMo_waysMany  {M : pm_M}  : pm_Ev mMo_waysMany [pm_r 29 0] M (some (pm_i (fMo_waysMany  M))) M := by
  refine pm_Sem_of (ls := [some (pm_r 29 0)]) ok_mMo_waysMany (by decide +kernel) rfl (by decide) (Nat.le_of_ble_eq_true rfl) rfl ?_
  unfold fMo_waysMany
  exact bMo_waysMany_0 ⟨rfl, rfl⟩

def fMo_firstTicket (a1 : Int32) (M : pm_M) : Int32 := (M.1 37 0 (Int32.toNatClampNeg (M.1 36 0 (Int32.toNatClampNeg (4 * (a1 / (M.1 29 0 21)))))))
def sMo_firstTicket (a1 : Int32) (M : pm_M) : Prop := (¬ (M.1 29 0 21) = 0) ∧ (vp_in (4 * (a1 / (M.1 29 0 21))) 100) ∧ (vp_in (M.1 36 0 (Int32.toNatClampNeg (4 * (a1 / (M.1 29 0 21))))) 4)
theorem eMo_firstTicket {a1 : Int32} {M : pm_M} (hs : sMo_firstTicket a1 M) : pm_Ev mMo_firstTicket [pm_r 29 0, pm_i a1] M (some (pm_i (fMo_firstTicket a1 M))) M := by
  refine pm_Sem_of (ls := [some (pm_r 29 0), some (pm_i a1)]) ok_mMo_firstTicket (by decide +kernel) rfl (by decide) (Nat.le_of_ble_eq_true rfl) rfl ?_
  unfold fMo_firstTicket
  unfold sMo_firstTicket at hs
  exact bMo_firstTicket_0 (hs.1) (hs.2.1) (hs.2.2) ⟨rfl, rfl⟩

def fMo_ownerOf (a1 : Int32) (M : pm_M) : Int32 := (M.1 30 0 (Int32.toNatClampNeg ((4 + (5 * a1)) + 1)))
def sMo_ownerOf (a1 : Int32) (M : pm_M) : Prop := (vp_in ((4 + (5 * a1)) + 1) 135)
theorem eMo_ownerOf {a1 : Int32} {M : pm_M} (hs : sMo_ownerOf a1 M) : pm_Ev mMo_ownerOf [pm_r 29 0, pm_i a1] M (some (pm_i (fMo_ownerOf a1 M))) M := by
  refine pm_Sem_of (ls := [some (pm_r 29 0), some (pm_i a1)]) ok_mMo_ownerOf (by decide +kernel) rfl (by decide) (Nat.le_of_ble_eq_true rfl) rfl ?_
  unfold fMo_ownerOf
  unfold sMo_ownerOf at hs
  exact bMo_ownerOf_0 (hs) ⟨rfl, rfl⟩

def fMo_see (a1 : Int32) (a2 : Int32) (M : pm_M) : Int32 := (if (fMo_isPerson a1 M) = 0 then (-1) else (if (fMo_in (Int32.toInt64 a2) (-999) 999 M) = 0 then (-1) else (if (M.1 30 0 (Int32.toNatClampNeg 32)) = 6 then (-3) else ((pm_set (pm_set (pm_set M 30 0 (upd (M.1 30 0) (Int32.toNatClampNeg (33 + (2 * (M.1 30 0 (Int32.toNatClampNeg 32))))) a1)) 30 0 (upd ((pm_set M 30 0 (upd (M.1 30 0) (Int32.toNatClampNeg (33 + (2 * (M.1 30 0 (Int32.toNatClampNeg 32))))) a1)).1 30 0) (Int32.toNatClampNeg ((33 + (2 * ((pm_set M 30 0 (upd (M.1 30 0) (Int32.toNatClampNeg (33 + (2 * (M.1 30 0 (Int32.toNatClampNeg 32))))) a1)).1 30 0 (Int32.toNatClampNeg 32)))) + 1)) a2)) 30 0 (upd ((pm_set (pm_set M 30 0 (upd (M.1 30 0) (Int32.toNatClampNeg (33 + (2 * (M.1 30 0 (Int32.toNatClampNeg 32))))) a1)) 30 0 (upd ((pm_set M 30 0 (upd (M.1 30 0) (Int32.toNatClampNeg (33 + (2 * (M.1 30 0 (Int32.toNatClampNeg 32))))) a1)).1 30 0) (Int32.toNatClampNeg ((33 + (2 * ((pm_set M 30 0 (upd (M.1 30 0) (Int32.toNatClampNeg (33 + (2 * (M.1 30 0 (Int32.toNatClampNeg 32))))) a1)).1 30 0 (Int32.toNatClampNeg 32)))) + 1)) a2)).1 30 0) (Int32.toNatClampNeg 32) (((pm_set (pm_set M 30 0 (upd (M.1 30 0) (Int32.toNatClampNeg (33 + (2 * (M.1 30 0 (Int32.toNatClampNeg 32))))) a1)) 30 0 (upd ((pm_set M 30 0 (upd (M.1 30 0) (Int32.toNatClampNeg (33 + (2 * (M.1 30 0 (Int32.toNatClampNeg 32))))) a1)).1 30 0) (Int32.toNatClampNeg ((33 + (2 * ((pm_set M 30 0 (upd (M.1 30 0) (Int32.toNatClampNeg (33 + (2 * (M.1 30 0 (Int32.toNatClampNeg 32))))) a1)).1 30 0 (Int32.toNatClampNeg 32)))) + 1)) a2)).1 30 0 (Int32.toNatClampNeg 32)) + 1))).1 30 0 (Int32.toNatClampNeg 32)))))
def gMo_see (a1 : Int32) (a2 : Int32) (M : pm_M) : pm_M := (if (fMo_isPerson a1 M) = 0 then M else (if (fMo_in (Int32.toInt64 a2) (-999) 999 M) = 0 then M else (if (M.1 30 0 (Int32.toNatClampNeg 32)) = 6 then M else (pm_set (pm_set (pm_set M 30 0 (upd (M.1 30 0) (Int32.toNatClampNeg (33 + (2 * (M.1 30 0 (Int32.toNatClampNeg 32))))) a1)) 30 0 (upd ((pm_set M 30 0 (upd (M.1 30 0) (Int32.toNatClampNeg (33 + (2 * (M.1 30 0 (Int32.toNatClampNeg 32))))) a1)).1 30 0) (Int32.toNatClampNeg ((33 + (2 * ((pm_set M 30 0 (upd (M.1 30 0) (Int32.toNatClampNeg (33 + (2 * (M.1 30 0 (Int32.toNatClampNeg 32))))) a1)).1 30 0 (Int32.toNatClampNeg 32)))) + 1)) a2)) 30 0 (upd ((pm_set (pm_set M 30 0 (upd (M.1 30 0) (Int32.toNatClampNeg (33 + (2 * (M.1 30 0 (Int32.toNatClampNeg 32))))) a1)) 30 0 (upd ((pm_set M 30 0 (upd (M.1 30 0) (Int32.toNatClampNeg (33 + (2 * (M.1 30 0 (Int32.toNatClampNeg 32))))) a1)).1 30 0) (Int32.toNatClampNeg ((33 + (2 * ((pm_set M 30 0 (upd (M.1 30 0) (Int32.toNatClampNeg (33 + (2 * (M.1 30 0 (Int32.toNatClampNeg 32))))) a1)).1 30 0 (Int32.toNatClampNeg 32)))) + 1)) a2)).1 30 0) (Int32.toNatClampNeg 32) (((pm_set (pm_set M 30 0 (upd (M.1 30 0) (Int32.toNatClampNeg (33 + (2 * (M.1 30 0 (Int32.toNatClampNeg 32))))) a1)) 30 0 (upd ((pm_set M 30 0 (upd (M.1 30 0) (Int32.toNatClampNeg (33 + (2 * (M.1 30 0 (Int32.toNatClampNeg 32))))) a1)).1 30 0) (Int32.toNatClampNeg ((33 + (2 * ((pm_set M 30 0 (upd (M.1 30 0) (Int32.toNatClampNeg (33 + (2 * (M.1 30 0 (Int32.toNatClampNeg 32))))) a1)).1 30 0 (Int32.toNatClampNeg 32)))) + 1)) a2)).1 30 0 (Int32.toNatClampNeg 32)) + 1))))))
def sMo_see (a1 : Int32) (a2 : Int32) (M : pm_M) : Prop := ((((fMo_isPerson a1 M) = 0 → True) ∧ (¬ ((fMo_isPerson a1 M) = 0) → ((((fMo_in (Int32.toInt64 a2) (-999) 999 M) = 0 → True) ∧ (¬ ((fMo_in (Int32.toInt64 a2) (-999) 999 M) = 0) → (vp_in 32 135) ∧ (((M.1 30 0 (Int32.toNatClampNeg 32)) = 6 → True) ∧ (¬ ((M.1 30 0 (Int32.toNatClampNeg 32)) = 6) → (vp_in 32 135) ∧ (vp_in (33 + (2 * (M.1 30 0 (Int32.toNatClampNeg 32)))) 135) ∧ (vp_in 32 135) ∧ (vp_in ((33 + (2 * ((pm_set M 30 0 (upd (M.1 30 0) (Int32.toNatClampNeg (33 + (2 * (M.1 30 0 (Int32.toNatClampNeg 32))))) a1)).1 30 0 (Int32.toNatClampNeg 32)))) + 1) 135) ∧ (vp_in 32 135) ∧ (vp_in 32 135) ∧ (vp_in 32 135)))))))))
theorem eMo_see {a1 : Int32} {a2 : Int32} {M : pm_M} (hs : sMo_see a1 a2 M) : pm_Ev mMo_see [pm_r 29 0, pm_i a1, pm_i a2] M (some (pm_i (fMo_see a1 a2 M))) (gMo_see a1 a2 M) := by
  refine pm_Sem_of (ls := [some (pm_r 29 0), some (pm_i a1), some (pm_i a2)]) ok_mMo_see (by decide +kernel) rfl (by decide) (Nat.le_of_ble_eq_true rfl) rfl ?_
  unfold fMo_see gMo_see
  unfold sMo_see at hs
  refine bMo_see_0 (eMo_isPerson) ?_
  refine bMo_see_5 (fun h1 => ?_) (fun h1 => ?_)
  · simp only [if_pos h1]
    exact bMo_see_22 ⟨rfl, rfl⟩
  · simp only [if_neg h1]
    refine bMo_see_8 (eMo_in) ?_
    refine bMo_see_19 (fun h2 => ?_) (fun h2 => ?_)
    · simp only [if_pos h2]
      exact bMo_see_22 ⟨rfl, rfl⟩
    · simp only [if_neg h2]
      refine bMo_see_24 (((((hs.2 h1)).2 h2)).1) (fun h3 => ?_) (fun h3 => ?_)
      · simp only [if_pos h3]
        exact bMo_see_36 ⟨rfl, rfl⟩
      · simp only [if_neg h3]
        exact bMo_see_39 ((((((((hs.2 h1)).2 h2)).2).2 h3)).1) (((((((((hs.2 h1)).2 h2)).2).2 h3)).2).1) ((((((((((hs.2 h1)).2 h2)).2).2 h3)).2).2).1) (((((((((((hs.2 h1)).2 h2)).2).2 h3)).2).2).2).1) ((((((((((((hs.2 h1)).2 h2)).2).2 h3)).2).2).2).2).1) (((((((((((((hs.2 h1)).2 h2)).2).2 h3)).2).2).2).2).2).1) (((((((((((((hs.2 h1)).2 h2)).2).2 h3)).2).2).2).2).2).2) ⟨rfl, rfl⟩

def fMo_forget (a1 : Int32) (M : pm_M) : Int32 := (if (fMo_in (Int32.toInt64 a1) 0 (Int32.toInt64 (M.1 30 0 (Int32.toNatClampNeg 32))) M) = 0 then (-1) else (fMo_becomes 32 a1 M))
def gMo_forget (a1 : Int32) (M : pm_M) : pm_M := (if (fMo_in (Int32.toInt64 a1) 0 (Int32.toInt64 (M.1 30 0 (Int32.toNatClampNeg 32))) M) = 0 then M else (gMo_becomes 32 a1 M))
def sMo_forget (a1 : Int32) (M : pm_M) : Prop := (vp_in 32 135) ∧ ((((fMo_in (Int32.toInt64 a1) 0 (Int32.toInt64 (M.1 30 0 (Int32.toNatClampNeg 32))) M) = 0 → True) ∧ (¬ ((fMo_in (Int32.toInt64 a1) 0 (Int32.toInt64 (M.1 30 0 (Int32.toNatClampNeg 32))) M) = 0) → (sMo_becomes 32 a1 M))))
theorem eMo_forget {a1 : Int32} {M : pm_M} (hs : sMo_forget a1 M) : pm_Ev mMo_forget [pm_r 29 0, pm_i a1] M (some (pm_i (fMo_forget a1 M))) (gMo_forget a1 M) := by
  refine pm_Sem_of (ls := [some (pm_r 29 0), some (pm_i a1)]) ok_mMo_forget (by decide +kernel) rfl (by decide) (Nat.le_of_ble_eq_true rfl) rfl ?_
  unfold fMo_forget gMo_forget
  unfold sMo_forget at hs
  refine bMo_forget_0 (hs.1) (eMo_in) ?_
  refine bMo_forget_14 (fun h1 => ?_) (fun h1 => ?_)
  · simp only [if_pos h1]
    refine bMo_forget_27 ?_
    exact bMo_forget_28 ⟨rfl, rfl⟩
  · simp only [if_neg h1]
    refine bMo_forget_17 (eMo_becomes ((hs.2.2 h1))) ?_
    refine bMo_forget_24 ?_
    exact bMo_forget_28 ⟨rfl, rfl⟩

def fMo_isSheet (a0 : Int32) (a1 : Int32) (M : pm_M) : Int32 := (if (fMo_in (Int32.toInt64 a0) 0 3 M) = 0 then 0 else (if (fMo_in (Int32.toInt64 a1) 0 2 M) = 0 then 0 else 1))
theorem zMo_isSheet (a0 : Int32) (a1 : Int32) (M : pm_M) : narrow .boolean (.int (fMo_isSheet a0 a1 M)) = .int (fMo_isSheet a0 a1 M) := by
  unfold fMo_isSheet
  repeat' split
  all_goals first | rfl | skip
theorem eMo_isSheet {a0 : Int32} {a1 : Int32} {M : pm_M}  : pm_Ev mMo_isSheet [pm_i a0, pm_i a1] M (some (pm_i (fMo_isSheet a0 a1 M))) M := by
  refine pm_Sem_of (ls := [some (pm_i a0), some (pm_i a1)]) ok_mMo_isSheet (by decide +kernel) rfl (by decide) (Nat.le_of_ble_eq_true rfl) rfl ?_
  unfold fMo_isSheet
  refine bMo_isSheet_0 (eMo_in) ?_
  refine bMo_isSheet_9 (fun h1 => ?_) (fun h1 => ?_)
  · simp only [if_pos h1]
    refine bMo_isSheet_28 ?_
    exact bMo_isSheet_29 rfl ⟨rfl, rfl⟩
  · simp only [if_neg h1]
    refine bMo_isSheet_12 (eMo_in) ?_
    refine bMo_isSheet_21 (fun h2 => ?_) (fun h2 => ?_)
    · simp only [if_pos h2]
      refine bMo_isSheet_28 ?_
      exact bMo_isSheet_29 rfl ⟨rfl, rfl⟩
    · simp only [if_neg h2]
      refine bMo_isSheet_24 ?_
      exact bMo_isSheet_29 rfl ⟨rfl, rfl⟩

def fMo_lay (a1 : Int32) (a2 : Int32) (a3 : Int32) (M : pm_M) : Int32 := (if (fMo_isSheet a1 0 M) = 0 then (-1) else (if (M.1 40 0 (Int32.toNatClampNeg a1)) = (-4) then (-11) else (if (fMo_in (Int32.toInt64 a2) 0 (Int32.toInt64 ((M.1 41 0 (Int32.toNatClampNeg a1)) - 1)) M) = 0 then (-12) else (if (M.1 40 0 (Int32.toNatClampNeg a1)) = 0 then 1 else (if (M.1 40 0 (Int32.toNatClampNeg a1)) = 1 then 1 else 1)))))
def gMo_lay (a1 : Int32) (a2 : Int32) (a3 : Int32) (M : pm_M) : pm_M := (if (fMo_isSheet a1 0 M) = 0 then M else (if (M.1 40 0 (Int32.toNatClampNeg a1)) = (-4) then M else (if (fMo_in (Int32.toInt64 a2) 0 (Int32.toInt64 ((M.1 41 0 (Int32.toNatClampNeg a1)) - 1)) M) = 0 then M else (if (M.1 40 0 (Int32.toNatClampNeg a1)) = 0 then (pm_set M 42 0 (upd (M.1 42 0) (Int32.toNatClampNeg ((40 * a1) + a2)) ((Int32.toInt8 a3).toInt32))) else (if (M.1 40 0 (Int32.toNatClampNeg a1)) = 1 then (pm_set M 42 0 (upd (M.1 42 0) (Int32.toNatClampNeg ((40 * a1) + a2)) ((Int32.toInt16 a3).toInt32))) else (pm_set M 42 0 (upd (M.1 42 0) (Int32.toNatClampNeg ((40 * a1) + a2)) a3)))))))
def sMo_lay (a1 : Int32) (a2 : Int32) (a3 : Int32) (M : pm_M) : Prop := ((((fMo_isSheet a1 0 M) = 0 → True) ∧ (¬ ((fMo_isSheet a1 0 M) = 0) → (vp_in a1 4) ∧ (((M.1 40 0 (Int32.toNatClampNeg a1)) = (-4) → True) ∧ (¬ ((M.1 40 0 (Int32.toNatClampNeg a1)) = (-4)) → (vp_in a1 4) ∧ ((((fMo_in (Int32.toInt64 a2) 0 (Int32.toInt64 ((M.1 41 0 (Int32.toNatClampNeg a1)) - 1)) M) = 0 → True) ∧ (¬ ((fMo_in (Int32.toInt64 a2) 0 (Int32.toInt64 ((M.1 41 0 (Int32.toNatClampNeg a1)) - 1)) M) = 0) → (vp_in a1 4) ∧ (((M.1 40 0 (Int32.toNatClampNeg a1)) = 0 → ((vp_in ((40 * a1) + a2) 160))) ∧ (¬ ((M.1 40 0 (Int32.toNatClampNeg a1)) = 0) → (vp_in a1 4) ∧ (((M.1 40 0 (Int32.toNatClampNeg a1)) = 1 → ((vp_in ((40 * a1) + a2) 160))) ∧ (¬ ((M.1 40 0 (Int32.toNatClampNeg a1)) = 1) → ((vp_in ((40 * a1) + a2) 160))))))))))))))
theorem eMo_lay {a1 : Int32} {a2 : Int32} {a3 : Int32} {M : pm_M} (hs : sMo_lay a1 a2 a3 M) : pm_Ev mMo_lay [pm_r 29 0, pm_i a1, pm_i a2, pm_i a3] M (some (pm_i (fMo_lay a1 a2 a3 M))) (gMo_lay a1 a2 a3 M) := by
  refine pm_Sem_of (ls := [some (pm_r 29 0), some (pm_i a1), some (pm_i a2), some (pm_i a3)]) ok_mMo_lay (by decide +kernel) rfl (by decide) (Nat.le_of_ble_eq_true rfl) rfl ?_
  unfold fMo_lay gMo_lay
  unfold sMo_lay at hs
  refine bMo_lay_0 (eMo_isSheet) ?_
  refine bMo_lay_5 (fun h1 => ?_) (fun h1 => ?_)
  · simp only [if_pos h1]
    exact bMo_lay_8 ⟨rfl, rfl⟩
  · simp only [if_neg h1]
    refine bMo_lay_10 (((hs.2 h1)).1) (fun h2 => ?_) (fun h2 => ?_)
    · simp only [if_pos h2]
      exact bMo_lay_21 ⟨rfl, rfl⟩
    · simp only [if_neg h2]
      refine bMo_lay_24 ((((((hs.2 h1)).2).2 h2)).1) (eMo_in) ?_
      refine bMo_lay_39 (fun h3 => ?_) (fun h3 => ?_)
      · simp only [if_pos h3]
        exact bMo_lay_42 ⟨rfl, rfl⟩
      · simp only [if_neg h3]
        refine bMo_lay_45 (((((((((hs.2 h1)).2).2 h2)).2).2 h3)).1) (fun h4 => ?_) (fun h4 => ?_)
        · simp only [if_pos h4]
          refine bMo_lay_64 ?_
          exact bMo_lay_85 (((((((((((hs.2 h1)).2).2 h2)).2).2 h3)).2).1 h4)) ⟨rfl, rfl⟩
        · simp only [if_neg h4]
          refine bMo_lay_69 ((((((((((((hs.2 h1)).2).2 h2)).2).2 h3)).2).2 h4)).1) (fun h5 => ?_) (fun h5 => ?_)
          · simp only [if_pos h5]
            refine bMo_lay_79 ?_
            exact bMo_lay_85 ((((((((((((((hs.2 h1)).2).2 h2)).2).2 h3)).2).2 h4)).2).1 h5)) ⟨rfl, rfl⟩
          · simp only [if_neg h5]
            refine bMo_lay_84 ?_
            exact bMo_lay_85 ((((((((((((((hs.2 h1)).2).2 h2)).2).2 h3)).2).2 h4)).2).2 h5)) ⟨rfl, rfl⟩

def fMo_torn  (M : pm_M) : Int32 := (M.1 29 0 35)
theorem eMo_torn  {M : pm_M}  : pm_Ev mMo_torn [pm_r 29 0] M (some (pm_i (fMo_torn  M))) M := by
  refine pm_Sem_of (ls := [some (pm_r 29 0)]) ok_mMo_torn (by decide +kernel) rfl (by decide) (Nat.le_of_ble_eq_true rfl) rfl ?_
  unfold fMo_torn
  exact bMo_torn_0 ⟨rfl, rfl⟩

