def fWt_part (a0 : Int32) (a1 : Int32) (a2 : Int32) (M : pm_M) : Int64 := (if (fWt_commonDivisor (fMa_abs a0) a1 M) = 0 then 0 else (if a2 = 0 then (Int32.toInt64 (a0 / (fWt_commonDivisor (fMa_abs a0) a1 M))) else (Int32.toInt64 (a1 / (fWt_commonDivisor (fMa_abs a0) a1 M)))))
def sWt_part (a0 : Int32) (a1 : Int32) (a2 : Int32) (M : pm_M) : Prop := ((sWt_commonDivisor (fMa_abs a0) a1 M ∧ ((((fWt_commonDivisor (fMa_abs a0) a1 M) = 0 → True) ∧ (¬ ((fWt_commonDivisor (fMa_abs a0) a1 M) = 0) → ((a2 = 0 → ((¬ (fWt_commonDivisor (fMa_abs a0) a1 M) = 0))) ∧ (¬ (a2 = 0) → ((¬ (fWt_commonDivisor (fMa_abs a0) a1 M) = 0)))))))))
theorem eWt_part {a0 : Int32} {a1 : Int32} {a2 : Int32} {M : pm_M} (hs : sWt_part a0 a1 a2 M) : pm_Ev mWt_part [pm_i a0, pm_i a1, pm_i a2] M (some (pm_l (fWt_part a0 a1 a2 M))) M := by
  refine pm_Sem_of (ls := [some (pm_i a0), some (pm_i a1), some (pm_i a2), none]) ok_mWt_part (by decide +kernel) rfl (by decide) (Nat.le_of_ble_eq_true rfl) rfl ?_
  unfold fWt_part
  unfold sWt_part at hs
  refine bWt_part_0 ?_
  refine bWt_part_4 (eWt_commonDivisor (hs.1)) ?_
  refine bWt_part_8 (fun h1 => ?_) (fun h1 => ?_)
  · simp only [if_pos h1]
    exact bWt_part_13 ⟨rfl, rfl⟩
  · simp only [if_neg h1]
    refine bWt_part_15 (fun h2 => ?_) (fun h2 => ?_)
    · simp only [if_pos h2]
      refine bWt_part_19 ?_
      exact bWt_part_24 ((((hs.2.2 h1)).1 h2)) ⟨rfl, rfl⟩
    · simp only [if_neg h2]
      refine bWt_part_23 ?_
      exact bWt_part_24 ((((hs.2.2 h1)).2 h2)) ⟨rfl, rfl⟩

def fWt_worth (a1 : Int32) (M : pm_M) : Int64 := (if (fWt_isPart a1 M) = 0 then (-1) else (if (fIn_bitCount (fWh_prizesIn 0 M) M) = 0 then (-4) else (fWt_part (fWh_amountIn 0 M) (fIn_bitCount (fWh_prizesIn 0 M) M) a1 M)))
def sWt_worth (a1 : Int32) (M : pm_M) : Prop := ((((fWt_isPart a1 M) = 0 → True) ∧ (¬ ((fWt_isPart a1 M) = 0) → (sWh_prizesIn 0 M ∧ (((((fIn_bitCount (fWh_prizesIn 0 M) M) = 0 → True) ∧ (¬ ((fIn_bitCount (fWh_prizesIn 0 M) M) = 0) → (sWh_amountIn 0 M ∧ ((sWt_part (fWh_amountIn 0 M) (fIn_bitCount (fWh_prizesIn 0 M) M) a1 M)))))))))))
theorem eWt_worth {a1 : Int32} {M : pm_M} (hs : sWt_worth a1 M) : pm_Ev mWt_worth [pm_r 0 0, pm_i a1] M (some (pm_l (fWt_worth a1 M))) M := by
  refine pm_Sem_of (ls := [some (pm_r 0 0), some (pm_i a1), none]) ok_mWt_worth (by decide +kernel) rfl (by decide) (Nat.le_of_ble_eq_true rfl) rfl ?_
  unfold fWt_worth
  unfold sWt_worth at hs
  refine bWt_worth_0 (eWt_isPart) ?_
  refine bWt_worth_4 (fun h1 => ?_) (fun h1 => ?_)
  · simp only [if_pos h1]
    exact bWt_worth_7 ⟨rfl, rfl⟩
  · simp only [if_neg h1]
    refine bWt_worth_11 (eWh_prizesIn (((hs.2 h1)).1)) ?_
    refine bWt_worth_18 (eIn_bitCount) ?_
    refine bWt_worth_21 (fun h2 => ?_) (fun h2 => ?_)
    · simp only [if_pos h2]
      refine bWt_worth_26 ?_
      exact bWt_worth_44 ⟨rfl, rfl⟩
    · simp only [if_neg h2]
      refine bWt_worth_32 (eWh_amountIn ((((((hs.2 h1)).2).2 h2)).1)) ?_
      refine bWt_worth_39 (eWt_part ((((((hs.2 h1)).2).2 h2)).2)) ?_
      exact bWt_worth_44 ⟨rfl, rfl⟩

def fWt_day (a1 : Int32) (a2 : Int32) (M : pm_M) : Int64 := (if (fWh_hasTicket 0 a1 M) = 0 then (-1) else (if (fWt_isPart a2 M) = 0 then (-1) else (if (fWh_isTicketIn 0 a1 M) = 0 then (-2) else (fWt_part (fWh_amountIn 0 M) ((fIn_bitCount (fWh_ticketsIn 0 M) M) * (fIn_bitCount (fWh_ticketsIn 0 M) M)) a2 M))))
def sWt_day (a1 : Int32) (a2 : Int32) (M : pm_M) : Prop := ((((fWh_hasTicket 0 a1 M) = 0 → True) ∧ (¬ ((fWh_hasTicket 0 a1 M) = 0) → ((((fWt_isPart a2 M) = 0 → True) ∧ (¬ ((fWt_isPart a2 M) = 0) → (sWh_isTicketIn 0 a1 M ∧ ((((fWh_isTicketIn 0 a1 M) = 0 → True) ∧ (¬ ((fWh_isTicketIn 0 a1 M) = 0) → (sWh_ticketsIn 0 M ∧ (((sWh_amountIn 0 M ∧ ((sWt_part (fWh_amountIn 0 M) ((fIn_bitCount (fWh_ticketsIn 0 M) M) * (fIn_bitCount (fWh_ticketsIn 0 M) M)) a2 M))))))))))))))))
theorem eWt_day {a1 : Int32} {a2 : Int32} {M : pm_M} (hs : sWt_day a1 a2 M) : pm_Ev mWt_day [pm_r 0 0, pm_i a1, pm_i a2] M (some (pm_l (fWt_day a1 a2 M))) M := by
  refine pm_Sem_of (ls := [some (pm_r 0 0), some (pm_i a1), some (pm_i a2), none]) ok_mWt_day (by decide +kernel) rfl (by decide) (Nat.le_of_ble_eq_true rfl) rfl ?_
  unfold fWt_day
  unfold sWt_day at hs
  refine bWt_day_0 (eWh_hasTicket) ?_
  refine bWt_day_8 (fun h1 => ?_) (fun h1 => ?_)
  · simp only [if_pos h1]
    exact bWt_day_18 ⟨rfl, rfl⟩
  · simp only [if_neg h1]
    refine bWt_day_11 (eWt_isPart) ?_
    refine bWt_day_15 (fun h2 => ?_) (fun h2 => ?_)
    · simp only [if_pos h2]
      exact bWt_day_18 ⟨rfl, rfl⟩
    · simp only [if_neg h2]
      refine bWt_day_22 (eWh_isTicketIn (((((hs.2 h1)).2 h2)).1)) ?_
      refine bWt_day_30 (fun h3 => ?_) (fun h3 => ?_)
      · simp only [if_pos h3]
        exact bWt_day_33 ⟨rfl, rfl⟩
      · simp only [if_neg h3]
        refine bWt_day_37 (eWh_ticketsIn ((((((((hs.2 h1)).2 h2)).2).2 h3)).1)) ?_
        refine bWt_day_44 (eIn_bitCount) ?_
        refine bWt_day_47 (eWh_amountIn (((((((((hs.2 h1)).2 h2)).2).2 h3)).2).1)) ?_
        refine bWt_day_55 (eWt_part (((((((((hs.2 h1)).2 h2)).2).2 h3)).2).2)) ?_
        exact bWt_day_62 ⟨rfl, rfl⟩

def fWt_mean (a1 : Int32) (a2 : Int32) (M : pm_M) : Int64 := (if (fWh_hasPerson 0 a1 M) = 0 then (-1) else (if (fWt_isPart a2 M) = 0 then (-1) else (fWt_part (fRe_meanSum 0 a1 M) (fRe_meanParts (gRe_meanSum 0 a1 M)) a2 (gRe_meanSum 0 a1 M))))
def gWt_mean (a1 : Int32) (a2 : Int32) (M : pm_M) : pm_M := (if (fWh_hasPerson 0 a1 M) = 0 then M else (if (fWt_isPart a2 M) = 0 then M else (gRe_meanSum 0 a1 M)))
def sWt_mean (a1 : Int32) (a2 : Int32) (M : pm_M) : Prop := ((((fWh_hasPerson 0 a1 M) = 0 → True) ∧ (¬ ((fWh_hasPerson 0 a1 M) = 0) → ((((fWt_isPart a2 M) = 0 → True) ∧ (¬ ((fWt_isPart a2 M) = 0) → (sRe_meanSum 0 a1 M ∧ (((sWt_part (fRe_meanSum 0 a1 M) (fRe_meanParts (gRe_meanSum 0 a1 M)) a2 (gRe_meanSum 0 a1 M)))))))))))
theorem eWt_mean {a1 : Int32} {a2 : Int32} {M : pm_M} (hs : sWt_mean a1 a2 M) : pm_Ev mWt_mean [pm_r 0 0, pm_i a1, pm_i a2] M (some (pm_l (fWt_mean a1 a2 M))) (gWt_mean a1 a2 M) := by
  refine pm_Sem_of (ls := [some (pm_r 0 0), some (pm_i a1), some (pm_i a2), none]) ok_mWt_mean (by decide +kernel) rfl (by decide) (Nat.le_of_ble_eq_true rfl) rfl ?_
  unfold fWt_mean gWt_mean
  unfold sWt_mean at hs
  refine bWt_mean_0 (eWh_hasPerson) ?_
  refine bWt_mean_8 (fun h1 => ?_) (fun h1 => ?_)
  · simp only [if_pos h1]
    exact bWt_mean_18 ⟨rfl, rfl⟩
  · simp only [if_neg h1]
    refine bWt_mean_11 (eWt_isPart) ?_
    refine bWt_mean_15 (fun h2 => ?_) (fun h2 => ?_)
    · simp only [if_pos h2]
      exact bWt_mean_18 ⟨rfl, rfl⟩
    · simp only [if_neg h2]
      refine bWt_mean_22 (eRe_meanSum (((((hs.2 h1)).2 h2)).1)) ?_
      refine bWt_mean_34 (eRe_meanParts) ?_
      refine bWt_mean_43 (eWt_part (((((hs.2 h1)).2 h2)).2)) ?_
      exact bWt_mean_47 ⟨rfl, rfl⟩

def fWt_luck (a1 : Int32) (a2 : Int32) (a3 : Int32) (M : pm_M) : Int64 := (if (fWh_hasPerson 0 a1 M) = 0 then (-1) else (if (fWt_isEnd a2 M) = 0 then (-1) else (if (fWt_isPart a3 M) = 0 then (-1) else (fWt_part (fRe_waysNoLess a1 (a2 - ((gRe_spread 0 a1 M).1 5 0 (Int32.toNatClampNeg a1))) (gRe_spread 0 a1 M)) (fRe_allWays (gRe_spread 0 a1 M)) a3 (gRe_spread 0 a1 M)))))
def gWt_luck (a1 : Int32) (a2 : Int32) (a3 : Int32) (M : pm_M) : pm_M := (if (fWh_hasPerson 0 a1 M) = 0 then M else (if (fWt_isEnd a2 M) = 0 then M else (if (fWt_isPart a3 M) = 0 then M else (gRe_spread 0 a1 M))))
def sWt_luck (a1 : Int32) (a2 : Int32) (a3 : Int32) (M : pm_M) : Prop := ((((fWh_hasPerson 0 a1 M) = 0 → True) ∧ (¬ ((fWh_hasPerson 0 a1 M) = 0) → ((((fWt_isEnd a2 M) = 0 → True) ∧ (¬ ((fWt_isEnd a2 M) = 0) → ((((fWt_isPart a3 M) = 0 → True) ∧ (¬ ((fWt_isPart a3 M) = 0) → (sRe_spread 0 a1 M ∧ ((vp_in a1 4) ∧ (sRe_waysNoLess a1 (a2 - ((gRe_spread 0 a1 M).1 5 0 (Int32.toNatClampNeg a1))) (gRe_spread 0 a1 M) ∧ (((sWt_part (fRe_waysNoLess a1 (a2 - ((gRe_spread 0 a1 M).1 5 0 (Int32.toNatClampNeg a1))) (gRe_spread 0 a1 M)) (fRe_allWays (gRe_spread 0 a1 M)) a3 (gRe_spread 0 a1 M))))))))))))))))
theorem eWt_luck {a1 : Int32} {a2 : Int32} {a3 : Int32} {M : pm_M} (hs : sWt_luck a1 a2 a3 M) : pm_Ev mWt_luck [pm_r 0 0, pm_i a1, pm_i a2, pm_i a3] M (some (pm_l (fWt_luck a1 a2 a3 M))) (gWt_luck a1 a2 a3 M) := by
  refine pm_Sem_of (ls := [some (pm_r 0 0), some (pm_i a1), some (pm_i a2), some (pm_i a3)]) ok_mWt_luck (by decide +kernel) rfl (by decide) (Nat.le_of_ble_eq_true rfl) rfl ?_
  unfold fWt_luck gWt_luck
  unfold sWt_luck at hs
  refine bWt_luck_0 (eWh_hasPerson) ?_
  refine bWt_luck_8 (fun h1 => ?_) (fun h1 => ?_)
  · simp only [if_pos h1]
    exact bWt_luck_25 ⟨rfl, rfl⟩
  · simp only [if_neg h1]
    refine bWt_luck_11 (eWt_isEnd) ?_
    refine bWt_luck_15 (fun h2 => ?_) (fun h2 => ?_)
    · simp only [if_pos h2]
      exact bWt_luck_25 ⟨rfl, rfl⟩
    · simp only [if_neg h2]
      refine bWt_luck_18 (eWt_isPart) ?_
      refine bWt_luck_22 (fun h3 => ?_) (fun h3 => ?_)
      · simp only [if_pos h3]
        exact bWt_luck_25 ⟨rfl, rfl⟩
      · simp only [if_neg h3]
        refine bWt_luck_29 (eRe_spread (((((((hs.2 h1)).2 h2)).2 h3)).1)) ?_
        refine bWt_luck_41 ((((((((hs.2 h1)).2 h2)).2 h3)).2).1) (eRe_waysNoLess (((((((((hs.2 h1)).2 h2)).2 h3)).2).2).1)) ?_
        refine bWt_luck_60 (eRe_allWays) ?_
        refine bWt_luck_67 (eWt_part (((((((((hs.2 h1)).2 h2)).2 h3)).2).2).2)) ?_
        exact bWt_luck_71 ⟨rfl, rfl⟩

def fWt_solid (a1 : Int32) (M : pm_M) : Int64 := (if (fWt_isPart a1 M) = 0 then (-1) else (fWt_part (fRe_waysSolid 0 (gRe_spreadAll 0 M)) (fRe_allWays (gRe_spreadAll 0 M)) a1 (gRe_spreadAll 0 M)))
def gWt_solid (a1 : Int32) (M : pm_M) : pm_M := (if (fWt_isPart a1 M) = 0 then M else (gRe_spreadAll 0 M))
def sWt_solid (a1 : Int32) (M : pm_M) : Prop := ((((fWt_isPart a1 M) = 0 → True) ∧ (¬ ((fWt_isPart a1 M) = 0) → (sRe_spreadAll 0 M ∧ ((sRe_waysSolid 0 (gRe_spreadAll 0 M) ∧ (((sWt_part (fRe_waysSolid 0 (gRe_spreadAll 0 M)) (fRe_allWays (gRe_spreadAll 0 M)) a1 (gRe_spreadAll 0 M))))))))))
theorem eWt_solid {a1 : Int32} {M : pm_M} (hs : sWt_solid a1 M) : pm_Ev mWt_solid [pm_r 0 0, pm_i a1] M (some (pm_l (fWt_solid a1 M))) (gWt_solid a1 M) := by
  refine pm_Sem_of (ls := [some (pm_r 0 0), some (pm_i a1)]) ok_mWt_solid (by decide +kernel) rfl (by decide) (Nat.le_of_ble_eq_true rfl) rfl ?_
  unfold fWt_solid gWt_solid
  unfold sWt_solid at hs
  refine bWt_solid_0 (eWt_isPart) ?_
  refine bWt_solid_4 (fun h1 => ?_) (fun h1 => ?_)
  · simp only [if_pos h1]
    exact bWt_solid_7 ⟨rfl, rfl⟩
  · simp only [if_neg h1]
    refine bWt_solid_11 (eRe_spreadAll (((hs.2 h1)).1)) ?_
    refine bWt_solid_22 (eRe_waysSolid ((((hs.2 h1)).2).1)) ?_
    refine bWt_solid_33 (eRe_allWays) ?_
    refine bWt_solid_40 (eWt_part ((((hs.2 h1)).2).2)) ?_
    exact bWt_solid_44 ⟨rfl, rfl⟩

def fWt_fits_65 (a1 : Int32) (a2 : Int32) (a3 : Int32) (M : pm_M) : Int32 := (if a3 = 0 then ((gRe_tally 0 (gRe_spreadAll 0 M)).1 12 0 10) else (fRe_prizesOf a2 (gRe_tally 0 (gRe_spreadAll 0 M))))
def gWt_fits_65 (a1 : Int32) (a2 : Int32) (a3 : Int32) (M : pm_M) : pm_M := (if a3 = 0 then (gRe_tally 0 (gRe_spreadAll 0 M)) else (gRe_tally 0 (gRe_spreadAll 0 M)))
def sWt_fits_65 (a1 : Int32) (a2 : Int32) (a3 : Int32) (M : pm_M) : Prop := (sRe_spreadAll 0 M ∧ ((sRe_tally 0 (gRe_spreadAll 0 M) ∧ (((a3 = 0 → True) ∧ (¬ (a3 = 0) → (sRe_prizesOf a2 (gRe_tally 0 (gRe_spreadAll 0 M)))))))))
theorem qWt_fits_65 {a1 : Int32} {a2 : Int32} {a3 : Int32} {M : pm_M} (hs : sWt_fits_65 a1 a2 a3 M) : pm_G mWt_fits 65 [some (pm_r 0 0), some (pm_i a1), some (pm_i a2), some (pm_i a3)] [] M (pm_D (some (pm_i (fWt_fits_65 a1 a2 a3 M))) (gWt_fits_65 a1 a2 a3 M)) := by
  unfold fWt_fits_65 gWt_fits_65
  unfold sWt_fits_65 at hs
  refine bWt_fits_65 (eRe_spreadAll (hs.1)) ?_
  refine bWt_fits_76 (eRe_tally (hs.2.1)) ?_
  refine bWt_fits_87 (fun h1 => ?_) (fun h1 => ?_)
  · simp only [if_pos h1]
    refine bWt_fits_102 ?_
    exact bWt_fits_109 ⟨rfl, rfl⟩
  · simp only [if_neg h1]
    refine bWt_fits_91 (eRe_prizesOf ((hs.2.2.2 h1))) ?_
    refine bWt_fits_99 ?_
    exact bWt_fits_109 ⟨rfl, rfl⟩

def fWt_fits_38 (a1 : Int32) (a2 : Int32) (a3 : Int32) (M : pm_M) : Int32 := (if a3 = 0 then fWt_fits_65 a1 a2 a3 M else (if (fWh_isTicketIn 0 a2 M) = 0 then (1 <<< ((M.1 7 0 (Int32.toNatClampNeg a2)) &&& 31)) else fWt_fits_65 a1 a2 a3 M))
def gWt_fits_38 (a1 : Int32) (a2 : Int32) (a3 : Int32) (M : pm_M) : pm_M := (if a3 = 0 then gWt_fits_65 a1 a2 a3 M else (if (fWh_isTicketIn 0 a2 M) = 0 then M else gWt_fits_65 a1 a2 a3 M))
def sWt_fits_38 (a1 : Int32) (a2 : Int32) (a3 : Int32) (M : pm_M) : Prop := ((a3 = 0 → sWt_fits_65 a1 a2 a3 M) ∧ (¬ (a3 = 0) → (sWh_isTicketIn 0 a2 M ∧ ((((fWh_isTicketIn 0 a2 M) = 0 → (vp_in a2 4)) ∧ (¬ ((fWh_isTicketIn 0 a2 M) = 0) → sWt_fits_65 a1 a2 a3 M))))))
theorem qWt_fits_38 {a1 : Int32} {a2 : Int32} {a3 : Int32} {M : pm_M} (hs : sWt_fits_38 a1 a2 a3 M) : pm_G mWt_fits 38 [some (pm_r 0 0), some (pm_i a1), some (pm_i a2), some (pm_i a3)] [] M (pm_D (some (pm_i (fWt_fits_38 a1 a2 a3 M))) (gWt_fits_38 a1 a2 a3 M)) := by
  unfold fWt_fits_38 gWt_fits_38
  unfold sWt_fits_38 at hs
  refine bWt_fits_38 (fun h1 => ?_) (fun h1 => ?_)
  · simp only [if_pos h1]
    exact qWt_fits_65 (hs.1 h1)
  · simp only [if_neg h1]
    refine bWt_fits_42 (eWh_isTicketIn (((hs.2 h1)).1)) ?_
    refine bWt_fits_50 (fun h2 => ?_) (fun h2 => ?_)
    · simp only [if_pos h2]
      exact bWt_fits_53 (((((hs.2 h1)).2).1 h2)) ⟨rfl, rfl⟩
    · simp only [if_neg h2]
      exact qWt_fits_65 ((((hs.2 h1)).2).2 h2)

def fWt_fits_27 (a1 : Int32) (a2 : Int32) (x0 : Int32) (M : pm_M) : Int32 := (if a1 = 0 then fWt_fits_38 a1 a2 x0 M else (if x0 = 0 then (-1) else fWt_fits_38 a1 a2 x0 M))
def gWt_fits_27 (a1 : Int32) (a2 : Int32) (x0 : Int32) (M : pm_M) : pm_M := (if a1 = 0 then gWt_fits_38 a1 a2 x0 M else (if x0 = 0 then M else gWt_fits_38 a1 a2 x0 M))
def sWt_fits_27 (a1 : Int32) (a2 : Int32) (x0 : Int32) (M : pm_M) : Prop := ((a1 = 0 → sWt_fits_38 a1 a2 x0 M) ∧ (¬ (a1 = 0) → ((x0 = 0 → True) ∧ (¬ (x0 = 0) → sWt_fits_38 a1 a2 x0 M))))
theorem qWt_fits_27 {a1 : Int32} {a2 : Int32} {x0 : Int32} {M : pm_M} (hs : sWt_fits_27 a1 a2 x0 M) : pm_G mWt_fits 27 [some (pm_r 0 0), some (pm_i a1), some (pm_i a2), none] [pm_i x0] M (pm_D (some (pm_i (fWt_fits_27 a1 a2 x0 M))) (gWt_fits_27 a1 a2 x0 M)) := by
  unfold fWt_fits_27 gWt_fits_27
  unfold sWt_fits_27 at hs
  refine bWt_fits_27 (fun h1 => ?_) (fun h1 => ?_)
  · simp only [if_pos h1]
    exact qWt_fits_38 (hs.1 h1)
  · simp only [if_neg h1]
    refine bWt_fits_32 (fun h2 => ?_) (fun h2 => ?_)
    · simp only [if_pos h2]
      exact bWt_fits_36 ⟨rfl, rfl⟩
    · simp only [if_neg h2]
      exact qWt_fits_38 (((hs.2 h1)).2 h2)

def fWt_fits_26 (a1 : Int32) (a2 : Int32) (M : pm_M) : Int32 := fWt_fits_27 a1 a2 0 M
def gWt_fits_26 (a1 : Int32) (a2 : Int32) (M : pm_M) : pm_M := gWt_fits_27 a1 a2 0 M
def sWt_fits_26 (a1 : Int32) (a2 : Int32) (M : pm_M) : Prop := (sWt_fits_27 a1 a2 0 M)
theorem qWt_fits_26 {a1 : Int32} {a2 : Int32} {M : pm_M} (hs : sWt_fits_26 a1 a2 M) : pm_G mWt_fits 26 [some (pm_r 0 0), some (pm_i a1), some (pm_i a2), none] [] M (pm_D (some (pm_i (fWt_fits_26 a1 a2 M))) (gWt_fits_26 a1 a2 M)) := by
  unfold fWt_fits_26 gWt_fits_26
  unfold sWt_fits_26 at hs
  refine bWt_fits_26 ?_
  exact qWt_fits_27 hs

def fWt_fits (a1 : Int32) (M : pm_M) : Int32 := (if a1 < 10 then fWt_fits_26 a1 (a1 - 10) M else (if (fWh_hasTicket 0 (a1 - 10) M) = 0 then fWt_fits_26 a1 (a1 - 10) M else fWt_fits_27 a1 (a1 - 10) 1 M))
def gWt_fits (a1 : Int32) (M : pm_M) : pm_M := (if a1 < 10 then gWt_fits_26 a1 (a1 - 10) M else (if (fWh_hasTicket 0 (a1 - 10) M) = 0 then gWt_fits_26 a1 (a1 - 10) M else gWt_fits_27 a1 (a1 - 10) 1 M))
def sWt_fits (a1 : Int32) (M : pm_M) : Prop := ((a1 < 10 → sWt_fits_26 a1 (a1 - 10) M) ∧ (¬ (a1 < 10) → ((((fWh_hasTicket 0 (a1 - 10) M) = 0 → sWt_fits_26 a1 (a1 - 10) M) ∧ (¬ ((fWh_hasTicket 0 (a1 - 10) M) = 0) → (sWt_fits_27 a1 (a1 - 10) 1 M))))))
theorem eWt_fits {a1 : Int32} {M : pm_M} (hs : sWt_fits a1 M) : pm_Ev mWt_fits [pm_r 0 0, pm_i a1] M (some (pm_i (fWt_fits a1 M))) (gWt_fits a1 M) := by
  refine pm_Sem_of (ls := [some (pm_r 0 0), some (pm_i a1), none, none]) ok_mWt_fits (by decide +kernel) rfl (by decide) (Nat.le_of_ble_eq_true rfl) rfl ?_
  unfold fWt_fits gWt_fits
  unfold sWt_fits at hs
  refine bWt_fits_0 (fun h1 => ?_) (fun h1 => ?_)
  · simp only [if_pos h1]
    exact qWt_fits_26 (hs.1 h1)
  · simp only [if_neg h1]
    refine bWt_fits_11 (eWh_hasTicket) ?_
    refine bWt_fits_19 (fun h2 => ?_) (fun h2 => ?_)
    · simp only [if_pos h2]
      exact qWt_fits_26 (((hs.2 h1)).1 h2)
    · simp only [if_neg h2]
      refine bWt_fits_22 ?_
      exact qWt_fits_27 (((hs.2 h1)).2 h2)

